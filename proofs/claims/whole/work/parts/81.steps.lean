/-! steps that read the passes -/
def rn (st : AT) : OUT := runT st.1 st.1.2.1 st.1.2.2.1
theorem mI {S1 S2 : Mem} {st : AT} (g1 : CG S1 st) (f2 : FrM S1 S2) (g2 : MI S2 st) : Inv S2 := ⟨st, g1.1.frM f2, g2⟩
theorem SMr.col {S : Mem} {i : Nat} {r : SR} (h : SMr S i r) {w : Nat} (hw : w ≤ 4) : S 59 (5 * i + w) = srR r w := by
  obtain ⟨⟨h0, h1, h2, h3⟩, h4⟩ := h
  rcases (show w = 0 ∨ w = 1 ∨ w = 2 ∨ w = 3 ∨ w = 4 by omega) with rfl | rfl | rfl | rfl | rfl
  · exact h0
  · exact h1
  · exact h2
  · exact h3
  · exact h4
theorem PMr.col {S : Mem} {i : Nat} {r : PR} (h : PMr S i r) {w : Nat} (hw : w ≤ 4) : S 58 (7 * i + 2 + w) = prR i r w := by
  obtain ⟨h0, h1, h2, h3, h4, h5, h6⟩ := h
  rcases (show w = 0 ∨ w = 1 ∨ w = 2 ∨ w = 3 ∨ w = 4 by omega) with rfl | rfl | rfl | rfl | rfl
  · exact h2
  · exact h3
  · exact h4
  · exact h5
  · exact h6
theorem nn_bounds {st : AT} (ha : okS st.1) : nP (rn st) ≤ 613 ∧ nS (rn st) ≤ 612 ∧ nD (rn st) ≤ 100 := by
  obtain ⟨h1, h2, -, -, h5, -⟩ := run_bounds ha ha.2.2.1.1 ha.2.2.2.1
  have h1 : nP (rn st) ≤ 613 := h1
  have h2 : nS (rn st) + 1 = nP (rn st) := h2
  have h5 : nD (rn st) ≤ 100 := h5
  omega
theorem s_finished : ∀ (S : Mem) (a0 : Int32), Inv S → P_X6_finished S a0 (fun r1 S1 => P_X7_finished S1 a0 (fun r2 S2 => r1 = r2 ∧ Inv S2)) := by
  rintro S a0 ⟨st, hC, hM⟩
  have ha := hC.1.1
  obtain ⟨-, -, hnD⟩ := nn_bounds ha
  obtain ⟨-, -, -, hmem, -, -⟩ := run_bounds ha ha.2.2.1.1 ha.2.2.2.1
  have hk100 := ksOf_len ha
  refine ⟨fun z => ?_, fun z => ⟨fun c => absurd c z, fun _ => ⟨rfl, st, hC, hM⟩⟩⟩
  obtain ⟨j, hj, rfl⟩ := nI_of (Int32.not_lt.mpr z)
  refine c_passesNow hC (fun S1 f1 g1 r1 => ⟨rfl, ?_⟩)
  obtain ⟨-, -, r40, -, -⟩ := r1
  refine t_length r40 ?_
  rw [List.length_map]
  have ref : ∀ r : Int32, (nD (rn st) ≤ j → r = -1000004) → (∀ d, (rn st).2.2.1[j]? = some d → r = nI d.1) → P_X7_finished S1 (nI j) (fun r2 S2 => r = r2 ∧ Inv S2) := by
    intro r h1 h2
    refine ⟨fun _ => m_runNow (hM.frC f1) (fun S2 f2 g2 q2 => ?_), fun c => absurd z c⟩
    obtain ⟨q1, -, -, q4, -⟩ := q2
    have q4 : S2 53 12 = nI (nD (rn st)) := q4
    rw [q4]
    refine ⟨fun c => ⟨h1 ((nI_leI (by omega) hj).mp c), mI g1 f2 g2⟩, fun c => ?_⟩
    have hlt : j < nD (rn st) := Nat.not_le.mp fun w => c ((nI_leI (by omega) hj).mpr w)
    have hd : (rn st).2.2.1[j]? = some ((rn st).2.2.1[j]'hlt) := List.getElem?_eq_getElem hlt
    rw [mul7, clampN (by omega), (q1.2.2 j _ hd).1]
    exact ⟨vin (by omega) (by omega), h2 _ hd, mI g1 f2 g2⟩
  refine ⟨fun c => ?_, fun c => ref _ (fun _ => rfl) (fun d hd => absurd ((nI_ltI hj (by have : (rn st).2.2.1.length = nD (rn st) := rfl; have : (runT st.1 st.1.2.1 st.1.2.2.1).2.2.1.length = nD (rn st) := rfl; omega)).mpr (List.getElem?_eq_some_iff.mp hd).1) c)⟩
  have hl : (runT st.1 st.1.2.1 st.1.2.2.1).2.2.1.length = nD (rn st) := rfl
  have hlt : j < nD (rn st) := (nI_ltI hj (by omega)).mp c
  have hd : (rn st).2.2.1[j]? = some ((rn st).2.2.1[j]'hlt) := List.getElem?_eq_getElem hlt
  obtain ⟨d, hde⟩ : ∃ d, (rn st).2.2.1[j]'hlt = d := ⟨_, rfl⟩
  rw [hde] at hd
  have hdk : d.1 ∈ ksOf st.1 := (hmem d.1).mp (List.mem_map.mpr ⟨d, List.mem_of_getElem? hd, rfl⟩)
  have hix := idx_lt hdk
  refine t_at (c := 0) t40.1 r40 (by omega) (by rw [t40.2.1]; omega) ?_
  have e1 : (((runT st.1 st.1.2.1 st.1.2.2.1).2.2.1.map (fun d => row1 (nI (idx st.1 d.1)))).getD j row0) 0 = nI (idx st.1 d.1) := by
    have hd' : (runT st.1 st.1.2.1 st.1.2.2.1).2.2.1[j]? = some d := hd
    rw [List.getD_eq_getElem?_getD, List.getElem?_map, hd']; rfl
  rw [e1]
  refine t_at (c := 0) t29.1 g1.2.2.1.1 (by omega) (by rw [t29.2.1]; omega) ?_
  rw [getD_mapN (idx_get hdk)]
  refine ref _ (fun w => by omega) (fun d' hd' => ?_)
  rw [hd] at hd'
  cases hd'
  rfl
theorem s_spillOf : ∀ (S : Mem) (a0 a1 : Int32), Inv S → P_X6_spillOf S a0 a1 (fun r1 S1 => P_X7_spillOf S1 a0 a1 (fun r2 S2 => r1 = r2 ∧ Inv S2)) := by
  rintro S a0 a1 ⟨st, hC, hM⟩
  have ha := hC.1.1
  obtain ⟨-, hnS, -⟩ := nn_bounds ha
  refine ⟨fun z => ⟨fun _ => ⟨rfl, st, hC, hM⟩, fun c => absurd z c⟩, fun z => ?_⟩
  obtain ⟨j, hj, rfl⟩ := nI_of z
  refine c_in (fun c => ⟨fun _ => ?_, fun c2 => absurd rfl c2⟩) (fun c => ⟨fun c2 => absurd c2 (by decide), fun _ => ⟨fun w => absurd w z, fun _ => m_in 0 4 rfl rfl (fun c3 => absurd c3 c) (fun _ => ⟨fun c4 => absurd rfl c4, fun _ => ⟨rfl, st, hC, hM⟩⟩)⟩⟩)
  obtain ⟨w, hw, rfl⟩ := le_nI (n := 4) c.1 c.2 (by omega)
  refine c_passesNow hC (fun S1 f1 g1 r1 => ⟨rfl, ?_⟩)
  obtain ⟨-, r36, -, -, -⟩ := r1
  refine t_length r36 ?_
  rw [List.length_map]
  have hl : (runT st.1 st.1.2.1 st.1.2.2.1).2.1.length = nS (rn st) := rfl
  have hl2 : (rn st).2.1.length = nS (rn st) := rfl
  have ref : ∀ r : Int32, (nS (rn st) ≤ j → r = -1000004) → (∀ d, (rn st).2.1[j]? = some d → r = srR d w) → P_X7_spillOf S1 (nI j) (nI w) (fun r2 S2 => r = r2 ∧ Inv S2) := by
    intro r h1 h2
    refine ⟨fun c => absurd c z, fun _ => m_in 0 4 rfl rfl (fun _ => ⟨fun _ => m_runNow (hM.frC f1) (fun S2 f2 g2 q2 => ?_), fun c4 => absurd c4 (by decide)⟩) (fun c3 => absurd c c3)⟩
    obtain ⟨q1, -, q3, -, -⟩ := q2
    have q3 : S2 53 10 = nI (nS (rn st)) := q3
    rw [q3]
    refine ⟨fun c => ⟨h1 ((nI_leI (by omega) hj).mp c), mI g1 f2 g2⟩, fun c => ?_⟩
    have hlt : j < nS (rn st) := Nat.not_le.mp fun w => c ((nI_leI (by omega) hj).mpr w)
    have hd : (rn st).2.1[j]? = some ((rn st).2.1[j]'hlt) := List.getElem?_eq_getElem hlt
    rw [mul5, nI_add, clampN (by omega), (q1.2.1 j _ hd).col hw]
    exact ⟨vin (by omega) (by omega), h2 _ hd, mI g1 f2 g2⟩
  refine ⟨fun c => ?_, fun c => ref _ (fun _ => rfl) (fun d hd => absurd ((nI_ltI hj (by omega)).mpr (List.getElem?_eq_some_iff.mp hd).1) c)⟩
  have hlt : j < nS (rn st) := (nI_ltI hj (by omega)).mp c
  have hd : (rn st).2.1[j]? = some ((rn st).2.1[j]'hlt) := List.getElem?_eq_getElem hlt
  obtain ⟨d, hde⟩ : ∃ d, (rn st).2.1[j]'hlt = d := ⟨_, rfl⟩
  rw [hde] at hd
  refine t_at t36.1 r36 (by omega) (by rw [t36.2.1]; omega) ?_
  have e1 : ((runT st.1 st.1.2.1 st.1.2.2.1).2.1.map srR).getD j row0 = srR d := by
    have hd' : (runT st.1 st.1.2.1 st.1.2.2.1).2.1[j]? = some d := hd
    rw [List.getD_eq_getElem?_getD, List.getElem?_map, hd']; rfl
  rw [e1]
  refine ref _ (fun w => by omega) (fun d' hd' => ?_)
  rw [hd] at hd'
  cases hd'
  rfl
