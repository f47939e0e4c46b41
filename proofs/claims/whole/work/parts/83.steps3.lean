/-! total, bestBits -/
theorem m_greatest {S : Mem} {L : List PR} {w : Nat} {g : PR → Int32} (hw : w < 7) (hL : L.length ≤ 613) (h8 : S 53 8 = nI L.length) (h : ∀ i r, L[i]? = some r → S 58 (7 * i + w) = g r) {K : Int32 → Mem → Prop} (k : K (maxI g L) S) : P_X7_greatest S (nI w) K := by
  have loop : ∀ m f j, j + m = L.length → m < f → B_X7_greatest_4 K f S (nI w) (maxI g (L.take j)) (nI j) := by
    intro m
    induction m with
    | zero =>
      intro f j hj hf
      match f, hf with
      | f + 1, _ =>
        unfold B_X7_greatest_4
        rw [h8, List.take_of_length_le (by omega)]
        exact ⟨fun _ => k, fun z => absurd ((nI_leI (by omega) (by omega)).mpr (by omega)) z⟩
    | succ m ih =>
      intro f j hj hf
      match f, hf with
      | f + 1, hf =>
        have hjl : j < L.length := by omega
        have hx : L[j]? = some (L[j]'hjl) := List.getElem?_eq_getElem hjl
        have e2 : maxI g (L.take (j + 1)) = if maxI g (L.take j) < g (L[j]'hjl) then g (L[j]'hjl) else maxI g (L.take j) := by
          unfold maxI
          rw [List.take_succ_eq_append_getElem hjl, List.foldl_append]; rfl
        have := ih f (j + 1) (by omega) (by omega)
        rw [e2, ← nI_1] at this
        unfold B_X7_greatest_4
        rw [h8, mul7, nI_add, clampN (by omega), h j _ hx]
        refine ⟨fun z => absurd ((nI_leI (by omega) (by omega)).mp z) (by omega), fun _ => ⟨vin (by omega) (by omega), fun z => ?_, fun z => ⟨vin (by omega) (by omega), ?_⟩⟩⟩
        · rw [if_neg (Int32.not_lt.mpr z)] at this; exact this
        · rw [if_pos (Int32.not_le.mp z)] at this; exact this
  exact ⟨L.length + 1, loop L.length (L.length + 1) 0 (by omega) (by omega)⟩
theorem m_readAgain {S : Mem} {L : List PR} (hL : L.length ≤ 613) (hL1 : 1 ≤ L.length) (h8 : S 53 8 = nI L.length) (h : ∀ i r, L[i]? = some r → PMr S i r) {K : Int32 → Mem → Prop} (k : K (sumI (fun r => nI r.2.2.1) (L.drop 1)) S) : P_X7_readAgain S K := by
  have loop : ∀ m f j, j + m = L.length → 1 ≤ j → m < f → B_X7_readAgain_4 K f S (sumI (fun r => nI r.2.2.1) ((L.take j).drop 1)) (nI j) := by
    intro m
    induction m with
    | zero =>
      intro f j hj _ hf
      match f, hf with
      | f + 1, _ =>
        unfold B_X7_readAgain_4
        rw [h8, List.take_of_length_le (by omega)]
        exact ⟨fun _ => k, fun z => absurd ((nI_leI (by omega) (by omega)).mpr (by omega)) z⟩
    | succ m ih =>
      intro f j hj hj1 hf
      match f, hf with
      | f + 1, hf =>
        have hjl : j < L.length := by omega
        have hx : L[j]? = some (L[j]'hjl) := List.getElem?_eq_getElem hjl
        have e2 : sumI (fun r => nI r.2.2.1) ((L.take (j + 1)).drop 1) = sumI (fun r => nI r.2.2.1) ((L.take j).drop 1) + nI (L[j]'hjl).2.2.1 := by
          unfold sumI
          rw [List.take_succ_eq_append_getElem hjl, List.drop_append_of_le_length (by rw [List.length_take]; omega), List.foldl_append]; rfl
        unfold B_X7_readAgain_4
        rw [h8, mul7, show nI (7 * j) + (2 : Int32) = nI (7 * j + 2) from nI_add _ 2, clampN (by omega), (h j _ hx).2.2.1, nI_1, ← e2]
        exact ⟨fun z => absurd ((nI_leI (by omega) (by omega)).mp z) (by omega), fun _ => ⟨vin (by omega) (by omega), ih f (j + 1) (by omega) (by omega) (by omega)⟩⟩
  have := loop (L.length - 1) L.length 1 (by omega) (by omega) (by omega)
  have e : sumI (fun r => nI r.2.2.1) ((L.take 1).drop 1) = 0 := by
    have : (L.take 1).drop 1 = [] := List.drop_eq_nil_of_le (by rw [List.length_take]; omega)
    rw [this]; rfl
  rw [e] at this
  exact ⟨_, this⟩
theorem foldl_shift (f : PR → Int32) : ∀ (L : List PR) (s0 : Int32), L.foldl (fun s r => s + f r) s0 = s0 + L.foldl (fun s r => s + f r) 0
  | [], s0 => (Int32.add_zero s0).symm
  | x :: L, s0 => by
    rw [List.foldl_cons, List.foldl_cons, foldl_shift f L (s0 + f x), foldl_shift f L (0 + f x), Int32.zero_add, Int32.add_assoc]
theorem read_eq (f : PR → Int32) (x : PR) (L : List PR) : sumI f (x :: L) - f x = sumI f ((x :: L).drop 1) := by
  show (L.foldl (fun s r => s + f r) (0 + f x)) - f x = L.foldl (fun s r => s + f r) 0
  rw [foldl_shift, Int32.zero_add, Int32.add_comm, Int32.add_sub_cancel]
def aTot (o : OUT) (a : Int32) : Int32 :=
  if a = 0 then nI (nD o) else if a = 1 then nI (nP o) else if a = 2 then nI (nS o) else if a = 3 then sumI (fun r => nI r.2.2.2.2.2.1) o.1 else if a = 4 then sumI (fun r => nI r.2.2.1) (o.1.drop 1) else if a = 5 then maxI (fun r => nI r.1) o.1 else if a = 6 then maxI (fun r => nI r.2.2.2.2.2.2) o.1 else if a = 7 then nI o.2.2.2 else -1000001
theorem s_total : ∀ (S : Mem) (a0 : Int32), Inv S → P_X6_total S a0 (fun r1 S1 => P_X7_total S1 a0 (fun r2 S2 => r1 = r2 ∧ Inv S2)) := by
  rintro S a0 ⟨st, hC, hM⟩
  have ha := hC.1.1
  obtain ⟨hnP, hnS, hnD⟩ := nn_bounds ha
  have hP1 : 1 ≤ nP (rn st) := by
    obtain ⟨d, hd, -⟩ := dep ha.2.2.2.1
    have : rn st = T (hsh st.1.2.2.2) st.1.2.2.1 st.1.2.1 (d + 1) 0 0 (keysR st.1) := by unfold rn runT; rw [hd]
    rw [this]
    exact nP_T _ _ _ _ _ _ _
  refine c_passesNow hC (fun S1 f1 g1 r1 => ⟨rfl, ?_⟩)
  obtain ⟨r34, r36, r40, -, r8⟩ := r1
  have r34 : TW S1 34 ((rn st).1.mapIdx prR) := r34
  have ref : ∀ r : Int32, r = aTot (rn st) a0 → P_X7_total S1 a0 (fun r2 S2 => r = r2 ∧ Inv S2) := by
    rintro r rfl
    refine m_runNow (hM.frC f1) (fun S2 f2 g2 q2 => ?_)
    obtain ⟨q1, q8, q10, q12, q13⟩ := q2
    have gi := mI g1 f2 g2
    refine ⟨fun e => ?_, fun e => ?_, fun e => ?_, fun e => ?_, fun e => ?_, fun e => ?_, fun e => ?_, fun e => ?_, fun e => ?_⟩
    · subst e; exact ⟨q12.symm, gi⟩
    · subst e; exact ⟨q8.symm, gi⟩
    · subst e; exact ⟨q10.symm, gi⟩
    · subst e; exact m_written (L := (rn st).1) hnP q8 q1.1 ⟨rfl, gi⟩
    · subst e; exact m_readAgain (L := (rn st).1) hnP hP1 q8 q1.1 ⟨rfl, gi⟩
    · subst e; exact m_greatest (L := (rn st).1) (w := 0) (g := fun r => nI r.1) (by omega) hnP q8 (fun i r hr => (q1.1 i r hr).1) ⟨rfl, gi⟩
    · subst e; exact m_greatest (L := (rn st).1) (w := 6) (g := fun r => nI r.2.2.2.2.2.2) (by omega) hnP q8 (fun i r hr => (q1.1 i r hr).2.2.2.2.2.2) ⟨rfl, gi⟩
    · subst e; exact ⟨q13.symm, gi⟩
    · obtain ⟨e0, e1, e2, e3, e4, e5, e6, e7⟩ := e
      unfold aTot
      rw [if_neg e0, if_neg e1, if_neg e2, if_neg e3, if_neg e4, if_neg e5, if_neg e6, if_neg e7]
      exact ⟨rfl, gi⟩
  refine ⟨fun e => ?_, fun e => ?_, fun e => ?_, fun e => ?_, fun e => ?_, fun e => ?_, fun e => ?_, fun e => ?_, fun e => ?_⟩
  · refine t_length r40 (ref _ ?_)
    subst e
    rw [List.length_map]; rfl
  · refine t_length r34 (ref _ ?_)
    subst e
    rw [List.length_mapIdx]; rfl
  · refine t_length r36 (ref _ ?_)
    subst e
    rw [List.length_map]; rfl
  · refine c_itemsFiled r34 (ref _ ?_)
    subst e
    rfl
  · refine t_sum (c := 0) t34.1 r34 (by rw [t34.2.1]; omega) (t_at (r := 0) (c := 0) t34.1 r34 (by omega) (by rw [t34.2.1]; omega) (ref _ ?_))
    subst e
    rw [sumC_I _ (g := fun r => nI r.2.2.1) (fun i r => rfl)]
    have hx : (rn st).1 ≠ [] := fun c => by have : nP (rn st) = (rn st).1.length := rfl; rw [c] at this; simp at this; omega
    obtain ⟨x, L, hL⟩ := List.exists_cons_of_ne_nil hx
    show sumI _ (rn st).1 - _ = sumI _ ((rn st).1.drop 1)
    rw [mapIdx_get _ 0 (r := x) (by rw [hL]; rfl), hL]
    exact read_eq (fun r => nI r.2.2.1) x L
  · refine t_max (c := 6) t34.1 r34 (by rw [t34.2.1]; omega) (ref _ ?_)
    subst e
    exact maxC_I _ (fun i r => rfl)
  · refine t_max (c := 4) t34.1 r34 (by rw [t34.2.1]; omega) (ref _ ?_)
    subst e
    exact maxC_I _ (fun i r => rfl)
  · refine ref _ ?_
    subst e
    exact r8
  · refine ref _ ?_
    obtain ⟨e0, e1, e2, e3, e4, e5, e6, e7⟩ := e
    unfold aTot
    rw [if_neg e0, if_neg e1, if_neg e2, if_neg e3, if_neg e4, if_neg e5, if_neg e6, if_neg e7]
def bbF (a : AS) (lim : Nat) (q : Int32 × Int32) (j : Nat) : Int32 × Int32 := if q.2 ≤ wrI a lim j then q else (nI j, wrI a lim j)
theorem s_bestBits : ∀ (S : Mem) (a0 a1 : Int32), Inv S → P_X6_bestBits S a0 a1 (fun r1 S1 => P_X7_bestBits S1 a0 a1 (fun r2 S2 => r1 = r2 ∧ Inv S2)) := by
  rintro S a0 a1 ⟨st, hC, hM⟩
  have ha := hC.1.1
  have hi : Inv S := ⟨st, hC, hM⟩
  by_cases c0 : 1 ≤ a0 ∧ a0 ≤ 12
  · by_cases c1 : 0 ≤ a1 ∧ a1 ≤ 1
    · obtain ⟨lim, hl, rfl⟩ := le_nI (n := 12) (Int32.le_trans (by decide) c0.1) c0.2 (by omega)
      have hl1 := (nI_leI (a := 1) (by omega) (by omega)).mp c0.1
      have cl : ∀ (K : Int32 → Mem → Prop) (m f j : Nat) (S : Mem) (q : Int32 × Int32), j + m = 5 → 2 ≤ j → m < f → CI S st → (∀ S', FrC S S' → CI S' st → B_X6_bestBits_76 K S' a1 ((List.range' j m).foldl (bbF st.1 lim) q).1 ((List.range' j m).foldl (bbF st.1 lim) q).2) → B_X6_bestBits_38 K f S (nI lim) a1 q.1 q.2 (nI j) := by
        intro K m
        induction m with
        | zero =>
          intro f j S q hj h2 hf h k
          match f, hf with
          | f + 1, _ => exact ⟨fun _ => k S (FrC.rf S) h, fun z => absurd (nI_lt (a := 4) (by omega) (by omega)) z⟩
        | succ m ih =>
          intro f j S q hj h2 hf h k
          match f, hf with
          | f + 1, hf =>
            refine ⟨fun z => absurd ((nI_ltI (a := 4) (by omega) (by omega)).mp z) (by omega), fun _ => c_passesBy h ⟨hl1, hl⟩ ⟨by omega, by omega⟩ (fun S1 f1 g1 r1 => ⟨rfl, c_wr r1 ?_⟩)⟩
            rw [List.range'_succ, List.foldl_cons] at k
            have nx : ∀ q', q' = bbF st.1 lim q j → B_X6_bestBits_38 K f S1 (nI lim) a1 q'.1 q'.2 (nI j + 1) := by
              rintro q' rfl
              rw [nI_1]
              exact ih f (j + 1) S1 _ (by omega) (by omega) (by omega) g1.1 (fun S' f' g' => k S' (f1.trans f') g')
            exact ⟨fun z => nx q (by unfold bbF; rw [if_pos z]), fun z => nx (nI j, wrI st.1 lim j) (by unfold bbF; rw [if_neg z])⟩
      have ml : ∀ (K : Int32 → Mem → Prop) (m f j : Nat) (S : Mem) (q : Int32 × Int32), j + m = 5 → 2 ≤ j → m < f → MI S st → (∀ S', FrM S S' → MI S' st → B_X7_bestBits_89 K S' a1 ((List.range' j m).foldl (bbF st.1 lim) q).1 ((List.range' j m).foldl (bbF st.1 lim) q).2) → B_X7_bestBits_38 K f S (nI lim) a1 q.1 q.2 (nI j) := by
        intro K m
        induction m with
        | zero =>
          intro f j S q hj h2 hf h k
          match f, hf with
          | f + 1, _ => exact ⟨fun _ => k S (FrM.rf S) h, fun z => absurd (nI_lt (a := 4) (by omega) (by omega)) z⟩
        | succ m ih =>
          intro f j S q hj h2 hf h k
          match f, hf with
          | f + 1, hf =>
            refine ⟨fun z => absurd ((nI_ltI (a := 4) (by omega) (by omega)).mp z) (by omega), fun _ => m_run h ⟨hl1, hl⟩ ⟨by omega, by omega⟩ (fun S1 f1 g1 r1 => m_wr ha hl1 ⟨by omega, by omega⟩ r1 ?_)⟩
            rw [List.range'_succ, List.foldl_cons] at k
            have nx : ∀ q', q' = bbF st.1 lim q j → B_X7_bestBits_38 K f S1 (nI lim) a1 q'.1 q'.2 (nI j + 1) := by
              rintro q' rfl
              rw [nI_1]
              exact ih f (j + 1) S1 _ (by omega) (by omega) (by omega) g1 (fun S' f' g' => k S' (f1.trans f') g')
            exact ⟨fun z => ⟨fun _ => nx q (by unfold bbF; rw [if_pos z]), fun w => absurd z w⟩, fun z => ⟨fun w => absurd w z, fun _ => nx (nI j, wrI st.1 lim j) (by unfold bbF; rw [if_neg z])⟩⟩
      refine c_in (fun _ => ⟨fun z => absurd rfl z, fun _ => c_in (fun _ => ⟨fun _ => c_passesBy hC ⟨hl1, hl⟩ (b := 1) ⟨by omega, by omega⟩ (fun S1 f1 g1 r1 => ⟨rfl, c_wr r1 ⟨4, ?_⟩⟩), fun z => absurd rfl z⟩) (fun c => absurd c1 c)⟩) (fun c => absurd c0 c)
      have fin : ∀ r S2, FrC S S2 → CI S2 st → r = (if a1 = 0 then ((List.range' 2 3).foldl (bbF st.1 lim) (1, wrI st.1 lim 1)).1 else ((List.range' 2 3).foldl (bbF st.1 lim) (1, wrI st.1 lim 1)).2) → P_X7_bestBits S2 (nI lim) a1 (fun r2 S3 => r = r2 ∧ Inv S3) := by
        intro r S2 f2 g2 hr
        refine m_in 1 12 rfl rfl (fun _ => ⟨fun z => absurd z (by decide), fun _ => m_in 0 1 rfl rfl (fun _ => ⟨fun _ => m_run (hM.frC f2) ⟨hl1, hl⟩ (b := 1) ⟨by omega, by omega⟩ (fun S3 f3 g3 q3 => m_wr ha hl1 ⟨by omega, by omega⟩ q3 ⟨4, ?_⟩), fun z => absurd z (by decide)⟩) (fun c => absurd c1 c)⟩) (fun c => absurd c0 c)
        refine ml _ 3 4 2 S3 (1, wrI st.1 lim 1) (by omega) (by omega) (by omega) g3 (fun S4 f4 g4 => ?_)
        have gi : Inv S4 := ⟨st, (g2.frM f3).frM f4, g4⟩
        exact ⟨fun z => ⟨by rw [hr, if_neg z], gi⟩, fun z => ⟨by rw [hr, if_pos z], gi⟩⟩
      refine cl _ 3 4 2 S1 (1, wrI st.1 lim 1) (by omega) (by omega) (by omega) g1.1 (fun S2 f2 g2 => ⟨fun z => fin _ S2 (f1.trans f2) g2 (by rw [if_neg z]), fun z => fin _ S2 (f1.trans f2) g2 (by rw [if_pos z])⟩)
    · refine c_in (fun _ => ⟨fun z => absurd rfl z, fun _ => c_in (fun c => absurd c c1) (fun _ => ⟨fun z => absurd z (by decide), fun _ => ?_⟩)⟩) (fun c => absurd c0 c)
      exact m_in 1 12 rfl rfl (fun _ => ⟨fun z => absurd z (by decide), fun _ => m_in 0 1 rfl rfl (fun c => absurd c c1) (fun _ => ⟨fun z => absurd rfl z, fun _ => ⟨rfl, hi⟩⟩)⟩) (fun c => absurd c0 c)
  · refine c_in (fun c => absurd c c0) (fun _ => ⟨fun _ => ?_, fun z => absurd z (by decide)⟩)
    exact m_in 1 12 rfl rfl (fun c => absurd c c0) (fun _ => ⟨fun _ => ⟨rfl, hi⟩, fun z => absurd rfl z⟩)
