/-! enough; the beginning -/
theorem addK_len (L : List Nat) (k : Nat) : L.length ≤ (addK L k).length := by
  unfold addK
  split
  · omega
  · rw [insK_length]; omega
theorem take0_sp (h : Nat → Nat) (b lim l : Nat) (τ : PS) (k : Nat) : (take0 h b lim l τ k).2.1 = τ.2.1 := by
  unfold take0
  split
  · rfl
  · split <;> rfl
theorem no_spill (h : Nat → Nat) (b lim l : Nat) : ∀ (M : List Nat) (σ : PS) (L : List Nat), (σ.2.1 = [] ∧ σ.1 = L ∧ L.length ≤ lim) ∨ (σ.2.1 ≠ [] ∧ lim < L.length) → ((M.foldl (take1 h b lim l false) σ).2.1 = [] ↔ (M.foldl addK L).length ≤ lim)
  | [], σ, L, hA => by
    show σ.2.1 = [] ↔ L.length ≤ lim
    rcases hA with ⟨a, -, c⟩ | ⟨a, c⟩
    · exact ⟨fun _ => c, fun _ => a⟩
    · exact ⟨fun z => absurd z a, fun z => by omega⟩
  | k :: M, σ, L, hA => by
    rw [List.foldl_cons, List.foldl_cons]
    refine no_spill h b lim l M _ _ ?_
    rcases hA with ⟨a, c, d⟩ | ⟨a, c⟩
    · have hsp : isSp σ (prt h b l k) = false := by unfold isSp; rw [a]; rfl
      by_cases hm : k ∈ σ.1
      · rw [(take1_need h b lim l false σ k).2 (fun q => q.2.1 hm)]
        left
        unfold take0 addK
        rw [if_neg (by rw [hsp]; decide), if_pos hm, if_pos (by rw [← c]; exact hm)]
        exact ⟨a, c, d⟩
      · by_cases hl : lim ≤ σ.1.length
        · rw [(take1_need h b lim l false σ k).1 ⟨hsp, hm, hl, rfl⟩]
          right
          rw [take0_sp]
          refine ⟨fun q => ?_, ?_⟩
          · have q : σ.2.1 ++ [_] = [] := q
            simp at q
          · unfold addK
            rw [if_neg (by rw [← c]; exact hm), insK_length, ← c]; omega
        · rw [(take1_need h b lim l false σ k).2 (fun q => hl q.2.2.1)]
          left
          unfold take0 addK
          rw [if_neg (by rw [hsp]; decide), if_neg hm, if_neg (by rw [← c]; exact hm)]
          refine ⟨a, by rw [← c]; rfl, ?_⟩
          rw [insK_length, ← c]; omega
    · right
      have h1 := take1_mono h b lim l false σ k
      have h2 := addK_len L k
      refine ⟨fun q => ?_, by omega⟩
      rw [q] at h1
      have := List.length_pos_iff.mpr a
      simp at h1
      exact a h1
theorem spills0 {a : AS} (ha : okS a) {lim b : Nat} (hlim : 1 ≤ lim) (hb : 1 ≤ b ∧ b ≤ 4) : nS (runT a lim b) = 0 ↔ (ksOf a).length ≤ lim := by
  obtain ⟨d, hd, hd3, -⟩ := dep hb
  have e : runT a lim b = T (hsh a.2.2.2) b lim (d + 1) 0 0 (keysR a) := by unfold runT; rw [hd]
  have hdf : (d == 0) = false := beq_eq_false_iff_ne.mpr (by omega)
  have g : PI (hsh a.2.2.2) b lim 0 (d == 0) (keysR a) (passR (hsh a.2.2.2) b lim 0 (d == 0) (keysR a)) := PI.all hlim _
  have h1 := no_spill (hsh a.2.2.2) b lim 0 (keysR a) pass0 [] (Or.inl ⟨rfl, rfl, Nat.zero_le _⟩)
  have h2 : (passR (hsh a.2.2.2) b lim 0 (d == 0) (keysR a)).2.1 = [] ↔ (ksOf a).length ≤ lim := by rw [hdf]; exact h1
  rw [← h2, e, T_mu nS nS_app]
  have e2 : nS (ownT (hsh a.2.2.2) b lim d 0 0 (keysR a)) = (passR (hsh a.2.2.2) b lim 0 (d == 0) (keysR a)).2.1.length := List.length_map _
  rw [e2]
  constructor
  · intro q
    exact List.length_eq_zero_iff.mp (by omega)
  · intro q
    rw [kids_nil q, q]; rfl
theorem s_enough : ∀ (S : Mem), Inv S → P_X6_enough S (fun r1 S1 => P_X7_enough S1 (fun r2 S2 => r1 = r2 ∧ Inv S2)) := by
  rintro S ⟨st, hC, hM⟩
  have ha := hC.1.1
  have hk100 := ksOf_len ha
  obtain ⟨n, hn⟩ : ∃ n, (ksOf st.1).length = n := ⟨_, rfl⟩
  rw [hn] at hk100
  refine c_groupsNow hC (fun S1 f1 g1 => ⟨rfl, t_length g1.2.2.1.1 ?_⟩)
  rw [List.length_map, hn]
  have em : (if nI n < (1 : Int32) then (1 : Int32) else nI n) = nI (max n 1) := by
    by_cases c : n < 1
    · rw [if_pos (show nI n < (1 : Int32) from (nI_ltI (b := 1) (by omega) (by omega)).mpr c), show max n 1 = 1 by omega]; rfl
    · rw [if_neg (show ¬ nI n < (1 : Int32) from fun z => c ((nI_ltI (b := 1) (by omega) (by omega)).mp z)), show max n 1 = n by omega]
  rw [em]
  have ref : ∀ r : Int32, (max n 1 ≤ 12 → r = nI (max n 1)) → (12 < max n 1 → r = -1000004) → P_X7_enough S1 (fun r2 S2 => r = r2 ∧ Inv S2) := by
    intro r h1 h2
    have loop : ∀ m f i S', i + m = 13 → 1 ≤ i → i ≤ max n 1 → m < f → FrM S1 S' → MI S' st → B_X7_enough_2 (fun r2 S2 => r = r2 ∧ Inv S2) f S' (nI i) := by
      intro m
      induction m with
      | zero =>
        intro f i S' hi h1i him hf f' g'
        match f, hf with
        | f + 1, _ => exact ⟨fun _ => ⟨h2 (by omega), st, g1.1.frM f', g'⟩, fun z => absurd (nI_lt (a := 12) (by omega) (by omega)) z⟩
      | succ m ih =>
        intro f i S' hi h1i him hf f' g'
        match f, hf with
        | f + 1, hf =>
          refine ⟨fun z => absurd ((nI_ltI (a := 12) (by omega) (by omega)).mp z) (by omega), fun _ => ⟨vin (n := 2) (by omega) (by omega), ?_⟩⟩
          rw [cl2, g'.2.1.2.2.1]
          refine m_run g' ⟨h1i, by omega⟩ ha.2.2.2.1 (fun S2 f2 g2 q2 => ?_)
          have hs := spills0 ha (lim := i) h1i ha.2.2.2.1
          rw [hn] at hs
          have hb := (run_bounds ha (lim := i) h1i ha.2.2.2.1)
          rw [q2.2.2.1]
          refine ⟨fun z => ?_, fun z => ?_⟩
          · have : ¬ n ≤ i := fun c => z (by rw [hs.mpr c]; rfl)
            rw [nI_1]
            exact ih f (i + 1) S2 (by omega) (by omega) (by omega) (by omega) (f'.trans f2) g2
          · have z0 := (nI_eq (b := 0) (by omega) (by omega)).mp z
            have := hs.mp z0
            exact ⟨by rw [h1 (by omega), show max n 1 = i by omega], st, g1.1.frM (f'.trans f2), g2⟩
    exact ⟨13, loop 12 13 1 S1 (by omega) (by omega) (by omega) (by omega) (FrM.rf S1) (hM.frC f1)⟩
  refine ⟨fun z => ref _ (fun _ => rfl) (fun c => ?_), fun z => ref _ (fun c => absurd ((nI_leI (b := 12) (by omega) (by omega)).mpr c) z) (fun _ => rfl)⟩
  have := (nI_leI (b := 12) (by omega) (by omega)).mp z
  omega
theorem TW.nil {S : Mem} {t : Nat} (h : S t 3 = 0) : TW S t [] := ⟨h, Nat.zero_le _, fun k c hk => by simp at hk⟩
theorem init_inv : ∀ S, Init S → Inv S := by
  rintro S ⟨⟨i0, ⟨i2, i4⟩, ⟨i6, ⟨i9, i11⟩, ⟨i14, i16⟩, ⟨i19, i21⟩, i24, i26⟩, ⟨i29, i31⟩, ⟨i33, i34, i36, i38, i40, i42, i44, i46⟩, i49, i51⟩, j53, j0, j1, j2, j3⟩
  refine ⟨(([], 3, 2, 40503), [], []), ⟨⟨⟨by decide, fun r hr => by simp at hr, by decide, by decide, by decide⟩, by decide, fun x hx => by simp at hx, by decide, fun c hc => by simp at hc⟩, fun t ht => ?_, ⟨TW.nil i2, i4⟩, ⟨0, by omega, i6 1, i6 2, fun k a hk => by simp at hk⟩, TW.nil i49, Or.inl i0⟩, ⟨⟨⟨by decide, fun r hr => by simp at hr, by decide, by decide, by decide⟩, by decide, fun x hx => by simp at hx, by decide, fun c hc => by simp at hc⟩, ⟨j0, j1, j2, j3, fun k r hk => by simp at hk⟩, j53 2, fun k a hk => by simp at hk, j53 22, fun k c hk => by simp at hk, j53 6⟩⟩
  have key : ∀ t ∈ tabs, t = 2 ∨ t = 4 ∨ t = 9 ∨ t = 11 ∨ t = 14 ∨ t = 16 ∨ t = 19 ∨ t = 21 ∨ t = 24 ∨ t = 26 ∨ t = 29 ∨ t = 31 ∨ t = 34 ∨ t = 36 ∨ t = 38 ∨ t = 40 ∨ t = 42 ∨ t = 44 ∨ t = 46 ∨ t = 49 ∨ t = 51 := by decide
  rcases key t ht with e | e | e | e | e | e | e | e | e | e | e | e | e | e | e | e | e | e | e | e | e <;> subst e
  · exact ⟨[], TW.nil i2, fun _ => rfl⟩
  · exact ⟨_, i4, fun z => absurd z (by decide)⟩
  · exact ⟨[], TW.nil i9, fun _ => rfl⟩
  · exact ⟨_, i11, fun z => absurd z (by decide)⟩
  · exact ⟨[], TW.nil i14, fun _ => rfl⟩
  · exact ⟨_, i16, fun z => absurd z (by decide)⟩
  · exact ⟨[], TW.nil i19, fun _ => rfl⟩
  · exact ⟨_, i21, fun z => absurd z (by decide)⟩
  · exact ⟨[], TW.nil i24, fun _ => rfl⟩
  · exact ⟨_, i26, fun z => absurd z (by decide)⟩
  · exact ⟨[], TW.nil i29, fun _ => rfl⟩
  · exact ⟨[], TW.nil i31, fun _ => rfl⟩
  · exact ⟨[], TW.nil i34, fun _ => rfl⟩
  · exact ⟨[], TW.nil i36, fun _ => rfl⟩
  · exact ⟨[], TW.nil i38, fun _ => rfl⟩
  · exact ⟨[], TW.nil i40, fun _ => rfl⟩
  · exact ⟨[], TW.nil i42, fun _ => rfl⟩
  · exact ⟨[], TW.nil i44, fun _ => rfl⟩
  · exact ⟨[], TW.nil i46, fun _ => rfl⟩
  · exact ⟨[], TW.nil i49, fun _ => rfl⟩
  · exact ⟨[], TW.nil i51, fun _ => rfl⟩
