/-! the reference runs -/
def leF : Nat → AR → List It
  | _, [] => []
  | i, r :: L => (i, r.1, oneA r.2) :: leF (i + 1) L
theorem leF_keys : ∀ (L : AR) (i : Nat), (leF i L).map (fun x => x.2.1) = L.map (fun r => r.1)
  | [], _ => rfl
  | r :: L, i => by
    show r.1 :: (leF (i + 1) L).map _ = _
    rw [leF_keys L]; rfl
theorem leF_idx : ∀ (L : AR) (i : Nat), ∀ x ∈ leF i L, i ≤ x.1 ∧ x.1 < i + L.length
  | [], _, x, h => by simp [leF] at h
  | r :: L, i, x, h => by
    rcases List.mem_cons.mp h with rfl | h
    · rw [List.length_cons]; exact ⟨Nat.le_refl _, by show i < _; omega⟩
    · have := leF_idx L (i + 1) x h
      rw [List.length_cons]; omega
theorem leF_nodup : ∀ (L : AR) (i : Nat), ((leF i L).map (fun x => x.1)).Nodup
  | [], _ => List.nodup_nil
  | r :: L, i => by
    show (i :: (leF (i + 1) L).map (fun x => x.1)).Nodup
    rw [List.nodup_cons]
    refine ⟨fun m => ?_, leF_nodup L (i + 1)⟩
    obtain ⟨x, hx, e⟩ := List.mem_map.mp m
    have := (leF_idx L (i + 1) x hx).1
    omega
theorem leF_agg (k : Nat) : ∀ (L : AR) (i : Nat), ((leF i L).filter (fun e => e.2.1 == k)).map (fun e => e.2.2) = (L.filter (fun r => r.1 == k)).map (fun r => oneA r.2)
  | [], _ => rfl
  | r :: L, i => by
    have ih := leF_agg k L (i + 1)
    show (((i, r.1, oneA r.2) :: leF (i + 1) L).filter _).map _ = _
    by_cases e : r.1 = k
    · rw [List.filter_cons_of_pos (by simp [e]), List.filter_cons_of_pos (by simp [e]), List.map_cons, List.map_cons, ih]
    · rw [List.filter_cons_of_neg (by simp [e]), List.filter_cons_of_neg (by simp [e]), ih]
theorem leF_len : ∀ (L : AR) (i : Nat), (leF i L).length = L.length
  | [], _ => rfl
  | r :: L, i => by
    show (leF (i + 1) L).length + 1 = _
    rw [leF_len L]; rfl
theorem leF_ch {S : Mem} : ∀ (L : AR) (i : Nat), (∀ j r, L[j]? = some r → ItK S (i + j, r.1, oneA r.2) ∧ S 56 (6 * (i + j) + 5) = if j + 1 < L.length then nI (i + j + 1) else -1) → Ch S (if 0 < L.length then nI i else -1) (leF i L)
  | [], _, _ => rfl
  | r :: L, i, h => by
    obtain ⟨h1, h2⟩ := h 0 r rfl
    rw [Nat.add_zero] at h1
    have h2 : S 56 (6 * i + 5) = if 0 + 1 < (r :: L).length then nI (i + 1) else -1 := h2
    rw [if_pos (by rw [List.length_cons]; omega)]
    refine ⟨rfl, h1, ?_⟩
    have := leF_ch (S := S) L (i + 1) (fun j q hj => by
      have := h (j + 1) q hj
      rw [List.length_cons, show i + (j + 1) = i + 1 + j by omega] at this
      refine ⟨this.1, this.2.trans ?_⟩
      by_cases c : j + 1 < L.length
      · rw [if_pos c, if_pos (by omega)]
      · rw [if_neg c, if_neg (by omega)])
    show Ch S (S 56 (6 * i + 5)) (leF (i + 1) L)
    rw [h2, List.length_cons]
    by_cases c : 0 < L.length
    · rw [if_pos (by omega)]; rw [if_pos c] at this; exact this
    · rw [if_neg (by omega)]; rw [if_neg c] at this; exact this
def MRun (S : Mem) (a : AS) (lim b : Nat) : Prop := OM S a (runT a lim b) ∧ S 53 8 = nI (nP (runT a lim b)) ∧ S 53 10 = nI (nS (runT a lim b)) ∧ S 53 12 = nI (nD (runT a lim b)) ∧ S 53 13 = nI (runT a lim b).2.2.2
theorem m_rows {a : AS} (ha : okS a) {K : Mem → Prop} : ∀ (m f j : Nat) (S : Mem), j + m = a.1.length → m < f → AllIs (S 54) a → S 53 4 = nI j → (∀ i r, i < j → a.1[i]? = some r → ItK S (i, r.1, oneA r.2) ∧ S 56 (6 * i + 5) = if i + 1 < a.1.length then nI (i + 1) else -1) →
    (∀ S', (∀ i r, a.1[i]? = some r → ItK S' (i, r.1, oneA r.2) ∧ S' 56 (6 * i + 5) = if i + 1 < a.1.length then nI (i + 1) else -1) → S' 53 4 = nI a.1.length → (∀ i, i ≠ 53 → i ≠ 56 → S' i = S i) → (∀ j, j ≠ 4 → S' 53 j = S 53 j) → B_X7_run_126 K S') → B_X7_run_37 K f S (nI j) := by
  have h100 := ha.1
  intro m
  induction m with
  | zero =>
    intro f j S hj hf hA h4 hd k
    match f, hf with
    | f + 1, _ =>
      refine ⟨vin (n := 0) (by omega) (by omega), ?_⟩
      rw [cl0, hA.1]
      have ej : j = a.1.length := by omega
      subst ej
      exact ⟨fun _ => k S (fun i r hi => hd i r (List.getElem?_eq_some_iff.mp hi).1 hi) h4 (fun _ _ _ => rfl) (fun _ _ => rfl), fun z => absurd ((nI_leI (by omega) (by omega)).mpr (Nat.le_refl _)) z⟩
  | succ m ih =>
    intro f j S hj hf hA h4 hd k
    match f, hf with
    | f + 1, hf =>
      have hjl : j < a.1.length := by omega
      have hx : a.1[j]? = some (a.1[j]'hjl) := List.getElem?_eq_getElem hjl
      obtain ⟨x, hxe⟩ : ∃ x, a.1[j]'hjl = x := ⟨_, rfl⟩
      rw [hxe] at hx
      obtain ⟨a1, a2⟩ := hA.2.2.2.2 j x hx
      refine ⟨vin (n := 0) (by omega) (by omega), ?_⟩
      rw [cl0, hA.1]
      refine ⟨fun z => absurd ((nI_leI (by omega) (by omega)).mp z) (by omega), fun _ => ?_⟩
      rw [show (4 : Int32) + nI j = nI (4 + j) from nI_add 4 j, show (104 : Int32) + nI j = nI (104 + j) from nI_add 104 j, clampN (by omega), clampN (by omega), a1, a2]
      refine ⟨vin (by omega) (by omega), vin (by omega) (by omega), vin (by omega) (by omega), vin (by omega) (by omega), ?_⟩
      refine m_makes (k := x.1) (x := oneA x.2) h4 (by omega) (fun S16 mi m5 m4 mf m53 m56 => ⟨vin (n := 0) (by omega) (by omega), ?_⟩)
      have hA16 : AllIs (S16 54) a := hA.same (mf 54 (by omega) (by omega))
      have p5 : (6 : Int32) * nI j + (5 : Int32) = nI (6 * j + 5) := by rw [mul6]; exact nI_add _ 5
      rw [hA16.1, nI_1, p5]
      have rest : ∀ y : Int32, y = (if j + 1 < a.1.length then nI (j + 1) else -1) → B_X7_run_119 (fun S x3 => B_X7_run_37 K f S x3) K S16 (nI j) y (nI (6 * j + 5)) := by
        intro y hy
        unfold B_X7_run_119
        rw [clampN (by omega), nI_1]
        refine ⟨vin (by omega) (by omega), fun S18 hS18 => ?_⟩
        have o18 : ∀ i, i ≠ 56 → S18 i = S16 i := fun i hi => by rw [hS18, mput_ne _ _ _ hi]
        have e56 : ∀ t, t ≠ 6 * j + 5 → S18 56 t = S16 56 t := fun t ht => by rw [hS18, mput_at, upd_ne _ _ ht]
        refine ih f (j + 1) S18 (by omega) (by omega) (hA16.same (o18 54 (by omega))) (by rw [o18 53 (by omega)]; exact m4) (fun i r hi hr => ?_) (fun S' b1 b2 b3 b4 => k S' b1 b2 (fun i c1 c2 => by rw [b3 i c1 c2, o18 i c2, mf i c1 c2]) (fun t ht => by rw [b4 t ht, o18 53 (by omega), m53 t ht]))
        by_cases ei : i = j
        · subst ei
          rw [hx] at hr
          cases hr
          exact ⟨mi.eq fun c hc => e56 _ (by show 6 * i + c ≠ _; omega), by rw [hS18, mput_at, upd_at]; exact hy⟩
        · obtain ⟨d1, d2⟩ := hd i r (by omega) hr
          exact ⟨d1.eq fun c hc => by
            show S18 56 (6 * i + c) = S 56 (6 * i + c)
            rw [e56 _ (by omega), m56 _ (by omega)], by rw [e56 _ (by omega), m56 _ (by omega)]; exact d2⟩
      refine ⟨fun z => rest _ ?_, fun z => rest _ ?_⟩
      · have := (nI_leI (by omega) (by omega)).mp z
        rw [if_neg (by omega)]
      · rw [if_pos (Nat.not_le.mp fun c => z ((nI_leI (by omega) (by omega)).mpr c))]
theorem m_run {S : Mem} {st : AT} (h : MI S st) {lim b : Nat} (hlim : 1 ≤ lim ∧ lim ≤ 12) (hb : 1 ≤ b ∧ b ≤ 4) {K : Mem → Prop} (kk : ∀ S', FrM S S' → MI S' st → MRun S' st.1 lim b → K S') : P_X7_run S (nI lim) (nI b) K := by
  obtain ⟨h1, h2, h3, h4, h5, h6, h7⟩ := h
  have ha := h1.1
  have h100 := ha.1
  obtain ⟨d, hd, hd3, hd15, hdb, -⟩ := dep hb
  intro S1 hS1 S2 hS2 S3 hS3 S4 hS4 S5 hS5 S6 hS6 S7 hS7
  have o7 : ∀ i, i ≠ 53 → S7 i = S i := fun i hi => by rw [hS7, mput_ne _ _ _ hi, hS6, mput_ne _ _ _ hi, hS5, mput_ne _ _ _ hi, hS4, mput_ne _ _ _ hi, hS3, mput_ne _ _ _ hi, hS2, mput_ne _ _ _ hi, hS1, mput_ne _ _ _ hi]
  have e7 : S7 53 = upd (upd (upd (upd (upd (upd (upd (S 53) 15 (nI lim)) 14 (nI b)) 4 0) 8 0) 10 0) 12 0) 13 0 := by rw [hS7, mput_at, hS6, mput_at, hS5, mput_at, hS4, mput_at, hS3, mput_at, hS2, mput_at, hS1, mput_at]
  have g7 : ∀ j, j ≠ 15 → j ≠ 14 → j ≠ 4 → j ≠ 8 → j ≠ 10 → j ≠ 12 → j ≠ 13 → S7 53 j = S 53 j := fun j q1 q2 q3 q4 q5 q6 q7 => by rw [e7, upd_ne _ _ q7, upd_ne _ _ q6, upd_ne _ _ q5, upd_ne _ _ q4, upd_ne _ _ q3, upd_ne _ _ q2, upd_ne _ _ q1]
  have e15 : S7 53 15 = nI lim := by rw [e7, upd_ne _ _ (by omega), upd_ne _ _ (by omega), upd_ne _ _ (by omega), upd_ne _ _ (by omega), upd_ne _ _ (by omega), upd_ne _ _ (by omega), upd_at]
  have e14 : S7 53 14 = nI b := by rw [e7, upd_ne _ _ (by omega), upd_ne _ _ (by omega), upd_ne _ _ (by omega), upd_ne _ _ (by omega), upd_ne _ _ (by omega), upd_at]
  have e4 : S7 53 4 = 0 := by rw [e7, upd_ne _ _ (by omega), upd_ne _ _ (by omega), upd_ne _ _ (by omega), upd_ne _ _ (by omega), upd_at]
  have e8 : S7 53 8 = 0 := by rw [e7, upd_ne _ _ (by omega), upd_ne _ _ (by omega), upd_ne _ _ (by omega), upd_at]
  have e10 : S7 53 10 = 0 := by rw [e7, upd_ne _ _ (by omega), upd_ne _ _ (by omega), upd_at]
  have e12 : S7 53 12 = 0 := by rw [e7, upd_ne _ _ (by omega), upd_at]
  have e13 : S7 53 13 = 0 := by rw [e7, upd_at]
  refine ⟨st.1.1.length + 1, m_rows ha st.1.1.length (st.1.1.length + 1) 0 S7 (by omega) (by omega) (h2.same (o7 54 (by omega))) e4 (fun i r hi => by omega) (fun S8 hr8 e84 o8 e853 => ?_)⟩
  intro S9 hS9
  refine ⟨vin (n := 0) (by omega) (by omega), fun S10 hS10 => ⟨vin (n := 1) (by omega) (by omega), fun S11 hS11 => ⟨vin (n := 0) (by omega) (by omega), ?_⟩⟩⟩
  rw [cl0] at hS10
  rw [cl1] at hS11
  have o11 : ∀ i, i ≠ 53 → i ≠ 56 → i ≠ 61 → S11 i = S i := fun i q1 q2 q3 => by rw [hS11, mput_ne _ _ _ q3, hS10, mput_ne _ _ _ q3, hS9, mput_ne _ _ _ q1, o8 i q1 q2, o7 i q1]
  have hA11 : AllIs (S11 54) st.1 := h2.same (o11 54 (by omega) (by omega) (by omega))
  have e1153 : S11 53 = S9 53 := by rw [hS11, mput_ne _ _ _ (by omega), hS10, mput_ne _ _ _ (by omega)]
  have v : ∀ y : Int32, y = (if 0 < st.1.1.length then nI 0 else -1) → B_X7_run_164 K S11 y (2 : Int32) := by
    intro y hy
    refine ⟨vin (n := 2) (by omega) (by omega), fun S12 hS12 => ?_⟩
    rw [cl2] at hS12
    have o12 : ∀ i, i ≠ 61 → S12 i = S11 i := fun i hi => by rw [hS12, mput_ne _ _ _ hi]
    have e61 : S12 61 = upd (upd (upd (S9 61) 0 0) 1 0) 2 y := by rw [hS12, mput_at, hS11, mput_at, hS10, mput_at]
    have e53 : ∀ j, j ≠ 17 → j ≠ 4 → S12 53 j = S7 53 j := fun j q1 q2 => by rw [o12 53 (by omega), e1153, hS9, mput_at, upd_ne _ _ q1, e853 j q2]
    have e56 : S12 56 = S8 56 := by rw [o12 56 (by omega), hS11, mput_ne _ _ _ (by omega), hS10, mput_ne _ _ _ (by omega), hS9, mput_ne _ _ _ (by omega)]
    have hOok := run_ok ha (lim := lim) hlim.1 hb
    have hks := leF_keys st.1.1 0
    have hks : (leF 0 st.1.1).map (fun x => x.2.1) = keysR st.1 := hks
    have eT : T (hsh st.1.2.2.2) b lim (d + 1) 0 0 (keysR st.1) = runT st.1 lim b := by unfold runT; rw [hd]
    have hW := T_W (h := hsh st.1.2.2.2) (b := b) hlim.1 (d + 1) 0 0 (keysR st.1)
    rw [eT, keysR_len] at hW
    have hW2 : st.1.1.length * (d + 1) ≤ 100 * 16 := Nat.mul_le_mul h100 (by omega)
    have key := m_tree ha hb hlim d 0 0 S12 nilO 0 st.1.1.length y (leF 0 st.1.1) 1 K (by omega) (by rw [Nat.zero_mul]; exact Nat.one_pos) (by omega) ⟨hA11.same (o12 54 (by omega)), by rw [e53 _ (by omega) (by omega)]; exact e15, by rw [e53 _ (by omega) (by omega)]; exact e14, by rw [o12 53 (by omega), e1153, hS9, mput_at, upd_ne _ _ (by omega)]; exact e84, by show _ ≤ _ + 0; omega, ⟨fun i r hi => by simp [nilO] at hi, fun i r hi => by simp [nilO] at hi, fun i r hi => by simp [nilO] at hi⟩, by rw [e53 _ (by omega) (by omega)]; exact e8, by rw [e53 _ (by omega) (by omega)]; exact e10, by rw [e53 _ (by omega) (by omega)]; exact e12, by rw [e53 _ (by omega) (by omega)]; exact e13, by rw [e53 _ (by omega) (by omega), g7 6 (by omega) (by omega) (by omega) (by omega) (by omega) (by omega) (by omega)]; exact h7, by rw [o12 53 (by omega), e1153, hS9, mput_at, upd_at]; rfl⟩ ⟨by rw [e61, upd_ne _ _ (by omega), upd_ne _ _ (by omega), upd_at]; rfl, by rw [e61, upd_ne _ _ (by omega), upd_at]; rfl, by rw [e61]; exact upd_at _ _ _⟩ (by
        rw [hy]
        refine leF_ch st.1.1 0 (fun j r hj => ?_)
        obtain ⟨w1, w2⟩ := hr8 j r hj
        rw [Nat.zero_add]
        exact ⟨w1.eq fun c _ => by rw [e56], by rw [e56]; exact w2⟩) ⟨by rw [leF_len]; exact h100, leF_nodup _ _, fun x hx => by have := (leF_idx st.1.1 0 x hx).2; omega, fun x hx => mem_ksOf.mpr (by rw [← hks]; exact List.mem_map.mpr ⟨x, hx, rfl⟩), fun x hx => by unfold aggOf aggK; rw [leF_agg]⟩
    rw [hks, eT, appO_nil] at key
    refine ⟨_, key ⟨hOok, by omega⟩ (fun S' cnt' g _ f => ⟨fun _ => ?_, fun z => absurd ?_ z⟩)⟩
    · obtain ⟨q1, q2, q3, q4, q5, q6, q7, q8, q9, q10, q11, q12⟩ := g
      have fS : ∀ i, (i < 53 ∨ i = 54 ∨ i = 55 ∨ 65 ≤ i) → S' i = S i := fun i hi => by rw [f.1 i hi, o12 i (by omega), o11 i (by omega) (by omega) (by omega)]
      have f53 : ∀ j, j = 2 ∨ 18 ≤ j → S' 53 j = S 53 j := fun j hj => by rw [f.2.1 j hj, e53 j (by omega) (by omega), g7 j (by omega) (by omega) (by omega) (by omega) (by omega) (by omega) (by omega)]
      refine kk S' (fun i hi => fS i (by omega)) ⟨h1, q1, by rw [f53 2 (by omega)]; exact h3, by rw [fS 55 (by omega)]; exact h4, by rw [f53 22 (by omega)]; exact h5, by rw [fS 65 (by omega)]; exact h6, q11⟩ ⟨q6, q7, q8, q9, q10⟩
    · rw [g.2.2.2.2.2.2.2.2.2.2.2]
      exact Int32.le_refl _
  rw [cl0, hA11.1]
  refine ⟨fun z => v _ ?_, fun z => v _ ?_⟩
  · have := (nI_leI (b := 0) (by omega) (by omega)).mp z
    rw [if_neg (by omega)]
  · have : 0 < st.1.1.length := Nat.not_le.mp fun c => z ((nI_leI (b := 0) (by omega) (by omega)).mpr c)
    rw [if_pos this]; rfl
theorem m_runNow {S : Mem} {st : AT} (h : MI S st) {K : Mem → Prop} (kk : ∀ S', FrM S S' → MI S' st → MRun S' st.1 st.1.2.1 st.1.2.2.1 → K S') : P_X7_runNow S K := by
  have ha := h.1.1
  refine ⟨vin (n := 1) (by omega) (by omega), vin (n := 2) (by omega) (by omega), ?_⟩
  rw [cl1, cl2, h.2.1.2.1, h.2.1.2.2.1]
  exact m_run h ha.2.2.1 ha.2.2.2.1 kk
