/-! passOf, total, written, bestBits -/
theorem mapIdx_get (L : List PR) (j : Nat) {r : PR} (h : L[j]? = some r) : (L.mapIdx prR).getD j row0 = prR j r := by
  rw [List.getD_eq_getElem?_getD, List.getElem?_mapIdx, h]; rfl
def Hit (a0 a1 : Int32) (r : PR) : Prop := nI r.1 = a0 ∧ nI r.2.1 = a1
theorem c_find {S : Mem} {L : List PR} {a0 a1 : Int32} (h : TW S 34 (L.mapIdx prR)) {K : Int32 → Mem → Prop} (k1 : ∀ k r, L[k]? = some r → Hit a0 a1 r → (∀ i q, i < k → L[i]? = some q → ¬ Hit a0 a1 q) → K (nI k) S) (k0 : (∀ (i : Nat) q, L[i]? = some q → ¬ Hit a0 a1 q) → K (-1) S) : P_X2_find S a0 a1 K := by
  have hle := h.2.1
  rw [List.length_mapIdx, t34.2.2] at hle
  have loop : ∀ m f j, j + m = L.length → m < f → (∀ i q, i < j → L[i]? = some q → ¬ Hit a0 a1 q) → B_X2_find_2 K f S a0 a1 (nI j) := by
    intro m
    induction m with
    | zero =>
      intro f j hj hf hno
      match f, hf with
      | f + 1, _ =>
        refine t_length h ?_
        rw [List.length_mapIdx]
        exact ⟨fun _ => k0 (fun i q hq => hno i q (by have := (List.getElem?_eq_some_iff.mp hq).1; omega) hq), fun z => absurd ((nI_leI (by omega) (by omega)).mpr (by omega)) z⟩
    | succ m ih =>
      intro f j hj hf hno
      match f, hf with
      | f + 1, hf =>
        have hjl : j < L.length := by omega
        have hx : L[j]? = some (L[j]'hjl) := List.getElem?_eq_getElem hjl
        obtain ⟨x, hxe⟩ : ∃ x, L[j]'hjl = x := ⟨_, rfl⟩
        rw [hxe] at hx
        refine t_length h ?_
        rw [List.length_mapIdx]
        have next : ¬ Hit a0 a1 x → B_X2_find_2 K f S a0 a1 (nI j + 1) := fun hn => by
          rw [nI_1]
          refine ih f (j + 1) (by omega) (by omega) (fun i q hi hq => ?_)
          by_cases e : i = j
          · subst e; rw [hx] at hq; cases hq; exact hn
          · exact hno i q (by omega) hq
        refine ⟨fun z => absurd ((nI_leI (by omega) (by omega)).mp z) (by omega), fun _ => t_at (c := 6) t34.1 h (by omega) (by rw [t34.2.1]; omega) ?_⟩
        rw [mapIdx_get L j hx]
        refine ⟨fun z => next (fun c => z c.1), fun z => t_at (c := 7) t34.1 h (by omega) (by rw [t34.2.1]; omega) ?_⟩
        rw [mapIdx_get L j hx]
        exact ⟨fun z2 => next (fun c => z2 c.2), fun z2 => k1 j x hx ⟨z, z2⟩ hno⟩
  exact ⟨L.length + 1, loop L.length (L.length + 1) 0 (by omega) (by omega) (fun i q hi => by omega)⟩
theorem m_find {S : Mem} {L : List PR} {a0 a1 : Int32} {w : Nat} (hL : L.length ≤ 613) (h8 : S 53 8 = nI L.length) (h : ∀ i r, L[i]? = some r → PMr S i r) (hw : w ≤ 5) {K : Int32 → Mem → Prop} (k1 : ∀ k r, L[k]? = some r → Hit a0 a1 r → (∀ i q, i < k → L[i]? = some q → ¬ Hit a0 a1 q) → K (prR k r w) S) (k0 : (∀ (i : Nat) q, L[i]? = some q → ¬ Hit a0 a1 q) → K (-1000004) S) : ∃ n, B_X7_passOf_46 K n S a0 a1 (nI w) 0 := by
  have loop : ∀ m f j, j + m = L.length → m < f → (∀ i q, i < j → L[i]? = some q → ¬ Hit a0 a1 q) → B_X7_passOf_46 K f S a0 a1 (nI w) (nI j) := by
    intro m
    induction m with
    | zero =>
      intro f j hj hf hno
      match f, hf with
      | f + 1, _ =>
        unfold B_X7_passOf_46
        rw [h8]
        exact ⟨fun _ => k0 (fun i q hq => hno i q (by have := (List.getElem?_eq_some_iff.mp hq).1; omega) hq), fun z => absurd ((nI_leI (by omega) (by omega)).mpr (by omega)) z⟩
    | succ m ih =>
      intro f j hj hf hno
      match f, hf with
      | f + 1, hf =>
        have hjl : j < L.length := by omega
        have hx : L[j]? = some (L[j]'hjl) := List.getElem?_eq_getElem hjl
        obtain ⟨x, hxe⟩ : ∃ x, L[j]'hjl = x := ⟨_, rfl⟩
        rw [hxe] at hx
        have hp := h j x hx
        have next : ¬ Hit a0 a1 x → B_X7_passOf_46 K f S a0 a1 (nI w) (nI j + 1) := fun hn => by
          rw [nI_1]
          refine ih f (j + 1) (by omega) (by omega) (fun i q hi hq => ?_)
          by_cases e : i = j
          · subst e; rw [hx] at hq; cases hq; exact hn
          · exact hno i q (by omega) hq
        unfold B_X7_passOf_46
        rw [h8, mul7, show nI (7 * j) + (1 : Int32) = nI (7 * j + 1) from nI_add _ 1, clampN (by omega), clampN (by omega), hp.1, hp.2.1]
        refine ⟨fun z => absurd ((nI_leI (by omega) (by omega)).mp z) (by omega), fun _ => ⟨vin (by omega) (by omega), fun z => next (fun c => z c.1), fun z => ⟨vin (by omega) (by omega), fun z2 => next (fun c => z2 c.2), fun z2 => ?_⟩⟩⟩
        unfold B_X7_passOf_85
        rw [mul7, show nI (7 * j) + (2 : Int32) = nI (7 * j + 2) from nI_add _ 2, nI_add, clampN (by omega)]
        refine ⟨fun z3 => ?_, fun z3 => ?_⟩
        · have hw4 : w ≤ 4 := by
            rcases Nat.lt_or_ge w 5 with c | c
            · omega
            · exact absurd (by rw [show w = 5 by omega]; rfl) z3
          rw [hp.col hw4]
          exact ⟨vin (by omega) (by omega), k1 j x hx ⟨z, z2⟩ hno⟩
        · have hw5 : w = 5 := (nI_eq (b := 5) (by omega) (by omega)).mp z3
          subst hw5
          exact k1 j x hx ⟨z, z2⟩ hno
  exact ⟨L.length + 1, loop L.length (L.length + 1) 0 (by omega) (by omega) (fun i q hi => by omega)⟩
theorem s_passOf : ∀ (S : Mem) (a0 a1 a2 : Int32), Inv S → P_X6_passOf S a0 a1 a2 (fun r1 S1 => P_X7_passOf S1 a0 a1 a2 (fun r2 S2 => r1 = r2 ∧ Inv S2)) := by
  rintro S a0 a1 a2 ⟨st, hC, hM⟩
  have ha := hC.1.1
  obtain ⟨hnP, -, -⟩ := nn_bounds ha
  have hi : Inv S := ⟨st, hC, hM⟩
  by_cases c0 : 0 ≤ a0 ∧ a0 ≤ 15
  · by_cases c1 : 0 ≤ a1 ∧ a1 ≤ 65535
    · by_cases c2 : 0 ≤ a2 ∧ a2 ≤ 5
      · obtain ⟨w, hw, rfl⟩ := le_nI (n := 5) c2.1 c2.2 (by omega)
        refine c_in (fun _ => ⟨fun z => absurd rfl z, fun _ => c_in (fun _ => ⟨fun z => absurd rfl z, fun _ => c_in (fun _ => ⟨fun _ => ?_, fun z => absurd rfl z⟩) (fun c => absurd c2 c)⟩) (fun c => absurd c1 c)⟩) (fun c => absurd c0 c)
        refine c_passesNow hC (fun S1 f1 g1 r1 => ⟨rfl, ?_⟩)
        obtain ⟨r34, -, -, -, -⟩ := r1
        have r34 : TW S1 34 ((rn st).1.mapIdx prR) := r34
        have hl : (rn st).1.length = nP (rn st) := rfl
        have ref : ∀ r : Int32, (∀ k q, (rn st).1[k]? = some q → Hit a0 a1 q → (∀ i q, i < k → (rn st).1[i]? = some q → ¬ Hit a0 a1 q) → r = prR k q w) → ((∀ (i : Nat) q, (rn st).1[i]? = some q → ¬ Hit a0 a1 q) → r = -1000004) → P_X7_passOf S1 a0 a1 (nI w) (fun r2 S2 => r = r2 ∧ Inv S2) := by
          intro r h1 h2
          refine m_in 0 15 rfl rfl (fun _ => ⟨fun z => absurd z (by decide), fun _ => m_in 0 65535 rfl rfl (fun _ => ⟨fun z => absurd z (by decide), fun _ => m_in 0 5 rfl rfl (fun _ => ⟨fun _ => m_runNow (hM.frC f1) (fun S2 f2 g2 q2 => ?_), fun z => absurd z (by decide)⟩) (fun c => absurd c2 c)⟩) (fun c => absurd c1 c)⟩) (fun c => absurd c0 c)
          exact m_find (L := (rn st).1) (by omega) q2.2.1 q2.1.1 hw (fun k q a b c => ⟨h1 k q a b c, mI g1 f2 g2⟩) (fun c => ⟨h2 c, mI g1 f2 g2⟩)
        refine c_find r34 (fun k q hk hq hno => ⟨fun _ => ?_, fun z => absurd (nI_pos' (by have := (List.getElem?_eq_some_iff.mp hk).1; omega)) z⟩) (fun hno => ⟨fun z => absurd z (by decide), fun _ => ref _ (fun k q hk hq _ => absurd hq (hno k q hk)) (fun _ => rfl)⟩)
        have hkl := (List.getElem?_eq_some_iff.mp hk).1
        refine t_at t34.1 r34 (by omega) (by rw [t34.2.1]; omega) ?_
        rw [mapIdx_get _ k hk]
        refine ref _ (fun k' q' hk' hq' hno' => ?_) (fun hn => absurd hq (hn k q hk))
        rcases Nat.lt_trichotomy k k' with c | c | c
        · exact absurd hq (hno' k q c hk)
        · subst c; rw [hk] at hk'; cases hk'; rfl
        · exact absurd hq' (hno k' q' c hk')
      · refine c_in (fun _ => ⟨fun z => absurd rfl z, fun _ => c_in (fun _ => ⟨fun z => absurd rfl z, fun _ => c_in (fun c => absurd c c2) (fun _ => ⟨fun z => absurd z (by decide), fun _ => ?_⟩)⟩) (fun c => absurd c1 c)⟩) (fun c => absurd c0 c)
        exact m_in 0 15 rfl rfl (fun _ => ⟨fun z => absurd z (by decide), fun _ => m_in 0 65535 rfl rfl (fun _ => ⟨fun z => absurd z (by decide), fun _ => m_in 0 5 rfl rfl (fun c => absurd c c2) (fun _ => ⟨fun z => absurd rfl z, fun _ => ⟨rfl, hi⟩⟩)⟩) (fun c => absurd c1 c)⟩) (fun c => absurd c0 c)
    · refine c_in (fun _ => ⟨fun z => absurd rfl z, fun _ => c_in (fun c => absurd c c1) (fun _ => ⟨fun _ => ?_, fun z => absurd z (by decide)⟩)⟩) (fun c => absurd c0 c)
      exact m_in 0 15 rfl rfl (fun _ => ⟨fun z => absurd z (by decide), fun _ => m_in 0 65535 rfl rfl (fun c => absurd c c1) (fun _ => ⟨fun _ => ⟨rfl, hi⟩, fun z => absurd rfl z⟩)⟩) (fun c => absurd c0 c)
  · refine c_in (fun c => absurd c c0) (fun _ => ⟨fun _ => ?_, fun z => absurd z (by decide)⟩)
    exact m_in 0 15 rfl rfl (fun c => absurd c c0) (fun _ => ⟨fun _ => ⟨rfl, hi⟩, fun z => absurd rfl z⟩)
/-! sums over the passes -/
def sumI (f : PR → Int32) (L : List PR) : Int32 := L.foldl (fun s r => s + f r) 0
def maxI (f : PR → Int32) (L : List PR) : Int32 := L.foldl (fun s r => if s < f r then f r else s) 0
theorem fold_mapIdx {c : Nat} {g : PR → Int32} (op : Int32 → Int32 → Int32) : ∀ (L : List PR) (f : Nat → PR → Row) (s0 : Int32), (∀ i r, f i r c = g r) → (L.mapIdx f).foldl (fun s r => op s (r c)) s0 = L.foldl (fun s r => op s (g r)) s0
  | [], _, _, _ => rfl
  | x :: L, f, s0, h => by
    rw [List.mapIdx_cons, List.foldl_cons, List.foldl_cons, h, fold_mapIdx op L _ _ (fun i r => h (i + 1) r)]
theorem sumC_I (L : List PR) {c : Nat} {g : PR → Int32} (h : ∀ i r, prR i r c = g r) : sumC (L.mapIdx prR) c = sumI g L := fold_mapIdx (fun a b => a + b) L prR 0 h
theorem maxC_I (L : List PR) {c : Nat} {g : PR → Int32} (h : ∀ i r, prR i r c = g r) : maxC (L.mapIdx prR) c = maxI g L := fold_mapIdx (fun a b => if a < b then b else a) L prR 0 h
theorem m_written {S : Mem} {L : List PR} (hL : L.length ≤ 613) (h8 : S 53 8 = nI L.length) (h : ∀ i r, L[i]? = some r → PMr S i r) {K : Int32 → Mem → Prop} (k : K (sumI (fun r => nI r.2.2.2.2.2.1) L) S) : P_X7_writtenInAll S K := by
  have loop : ∀ m f j, j + m = L.length → m < f → B_X7_writtenInAll_4 K f S (sumI (fun r => nI r.2.2.2.2.2.1) (L.take j)) (nI j) := by
    intro m
    induction m with
    | zero =>
      intro f j hj hf
      match f, hf with
      | f + 1, _ =>
        unfold B_X7_writtenInAll_4
        rw [h8, List.take_of_length_le (by omega)]
        exact ⟨fun _ => k, fun z => absurd ((nI_leI (by omega) (by omega)).mpr (by omega)) z⟩
    | succ m ih =>
      intro f j hj hf
      match f, hf with
      | f + 1, hf =>
        have hjl : j < L.length := by omega
        have hx : L[j]? = some (L[j]'hjl) := List.getElem?_eq_getElem hjl
        have e2 : sumI (fun r => nI r.2.2.2.2.2.1) (L.take (j + 1)) = sumI (fun r => nI r.2.2.2.2.2.1) (L.take j) + nI (L[j]'hjl).2.2.2.2.2.1 := by
          unfold sumI
          rw [List.take_succ_eq_append_getElem hjl, List.foldl_append]; rfl
        unfold B_X7_writtenInAll_4
        rw [h8, mul7, show nI (7 * j) + (5 : Int32) = nI (7 * j + 5) from nI_add _ 5, clampN (by omega), (h j _ hx).2.2.2.2.2.1, nI_1, ← e2]
        exact ⟨fun z => absurd ((nI_leI (by omega) (by omega)).mp z) (by omega), fun _ => ⟨vin (by omega) (by omega), ih f (j + 1) (by omega) (by omega)⟩⟩
  exact ⟨L.length + 1, loop L.length (L.length + 1) 0 (by omega) (by omega)⟩
theorem c_itemsFiled {S : Mem} {L : List PR} (h : TW S 34 (L.mapIdx prR)) {K : Int32 → Mem → Prop} (k : K (sumI (fun r => nI r.2.2.2.2.2.1) L) S) : P_X2_itemsFiled S K := by
  refine t_sum (c := 3) t34.1 h (by rw [t34.2.1]; omega) ?_
  rw [sumC_I L (g := fun r => nI r.2.2.2.2.2.1) (fun i r => rfl)]
  exact k
def wrI (a : AS) (lim b : Nat) : Int32 := sumI (fun r => nI r.2.2.2.2.2.1) (runT a lim b).1
theorem c_wr {S : Mem} {a : AS} {lim b : Nat} (h : RunIs S a lim b) {K : Int32 → Mem → Prop} (k : K (wrI a lim b) S) : P_X2_itemsFiled S K := c_itemsFiled h.1 k
theorem m_wr {S : Mem} {a : AS} (ha : okS a) {lim b : Nat} (hlim : 1 ≤ lim) (hb : 1 ≤ b ∧ b ≤ 4) (h : MRun S a lim b) {K : Int32 → Mem → Prop} (k : K (wrI a lim b) S) : P_X7_writtenInAll S K := m_written (run_bounds ha hlim hb).1 h.2.1 h.1.1 k
theorem s_written : ∀ (S : Mem) (a0 a1 : Int32), Inv S → P_X6_written S a0 a1 (fun r1 S1 => P_X7_written S1 a0 a1 (fun r2 S2 => r1 = r2 ∧ Inv S2)) := by
  rintro S a0 a1 ⟨st, hC, hM⟩
  have ha := hC.1.1
  have hi : Inv S := ⟨st, hC, hM⟩
  by_cases c0 : 1 ≤ a0 ∧ a0 ≤ 12
  · by_cases c1 : 1 ≤ a1 ∧ a1 ≤ 4
    · obtain ⟨lim, hl, rfl⟩ := le_nI (n := 12) (Int32.le_trans (by decide) c0.1) c0.2 (by omega)
      obtain ⟨b, hb, rfl⟩ := le_nI (n := 4) (Int32.le_trans (by decide) c1.1) c1.2 (by omega)
      have hl1 := (nI_leI (a := 1) (by omega) (by omega)).mp c0.1
      have hb1 := (nI_leI (a := 1) (by omega) (by omega)).mp c1.1
      refine c_in (fun _ => ⟨fun z => absurd rfl z, fun _ => c_in (fun _ => ⟨fun _ => c_passesBy hC ⟨hl1, hl⟩ ⟨hb1, hb⟩ (fun S1 f1 g1 r1 => ⟨rfl, c_wr r1 ?_⟩), fun z => absurd rfl z⟩) (fun c => absurd c1 c)⟩) (fun c => absurd c0 c)
      exact m_in 1 12 rfl rfl (fun _ => ⟨fun z => absurd z (by decide), fun _ => m_in 1 4 rfl rfl (fun _ => ⟨fun z => absurd z (by decide), fun _ => m_run (hM.frC f1) ⟨hl1, hl⟩ ⟨hb1, hb⟩ (fun S2 f2 g2 q2 => m_wr ha hl1 ⟨hb1, hb⟩ q2 ⟨rfl, mI g1 f2 g2⟩)⟩) (fun c => absurd c1 c)⟩) (fun c => absurd c0 c)
    · refine c_in (fun _ => ⟨fun z => absurd rfl z, fun _ => c_in (fun c => absurd c c1) (fun _ => ⟨fun z => absurd z (by decide), fun _ => ?_⟩)⟩) (fun c => absurd c0 c)
      exact m_in 1 12 rfl rfl (fun _ => ⟨fun z => absurd z (by decide), fun _ => m_in 1 4 rfl rfl (fun c => absurd c c1) (fun _ => ⟨fun _ => ⟨rfl, hi⟩, fun z => absurd rfl z⟩)⟩) (fun c => absurd c0 c)
  · refine c_in (fun c => absurd c c0) (fun _ => ⟨fun _ => ?_, fun z => absurd z (by decide)⟩)
    exact m_in 1 12 rfl rfl (fun c => absurd c c0) (fun _ => ⟨fun _ => ⟨rfl, hi⟩, fun z => absurd rfl z⟩)
