/-! skewed -/
def bf (f : Nat → Nat) (j : Nat) : Nat := (List.range j).foldl (fun best p => if f best < f p then p else best) 0
theorem bf_succ (f : Nat → Nat) (j : Nat) : bf f (j + 1) = if f (bf f j) < f j then j else bf f j := by unfold bf; rw [List.range_succ, List.foldl_append]; rfl
theorem bf_lt (f : Nat → Nat) : ∀ j, 1 ≤ j → bf f j < j
  | 0, h => by omega
  | 1, _ => by rw [bf_succ]; split <;> (show 0 < 1; omega)
  | j + 2, _ => by
    have := bf_lt f (j + 1) (by omega)
    rw [bf_succ]
    split <;> omega
def rwF (a : AS) (p : Nat) : Nat := cntP (hsh a.2.2.2) a.2.2.1 0 (keysR a) p
def grF (a : AS) (p : Nat) : Nat := cntP (hsh a.2.2.2) a.2.2.1 0 (ksOf a) p
theorem cnt_snoc (h : Nat → Nat) (b l : Nat) (L : List Nat) (k p : Nat) : cntP h b l (L ++ [k]) p = cntP h b l L p + (if prt h b l k = p then 1 else 0) := by
  unfold cntP
  rw [List.filter_append, List.length_append]
  by_cases e : prt h b l k = p <;> simp [e]
theorem keys_pre {a : AS} {j : Nat} {r : Nat × Int32} (h : a.1[j]? = some r) : keysR (pre a (j + 1)) = keysR (pre a j) ++ [r.1] := by
  unfold keysR
  rw [pre_succ h, List.map_append]; rfl
theorem c_rowsIn {S : Mem} {a : AS} (ha : okS a) (h : StR S 1 a) {p : Nat} (hp : p < 16) {K : Int32 → Mem → Prop} (k : K (nI (rwF a p)) S) : P_X6_rowsInPart S (nI p) K := by
  have h100 := ha.1
  have h16 := pow_b ha.2.2.2.1
  have loop : ∀ m f j, j + m = a.1.length → m < f → B_X6_rowsInPart_4 K f S (nI p) (nI (cntP (hsh a.2.2.2) a.2.2.1 0 (keysR (pre a j)) p)) (nI j) := by
    intro m
    induction m with
    | zero =>
      intro f j hj hf
      match f, hf with
      | f + 1, _ =>
        have ej : j = a.1.length := by omega
        subst ej
        rw [pre_all]
        refine t_length h.1 ?_
        rw [List.length_map]
        exact ⟨fun _ => k, fun z => absurd ((nI_leI (by omega) (by omega)).mpr (Nat.le_refl _)) z⟩
    | succ m ih =>
      intro f j hj hf
      match f, hf with
      | f + 1, hf =>
        have hjl : j < a.1.length := by omega
        have hx : a.1[j]? = some (a.1[j]'hjl) := List.getElem?_eq_getElem hjl
        obtain ⟨x, hxe⟩ : ∃ x, a.1[j]'hjl = x := ⟨_, rfl⟩
        rw [hxe] at hx
        have hpl := prt_lt (hsh a.2.2.2) a.2.2.1 0 x.1
        have nx := ih f (j + 1) (by omega) (by omega)
        rw [keys_pre hx, cnt_snoc] at nx
        refine t_length h.1 ?_
        rw [List.length_map]
        refine ⟨fun z => absurd ((nI_leI (by omega) (by omega)).mp z) (by omega), fun _ => c_hashOf (by decide) ha h hx (c_firstPart ha h ⟨fun z => ?_, fun z => ?_⟩)⟩
        · rw [if_neg (fun c => z (by rw [c]))] at nx
          show B_X6_rowsInPart_4 K f S (nI p) _ (nI j + 1)
          rw [nI_1]; exact nx
        · rw [if_pos ((nI_eq (by omega) (by omega)).mp z)] at nx
          show B_X6_rowsInPart_4 K f S (nI p) (_ + 1) (nI j + 1)
          rw [nI_1, nI_1]; exact nx
  exact ⟨a.1.length + 1, loop a.1.length (a.1.length + 1) 0 (by omega) (by omega)⟩
theorem m_rowsIn {S : Mem} {a : AS} (ha : okS a) (h : AllIs (S 54) a) {p : Nat} (hp : p < 16) {K : Int32 → Mem → Prop} (k : K (nI (rwF a p)) S) : P_X7_rowsIn S (nI p) K := by
  have h100 := ha.1
  have h16 := pow_b ha.2.2.2.1
  have hb := ha.2.2.2.1
  have loop : ∀ m f j, j + m = a.1.length → m < f → B_X7_rowsIn_4 K f S (nI p) (nI (cntP (hsh a.2.2.2) a.2.2.1 0 (keysR (pre a j)) p)) (nI j) := by
    intro m
    induction m with
    | zero =>
      intro f j hj hf
      match f, hf with
      | f + 1, _ =>
        have ej : j = a.1.length := by omega
        subst ej
        rw [pre_all]
        refine ⟨vin (n := 0) (by omega) (by omega), ?_⟩
        rw [cl0, h.1]
        exact ⟨fun _ => k, fun z => absurd ((nI_leI (by omega) (by omega)).mpr (Nat.le_refl _)) z⟩
    | succ m ih =>
      intro f j hj hf
      match f, hf with
      | f + 1, hf =>
        have hjl : j < a.1.length := by omega
        have hx : a.1[j]? = some (a.1[j]'hjl) := List.getElem?_eq_getElem hjl
        obtain ⟨x, hxe⟩ : ∃ x, a.1[j]'hjl = x := ⟨_, rfl⟩
        rw [hxe] at hx
        have hpl := prt_lt (hsh a.2.2.2) a.2.2.1 0 x.1
        have nx := ih f (j + 1) (by omega) (by omega)
        rw [keys_pre hx, cnt_snoc] at nx
        refine ⟨vin (n := 0) (by omega) (by omega), ?_⟩
        rw [cl0, h.1]
        refine ⟨fun z => absurd ((nI_leI (by omega) (by omega)).mp z) (by omega), fun _ => ?_⟩
        rw [show (4 : Int32) + nI j = nI (4 + j) from nI_add 4 j, clampN (by omega), cl2, (h.2.2.2.2 j x hx).1, h.2.2.1]
        refine ⟨vin (by omega) (by omega), vin (n := 2) (by omega) (by omega), m_part (l := 0) ha h (ha.2.1 x (List.mem_of_getElem? hx)) hb.1 hb.2 (by omega) ⟨fun z => ?_, fun z => ?_⟩⟩
        · rw [if_neg (fun c => z (by rw [c]))] at nx
          show B_X7_rowsIn_4 K f S (nI p) (_ + 0) (nI j + 1)
          rw [nI_1, Int32.add_zero]; exact nx
        · rw [if_pos ((nI_eq (by omega) (by omega)).mp z)] at nx
          show B_X7_rowsIn_4 K f S (nI p) (_ + 1) (nI j + 1)
          rw [nI_1, nI_1]; exact nx
  exact ⟨a.1.length + 1, loop a.1.length (a.1.length + 1) 0 (by omega) (by omega)⟩
theorem cnt_addK (h : Nat → Nat) (b l : Nat) (L : List Nat) (k p : Nat) : cntP h b l (addK L k) p = cntP h b l L p + (if k ∈ L then 0 else if prt h b l k = p then 1 else 0) := by
  unfold addK
  split
  · rfl
  · rw [cnt_insK]
theorem m_groupsIn {S : Mem} {a : AS} (ha : okS a) (h : AllIs (S 54) a) {p : Nat} (hp : p < 16) {K : Int32 → Mem → Prop} (k : K (nI (grF a p)) S) : P_X7_groupsIn S (nI p) K := by
  have h100 := ha.1
  have h16 := pow_b ha.2.2.2.1
  have hb := ha.2.2.2.1
  have loop : ∀ m f j, j + m = a.1.length → m < f → B_X7_groupsIn_4 K f S (nI p) (nI (cntP (hsh a.2.2.2) a.2.2.1 0 (ksOf (pre a j)) p)) (nI j) := by
    intro m
    induction m with
    | zero =>
      intro f j hj hf
      match f, hf with
      | f + 1, _ =>
        have ej : j = a.1.length := by omega
        subst ej
        rw [pre_all]
        refine ⟨vin (n := 0) (by omega) (by omega), ?_⟩
        rw [cl0, h.1]
        exact ⟨fun _ => k, fun z => absurd ((nI_leI (by omega) (by omega)).mpr (Nat.le_refl _)) z⟩
    | succ m ih =>
      intro f j hj hf
      match f, hf with
      | f + 1, hf =>
        have hjl : j < a.1.length := by omega
        have hx : a.1[j]? = some (a.1[j]'hjl) := List.getElem?_eq_getElem hjl
        obtain ⟨x, hxe⟩ : ∃ x, a.1[j]'hjl = x := ⟨_, rfl⟩
        rw [hxe] at hx
        have hpl := prt_lt (hsh a.2.2.2) a.2.2.1 0 x.1
        have nx := ih f (j + 1) (by omega) (by omega)
        rw [ksOf_pre hx, cnt_addK] at nx
        refine ⟨vin (n := 0) (by omega) (by omega), ?_⟩
        rw [cl0, h.1]
        refine ⟨fun z => absurd ((nI_leI (by omega) (by omega)).mp z) (by omega), fun _ => ?_⟩
        rw [show (4 : Int32) + nI j = nI (4 + j) from nI_add 4 j, clampN (by omega), cl2, (h.2.2.2.2 j x hx).1, h.2.2.1]
        refine ⟨vin (by omega) (by omega), vin (n := 2) (by omega) (by omega), m_part (l := 0) ha h (ha.2.1 x (List.mem_of_getElem? hx)) hb.1 hb.2 (by omega) ⟨fun z => ?_, fun z => m_isFirst ha h hx ⟨fun z2 => ?_, fun z2 => ?_⟩⟩⟩
        · have hne : ¬ prt (hsh a.2.2.2) a.2.2.1 0 x.1 = p := fun c => z (by rw [c])
          rw [if_neg hne, ite_self] at nx
          show B_X7_groupsIn_4 K f S (nI p) (_ + 0) (nI j + 1)
          rw [nI_1, Int32.add_zero]; exact nx
        · have hm : x.1 ∈ ksOf (pre a j) := by
            by_cases c : x.1 ∈ ksOf (pre a j)
            · exact c
            · rw [if_neg c] at z2; exact absurd z2 (by decide)
          rw [if_pos hm] at nx
          show B_X7_groupsIn_4 K f S (nI p) (_ + 0) (nI j + 1)
          rw [nI_1, Int32.add_zero]; exact nx
        · have hm : x.1 ∉ ksOf (pre a j) := fun c => z2 (by rw [if_pos c])
          rw [if_neg hm, if_pos ((nI_eq (by omega) (by omega)).mp z)] at nx
          show B_X7_groupsIn_4 K f S (nI p) (_ + 1) (nI j + 1)
          rw [nI_1, nI_1]; exact nx
  exact ⟨a.1.length + 1, loop a.1.length (a.1.length + 1) 0 (by omega) (by omega)⟩
theorem c_groupsIn {S : Mem} {st : AT} (h : CI S st) {p : Nat} (hp : p < 16) {K : Int32 → Mem → Prop} (kk : ∀ S', FrC S S' → CI S' st → K (nI (grF st.1 p)) S') : P_X6_groupsInPart S (nI p) K := by
  have ha := h.1.1
  have hk100 := ksOf_len ha
  have h16 := pow_b ha.2.2.2.1
  refine c_groupsNow h (fun S1 f1 g1 => ⟨rfl, (ksOf st.1).length + 1, ?_⟩)
  have hT := g1.2.2.1.1
  have loop : ∀ m f j, j + m = (ksOf st.1).length → m < f → B_X6_groupsInPart_13 K f S1 (nI p) (nI (cntP (hsh st.1.2.2.2) st.1.2.2.1 0 ((ksOf st.1).take j) p)) (nI j) := by
    intro m
    induction m with
    | zero =>
      intro f j hj hf
      match f, hf with
      | f + 1, _ =>
        rw [List.take_of_length_le (by omega)]
        refine t_length hT ?_
        rw [List.length_map]
        exact ⟨fun _ => kk S1 f1 g1.1, fun z => absurd ((nI_leI (by omega) (by omega)).mpr (by omega)) z⟩
    | succ m ih =>
      intro f j hj hf
      match f, hf with
      | f + 1, hf =>
        have hjl : j < (ksOf st.1).length := by omega
        have hx : (ksOf st.1)[j]? = some ((ksOf st.1)[j]'hjl) := List.getElem?_eq_getElem hjl
        have e2 : (ksOf st.1).take (j + 1) = (ksOf st.1).take j ++ [(ksOf st.1)[j]'hjl] := List.take_succ_eq_append_getElem hjl
        obtain ⟨x, hxe⟩ : ∃ x, (ksOf st.1)[j]'hjl = x := ⟨_, rfl⟩
        rw [hxe] at hx e2
        have hpl := prt_lt (hsh st.1.2.2.2) st.1.2.2.1 0 x
        have nx := ih f (j + 1) (by omega) (by omega)
        rw [e2, cnt_snoc] at nx
        refine t_length hT ?_
        rw [List.length_map]
        refine ⟨fun z => absurd ((nI_leI (by omega) (by omega)).mp z) (by omega), fun _ => t_at (c := 5) t29.1 hT (by omega) (by rw [t29.2.1]; omega) ?_⟩
        rw [getD_mapN hx]
        refine c_firstPart (k0 := x) ha g1.1.2.2.1 ⟨fun z => ?_, fun z => ?_⟩
        · rw [if_neg (fun c => z (by rw [c]))] at nx
          show B_X6_groupsInPart_13 K f S1 (nI p) _ (nI j + 1)
          rw [nI_1]; exact nx
        · rw [if_pos ((nI_eq (by omega) (by omega)).mp z)] at nx
          show B_X6_groupsInPart_13 K f S1 (nI p) (_ + 1) (nI j + 1)
          rw [nI_1, nI_1]; exact nx
  exact loop (ksOf st.1).length ((ksOf st.1).length + 1) 0 (by omega) (by omega)
theorem rwF_le (a : AS) (ha : okS a) (p : Nat) : rwF a p ≤ 100 := by
  have := cnt_le (hsh a.2.2.2) a.2.2.1 0 (keysR a) p
  rw [keysR_len] at this
  exact Nat.le_trans this ha.1
theorem s_skewed : ∀ (S : Mem) (a0 : Int32), Inv S → P_X6_skewed S a0 (fun r1 S1 => P_X7_skewed S1 a0 (fun r2 S2 => r1 = r2 ∧ Inv S2)) := by
  rintro S a0 ⟨st, hC, hM⟩
  have ha := hC.1.1
  have h100 := ha.1
  have hi : Inv S := ⟨st, hC, hM⟩
  have h16 := pow_b ha.2.2.2.1
  have hA := hM.2.1
  obtain ⟨B, hB⟩ : ∃ B, bf (rwF st.1) (2 ^ st.1.2.2.1) = B := ⟨_, rfl⟩
  have hBl : B < 2 ^ st.1.2.2.1 := by rw [← hB]; exact bf_lt _ _ (by omega)
  by_cases c0 : 0 ≤ a0 ∧ a0 ≤ 2
  · have ref : ∀ (r : Int32) (S' : Mem), FrC S S' → CI S' st → (st.1.1.length = 0 → r = -1000004) → (st.1.1.length ≠ 0 → r = if a0 = 0 then nI B else if a0 = 1 then nI (rwF st.1 B) else nI (grF st.1 B)) → P_X7_skewed S' a0 (fun r2 S2 => r = r2 ∧ Inv S2) := by
      intro r S' f' g' h1 h2
      have hM' := hM.frC f'
      have hA' := hM'.2.1
      have gi : Inv S' := ⟨st, g', hM'⟩
      refine m_in 0 2 rfl rfl (fun _ => ⟨fun _ => ⟨vin (n := 0) (by omega) (by omega), ?_⟩, fun z => absurd z (by decide)⟩) (fun c => absurd c0 c)
      rw [cl0, hA'.1]
      refine ⟨fun z => ⟨2 ^ st.1.2.2.1, ?_⟩, fun z => ⟨h1 ((nI_eq (b := 0) (by omega) (by omega)).mp z), gi⟩⟩
      have hne : st.1.1.length ≠ 0 := fun c => z (by rw [c]; rfl)
      have h2 := h2 hne
      have fin : B_X7_skewed_68 (fun r2 S2 => r = r2 ∧ Inv S2) S' a0 (nI B) := by
        refine ⟨fun q0 => ⟨fun q1 => m_groupsIn ha hA' (by omega) ⟨by rw [h2, if_neg q0, if_neg q1], gi⟩, fun q1 => m_rowsIn ha hA' (by omega) ⟨by rw [h2, if_neg q0, if_pos q1], gi⟩⟩, fun q0 => ⟨by rw [h2, if_pos q0], gi⟩⟩
      have loop : ∀ m f j, j + m = 2 ^ st.1.2.2.1 → 1 ≤ j → m < f → B_X7_skewed_31 (fun r2 S2 => r = r2 ∧ Inv S2) f S' a0 (nI (bf (rwF st.1) j)) (nI j) := by
        intro m
        induction m with
        | zero =>
          intro f j hj hj1 hf
          match f, hf with
          | f + 1, _ =>
            have ej : j = 2 ^ st.1.2.2.1 := by omega
            rw [ej, hB]
            refine ⟨vin (n := 2) (by omega) (by omega), ?_⟩
            rw [cl2, hA'.2.2.1, shl1 (by have := ha.2.2.2.1; omega)]
            exact ⟨fun _ => fin, fun z => absurd ((nI_leI (by omega) (by omega)).mpr (Nat.le_refl _)) z⟩
        | succ m ih =>
          intro f j hj hj1 hf
          match f, hf with
          | f + 1, hf =>
            have nx := ih f (j + 1) (by omega) (by omega) (by omega)
            rw [bf_succ, ← nI_1] at nx
            have hbj := bf_lt (rwF st.1) j hj1
            have l1 := rwF_le st.1 ha j
            have l2 := rwF_le st.1 ha (bf (rwF st.1) j)
            refine ⟨vin (n := 2) (by omega) (by omega), ?_⟩
            rw [cl2, hA'.2.2.1, shl1 (by have := ha.2.2.2.1; omega)]
            refine ⟨fun z => absurd ((nI_leI (by omega) (by omega)).mp z) (by omega), fun _ => m_rowsIn ha hA' (by omega) (m_rowsIn ha hA' (by omega) ⟨fun z => ?_, fun z => ?_⟩)⟩
            · have := (nI_leI (by omega) (by omega)).mp z
              rw [if_neg (by omega)] at nx
              exact nx
            · have : ¬ rwF st.1 j ≤ rwF st.1 (bf (rwF st.1) j) := fun c => z ((nI_leI (by omega) (by omega)).mpr c)
              rw [if_pos (by omega)] at nx
              exact nx
      have := loop (2 ^ st.1.2.2.1 - 1) (2 ^ st.1.2.2.1) 1 (by omega) (by omega) (by omega)
      have e0 : bf (rwF st.1) 1 = 0 := by rw [bf_succ]; split <;> rfl
      rw [e0] at this
      exact this
    refine c_in (fun _ => ⟨fun _ => t_length hC.2.2.1.1 ?_, fun z => absurd rfl z⟩) (fun c => absurd c0 c)
    rw [List.length_map]
    refine ⟨fun z => ⟨2 ^ st.1.2.2.1 + 1, ?_⟩, fun z => ref _ S (FrC.rf S) hC (fun _ => rfl) (fun c => absurd ((nI_eq (b := 0) (by omega) (by omega)).mp z) c)⟩
    have hne : ¬ st.1.1.length = 0 := fun c => z (by rw [c]; rfl)
    have fin : B_X6_skewed_76 (fun r1 S1 => P_X7_skewed S1 a0 (fun r2 S2 => r1 = r2 ∧ Inv S2)) S a0 (nI B) (nI (rwF st.1 B)) := by
      refine ⟨fun q0 => ⟨fun q1 => c_groupsIn hC (by omega) (fun S' f' g' => ref _ S' f' g' (fun c => absurd c hne) (fun _ => by rw [if_neg q0, if_neg q1])), fun q1 => ref _ S (FrC.rf S) hC (fun c => absurd c hne) (fun _ => by rw [if_neg q0, if_pos q1])⟩, fun q0 => ref _ S (FrC.rf S) hC (fun c => absurd c hne) (fun _ => by rw [if_pos q0])⟩
    have loop : ∀ m f j, j + m = 2 ^ st.1.2.2.1 → 1 ≤ j → m < f → B_X6_skewed_35 (fun r1 S1 => P_X7_skewed S1 a0 (fun r2 S2 => r1 = r2 ∧ Inv S2)) f S a0 (nI (bf (rwF st.1) j)) (nI (rwF st.1 (bf (rwF st.1) j))) (nI j) := by
      intro m
      induction m with
      | zero =>
        intro f j hj hj1 hf
        match f, hf with
        | f + 1, _ =>
          have ej : j = 2 ^ st.1.2.2.1 := by omega
          rw [ej, hB]
          refine c_setting (s := 1) (w := 1) (by decide) hC.2.2.1 (by omega) ?_
          show (_ <<< (nI st.1.2.2.1 &&& 31) ≤ _ → _) ∧ (¬ _ <<< (nI st.1.2.2.1 &&& 31) ≤ _ → _)
          rw [shl1 (by have := ha.2.2.2.1; omega)]
          exact ⟨fun _ => fin, fun z => absurd ((nI_leI (by omega) (by omega)).mpr (Nat.le_refl _)) z⟩
      | succ m ih =>
        intro f j hj hj1 hf
        match f, hf with
        | f + 1, hf =>
          have nx := ih f (j + 1) (by omega) (by omega) (by omega)
          rw [bf_succ, ← nI_1] at nx
          have l1 := rwF_le st.1 ha j
          have l2 := rwF_le st.1 ha (bf (rwF st.1) j)
          refine c_setting (s := 1) (w := 1) (by decide) hC.2.2.1 (by omega) ?_
          show (_ <<< (nI st.1.2.2.1 &&& 31) ≤ _ → _) ∧ (¬ _ <<< (nI st.1.2.2.1 &&& 31) ≤ _ → _)
          rw [shl1 (by have := ha.2.2.2.1; omega)]
          refine ⟨fun z => absurd ((nI_leI (by omega) (by omega)).mp z) (by omega), fun _ => c_rowsIn ha hC.2.2.1 (by omega) ⟨fun z => ?_, fun z => ?_⟩⟩
          · have := (nI_leI (by omega) (by omega)).mp z
            rw [if_neg (by omega)] at nx
            exact nx
          · have : ¬ rwF st.1 j ≤ rwF st.1 (bf (rwF st.1) j) := fun c => z ((nI_leI (by omega) (by omega)).mpr c)
            rw [if_pos (by omega)] at nx
            exact nx
    have h1 := loop (2 ^ st.1.2.2.1 - 1) (2 ^ st.1.2.2.1) 1 (by omega) (by omega) (by omega)
    have e0 : bf (rwF st.1) 1 = 0 := by rw [bf_succ]; split <;> rfl
    rw [e0] at h1
    have l0 := rwF_le st.1 ha 0
    refine c_setting (s := 1) (w := 1) (by decide) hC.2.2.1 (by omega) ?_
    show (_ <<< (nI st.1.2.2.1 &&& 31) ≤ _ → _) ∧ (¬ _ <<< (nI st.1.2.2.1 &&& 31) ≤ _ → _)
    rw [shl1 (by have := ha.2.2.2.1; omega)]
    refine ⟨fun z => absurd ((nI_leI (b := 0) (by omega) (by omega)).mp z) (by omega), fun _ => c_rowsIn (p := 0) ha hC.2.2.1 (by omega) ⟨fun z => ?_, fun z => h1⟩⟩
    have : rwF st.1 0 = 0 := by have := (nI_leI (b := 0) (by omega) (by omega)).mp z; omega
    rw [this] at h1
    exact h1
  · refine c_in (fun c => absurd c c0) (fun _ => ⟨fun z => absurd z (by decide), fun _ => ?_⟩)
    exact m_in 0 2 rfl rfl (fun c => absurd c c0) (fun _ => ⟨fun z => absurd rfl z, fun _ => ⟨rfl, hi⟩⟩)
