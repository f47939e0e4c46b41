/-! sorted lists of keys -/
def Srt (L : List Nat) : Prop := L.Pairwise (· < ·)
def pl (k : Nat) : List Nat → Nat
  | [] => 0
  | x :: L => if x < k then pl k L + 1 else 0
theorem pl_le (k : Nat) : ∀ L : List Nat, pl k L ≤ L.length
  | [] => Nat.le_refl _
  | x :: L => by
    have := pl_le k L
    unfold pl
    split
    · rw [List.length_cons]; omega
    · omega
theorem insK_insertIdx (k : Nat) : ∀ L : List Nat, insK k L = L.insertIdx (pl k L) k
  | [] => rfl
  | x :: L => by
    unfold insK pl
    split
    · rw [insK_insertIdx k L]; rfl
    · rfl
theorem mem_insK {k x : Nat} : ∀ {L : List Nat}, x ∈ insK k L ↔ x = k ∨ x ∈ L
  | [] => by simp [insK]
  | y :: L => by
    unfold insK
    split
    · rw [List.mem_cons, mem_insK, List.mem_cons]
      constructor
      · rintro (h | h | h) <;> simp [h]
      · rintro (h | h | h) <;> simp [h]
    · rw [List.mem_cons]
theorem insK_length (k : Nat) : ∀ L : List Nat, (insK k L).length = L.length + 1
  | [] => rfl
  | y :: L => by
    unfold insK
    split
    · rw [List.length_cons, insK_length k L, List.length_cons]
    · rfl
theorem insK_srt {k : Nat} : ∀ {L : List Nat}, Srt L → k ∉ L → Srt (insK k L)
  | [], _, _ => List.pairwise_singleton _ _
  | y :: L, h, hk => by
    obtain ⟨h1, h2⟩ := List.pairwise_cons.mp h
    have hy : k ≠ y := fun e => hk (by rw [e]; exact List.mem_cons_self)
    unfold insK
    split
    · rename_i hlt
      refine List.pairwise_cons.mpr ⟨fun z hz => ?_, insK_srt h2 (fun m => hk (List.mem_cons_of_mem _ m))⟩
      rcases mem_insK.mp hz with rfl | hz
      · exact hlt
      · exact h1 z hz
    · rename_i hlt
      refine List.pairwise_cons.mpr ⟨fun z hz => ?_, h⟩
      rcases List.mem_cons.mp hz with rfl | hz
      · omega
      · have := h1 z hz; omega
theorem pl_lt {k : Nat} : ∀ {L : List Nat} {j : Nat}, j < pl k L → L.getD j 0 < k
  | [], j, h => by simp [pl] at h
  | x :: L, j, h => by
    unfold pl at h
    split at h
    · rename_i hx
      match j with
      | 0 => exact hx
      | j + 1 => exact pl_lt (L := L) (by omega)
    · omega
theorem pl_ge {k : Nat} : ∀ {L : List Nat} {j : Nat}, Srt L → pl k L ≤ j → j < L.length → k ≤ L.getD j 0
  | [], j, _, _, h => by simp at h
  | x :: L, j, hs, h, hj => by
    obtain ⟨h1, h2⟩ := List.pairwise_cons.mp hs
    unfold pl at h
    split at h
    · match j, h with
      | j + 1, h => exact pl_ge (L := L) h2 (by omega) (by rw [List.length_cons] at hj; omega)
    · rename_i hx
      match j with
      | 0 => show k ≤ x; omega
      | j + 1 =>
        rw [List.length_cons] at hj
        have : L.getD j 0 ∈ L := by rw [List.getD_eq_getElem?_getD, List.getElem?_eq_getElem (by omega)]; exact List.getElem_mem _
        have := h1 _ this
        show k ≤ L.getD j 0
        omega
theorem pl_mem {k : Nat} : ∀ {L : List Nat}, Srt L → k ∈ L → pl k L < L.length ∧ L.getD (pl k L) 0 = k
  | [], _, h => by simp at h
  | x :: L, hs, h => by
    obtain ⟨h1, h2⟩ := List.pairwise_cons.mp hs
    unfold pl
    rcases List.mem_cons.mp h with rfl | h
    · rw [if_neg (Nat.lt_irrefl _)]
      exact ⟨by rw [List.length_cons]; omega, rfl⟩
    · rw [if_pos (h1 k h)]
      obtain ⟨a, b⟩ := pl_mem h2 h
      exact ⟨by rw [List.length_cons]; omega, b⟩
theorem pl_mem2 {k : Nat} {L : List Nat} (h : pl k L < L.length) (e : L.getD (pl k L) 0 = k) : k ∈ L := by
  rw [← e, List.getD_eq_getElem?_getD, List.getElem?_eq_getElem h]
  exact List.getElem_mem _
theorem pl_idx {k : Nat} : ∀ {L : List Nat}, Srt L → k ∈ L → L.idxOf k = pl k L
  | [], _, h => by simp at h
  | x :: L, hs, h => by
    obtain ⟨h1, h2⟩ := List.pairwise_cons.mp hs
    unfold pl
    by_cases e : x = k
    · subst e
      rw [if_neg (Nat.lt_irrefl _), List.idxOf_cons_self]
    · rcases List.mem_cons.mp h with h | h
      · exact absurd h.symm e
      · rw [if_pos (h1 k h), List.idxOf_cons, pl_idx h2 h, show (x == k) = false from beq_eq_false_iff_ne.mpr e]; rfl
theorem pl_strict {x y : Nat} : ∀ {L : List Nat}, Srt L → x ∈ L → x < y → pl x L < pl y L
  | [], _, h, _ => by simp at h
  | z :: L, hs, h, hxy => by
    obtain ⟨h1, h2⟩ := List.pairwise_cons.mp hs
    unfold pl
    rcases List.mem_cons.mp h with rfl | h
    · rw [if_neg (Nat.lt_irrefl _), if_pos hxy]; omega
    · have := h1 x h
      rw [if_pos this, if_pos (by omega)]
      have := pl_strict h2 h hxy
      omega
theorem place_map {f : Nat → Row} {v : Int32} {L : List Nat} {k : Nat} (h : Srt L) (hlt : ∀ x ∈ L, (f x 0 < v ↔ x < k)) : PlaceOf (L.map f) v (pl k L) := by
  have key : ∀ j, j < L.length → (((L.map f).getD j row0) 0 < v ↔ L.getD j 0 < k) := by
    intro j hj
    have e1 : (L.map f).getD j row0 = f (L.getD j 0) := by
      rw [List.getD_eq_getElem?_getD, List.getD_eq_getElem?_getD, List.getElem?_map, List.getElem?_eq_getElem hj]; rfl
    rw [e1]
    exact hlt _ (by rw [List.getD_eq_getElem?_getD, List.getElem?_eq_getElem hj]; exact List.getElem_mem _)
  refine ⟨by rw [List.length_map]; exact pl_le k L, fun j hj => (key j (by have := pl_le k L; omega)).mpr (pl_lt hj), fun j h1 h2 c => ?_⟩
  rw [List.length_map] at h2
  have := (key j h2).mp c
  have := pl_ge h h1 h2
  omega
theorem mem_addK {L : List Nat} {k x : Nat} : x ∈ addK L k ↔ x = k ∨ x ∈ L := by
  unfold addK
  split
  · rename_i h
    exact ⟨Or.inr, fun c => by rcases c with rfl | c; exact h; exact c⟩
  · exact mem_insK
theorem addK_srt {L : List Nat} {k : Nat} (h : Srt L) : Srt (addK L k) := by
  unfold addK
  split
  · exact h
  · rename_i hk; exact insK_srt h hk
theorem addKs_srt : ∀ (M L : List Nat), Srt L → Srt (M.foldl addK L)
  | [], _, h => h
  | k :: M, L, h => addKs_srt M _ (addK_srt h)
theorem mem_addKs {x : Nat} : ∀ (M L : List Nat), x ∈ M.foldl addK L ↔ x ∈ M ∨ x ∈ L
  | [], L => by simp
  | k :: M, L => by
    rw [List.foldl_cons, mem_addKs M, mem_addK, List.mem_cons]
    constructor
    · rintro (h | h | h) <;> simp [h]
    · rintro ((h | h) | h) <;> simp [h]
theorem addKs_length : ∀ (M L : List Nat), (M.foldl addK L).length ≤ L.length + M.length
  | [], L => Nat.le_refl _
  | k :: M, L => by
    have h1 := addKs_length M (addK L k)
    have h2 : (addK L k).length ≤ L.length + 1 := by
      unfold addK
      split
      · omega
      · rw [insK_length]; omega
    rw [List.foldl_cons, List.length_cons]
    omega
theorem ksOf_srt (a : AS) : Srt (ksOf a) := addKs_srt _ _ List.Pairwise.nil
theorem mem_ksOf {a : AS} {x : Nat} : x ∈ ksOf a ↔ x ∈ keysR a := by
  unfold ksOf
  rw [mem_addKs]
  simp
theorem keysR_len (a : AS) : (keysR a).length = a.1.length := List.length_map _
theorem ksOf_len {a : AS} (ha : okS a) : (ksOf a).length ≤ 100 := by
  have h1 : (ksOf a).length ≤ [].length + (keysR a).length := addKs_length (keysR a) []
  rw [keysR_len] at h1
  have := ha.1
  simp only [List.length_nil] at h1
  omega
theorem key_le {a : AS} (ha : okS a) {k : Nat} (hk : k ∈ keysR a) : k ≤ 9999 := by
  obtain ⟨r, hr, rfl⟩ := List.mem_map.mp hk
  exact ha.2.1 r hr
theorem idx_pl {a : AS} {k : Nat} (hk : k ∈ ksOf a) : idx a k = pl k (ksOf a) := pl_idx (ksOf_srt a) hk
theorem idx_lt {a : AS} {k : Nat} (hk : k ∈ ksOf a) : idx a k < (ksOf a).length := by rw [idx_pl hk]; exact (pl_mem (ksOf_srt a) hk).1
theorem idx_get {a : AS} {k : Nat} (hk : k ∈ ksOf a) : (ksOf a)[idx a k]? = some k := by
  have := (pl_mem (ksOf_srt a) hk)
  rw [idx_pl hk, List.getElem?_eq_getElem this.1]
  have e := this.2
  rw [List.getD_eq_getElem?_getD, List.getElem?_eq_getElem this.1] at e
  exact congrArg some e
theorem idx_mono {a : AS} {x y : Nat} (hx : x ∈ ksOf a) (hy : y ∈ ksOf a) : idx a x < idx a y ↔ x < y := by
  rw [idx_pl hx, idx_pl hy]
  refine ⟨fun h => ?_, fun h => pl_strict (ksOf_srt a) hx h⟩
  by_cases e : x < y
  · exact e
  · by_cases e2 : y < x
    · have := pl_strict (ksOf_srt a) hy e2; omega
    · have : x = y := by omega
      subst this; omega
theorem idx_inj {a : AS} {x y : Nat} (hx : x ∈ ksOf a) (hy : y ∈ ksOf a) (e : idx a x = idx a y) : x = y := by
  have h1 := idx_mono hx hy
  have h2 := idx_mono hy hx
  omega
/-! groups of rows one after another -/
def pre (a : AS) (j : Nat) : AS := (a.1.take j, a.2)
theorem pre_succ {a : AS} {j : Nat} {r : Nat × Int32} (h : a.1[j]? = some r) : (pre a (j + 1)).1 = (pre a j).1 ++ [r] := by
  obtain ⟨hj, e⟩ := List.getElem?_eq_some_iff.mp h
  show a.1.take (j + 1) = a.1.take j ++ [r]
  rw [List.take_succ_eq_append_getElem hj, e]
theorem ksOf_pre {a : AS} {j : Nat} {r : Nat × Int32} (h : a.1[j]? = some r) : ksOf (pre a (j + 1)) = addK (ksOf (pre a j)) r.1 := by
  unfold ksOf keysR
  rw [pre_succ h, List.map_append, List.foldl_append]
  rfl
theorem aggs_app {L : List Agg} (hL : L ≠ []) (x : Agg) : aggs (L ++ [x]) = mergeA (aggs L) x := by
  match L, hL with
  | y :: L, _ => show (L ++ [x]).foldl mergeA y = _; rw [List.foldl_append]; rfl
theorem aggK_pre {a : AS} {j : Nat} {r : Nat × Int32} (h : a.1[j]? = some r) (k : Nat) :
    aggK (pre a (j + 1)) k = if r.1 = k then (if k ∈ ksOf (pre a j) then mergeA (aggK (pre a j) k) (oneA r.2) else oneA r.2) else aggK (pre a j) k := by
  unfold aggK
  rw [pre_succ h, List.filter_append, List.map_append]
  by_cases e : r.1 = k
  · rw [if_pos e]
    have e1 : ([r].filter (fun r => r.1 == k)).map (fun r => oneA r.2) = [oneA r.2] := by simp [e]
    rw [e1]
    by_cases m : k ∈ ksOf (pre a j)
    · rw [if_pos m]
      refine aggs_app (fun z => ?_) _
      obtain ⟨q, hq, hq2⟩ := List.mem_map.mp (mem_ksOf.mp m)
      have : q ∈ (pre a j).1.filter (fun r => r.1 == k) := List.mem_filter.mpr ⟨hq, by simp [hq2]⟩
      rw [List.map_eq_nil_iff.mp z] at this
      simp at this
    · rw [if_neg m]
      have : (pre a j).1.filter (fun r => r.1 == k) = [] := List.filter_eq_nil_iff.mpr fun q hq hk => m (mem_ksOf.mpr (List.mem_map.mpr ⟨q, hq, by simpa using hk⟩))
      rw [this]
      rfl
  · rw [if_neg e]
    have e1 : ([r].filter (fun r => r.1 == k)).map (fun r => oneA r.2) = [] := by simp [e]
    rw [e1, List.append_nil]
theorem pre_all (a : AS) : pre a a.1.length = a := by
  show (a.1.take a.1.length, a.2) = a
  rw [List.take_length]
theorem okS_pre {a : AS} (h : okS a) (j : Nat) : okS (pre a j) := ⟨by have := h.1; have : (pre a j).1.length ≤ a.1.length := List.length_take_le' _ _; omega, fun r hr => h.2.1 r (List.mem_of_mem_take hr), h.2.2⟩
