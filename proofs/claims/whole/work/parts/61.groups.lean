/-! the class gathers its groups -/
theorem getD_set_self {M : List Row} {p : Nat} (hp : p < M.length) (X : Row) : (M.set p X).getD p row0 = X := by
  rw [List.getD_eq_getElem?_getD, List.getElem?_set_self hp]; rfl
theorem getD_set_ne {M : List Row} {p q : Nat} (h : q ≠ p) (X : Row) : (M.set p X).getD q row0 = M.getD q row0 := by
  rw [List.getD_eq_getElem?_getD, List.getD_eq_getElem?_getD, List.getElem?_set_ne (Ne.symm h)]
theorem set_insertIdx {α : Type} : ∀ (L : List α) (p : Nat) (x y : α), p ≤ L.length → (L.insertIdx p x).set p y = L.insertIdx p y
  | _, 0, _, _, _ => by simp
  | [], p + 1, _, _, h => by simp at h
  | z :: L, p + 1, x, y, h => by
    rw [List.insertIdx_succ_cons, List.insertIdx_succ_cons, List.set_cons_succ, set_insertIdx L p x y (by rw [List.length_cons] at h; omega)]
theorem map_insertIdx' {α β : Type} (f : α → β) : ∀ (L : List α) (p : Nat) (x : α), (L.insertIdx p x).map f = (L.map f).insertIdx p (f x)
  | _, 0, _ => by simp
  | [], p + 1, _ => by simp
  | z :: L, p + 1, x => by
    rw [List.insertIdx_succ_cons, List.map_cons, List.map_cons, List.insertIdx_succ_cons, map_insertIdx' f L p x]
theorem getD_insertIdx {M : List Row} {p : Nat} (hp : p ≤ M.length) (X : Row) : (M.insertIdx p X).getD p row0 = X := by
  rw [List.getD_eq_getElem?_getD, List.getElem?_insertIdx_self]; simp [hp]
theorem map_set' {L : List Nat} {p k : Nat} {f f' : Nat → Row} (hs : Srt L) (hp : p < L.length) (e : L.getD p 0 = k) (hf : ∀ x ∈ L, x ≠ k → f' x = f x) : (L.map f).set p (f' k) = L.map f' := by
  rw [List.getD_eq_getElem?_getD, List.getElem?_eq_getElem hp] at e
  have e : L[p] = k := e
  have hne : ∀ i, (hi : i < L.length) → i ≠ p → L[i] ≠ k := by
    intro i hi hip c
    have hw := List.pairwise_iff_getElem.mp hs
    rcases Nat.lt_or_gt_of_ne hip with h | h
    · have := hw i p hi hp h; omega
    · have := hw p i hp hi h; omega
  refine List.ext_getElem (by simp) fun i h1 h2 => ?_
  rw [List.length_map] at h2
  rw [List.getElem_set, List.getElem_map, List.getElem_map]
  split
  · rename_i h; subst h; rw [e]
  · rename_i h; rw [hf _ (List.getElem_mem _) (hne i h2 (Ne.symm h))]
theorem map_same {L : List Nat} {f f' : Nat → Row} (hf : ∀ x ∈ L, f' x = f x) : L.map f' = L.map f := List.map_congr_left hf
theorem nle_nI {a b : Nat} (ha : a < 2 ^ 31) (hb : b < 2 ^ 31) (h : a < b) : ¬ nI b ≤ nI a := fun z => by have := (nI_leI hb ha).mp z; omega
def addR (R : Row) (v : Int32) : Row := upd (upd (upd (upd R 1 (R 1 + 1)) 2 (R 2 + v)) 3 (if v < R 3 then v else R 3)) 4 (if R 4 < v then v else R 4)
theorem g_add79 {S : Mem} {M : List Row} {p : Nat} {v : Int32} (h : TW S 29 M) (hp : p < M.length) {K : Mem → Prop} (k : ∀ S', TW S' 29 (M.set p (addR (M.getD p row0) v)) → Fr S S' 29 → K S') : B_X0_addRow_79 K S v (nI p) := by
  have ht : 29 ∈ tabs := by decide
  have hw : tWn 29 = 6 := by decide
  have hP := h.2.1
  have hR : tRn 29 = 100 := by decide
  refine t_raise (c := 1) ht h hp (by omega) (fun S1 g1 f1 => ?_)
  have p1 : p < (M.set p (upd (M.getD p row0) 1 ((M.getD p row0) 1 + 1))).length := by rw [List.length_set]; exact hp
  refine t_raise (c := 2) ht g1 p1 (by omega) (fun S2 g2 f2 => ?_)
  rw [getD_set_self hp, List.set_set] at g2
  have p2 : p < (M.set p (upd (upd (M.getD p row0) 1 ((M.getD p row0) 1 + 1)) 2 ((upd (M.getD p row0) 1 ((M.getD p row0) 1 + 1)) 2 + v))).length := by rw [List.length_set]; exact hp
  refine t_at (c := 3) ht g2 (by omega) (by omega) ?_
  refine t_put (c := 3) ht g2 p2 (by omega) (fun S3 g3 f3 => ?_)
  rw [getD_set_self hp, List.set_set] at g3
  refine t_at (c := 4) ht g3 (by omega) (by omega) ?_
  refine t_put (c := 4) ht g3 (by rw [List.length_set]; exact hp) (by omega) (fun S4 g4 f4 => ?_)
  rw [getD_set_self hp, List.set_set] at g4
  exact k S4 g4 (((f1.trans f2).trans f3).trans f4)
theorem g_addRow {S : Mem} {a : AS} {j : Nat} {r : Nat × Int32} (ha : okS a) (hr : a.1[j]? = some r) (h : TW S 29 ((ksOf (pre a j)).map (factR (pre a j)))) {K : Mem → Prop}
    (k : ∀ S', TW S' 29 ((ksOf (pre a (j + 1))).map (factR (pre a (j + 1)))) → Fr S S' 29 → K S') : P_X0_addRow S (nI r.1) r.2 (nI (hsh a.2.2.2 r.1)) K := by
  have ht : 29 ∈ tabs := by decide
  have hw : tWn 29 = 6 := by decide
  have hR : tRn 29 = 100 := by decide
  have hs : Srt (ksOf (pre a j)) := ksOf_srt _
  have hj := (List.getElem?_eq_some_iff.mp hr).1
  have hl : (ksOf (pre a j)).length ≤ j := by
    have h1 : (ksOf (pre a j)).length ≤ [].length + (keysR (pre a j)).length := addKs_length _ []
    rw [keysR_len] at h1
    have h2 : (pre a j).1.length ≤ j := List.length_take_le _ _
    simp only [List.length_nil] at h1
    omega
  have h100 := ha.1
  have hk9 : r.1 ≤ 9999 := ha.2.1 r (List.mem_of_getElem? hr)
  have hkl : ∀ x ∈ ksOf (pre a j), x ≤ 9999 := fun x hx => key_le (okS_pre ha j) (mem_ksOf.mp hx)
  have hp : PlaceOf ((ksOf (pre a j)).map (factR (pre a j))) (nI r.1) (pl r.1 (ksOf (pre a j))) := place_map hs (fun x hx => by
    have := hkl x hx
    exact nI_ltI (by omega) (by omega))
  have hple := pl_le r.1 (ksOf (pre a j))
  have hks := ksOf_pre hr
  have fact_ne : ∀ x, x ≠ r.1 → factR (pre a (j + 1)) x = factR (pre a j) x := by
    intro x hx
    have e : aggK (pre a (j + 1)) x = aggK (pre a j) x := by rw [aggK_pre hr, if_neg (Ne.symm hx)]
    funext c
    unfold factR
    rw [e]
    rfl
  -- a new group
  have new : r.1 ∉ ksOf (pre a j) → ∀ S2, TW S2 29 ((ksOf (pre a j)).map (factR (pre a j))) → Fr S S2 29 → B_X0_addRow_36 K S2 (nI r.1) r.2 (nI (hsh a.2.2.2 r.1)) (nI (pl r.1 (ksOf (pre a j)))) := by
    intro hn S2 h2 f2
    have hpm : pl r.1 (ksOf (pre a j)) ≤ ((ksOf (pre a j)).map (factR (pre a j))).length := by rw [List.length_map]; exact hple
    refine t_insert ht h2 hpm (by rw [List.length_map, hR]; omega) (fun S3 g3 f3 => ?_)
    have hp3 : pl r.1 (ksOf (pre a j)) < (((ksOf (pre a j)).map (factR (pre a j))).insertIdx (pl r.1 (ksOf (pre a j))) (row1 (nI r.1))).length := by rw [List.length_insertIdx_of_le_length hpm]; omega
    refine t_put (c := 5) ht g3 hp3 (by omega) (fun S4 g4 f4 => ?_)
    rw [getD_insertIdx hpm, set_insertIdx _ _ _ _ hpm] at g4
    refine t_put (c := 3) ht g4 (by rw [List.length_insertIdx_of_le_length hpm]; omega) (by omega) (fun S5 g5 f5 => ?_)
    rw [getD_insertIdx hpm, set_insertIdx _ _ _ _ hpm] at g5
    refine t_put (c := 4) ht g5 (by rw [List.length_insertIdx_of_le_length hpm]; omega) (by omega) (fun S6 g6 f6 => ?_)
    rw [getD_insertIdx hpm, set_insertIdx _ _ _ _ hpm] at g6
    refine g_add79 g6 (by rw [List.length_insertIdx_of_le_length hpm]; omega) (fun S7 g7 f7 => k S7 ?_ ((((f2.trans f3).trans f4).trans (f5.trans f6)).trans f7))
    rw [getD_insertIdx hpm, set_insertIdx _ _ _ _ hpm] at g7
    rw [hks, addK, if_neg hn, insK_insertIdx, map_insertIdx', map_same (fun x hx => fact_ne x (fun e => hn (by rw [← e]; exact hx)))]
    have e : factR (pre a (j + 1)) r.1 = addR (upd (upd (upd (row1 (nI r.1)) 5 (nI (hsh a.2.2.2 r.1))) 3 r.2) 4 r.2) r.2 := by
      have ea : aggK (pre a (j + 1)) r.1 = oneA r.2 := by rw [aggK_pre hr, if_pos rfl, if_neg hn]
      funext c
      unfold factR
      rw [ea]
      match c with
      | 0 => rfl
      | 1 => rfl
      | 2 => show r.2 = 0 + r.2; rw [Int32.zero_add]
      | 3 => show r.2 = if r.2 < r.2 then r.2 else r.2; rw [ite_self]
      | 4 => show r.2 = if r.2 < r.2 then r.2 else r.2; rw [ite_self]
      | 5 => rfl
      | c + 6 =>
        show (0 : Int32) = _
        unfold addR
        rw [upd_ne _ _ (by omega), upd_ne _ _ (by omega), upd_ne _ _ (by omega), upd_ne _ _ (by omega), upd_ne _ _ (by omega), upd_ne _ _ (by omega), upd_ne _ _ (by omega)]
        exact (if_neg (by omega)).symm
    rw [e]
    exact g7
  refine t_place ht h hp (by rw [List.length_map]; omega) (t_length h ⟨fun q => new (fun m => ?_) S h (fun _ _ _ => rfl), fun q => ?_⟩)
  · rw [List.length_map] at q
    have := (nI_leI (by omega) (by omega)).mp q
    have := (pl_mem hs m).1
    omega
  · rw [List.length_map] at q
    have hlt : pl r.1 (ksOf (pre a j)) < (ksOf (pre a j)).length := Nat.not_le.mp fun z => q ((nI_leI (by omega) (by omega)).mpr z)
    refine t_at (c := 0) ht h (by omega) (by omega) ?_
    have eg : ((ksOf (pre a j)).map (factR (pre a j))).getD (pl r.1 (ksOf (pre a j))) row0 = factR (pre a j) ((ksOf (pre a j)).getD (pl r.1 (ksOf (pre a j))) 0) := by
      rw [List.getD_eq_getElem?_getD, List.getD_eq_getElem?_getD, List.getElem?_map, List.getElem?_eq_getElem hlt]; rfl
    rw [eg]
    have hmem : (ksOf (pre a j)).getD (pl r.1 (ksOf (pre a j))) 0 ∈ ksOf (pre a j) := by rw [List.getD_eq_getElem?_getD, List.getElem?_eq_getElem hlt]; exact List.getElem_mem _
    have h9 := hkl _ hmem
    refine ⟨fun e => ?_, fun e => new (fun m => ?_) S h (fun _ _ _ => rfl)⟩
    · have e : (ksOf (pre a j)).getD (pl r.1 (ksOf (pre a j))) 0 = r.1 := (nI_eq (by omega) (by omega)).mp e
      refine g_add79 h (by rw [List.length_map]; exact hlt) (fun S7 g7 f7 => k S7 ?_ f7)
      rw [eg, e] at g7
      have m : r.1 ∈ ksOf (pre a j) := by rw [← e]; exact hmem
      rw [hks, addK, if_pos m]
      have ef : factR (pre a (j + 1)) r.1 = addR (factR (pre a j) r.1) r.2 := by
        have ea : aggK (pre a (j + 1)) r.1 = mergeA (aggK (pre a j) r.1) (oneA r.2) := by rw [aggK_pre hr, if_pos rfl, if_pos m]
        funext c
        unfold factR
        rw [ea]
        match c with
        | 0 => rfl
        | 1 => rfl
        | 2 => rfl
        | 3 => rfl
        | 4 => rfl
        | 5 => rfl
        | c + 6 =>
          show (0 : Int32) = _
          unfold addR
          rw [upd_ne _ _ (by omega), upd_ne _ _ (by omega), upd_ne _ _ (by omega), upd_ne _ _ (by omega)]
          rfl
      rw [← ef, map_set' hs hlt e (fun x _ hx => fact_ne x hx)] at g7
      exact g7
    · exact e (by rw [(pl_mem hs m).2]; rfl)
theorem g_gather10 {a : AS} (ha : okS a) {K : Mem → Prop} : ∀ (m n j : Nat) (S : Mem), StR S 1 a → TW S 29 ((ksOf (pre a j)).map (factR (pre a j))) → a.1.length = j + m → m < n →
    (∀ S', TW S' 29 ((ksOf a).map (factR a)) → Fr S S' 29 → B_X0_gather_46 1 K S') → B_X0_gather_10 1 K n S (nI j) := by
  intro m
  induction m with
  | zero =>
    intro n j S hS h hm hn k
    match n, hn with
    | n + 1, _ =>
      refine t_length hS.1 ⟨fun _ => k S ?_ (fun _ _ _ => rfl), fun z => absurd ((nI_leI (by rw [List.length_map]; have := ha.1; omega) (by have := ha.1; omega)).mpr (by rw [List.length_map]; omega)) z⟩
      have : pre a j = a := by have q := pre_all a; rw [hm] at q; exact q
      rw [this] at h; exact h
  | succ m ih =>
    intro n j S hS h hm hn k
    match n, hn with
    | n + 1, hn =>
      have hj : j < a.1.length := by omega
      have hr : a.1[j]? = some a.1[j] := List.getElem?_eq_getElem hj
      have h100 := ha.1
      refine t_length hS.1 ⟨fun z => absurd ((nI_leI (by rw [List.length_map]; omega) (by omega)).mp z) (by rw [List.length_map]; omega), fun _ => ?_⟩
      refine (rowsGet (by decide) hS hr).1 ((rowsGet (by decide) hS hr).2 (c_hashOf (by decide) ha hS hr (g_addRow ha hr h (fun S' g' f' => ?_))))
      rw [nI_1]
      refine ih n (j + 1) S' (hS.eq fun i _ _ => f' i (by omega) (by omega)) g' (by omega) (by omega) (fun S2 g2 f2 => k S2 g2 (f'.trans f2))
theorem g_gather56 {a : AS} (ha : okS a) {K : Mem → Prop} : ∀ (m n j : Nat) (S : Mem), StR S 1 a → TW S 29 ((ksOf a).map (factR a)) → TW S 31 ((a.1.take j).map (fun r => row1 (nI (idx a r.1)))) → a.1.length = j + m → m < n →
    (∀ S', TW S' 31 (a.1.map (fun r => row1 (nI (idx a r.1)))) → Fr S S' 31 → K S') → B_X0_gather_56 1 K n S (nI j) := by
  intro m
  induction m with
  | zero =>
    intro n j S hS h29 h hm hn k
    match n, hn with
    | n + 1, _ =>
      refine t_length hS.1 ⟨fun _ => k S ?_ (fun _ _ _ => rfl), fun z => absurd ((nI_leI (by rw [List.length_map]; have := ha.1; omega) (by have := ha.1; omega)).mpr (by rw [List.length_map]; omega)) z⟩
      rw [List.take_of_length_le (by omega)] at h; exact h
  | succ m ih =>
    intro n j S hS h29 h hm hn k
    match n, hn with
    | n + 1, hn =>
      have hj : j < a.1.length := by omega
      have hr : a.1[j]? = some a.1[j] := List.getElem?_eq_getElem hj
      have h100 := ha.1
      have hlen := ksOf_len ha
      have hmem : a.1[j].1 ∈ ksOf a := mem_ksOf.mpr (List.mem_map.mpr ⟨_, List.getElem_mem _, rfl⟩)
      have hp : PlaceOf ((ksOf a).map (factR a)) (nI a.1[j].1) (idx a a.1[j].1) := by
        rw [idx_pl hmem]
        refine place_map (ksOf_srt a) (fun x hx => ?_)
        have h1 := key_le ha (mem_ksOf.mp hx)
        have h2 := key_le ha (mem_ksOf.mp hmem)
        exact nI_ltI (by omega) (by omega)
      refine t_length hS.1 ⟨fun z => absurd ((nI_leI (by rw [List.length_map]; omega) (by omega)).mp z) (by rw [List.length_map]; omega), fun _ => ?_⟩
      refine (rowsGet (by decide) hS hr).1 (t_place (by decide) h29 hp (by rw [List.length_map]; exact hlen) (t_append (by decide) h (by rw [List.length_map, List.length_take]; show _ < 100; omega) (fun S' g' f' => ?_)))
      rw [nI_1]
      refine ih n (j + 1) S' (hS.eq fun i _ _ => f' i (by omega) (by omega)) (h29.fr (f' _ (by omega) (by omega)) (f' _ (by omega) (by omega))) ?_ (by omega) (by omega) (fun S2 g2 f2 => k S2 g2 (f'.trans f2))
      rw [List.take_succ_eq_append_getElem hj, List.map_append]
      exact g'
theorem g_gather {S : Mem} {a : AS} (ha : okS a) (hS : StR S 1 a) (hSh : Sh S) {K : Mem → Prop} (k : ∀ S', GrOK S' a → Sh S' → (∀ i, i < 29 ∨ 32 < i → S' i = S i) → K S') : P_X0_gather 1 S K := by
  obtain ⟨L, hL, -⟩ := hSh 29 (by decide)
  refine t_shorten (m := 0) (by decide) hL (by omega) (fun S1 g1 f1 => ⟨a.1.length + 1, ?_⟩)
  have s1 : Sh S1 := hSh.one (by decide) g1 f1
  have e0 : (ksOf (pre a 0)).map (factR (pre a 0)) = L.take 0 := by
    show (ksOf (pre a 0)).map _ = []
    have : ksOf (pre a 0) = [] := rfl
    rw [this]; rfl
  refine g_gather10 ha a.1.length (a.1.length + 1) 0 S1 (hS.eq fun i _ _ => f1 i (by omega) (by omega)) (by rw [e0]; exact g1) (by omega) (by omega) (fun S2 g2 f2 => ?_)
  have s2 : Sh S2 := s1.one (by decide) g2 f2
  obtain ⟨L2, hL2, -⟩ := s2 31 (by decide)
  refine t_shorten (m := 0) (by decide) hL2 (by omega) (fun S3 g3 f3 => ⟨a.1.length + 1, ?_⟩)
  have s3 : Sh S3 := s2.one (by decide) g3 f3
  have hS3 : StR S3 1 a := hS.eq fun i _ _ => by rw [f3 i (by omega) (by omega), f2 i (by omega) (by omega), f1 i (by omega) (by omega)]
  have g23 : TW S3 29 ((ksOf a).map (factR a)) := g2.fr (f3 _ (by omega) (by omega)) (f3 _ (by omega) (by omega))
  refine g_gather56 ha a.1.length (a.1.length + 1) 0 S3 hS3 g23 g3 (by omega) (by omega) (fun S4 g4 f4 => k S4 ⟨g23.fr (f4 _ (by omega) (by omega)) (f4 _ (by omega) (by omega)), g4⟩ (s3.one (by decide) g4 f4) (fun i hi => ?_))
  rw [f4 i (by omega) (by omega), f3 i (by omega) (by omega), f2 i (by omega) (by omega), f1 i (by omega) (by omega)]
/-- the groups stand; the passes stand or are none -/
def CG (S : Mem) (st : AT) : Prop := CI S st ∧ S 0 4 = 0 ∧ GrOK S st.1 ∧ (S 33 9 = 0 ∨ RunOK S st.1)
theorem c_groupsNow {S : Mem} {st : AT} (h : CI S st) {K : Option Nat → Mem → Prop} (kk : ∀ S', FrC S S' → CG S' st → K (some 28) S') : P_X6_groupsNow S K := by
  obtain ⟨h1, h2, h3, h4, h5, h6⟩ := h
  refine ⟨fun z => ?_, fun z => ?_⟩
  · rcases h6 with q | q
    · rw [q] at z; exact absurd z (by decide)
    · exact kk S (FrC.rf S) ⟨⟨h1, h2, h3, h4, h5, Or.inr q⟩, q⟩
  · refine g_gather h1.1 h3 h2 (fun S1 g1 s1 f1 => fun S3 hS3 => fun S5 hS5 => ?_)
    have f3 : ∀ i, i ≠ 33 → S3 i = S1 i := fun i hi => by rw [hS3, mput_ne _ _ _ hi]
    have f5 : ∀ i, i ≠ 0 → S5 i = S3 i := fun i hi => by rw [hS5, mput_ne _ _ _ hi]
    have z5 : S5 0 4 = 0 := by rw [hS5, mput_at, upd_at]
    have z33 : S5 33 9 = 0 := by rw [f5 33 (by omega), hS3, mput_at, upd_at]
    have g5 : GrOK S5 st.1 := ⟨g1.1.fr (by rw [f5 _ (by omega), f3 _ (by omega)]) (by rw [f5 _ (by omega), f3 _ (by omega)]), g1.2.fr (by rw [f5 _ (by omega), f3 _ (by omega)]) (by rw [f5 _ (by omega), f3 _ (by omega)])⟩
    refine kk S5 (fun i hi => by rw [f5 i (by omega), f3 i (by omega), f1 i (by omega)]) ⟨⟨h1, ?_, ?_, ?_, ?_, Or.inr ⟨z5, g5, Or.inl z33⟩⟩, z5, g5, Or.inl z33⟩
    · have key : ∀ t ∈ tabs, t ≠ 0 ∧ t ≠ 33 ∧ t + 1 ≠ 0 ∧ t + 1 ≠ 33 := by decide
      exact s1.eq fun t ht => by
        obtain ⟨a1, a2, a3, a4⟩ := key t ht
        exact ⟨by rw [f5 _ a1, f3 _ a2], by rw [f5 _ a3, f3 _ a4]⟩
    · exact h3.eq fun i _ _ => by rw [f5 i (by omega), f3 i (by omega), f1 i (by omega)]
    · exact h4.eq fun i _ _ => by rw [f5 i (by omega), f3 i (by omega), f1 i (by omega)]
    · exact h5.fr (by rw [f5 _ (by omega), f3 _ (by omega), f1 _ (by omega)]) (by rw [f5 _ (by omega), f3 _ (by omega), f1 _ (by omega)])
