/-! the class's pass, item by item -/
def irow (a : AS) (k : Nat) : Row := row1 (nI (idx a k))
def CX (S : Mem) (a : AS) (lim b : Nat) : Prop := TW S 29 ((ksOf a).map (factR a)) ∧ S 33 9 = nI lim ∧ S 33 10 = nI b ∧ S 33 11 = nI (16 / b - 1)
def recC (l pre n : Nat) (σ : PS) : PR := (l, pre, n, 0, maskS σ.2.1, σ.2.2.2.1, σ.2.2.2.2.1)
def PTok (PT : List Row) (a : AS) (b l sa : Nat) (σ : PS) : Prop := PT.length = 2 ^ b ∧ (∀ p, p < 2 ^ b → (PT.getD p row0) 0 = nI (cntP (hsh a.2.2.2) b l σ.1 p)) ∧ ∀ j q, σ.2.1[j]? = some q → (PT.getD q.1 row0) 1 = nI (sa + j)
def Rok (R : List Nat) (a : AS) (b l : Nat) (σ : PS) : Prop := R.length = σ.2.2.2.1 ∧ ∀ p, R.filter (fun k => prt (hsh a.2.2.2) b l k == p) = σ.2.2.1 p
def CP (S : Mem) (a : AS) (lim b l pre : Nat) (PA SA base : List Row) (b0 n : Nat) (σ : PS) : Prop :=
  CX S a lim b ∧ TW S 34 (PA ++ [prR PA.length (recC l pre n σ)]) ∧ TW S 36 (SA ++ (recS l pre σ).map srR) ∧ TW S 42 (σ.1.map (irow a)) ∧
  (∃ PT, TW S 44 PT ∧ PTok PT a b l SA.length σ) ∧ (∃ R, TW S 46 (base ++ R.map (irow a)) ∧ Rok R a b l σ) ∧ S 33 8 = nI (b0 + σ.2.2.2.2.2)
def FrP (S S' : Mem) : Prop := (∀ i, (i < 33 ∨ 47 < i ∨ (38 ≤ i ∧ i ≤ 41)) → S' i = S i) ∧ ∀ j, j ≠ 8 → S' 33 j = S 33 j
theorem FrP.rf (S : Mem) : FrP S S := ⟨fun _ _ => rfl, fun _ _ => rfl⟩
theorem FrP.trans {S S1 S2 : Mem} (h1 : FrP S S1) (h2 : FrP S1 S2) : FrP S S2 := ⟨fun i hi => (h2.1 i hi).trans (h1.1 i hi), fun j hj => (h2.2 j hj).trans (h1.2 j hj)⟩
theorem Fr.p {S S' : Mem} {t : Nat} (f : Fr S S' t) (ht : t = 34 ∨ t = 36 ∨ t = 42 ∨ t = 44 ∨ t = 46) : FrP S S' := ⟨fun i hi => f i (by omega) (by omega), fun j _ => by rw [f 33 (by omega) (by omega)]⟩
theorem CX.fr {S S' : Mem} {t : Nat} {a : AS} {lim b : Nat} (h : CX S a lim b) (f : Fr S S' t) (ht : 34 ≤ t) : CX S' a lim b := ⟨h.1.fr (f _ (by omega) (by omega)) (f _ (by omega) (by omega)), by rw [f 33 (by omega) (by omega)]; exact h.2.1, by rw [f 33 (by omega) (by omega)]; exact h.2.2.1, by rw [f 33 (by omega) (by omega)]; exact h.2.2.2⟩
theorem CX.frP {S S' : Mem} {a : AS} {lim b : Nat} (h : CX S a lim b) (f : FrP S S') : CX S' a lim b := ⟨h.1.fr (f.1 _ (by omega)) (f.1 _ (by omega)), by rw [f.2 _ (by omega)]; exact h.2.1, by rw [f.2 _ (by omega)]; exact h.2.2.1, by rw [f.2 _ (by omega)]; exact h.2.2.2⟩
theorem t34 : 34 ∈ tabs ∧ tWn 34 = 8 ∧ tRn 34 = 613 := by decide
theorem t36 : 36 ∈ tabs ∧ tWn 36 = 5 ∧ tRn 36 = 612 := by decide
theorem t38 : 38 ∈ tabs ∧ tWn 38 = 3 ∧ tRn 38 = 100 := by decide
theorem t40 : 40 ∈ tabs ∧ tWn 40 = 1 ∧ tRn 40 = 100 := by decide
theorem t42 : 42 ∈ tabs ∧ tWn 42 = 1 ∧ tRn 42 = 100 := by decide
theorem t44 : 44 ∈ tabs ∧ tWn 44 = 2 ∧ tRn 44 = 16 := by decide
theorem t46 : 46 ∈ tabs ∧ tWn 46 = 1 ∧ tRn 46 = 1600 := by decide
theorem t29 : 29 ∈ tabs ∧ tWn 29 = 6 ∧ tRn 29 = 100 := by decide
theorem last_lt {α : Type} (L : List α) (r : α) : L.length < (L ++ [r]).length := by rw [List.length_append, List.length_singleton]; omega
theorem getD_mapN {L : List Nat} {f : Nat → Row} {j k : Nat} (h : L[j]? = some k) : (L.map f).getD j row0 = f k := by rw [List.getD_eq_getElem?_getD, List.getElem?_map, h]; rfl
theorem getD_appR {A B : List Row} (j : Nat) : (A ++ B).getD (A.length + j) row0 = B.getD j row0 := by
  rw [List.getD_eq_getElem?_getD, List.getD_eq_getElem?_getD, List.getElem?_append_right (by omega), show A.length + j - A.length = j by omega]
theorem set_appR {α : Type} (A B : List α) (j : Nat) (x : α) : (A ++ B).set (A.length + j) x = A ++ B.set j x := by
  induction A with
  | nil => rw [List.length_nil, Nat.zero_add]; rfl
  | cons y A ih => rw [List.length_cons, show A.length + 1 + j = (A.length + j) + 1 by omega, List.cons_append, List.set_cons_succ, ih]; rfl
theorem c_partOf {S : Mem} {a : AS} {lim b l k : Nat} (ha : okS a) (hb : 1 ≤ b ∧ b ≤ 4) (hl : (l + 1) * b ≤ 16) (h : CX S a lim b) (hk : k ∈ ksOf a) {K : Int32 → Mem → Prop} (kk : K (nI (prt (hsh a.2.2.2) b l k)) S) : P_X2_partOf S (nI (idx a k)) (nI l) K := by
  have := idx_lt hk
  have := ksOf_len ha
  refine t_at (c := 5) t29.1 h.1 (by omega) (by rw [t29.2.1]; omega) ?_
  rw [getD_mapN (idx_get hk), h.2.2.1]
  show K ((nI (hsh a.2.2.2 k) >>> _) &&& _) S
  rw [part_val (hsh_lt _ _) hb.1 hb.2 hl]
  exact kk
theorem c_prefix {S : Mem} {a : AS} {lim b l k : Nat} (ha : okS a) (hl : l * b ≤ 16) (h : CX S a lim b) (hk : k ∈ ksOf a) {K : Int32 → Mem → Prop} (kk : K (nI (hsh a.2.2.2 k / 2 ^ (16 - l * b))) S) : P_X2_prefixOf S (nI (idx a k)) (nI l) K := by
  have := idx_lt hk
  have := ksOf_len ha
  have hh := hsh_lt a.2.2.2 k
  refine t_at (c := 5) t29.1 h.1 (by omega) (by rw [t29.2.1]; omega) ?_
  rw [getD_mapN (idx_get hk), h.2.2.1, pk_mul, show (16 : Int32) - nI (l * b) = nI (16 - l * b) from pk_sub (a := 16) hl]
  show K (nI (hsh a.2.2.2 k) >>> _) S
  rw [pk_shrN (by omega) _ (16 - l * b) (sh31 _ (by omega))]
  exact kk
theorem c_isSp {S : Mem} {h : Nat → Nat} {b lim l : Nat} {last : Bool} {its : List Nat} {σ : PS} (g : PI h b lim l last its σ) (hb : b ≤ 4) {PA : List Row} {pre n : Nat} (hT : TW S 34 (PA ++ [prR PA.length (recC l pre n σ)])) {p : Nat} (hp : p < 16) {K : Int32 → Mem → Prop} (k1 : isSp σ p = true → K 1 S) (k0 : isSp σ p = false → K 0 S) : P_X2_isSpilled S (nI PA.length) (nI p) K := by
  obtain ⟨m1, m2⟩ := mask_PI g hb
  have hle := hT.2.1
  rw [List.length_append, t34.2.2] at hle
  refine t_at (c := 2) t34.1 hT (by omega) (by rw [t34.2.1]; omega) ?_
  rw [getD_last]
  show (¬ (nI (maskS σ.2.1) >>> _) &&& _ = _ → _) ∧ ((nI (maskS σ.2.1) >>> _) &&& _ = _ → _)
  rw [bit_test m1 hp, m2]
  exact ⟨fun z => k0 (by simpa using z), k1⟩
theorem mem_place {a : AS} {L : List Nat} {k : Nat} (hs : Srt L) (hL : ∀ x ∈ L, x ∈ ksOf a) (hk : k ∈ ksOf a) (ha : okS a) : PlaceOf (L.map (irow a)) (nI (idx a k)) (pl k L) := by
  refine place_map hs (fun x hx => ?_)
  have h1 := idx_lt (hL x hx)
  have h2 := idx_lt hk
  have h3 := ksOf_len ha
  exact (nI_ltI (by omega) (by omega)).trans (idx_mono (hL x hx) hk)
theorem c_isHeld {S : Mem} {a : AS} {L : List Nat} {k : Nat} (ha : okS a) (hT : TW S 42 (L.map (irow a))) (hs : Srt L) (hL : ∀ x ∈ L, x ∈ ksOf a) (hk : k ∈ ksOf a) {K : Int32 → Mem → Prop} (k1 : k ∈ L → K 1 S) (k0 : k ∉ L → K 0 S) : P_X2_isHeld S (nI (idx a k)) K := by
  have hle := hT.2.1
  rw [List.length_map, t42.2.2] at hle
  have hp := pl_le k L
  have h2 := idx_lt hk
  have h3 := ksOf_len ha
  refine t_place t42.1 hT (mem_place hs hL hk ha) (by rw [List.length_map]; exact hle) (t_length hT ⟨fun q => k0 (fun m => ?_), fun q => ?_⟩)
  · rw [List.length_map] at q
    have := (nI_leI (by omega) (by omega)).mp q
    have := (pl_mem hs m).1
    omega
  · rw [List.length_map] at q
    have hlt : pl k L < L.length := Nat.not_le.mp fun z => q ((nI_leI (by omega) (by omega)).mpr z)
    refine t_at (c := 0) t42.1 hT (by omega) (by rw [t42.2.1]; omega) ?_
    rw [getD_mapN (List.getElem?_eq_getElem hlt)]
    have hm := hL _ (List.getElem_mem hlt)
    have h4 := idx_lt hm
    have key : irow a L[pl k L] 0 = nI (idx a k) ↔ L[pl k L] = k := by
      show nI (idx a L[pl k L]) = nI (idx a k) ↔ _
      exact ⟨fun e => idx_inj hm hk ((nI_eq (by omega) (by omega)).mp e), fun e => by rw [e]⟩
    rw [key]
    refine ⟨fun z => k0 (fun m => z ?_), fun z => k1 (by rw [← z]; exact List.getElem_mem hlt)⟩
    have := (pl_mem hs m).2
    rw [List.getD_eq_getElem?_getD, List.getElem?_eq_getElem hlt] at this
    exact this
theorem nI_max {a b : Nat} (ha : a < 2 ^ 31) (hb : b < 2 ^ 31) : (if nI a < nI b then nI b else nI a) = nI (max a b) := by
  split
  · rename_i h
    have := (nI_ltI ha hb).mp h
    rw [show max a b = b by omega]
  · rename_i h
    have : ¬ a < b := fun z => h ((nI_ltI ha hb).mpr z)
    rw [show max a b = a by omega]
section
variable {a : AS} {lim b l d pre : Nat} {PA SA base : List Row} {b0 n : Nat} {σ : PS} {its : List Nat}
theorem ct_taken {S : Mem} (h : CP S a lim b l pre PA SA base b0 n σ) {K : Mem → Prop} (k : ∀ S', CP S' a lim b l pre PA SA base b0 (n + 1) σ → FrP S S' → K S') : P_X4_raise 34 S (nI PA.length) (0 : Int32) (1 : Int32) K := by
  obtain ⟨h1, h2, h3, h4, ⟨PT, h5, h5'⟩, ⟨R, h6, h6'⟩, h7⟩ := h
  refine t_raise (c := 0) t34.1 h2 (last_lt _ _) (by rw [t34.2.1]; omega) (fun S' g f => k S' ⟨h1.fr f (by omega), ?_, h3.fr2 f (by omega) (by omega) (by omega), h4.fr2 f (by omega) (by omega) (by omega), ⟨PT, h5.fr2 f (by omega) (by omega) (by omega), h5'⟩, ⟨R, h6.fr2 f (by omega) (by omega) (by omega), h6'⟩, by rw [f 33 (by omega) (by omega)]; exact h7⟩ (f.p (by omega)))
  rw [getD_last, set_last] at g
  have e : upd (prR PA.length (recC l pre n σ)) 0 ((prR PA.length (recC l pre n σ)) 0 + 1) = prR PA.length (recC l pre (n + 1) σ) := by
    show upd _ 0 (nI n + 1) = _
    rw [nI_1]
    exact prR_u0 _ _ _ _ _ _ _ _ _
  rw [e] at g
  exact g
theorem ct_lay {S : Mem} (ha : okS a) (hb : 1 ≤ b ∧ b ≤ 4) (hlim : lim ≤ 12) (h : CP S a lim b l pre PA SA base b0 n σ) {last : Bool} (g : PI (hsh a.2.2.2) b lim l last its σ) (hits : ∀ x ∈ its, x ∈ ksOf a) (hn : its.length < 100) {k : Nat} (hk : k ∈ ksOf a) (hkm : k ∉ σ.1) {K : Mem → Prop}
    (kk : ∀ S', CP S' a lim b l pre PA SA base b0 n (layK lim σ k) → FrP S S' → K S') : P_X2_layGroup S (nI PA.length) (nI (prt (hsh a.2.2.2) b l k)) (nI (idx a k)) K := by
  obtain ⟨h1, h2, h3, h4, ⟨PT, h5, h51, h52, h53⟩, ⟨R, h6, h6'⟩, h7⟩ := h
  have h7' := g.s7
  have hpk := g.s13
  have hL : ∀ x ∈ σ.1, x ∈ ksOf a := fun x hx => hits x (g.s2 x hx).1
  have hle := h2.2.1
  rw [List.length_append, t34.2.2] at hle
  have core : ∀ S1, CX S1 a lim b → TW S1 34 (PA ++ [prR PA.length (recC l pre n σ)]) → TW S1 36 (SA ++ (recS l pre σ).map srR) → TW S1 42 (σ.1.map (irow a)) → TW S1 44 PT → TW S1 46 (base ++ R.map (irow a)) → S1 33 8 = nI (b0 + (layK lim σ k).2.2.2.2.2) → FrP S S1 → B_X2_layGroup_24 K S1 (nI PA.length) (nI (prt (hsh a.2.2.2) b l k)) (nI (idx a k)) := by
    intro S1 i1 i2 i3 i4 i5 i6 i7 fS
    refine t_place t42.1 i4 (mem_place g.s1 hL hk ha) (by rw [List.length_map]; omega) ?_
    refine t_insert t42.1 i4 (by rw [List.length_map]; exact pl_le k σ.1) (by rw [List.length_map, t42.2.2]; omega) (fun S5 g5 f5 => ?_)
    have e5 : (σ.1.map (irow a)).insertIdx (pl k σ.1) (row1 (nI (idx a k))) = (insK k σ.1).map (irow a) := by rw [insK_insertIdx, map_insertIdx']; rfl
    rw [e5] at g5
    have hp : prt (hsh a.2.2.2) b l k < PT.length := by rw [h51]; exact prt_lt _ _ _ _
    refine t_raise (c := 0) t44.1 (i5.fr2 f5 (by omega) (by omega) (by omega)) hp (by rw [t44.2.1]; omega) (fun S7 g7 f7 => ?_)
    have i27 : TW S7 34 (PA ++ [prR PA.length (recC l pre n σ)]) := (i2.fr2 f5 (by omega) (by omega) (by omega)).fr2 f7 (by omega) (by omega) (by omega)
    have g57 := g5.fr2 f7 (by omega) (by omega) (by omega)
    refine t_at (c := 4) t34.1 i27 (by omega) (by rw [t34.2.1]; omega) (t_length g57 ?_)
    rw [getD_last, List.length_map, insK_length]
    show P_X4_put 34 S7 _ _ (if nI σ.2.2.2.2.1 < nI (σ.1.length + 1) then nI (σ.1.length + 1) else nI σ.2.2.2.2.1) _
    rw [nI_max (by omega) (by omega)]
    refine t_put (c := 4) t34.1 i27 (last_lt _ _) (by rw [t34.2.1]; omega) (fun S13 g13 f13 => ?_)
    rw [getD_last, set_last] at g13
    have e13 : upd (prR PA.length (recC l pre n σ)) 4 (nI (max σ.2.2.2.2.1 (σ.1.length + 1))) = prR PA.length (recC l pre n (layK lim σ k)) := prR_u4 _ _ _ _ _ _ _ _ _
    rw [e13] at g13
    refine kk S13 ⟨((i1.fr f5 (by omega)).fr f7 (by omega)).fr f13 (by omega), g13, ((i3.fr2 f5 (by omega) (by omega) (by omega)).fr2 f7 (by omega) (by omega) (by omega)).fr2 f13 (by omega) (by omega) (by omega), g57.fr2 f13 (by omega) (by omega) (by omega), ⟨_, g7.fr2 f13 (by omega) (by omega) (by omega), ?_, ?_, ?_⟩, ⟨R, ((i6.fr2 f5 (by omega) (by omega) (by omega)).fr2 f7 (by omega) (by omega) (by omega)).fr2 f13 (by omega) (by omega) (by omega), h6'⟩, ?_⟩ (((fS.trans (f5.p (by omega))).trans (f7.p (by omega))).trans (f13.p (by omega)))
    · rw [List.length_set]; exact h51
    · intro p hp2
      show _ = nI (cntP _ b l (insK k σ.1) p)
      rw [cnt_insK]
      by_cases e : prt (hsh a.2.2.2) b l k = p
      · subst e
        rw [getD_set_self hp, upd_at, h52 _ hp2, if_pos rfl, nI_1]
      · rw [getD_set_ne (Ne.symm e), if_neg e]
        exact h52 p hp2
    · intro j q hq
      have hq1 : isSp σ q.1 = true := isSp_iff.mpr (List.mem_map.mpr ⟨q, List.mem_of_getElem? hq, rfl⟩)
      by_cases e : q.1 = prt (hsh a.2.2.2) b l k
      · rw [e, getD_set_self hp, upd_ne _ _ (by omega), ← e]
        exact h53 j q hq
      · rw [getD_set_ne e]
        exact h53 j q hq
    · rw [f13 33 (by omega) (by omega), f7 33 (by omega) (by omega), f5 33 (by omega) (by omega)]
      exact i7
  refine t_length h4 ?_
  rw [List.length_map, h1.2.1]
  refine ⟨fun q => core S h1 h2 h3 h4 h5 h6 ?_ (FrP.rf S), fun q S15 hS15 => ?_⟩
  · have := (nI_ltI (by omega) (by omega)).mp q
    show _ = nI (b0 + (σ.2.2.2.2.2 + if lim ≤ σ.1.length then 1 else 0))
    rw [if_neg (by omega)]
    exact h7
  · have hq : ¬ σ.1.length < lim := fun z => q ((nI_ltI (by omega) (by omega)).mpr z)
    have f15 : ∀ i, i ≠ 33 → S15 i = S i := fun i hi => by rw [hS15, mput_ne _ _ _ hi]
    have fP : FrP S S15 := ⟨fun i hi => f15 i (by omega), fun j hj => by rw [hS15, mput_at, upd_ne _ _ hj]⟩
    refine core S15 (h1.frP fP) (h2.fr (f15 _ (by omega)) (f15 _ (by omega))) (h3.fr (f15 _ (by omega)) (f15 _ (by omega))) (h4.fr (f15 _ (by omega)) (f15 _ (by omega))) (h5.fr (f15 _ (by omega)) (f15 _ (by omega))) (h6.fr (f15 _ (by omega)) (f15 _ (by omega))) ?_ fP
    show _ = nI (b0 + (σ.2.2.2.2.2 + if lim ≤ σ.1.length then 1 else 0))
    rw [if_pos (by omega), hS15, mput_at, upd_at, h7, nI_1]
    rfl
theorem map_set_key {L : List (Nat × Nat)} {j : Nat} {q : Nat × Nat} {G G' : Nat × Nat → Row} (hn : (L.map (fun x => x.1)).Nodup) (hj : L[j]? = some q) (hG : ∀ x ∈ L, x.1 ≠ q.1 → G' x = G x) : (L.map G).set j (G' q) = L.map G' := by
  obtain ⟨hjl, e⟩ := List.getElem?_eq_some_iff.mp hj
  have hw := List.pairwise_iff_getElem.mp hn
  refine List.ext_getElem (by simp) fun i h1 h2 => ?_
  rw [List.length_map] at h2
  rw [List.getElem_set, List.getElem_map, List.getElem_map]
  split
  · rename_i h; subst h; rw [e]
  · rename_i h
    refine (hG _ (List.getElem_mem _) (fun c => ?_)).symm
    have c : L[i].1 = L[j].1 := by rw [e]; exact c
    rcases Nat.lt_or_gt_of_ne h with h | h
    · have := hw j i (by rw [List.length_map]; exact hjl) (by rw [List.length_map]; exact h2) h
      rw [List.getElem_map, List.getElem_map] at this
      exact this c.symm
    · have := hw i j (by rw [List.length_map]; exact h2) (by rw [List.length_map]; exact hjl) h
      rw [List.getElem_map, List.getElem_map] at this
      exact this c
theorem ct_fil {S : Mem} (hb : 1 ≤ b ∧ b ≤ 4) (h : CP S a lim b l pre PA SA base b0 n σ) {last : Bool} (g : PI (hsh a.2.2.2) b lim l last its σ) (hbase : base.length ≤ 1500) (hn : its.length < 100) {k : Nat} (hsp : isSp σ (prt (hsh a.2.2.2) b l k) = true) {K : Mem → Prop}
    (kk : ∀ S', CP S' a lim b l pre PA SA base b0 n (filK σ (prt (hsh a.2.2.2) b l k) k) → FrP S S' → K S') :
    P_X4_append 46 S (nI (idx a k)) (fun _ S11 => P_X4_raise 34 S11 (nI PA.length) (3 : Int32) (1 : Int32) (fun S13 => P_X4_at 44 S13 (nI (prt (hsh a.2.2.2) b l k)) (1 : Int32) (fun r16 S15 => P_X4_raise 36 S15 r16 (4 : Int32) (1 : Int32) (fun S17 => K S17)))) := by
  obtain ⟨h1, h2, h3, h4, ⟨PT, h5, h51, h52, h53⟩, ⟨R, h6, h61, h62⟩, h7⟩ := h
  have h7' := g.s7
  have h16 := pow_b hb
  have hpl := prt_lt (hsh a.2.2.2) b l k
  obtain ⟨q, hq, hq1⟩ := List.mem_map.mp (isSp_iff.mp hsp)
  obtain ⟨j, hjl, hjq⟩ := List.getElem_of_mem hq
  have hj : σ.2.1[j]? = some q := by rw [List.getElem?_eq_getElem hjl, hjq]
  have hSA := h3.2.1
  rw [List.length_append, List.length_map, t36.2.2] at hSA
  have hlen : (recS l pre σ).length = σ.2.1.length := List.length_map _
  refine t_append t46.1 h6 (by rw [List.length_append, List.length_map, t46.2.2]; omega) (fun S11 g11 f11 => ?_)
  have h211 := h2.fr2 f11 (by omega) (by omega) (by omega)
  refine t_raise (c := 3) t34.1 h211 (last_lt _ _) (by rw [t34.2.1]; omega) (fun S13 g13 f13 => ?_)
  rw [getD_last, set_last] at g13
  have e13 : upd (prR PA.length (recC l pre n σ)) 3 ((prR PA.length (recC l pre n σ)) 3 + 1) = prR PA.length (recC l pre n (filK σ (prt (hsh a.2.2.2) b l k) k)) := by
    show upd _ 3 (nI σ.2.2.2.1 + 1) = _
    rw [nI_1]
    exact prR_u3 _ _ _ _ _ _ _ _ _
  rw [e13] at g13
  have h513 := (h5.fr2 f11 (by omega) (by omega) (by omega)).fr2 f13 (by omega) (by omega) (by omega)
  have h313 := (h3.fr2 f11 (by omega) (by omega) (by omega)).fr2 f13 (by omega) (by omega) (by omega)
  refine t_at (c := 1) t44.1 h513 (by omega) (by rw [t44.2.1]; omega) ?_
  rw [← hq1, h53 j q hj]
  refine t_raise (c := 4) t36.1 h313 (by rw [List.length_append, List.length_map, hlen]; omega) (by rw [t36.2.1]; omega) (fun S17 g17 f17 => ?_)
  rw [getD_appR, set_appR] at g17
  have eG : (recS l pre σ).map srR = σ.2.1.map (fun x => srR (l, pre, x.1, x.2, (σ.2.2.1 x.1).length)) := by unfold recS; rw [List.map_map]; rfl
  have eG' : (recS l pre (filK σ (prt (hsh a.2.2.2) b l k) k)).map srR = σ.2.1.map (fun x => srR (l, pre, x.1, x.2, ((filK σ (prt (hsh a.2.2.2) b l k) k).2.2.1 x.1).length)) := by unfold recS; rw [List.map_map]; rfl
  have eq : (σ.2.1.map (fun x => srR (l, pre, x.1, x.2, (σ.2.2.1 x.1).length))).getD j row0 = srR (l, pre, q.1, q.2, (σ.2.2.1 q.1).length) := by rw [List.getD_eq_getElem?_getD, List.getElem?_map, hj]; rfl
  have e17 : upd (srR (l, pre, q.1, q.2, (σ.2.2.1 q.1).length)) 4 ((srR (l, pre, q.1, q.2, (σ.2.2.1 q.1).length)) 4 + 1) = (fun x : Nat × Nat => srR (l, pre, x.1, x.2, ((filK σ (prt (hsh a.2.2.2) b l k) k).2.2.1 x.1).length)) q := by
    show upd _ 4 (nI (σ.2.2.1 q.1).length + 1) = srR (l, pre, q.1, q.2, (if q.1 = prt (hsh a.2.2.2) b l k then σ.2.2.1 (prt (hsh a.2.2.2) b l k) ++ [k] else σ.2.2.1 q.1).length)
    rw [nI_1, srR_u4, if_pos hq1, hq1, List.length_append, List.length_singleton]
  have em := map_set_key (G := fun x : Nat × Nat => srR (l, pre, x.1, x.2, (σ.2.2.1 x.1).length)) (G' := fun x : Nat × Nat => srR (l, pre, x.1, x.2, ((filK σ (prt (hsh a.2.2.2) b l k) k).2.2.1 x.1).length)) g.s5.1 hj (fun x _ hx => by
    show srR (l, pre, x.1, x.2, (if x.1 = prt (hsh a.2.2.2) b l k then _ else σ.2.2.1 x.1).length) = _
    rw [if_neg (by rw [← hq1]; exact hx)])
  rw [eG, eq, e17, em, ← eG'] at g17
  refine kk S17 ⟨((h1.fr f11 (by omega)).fr f13 (by omega)).fr f17 (by omega), g13.fr2 f17 (by omega) (by omega) (by omega), g17, ((h4.fr2 f11 (by omega) (by omega) (by omega)).fr2 f13 (by omega) (by omega) (by omega)).fr2 f17 (by omega) (by omega) (by omega), ⟨PT, h513.fr2 f17 (by omega) (by omega) (by omega), h51, h52, h53⟩, ⟨R ++ [k], ?_, ?_, fun p => ?_⟩, ?_⟩ (((f11.p (by omega)).trans (f13.p (by omega))).trans (f17.p (by omega)))
  · rw [List.map_append, ← List.append_assoc]
    exact (g11.fr2 f13 (by omega) (by omega) (by omega)).fr2 f17 (by omega) (by omega) (by omega)
  · show _ = σ.2.2.2.1 + 1
    rw [List.length_append, h61]; rfl
  · rw [List.filter_append, h62]
    show _ = if p = prt (hsh a.2.2.2) b l k then σ.2.2.1 (prt (hsh a.2.2.2) b l k) ++ [k] else σ.2.2.1 p
    split
    · rename_i e; subst e; simp
    · rename_i e; simp [Ne.symm e]
  · rw [f17 33 (by omega) (by omega), f13 33 (by omega) (by omega), f11 33 (by omega) (by omega)]
    exact h7
end
