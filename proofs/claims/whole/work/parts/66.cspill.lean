/-! the class spills a part; a pass over all items -/
theorem bestP_range (h : Nat → Nat) (b l : Nat) (L : List Nat) (j : Nat) : (List.range (j + 1)).foldl (fun best p => if cntP h b l L best < cntP h b l L p then p else best) 0 = (if cntP h b l L ((List.range j).foldl (fun best p => if cntP h b l L best < cntP h b l L p then p else best) 0) < cntP h b l L j then j else (List.range j).foldl (fun best p => if cntP h b l L best < cntP h b l L p then p else best) 0) := by
  rw [List.range_succ, List.foldl_append]; rfl
section
variable {a : AS} {lim b l d pre : Nat} {PA SA base : List Row} {b0 n : Nat} {σ : PS} {its : List Nat}
theorem c_fullest {S : Mem} {PT : List Row} {L : List Nat} (hb : 1 ≤ b ∧ b ≤ 4) (hL : L.length ≤ 100) (h5 : TW S 44 PT) (h51 : PT.length = 2 ^ b) (h52 : ∀ p, p < 2 ^ b → (PT.getD p row0) 0 = nI (cntP (hsh a.2.2.2) b l L p)) {K : Int32 → Mem → Prop} (k : K (nI (bestP (hsh a.2.2.2) b l L)) S) : P_X2_fullestPart S K := by
  have h16 := pow_b hb
  have loop : ∀ m n j best, j + m = 2 ^ b → m < n → best < 2 ^ b → best = (List.range j).foldl (fun best p => if cntP (hsh a.2.2.2) b l L best < cntP (hsh a.2.2.2) b l L p then p else best) 0 → B_X2_fullestPart_4 K n S (nI best) (nI j) := by
    intro m
    induction m with
    | zero =>
      intro n j best hj hn hbest he
      match n, hn with
      | n + 1, _ =>
        refine t_length h5 ⟨fun _ => ?_, fun z => absurd ((nI_leI (by omega) (by omega)).mpr (by omega)) z⟩
        rw [show j = 2 ^ b by omega] at he
        rw [he]; exact k
    | succ m ih =>
      intro n j best hj hn hbest he
      match n, hn with
      | n + 1, hn =>
        have c1 := cnt_le (hsh a.2.2.2) b l L j
        have c2 := cnt_le (hsh a.2.2.2) b l L best
        refine t_length h5 ⟨fun z => absurd ((nI_leI (by omega) (by omega)).mp z) (by omega), fun _ => ?_⟩
        refine t_at (c := 0) t44.1 h5 (by omega) (by rw [t44.2.1]; omega) (t_at (c := 0) t44.1 h5 (by omega) (by rw [t44.2.1]; omega) ?_)
        rw [h52 j (by omega), h52 best hbest]
        have er := bestP_range (hsh a.2.2.2) b l L j
        rw [← he] at er
        refine ⟨fun z => ?_, fun z => ?_⟩
        · have := (nI_leI (by omega) (by omega)).mp z
          rw [if_neg (by omega)] at er
          show B_X2_fullestPart_4 K n S (nI best) (nI j + 1)
          rw [nI_1]
          exact ih n (j + 1) best (by omega) (by omega) hbest er.symm
        · have : ¬ cntP (hsh a.2.2.2) b l L j ≤ cntP (hsh a.2.2.2) b l L best := fun c => z ((nI_leI (by omega) (by omega)).mpr c)
          rw [if_pos (by omega)] at er
          show B_X2_fullestPart_4 K n S (nI j) (nI j + 1)
          rw [nI_1]
          exact ih n (j + 1) j (by omega) (by omega) (by omega) er.symm
  exact ⟨2 ^ b, loop (2 ^ b - 1) (2 ^ b) 1 0 (by omega) (by omega) (by omega) (by rw [bestP_range (j := 0)]; split <;> rfl)⟩
theorem TW.congr {S : Mem} {t : Nat} {L L' : List Row} (h : TW S t L) (hl : L'.length = L.length) (e : ∀ k c, k < L.length → c < tWn t → (L.getD k row0) c = (L'.getD k row0) c) : TW S t L' := ⟨by rw [hl]; exact h.1, by rw [hl]; exact h.2.1, fun k c hk hc => by rw [hl] at hk; rw [h.2.2 k c hk hc]; exact e k c hk hc⟩
/-- the memory while a part is taken out of it -/
def Mok (M : List Row) (a : AS) (b l q : Nat) (L : List Nat) (i : Nat) : Prop := M.length = L.length ∧ (∀ j k, ((L.take i).filter (fun k => !(prt (hsh a.2.2.2) b l k == q)))[j]? = some k → (M.getD j row0) 0 = nI (idx a k)) ∧ ∀ j k, i ≤ j → L[j]? = some k → (M.getD j row0) 0 = nI (idx a k)
theorem take_filter_succ {L : List Nat} {i : Nat} (hi : i < L.length) (q : Nat → Bool) : (L.take (i + 1)).filter q = (L.take i).filter q ++ (if q L[i] = true then [L[i]] else []) := by
  rw [List.take_succ_eq_append_getElem hi, List.filter_append]
  congr 1
  by_cases e : q L[i] = true
  · rw [if_pos e, List.filter_cons_of_pos e]; rfl
  · rw [if_neg e, List.filter_cons_of_neg e]; rfl
theorem sp_loop {q : Nat} (hq : q < 16) (ha : okS a) (hb : 1 ≤ b ∧ b ≤ 4) (hl : (l + 1) * b ≤ 16) {L : List Nat} (hL : ∀ x ∈ L, x ∈ ksOf a) (h100 : L.length ≤ 100) {R : List Nat} (hroom : base.length + R.length + L.length ≤ 1600) {K : Mem → Prop} {P : Int32} : ∀ (m n i : Nat) (S : Mem) (M : List Row), i + m = L.length → m < n → CX S a lim b → TW S 42 M → Mok M a b l q L i → TW S 46 (base ++ (R ++ (L.take i).filter (fun k => prt (hsh a.2.2.2) b l k == q)).map (irow a)) →
    (∀ S' M', (∀ i, i ≠ 42 → i ≠ 43 → i ≠ 46 → i ≠ 47 → S' i = S i) → TW S' 42 M' → Mok M' a b l q L L.length → TW S' 46 (base ++ (R ++ L.filter (fun k => prt (hsh a.2.2.2) b l k == q)).map (irow a)) → B_X2_spillPart_86 K S' P (nI q) (nI l) (nI (L.filter (fun k => !(prt (hsh a.2.2.2) b l k == q))).length)) →
    B_X2_spillPart_17 K n S P (nI q) (nI l) (nI ((L.take i).filter (fun k => !(prt (hsh a.2.2.2) b l k == q))).length) (nI i) := by
  intro m
  induction m with
  | zero =>
    intro n i S M hi hn hX hM hok h46 k
    match n, hn with
    | n + 1, _ =>
      have e : i = L.length := by omega
      subst e
      rw [List.take_length] at h46 ⊢
      refine t_length hM ⟨fun _ => k S M (fun _ _ _ _ _ => rfl) hM hok h46, fun z => absurd ((nI_leI (by have := hok.1; omega) (by omega)).mpr (by have := hok.1; omega)) z⟩
  | succ m ih =>
    intro n i S M hi hn hX hM hok h46 k
    match n, hn with
    | n + 1, hn =>
      obtain ⟨o1, o2, o3⟩ := hok
      have hil : i < L.length := by omega
      have hmem := hL _ (List.getElem_mem hil)
      have hpl := prt_lt (hsh a.2.2.2) b l L[i]
      have h16 := pow_b hb
      have hkl : ((L.take i).filter (fun k => !(prt (hsh a.2.2.2) b l k == q))).length ≤ i := Nat.le_trans (List.length_filter_le _ _) (List.length_take_le _ _)
      have hkl2 : ((L.take i).filter (fun k => prt (hsh a.2.2.2) b l k == q)).length ≤ i := Nat.le_trans (List.length_filter_le _ _) (List.length_take_le _ _)
      refine t_length hM ⟨fun z => absurd ((nI_leI (by omega) (by omega)).mp z) (by omega), fun _ => ?_⟩
      refine t_at (c := 0) t42.1 hM (by omega) (by rw [t42.2.1]; omega) ?_
      rw [o3 i _ (Nat.le_refl _) (List.getElem?_eq_getElem hil)]
      refine c_partOf ha hb hl hX hmem ⟨fun z => ?_, fun z => ?_⟩
      · have hne : ¬ prt (hsh a.2.2.2) b l L[i] = q := fun e => z (by rw [e])
        refine t_put (c := 0) t42.1 hM (by omega) (by rw [t42.2.1]; omega) (fun S33 g33 f33 => ?_)
        have e1 := take_filter_succ hil (fun k => !(prt (hsh a.2.2.2) b l k == q))
        have e2 := take_filter_succ hil (fun k => prt (hsh a.2.2.2) b l k == q)
        rw [if_pos (by simp [hne])] at e1
        rw [if_neg (by simp [hne]), List.append_nil] at e2
        show B_X2_spillPart_17 K n S33 P (nI q) (nI l) (nI ((L.take i).filter (fun k => !(prt (hsh a.2.2.2) b l k == q))).length + 1) (nI i + 1)
        rw [nI_1, nI_1]
        have el : ((L.take i).filter (fun k => !(prt (hsh a.2.2.2) b l k == q))).length + 1 = ((L.take (i + 1)).filter (fun k => !(prt (hsh a.2.2.2) b l k == q))).length := by rw [e1, List.length_append]; rfl
        rw [el]
        refine ih n (i + 1) S33 _ (by omega) (by omega) (hX.fr f33 (by omega)) g33 ⟨by rw [List.length_set]; exact o1, fun j k' hj => ?_, fun j k' hj hjk => ?_⟩ (by rw [e2]; exact h46.fr2 f33 (by omega) (by omega) (by omega)) (fun S' M' f' g' ok' r' => k S' M' (fun i' a1 a2 a3 a4 => (f' i' a1 a2 a3 a4).trans (f33 i' a1 a2)) g' ok' r')
        · rw [e1] at hj
          by_cases ej : j = ((L.take i).filter (fun k => !(prt (hsh a.2.2.2) b l k == q))).length
          · subst ej
            rw [getD_set_self (by omega), upd_at]
            rw [List.getElem?_append_right (Nat.le_refl _), Nat.sub_self] at hj
            cases hj; rfl
          · have hjl := (List.getElem?_eq_some_iff.mp hj).1
            rw [List.length_append, List.length_singleton] at hjl
            rw [getD_set_ne ej]
            rw [List.getElem?_append_left (by omega)] at hj
            exact o2 j k' hj
        · rw [getD_set_ne (by omega)]
          exact o3 j k' (by omega) hjk
      · have heq : prt (hsh a.2.2.2) b l L[i] = q := (nI_eq (by omega) (by omega)).mp z
        have e1 := take_filter_succ hil (fun k => !(prt (hsh a.2.2.2) b l k == q))
        have e2 := take_filter_succ hil (fun k => prt (hsh a.2.2.2) b l k == q)
        rw [if_neg (by simp [heq]), List.append_nil] at e1
        rw [if_pos (by simp [heq])] at e2
        refine t_append t46.1 h46 (by rw [List.length_append, List.length_map, List.length_append, t46.2.2]; omega) (fun S35 g35 f35 => ?_)
        show B_X2_spillPart_17 K n S35 P (nI q) (nI l) _ (nI i + 1)
        rw [nI_1, ← e1]
        refine ih n (i + 1) S35 M (by omega) (by omega) (hX.fr f35 (by omega)) (hM.fr2 f35 (by omega) (by omega) (by omega)) ⟨o1, by rw [e1]; exact o2, fun j k' hj hjk => o3 j k' (by omega) hjk⟩ ?_ (fun S' M' f' g' ok' r' => k S' M' (fun i' a1 a2 a3 a4 => (f' i' a1 a2 a3 a4).trans (f35 i' a3 a4)) g' ok' r')
        rw [e2, ← List.append_assoc, List.map_append, ← List.append_assoc]
        exact g35
theorem c_spill {S : Mem} (ha : okS a) (hb : 1 ≤ b ∧ b ≤ 4) (hl : (l + 1) * b ≤ 16) (h : CP S a lim b l pre PA SA base b0 n σ) (g : PI (hsh a.2.2.2) b lim l false its σ) (hits : ∀ x ∈ its, x ∈ ksOf a) (hbase : base.length ≤ 1500) (hn : its.length ≤ 100) (hne : σ.1 ≠ []) (hSA : SA.length + σ.2.1.length < 612) {K : Mem → Prop}
    (kk : ∀ S', CP S' a lim b l pre PA SA base b0 n (spl (hsh a.2.2.2) b l σ) → FrP S S' → K S') : P_X2_spillPart S (nI PA.length) (nI (bestP (hsh a.2.2.2) b l σ.1)) K := by
  obtain ⟨h1, h2, h3, h4, ⟨PT, h5, h51, h52, h53⟩, ⟨R, h6, h61, h62⟩, h7⟩ := h
  have h7' := g.s7
  have h16 := pow_b hb
  have hbl := bestP_lt (hsh a.2.2.2) b l σ.1
  have hL : ∀ x ∈ σ.1, x ∈ ksOf a := fun x hx => hits x (g.s2 x hx).1
  obtain ⟨x0, hx0, hb0⟩ := bestP_pos (hsh a.2.2.2) b l hne
  have hb1 : isSp σ (bestP (hsh a.2.2.2) b l σ.1) = false := by rw [← hb0]; exact (g.s2 x0 hx0).2
  have hempty : σ.2.2.1 (bestP (hsh a.2.2.2) b l σ.1) = [] := by
    cases hF : σ.2.2.1 (bestP (hsh a.2.2.2) b l σ.1) with
    | nil => rfl
    | cons y L =>
      have := (g.s3 (bestP (hsh a.2.2.2) b l σ.1) y (by rw [hF]; exact List.mem_cons_self)).2.2
      rw [hb1] at this; cases this
  have hspne : ∀ q ∈ σ.2.1, q.1 ≠ bestP (hsh a.2.2.2) b l σ.1 := fun q hq e => by
    have := isSp_iff.mpr (List.mem_map.mpr ⟨q, hq, e⟩)
    rw [hb1] at this; cases this
  have hle := h2.2.1
  rw [List.length_append, t34.2.2] at hle
  have hlen : (recS l pre σ).length = σ.2.1.length := List.length_map _
  have hfl := filter_len (fun k => prt (hsh a.2.2.2) b l k == bestP (hsh a.2.2.2) b l σ.1) σ.1
  have hfl : (σ.1.filter (fun k => !(prt (hsh a.2.2.2) b l k == bestP (hsh a.2.2.2) b l σ.1))).length + cntP (hsh a.2.2.2) b l σ.1 (bestP (hsh a.2.2.2) b l σ.1) = σ.1.length := hfl
  refine t_at (c := 6) t34.1 h2 (by omega) (by rw [t34.2.1]; omega) ?_
  rw [getD_last]
  refine ⟨σ.1.length + 1, ?_⟩
  have hget : ∀ j k, σ.1[j]? = some k → ((σ.1.map (irow a)).getD j row0) 0 = nI (idx a k) := fun j k hj => by rw [getD_mapN hj]; rfl
  refine sp_loop (q := bestP (hsh a.2.2.2) b l σ.1) (R := R) (base := base) (by omega) ha hb hl hL (by omega) (by omega) σ.1.length (σ.1.length + 1) 0 S _ (by omega) (by omega) h1 h4 ⟨List.length_map _, fun j k hj => by simp at hj, fun j k _ hj => hget j k hj⟩ (by rw [List.take_zero, List.filter_nil, List.append_nil]; exact h6) (fun S5 M f5 g5 ok5 r5 => ?_)
  obtain ⟨o1, o2, o3⟩ := ok5
  rw [List.take_length] at o2
  have fr5 : ∀ i, i ≠ 42 → i ≠ 43 → i ≠ 46 → i ≠ 47 → S5 i = S i := f5
  have x5 : CX S5 a lim b := ⟨h1.1.fr (f5 _ (by omega) (by omega) (by omega) (by omega)) (f5 _ (by omega) (by omega) (by omega) (by omega)), by rw [f5 33 (by omega) (by omega) (by omega) (by omega)]; exact h1.2.1, by rw [f5 33 (by omega) (by omega) (by omega) (by omega)]; exact h1.2.2.1, by rw [f5 33 (by omega) (by omega) (by omega) (by omega)]; exact h1.2.2.2⟩
  have p5 : FrP S S5 := ⟨fun i hi => f5 i (by omega) (by omega) (by omega) (by omega), fun j _ => by rw [f5 33 (by omega) (by omega) (by omega) (by omega)]⟩
  have h25 : TW S5 34 _ := h2.fr (f5 _ (by omega) (by omega) (by omega) (by omega)) (f5 _ (by omega) (by omega) (by omega) (by omega))
  have h35 : TW S5 36 _ := h3.fr (f5 _ (by omega) (by omega) (by omega) (by omega)) (f5 _ (by omega) (by omega) (by omega) (by omega))
  have h55 : TW S5 44 _ := h5.fr (f5 _ (by omega) (by omega) (by omega) (by omega)) (f5 _ (by omega) (by omega) (by omega) (by omega))
  refine t_length g5 (t_shorten t42.1 g5 (by omega) (fun S7 g7 f7 => ?_))
  have g7' : TW S7 42 ((σ.1.filter (fun k => !(prt (hsh a.2.2.2) b l k == bestP (hsh a.2.2.2) b l σ.1))).map (irow a)) := by
    refine g7.congr (by rw [List.length_map, List.length_take]; omega) (fun k c hk hc => ?_)
    rw [t42.2.1] at hc
    rw [List.length_take] at hk
    have hc0 : c = 0 := by omega
    subst hc0
    have hkl : k < (σ.1.filter (fun k => !(prt (hsh a.2.2.2) b l k == bestP (hsh a.2.2.2) b l σ.1))).length := by omega
    have e1 : (M.take (σ.1.filter (fun k => !(prt (hsh a.2.2.2) b l k == bestP (hsh a.2.2.2) b l σ.1))).length).getD k row0 = M.getD k row0 := by
      rw [List.getD_eq_getElem?_getD, List.getD_eq_getElem?_getD, List.getElem?_take_of_lt hkl]
    rw [e1, o2 k _ (List.getElem?_eq_getElem hkl), getD_mapN (List.getElem?_eq_getElem hkl)]
    rfl
  refine t_append t36.1 (h35.fr2 f7 (by omega) (by omega) (by omega)) (by rw [List.length_append, List.length_map, hlen, t36.2.2]; exact hSA) (fun S9 g9 f9 => ?_)
  have h29 := (h25.fr2 f7 (by omega) (by omega) (by omega)).fr2 f9 (by omega) (by omega) (by omega)
  refine t_at (c := 7) t34.1 h29 (by omega) (by rw [t34.2.1]; omega) ?_
  rw [getD_last]
  have er : nI M.length - nI (σ.1.filter (fun k => !(prt (hsh a.2.2.2) b l k == bestP (hsh a.2.2.2) b l σ.1))).length = nI (cntP (hsh a.2.2.2) b l σ.1 (bestP (hsh a.2.2.2) b l σ.1)) := by
    rw [pk_sub (by omega)]
    congr 1
    omega
  rw [er]
  refine t_put (c := 1) t36.1 g9 (last_lt _ _) (by rw [t36.2.1]; omega) (fun S13 g13 f13 => ?_)
  rw [getD_last, set_last] at g13
  refine t_put (c := 2) t36.1 g13 (last_lt _ _) (by rw [t36.2.1]; omega) (fun S15 g15 f15 => ?_)
  rw [getD_last, set_last] at g15
  refine t_put (c := 3) t36.1 g15 (last_lt _ _) (by rw [t36.2.1]; omega) (fun S17 g17 f17 => ?_)
  rw [getD_last, set_last] at g17
  refine t_put (c := 4) t36.1 g17 (last_lt _ _) (by rw [t36.2.1]; omega) (fun S19 g19 f19 => ?_)
  rw [getD_last, set_last] at g19
  have f36 : Fr S9 S19 36 := ((f13.trans f15).trans f17).trans f19
  have h519 := ((h55.fr2 f7 (by omega) (by omega) (by omega)).fr2 f9 (by omega) (by omega) (by omega)).fr2 f36 (by omega) (by omega) (by omega)
  have hbp : bestP (hsh a.2.2.2) b l σ.1 < PT.length := by rw [h51]; exact hbl
  refine t_put (c := 0) t44.1 h519 hbp (by rw [t44.2.1]; omega) (fun S21 g21 f21 => ?_)
  refine t_put (c := 1) t44.1 g21 (by rw [List.length_set]; exact hbp) (by rw [t44.2.1]; omega) (fun S23 g23 f23 => ?_)
  rw [getD_set_self hbp, List.set_set] at g23
  have f44 : Fr S19 S23 44 := f21.trans f23
  have h223 := (h29.fr2 f36 (by omega) (by omega) (by omega)).fr2 f44 (by omega) (by omega) (by omega)
  refine t_raise (c := 2) t34.1 h223 (last_lt _ _) (by rw [t34.2.1]; omega) (fun S25 g25 f25 => ?_)
  rw [getD_last, set_last] at g25
  refine t_raise (c := 3) t34.1 g25 (last_lt _ _) (by rw [t34.2.1]; omega) (fun S27 g27 f27 => ?_)
  rw [getD_last, set_last] at g27
  have f34 : Fr S23 S27 34 := f25.trans f27
  have e27 : upd (upd (prR PA.length (recC l pre n σ)) 2 ((prR PA.length (recC l pre n σ)) 2 + ((1 : Int32) <<< (nI (bestP (hsh a.2.2.2) b l σ.1) &&& 31)))) 3 ((upd (prR PA.length (recC l pre n σ)) 2 ((prR PA.length (recC l pre n σ)) 2 + ((1 : Int32) <<< (nI (bestP (hsh a.2.2.2) b l σ.1) &&& 31)))) 3 + nI (cntP (hsh a.2.2.2) b l σ.1 (bestP (hsh a.2.2.2) b l σ.1))) = prR PA.length (recC l pre n (spl (hsh a.2.2.2) b l σ)) := by
    rw [shl1 (by omega)]
    have e1 : (prR PA.length (recC l pre n σ)) 2 + nI (2 ^ bestP (hsh a.2.2.2) b l σ.1) = nI (maskS (spl (hsh a.2.2.2) b l σ).2.1) := by
      show nI (maskS σ.2.1) + nI _ = nI (maskS (σ.2.1 ++ [_]))
      rw [maskS_app, nI_add]
    rw [e1]
    have e2 : (upd (prR PA.length (recC l pre n σ)) 2 (nI (maskS (spl (hsh a.2.2.2) b l σ).2.1))) 3 + nI (cntP (hsh a.2.2.2) b l σ.1 (bestP (hsh a.2.2.2) b l σ.1)) = nI (spl (hsh a.2.2.2) b l σ).2.2.2.1 := by
      rw [upd_ne _ _ (by omega)]
      exact nI_add _ _
    rw [e2]
    unfold recC
    rw [prR_u2, prR_u3]
    rfl
  rw [e27] at g27
  have x27 : CX S27 a lim b := ((((x5.fr f7 (by omega)).fr f9 (by omega)).fr f36 (by omega)).fr f44 (by omega)).fr f34 (by omega)
  have e19 : SA ++ (recS l pre σ).map srR ++ [upd (upd (upd (upd (row1 (nI l)) 1 (nI pre)) 2 (nI (bestP (hsh a.2.2.2) b l σ.1))) 3 (nI (cntP (hsh a.2.2.2) b l σ.1 (bestP (hsh a.2.2.2) b l σ.1)))) 4 (nI (cntP (hsh a.2.2.2) b l σ.1 (bestP (hsh a.2.2.2) b l σ.1)))] = SA ++ (recS l pre (spl (hsh a.2.2.2) b l σ)).map srR := by
    rw [srR_new, List.append_assoc]
    congr 1
    have e1 : (recS l pre (spl (hsh a.2.2.2) b l σ)) = recS l pre σ ++ [(l, pre, bestP (hsh a.2.2.2) b l σ.1, cntP (hsh a.2.2.2) b l σ.1 (bestP (hsh a.2.2.2) b l σ.1), cntP (hsh a.2.2.2) b l σ.1 (bestP (hsh a.2.2.2) b l σ.1))] := by
      show (σ.2.1 ++ [_]).map _ = σ.2.1.map _ ++ _
      rw [List.map_append]
      congr 1
      · refine List.map_congr_left fun q hq => ?_
        show (l, pre, q.1, q.2, (if q.1 = bestP (hsh a.2.2.2) b l σ.1 then _ else σ.2.2.1 q.1).length) = _
        rw [if_neg (hspne q hq)]
      · show [(l, pre, bestP (hsh a.2.2.2) b l σ.1, _, (if bestP (hsh a.2.2.2) b l σ.1 = bestP (hsh a.2.2.2) b l σ.1 then σ.2.2.1 (bestP (hsh a.2.2.2) b l σ.1) ++ _ else _).length)] = _
        rw [if_pos rfl, hempty, List.nil_append]
        rfl
    rw [e1, List.map_append]
    rfl
  have g19 : TW S19 36 (SA ++ (recS l pre (spl (hsh a.2.2.2) b l σ)).map srR) := by rw [← e19]; exact g19
  refine kk S27 ⟨x27, g27, (g19.fr2 f44 (by omega) (by omega) (by omega)).fr2 f34 (by omega) (by omega) (by omega), (((g7'.fr2 f9 (by omega) (by omega) (by omega)).fr2 f36 (by omega) (by omega) (by omega)).fr2 f44 (by omega) (by omega) (by omega)).fr2 f34 (by omega) (by omega) (by omega), ⟨_, g23.fr2 f34 (by omega) (by omega) (by omega), ?_, ?_, ?_⟩, ⟨_, ((((r5.fr2 f7 (by omega) (by omega) (by omega)).fr2 f9 (by omega) (by omega) (by omega)).fr2 f36 (by omega) (by omega) (by omega)).fr2 f44 (by omega) (by omega) (by omega)).fr2 f34 (by omega) (by omega) (by omega), ?_, fun p => ?_⟩, ?_⟩ (((((p5.trans (f7.p (by omega))).trans (f9.p (by omega))).trans (f36.p (by omega))).trans (f44.p (by omega))).trans (f34.p (by omega)))
  · rw [List.length_set]; exact h51
  · intro p hp
    show _ = nI (cntP (hsh a.2.2.2) b l (σ.1.filter _) p)
    rw [cnt_out]
    by_cases e : p = bestP (hsh a.2.2.2) b l σ.1
    · subst e
      rw [getD_set_self hbp, if_pos rfl, upd_ne _ _ (by omega), upd_at]
      rfl
    · rw [getD_set_ne e, if_neg e]
      exact h52 p hp
  · intro j q hj
    have hj : (σ.2.1 ++ [(bestP (hsh a.2.2.2) b l σ.1, cntP (hsh a.2.2.2) b l σ.1 (bestP (hsh a.2.2.2) b l σ.1))])[j]? = some q := hj
    by_cases ej : j < σ.2.1.length
    · rw [List.getElem?_append_left ej] at hj
      rw [getD_set_ne (hspne q (List.mem_of_getElem? hj))]
      exact h53 j q hj
    · have hjl := (List.getElem?_eq_some_iff.mp hj).1
      rw [List.length_append, List.length_singleton] at hjl
      have : j = σ.2.1.length := by omega
      subst this
      rw [List.getElem?_append_right (Nat.le_refl _), Nat.sub_self] at hj
      cases hj
      show ((PT.set (bestP (hsh a.2.2.2) b l σ.1) _).getD (bestP (hsh a.2.2.2) b l σ.1) row0) 1 = _
      rw [getD_set_self hbp, upd_at, List.length_append, List.length_map, hlen]
  · rw [List.length_append, h61]; rfl
  · rw [List.filter_append, h62, List.filter_filter]
    show _ = if p = bestP (hsh a.2.2.2) b l σ.1 then σ.2.2.1 p ++ σ.1.filter _ else σ.2.2.1 p
    split
    · rename_i e; subst e
      congr 1
      exact List.filter_congr fun x _ => by simp
    · rename_i e
      rw [List.filter_eq_nil_iff.mpr (fun x _ => ?_), List.append_nil]
      by_cases e2 : prt (hsh a.2.2.2) b l x = p
      · simp [e2, e]
      · simp [e2]
  · rw [f34 33 (by omega) (by omega), f44 33 (by omega) (by omega), f36 33 (by omega) (by omega), f9 33 (by omega) (by omega), f7 33 (by omega) (by omega), f5 33 (by omega) (by omega) (by omega) (by omega)]
    exact h7
end
