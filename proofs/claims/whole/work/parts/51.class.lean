/-! the class's simple calls -/
theorem c_outT {S : Mem} {n lo hi : Int32} {K : Int32 → Mem → Prop} (h : n < lo ∨ hi < n) (k : K 1 S) : P_X6_isOutside S n lo hi K := by
  refine ⟨fun _ => k, fun q => ⟨fun z => ?_, fun _ => k⟩⟩
  rcases h with h | h
  · exact absurd h q
  · exact absurd h (Int32.not_lt.mpr z)
theorem c_outF {S : Mem} {n lo hi : Int32} {K : Int32 → Mem → Prop} (h : ¬ (n < lo ∨ hi < n)) (k : K 0 S) : P_X6_isOutside S n lo hi K := by
  refine ⟨fun q => absurd (Or.inl q) h, fun _ => ⟨fun _ => k, fun z => absurd (Or.inr (Int32.not_le.mp z)) h⟩⟩
theorem sts_of {j : Nat} (h : j < 4) : 8 + 5 * j ∈ sts := by
  rcases (show j = 0 ∨ j = 1 ∨ j = 2 ∨ j = 3 by omega) with rfl | rfl | rfl | rfl <;> decide
theorem sts_dims {s : Nat} (h : s ∈ sts) : tWn (s + 1) = 2 ∧ tWn (s + 3) = 1 ∧ tRn (s + 1) = 100 ∧ tRn (s + 3) = 3 := by
  have key : ∀ x ∈ sts, tWn (x + 1) = 2 ∧ tWn (x + 3) = 1 ∧ tRn (x + 1) = 100 ∧ tRn (x + 3) = 3 := by decide
  exact key s h
theorem sts_apart {s s1 : Nat} (h : s ∈ sts) (h1 : s1 ∈ sts) (hne : s ≠ s1) : ∀ i, s + 1 ≤ i → i ≤ s + 4 → ¬ (s1 + 1 ≤ i ∧ i ≤ s1 + 4) := by
  have key : ∀ x ∈ sts, ∀ y ∈ sts, x ≠ y → x + 5 ≤ y ∨ y + 5 ≤ x := by decide
  have := key s h s1 h1 hne
  omega
theorem c_stateAt {S : Mem} {o m : Nat} (ho : o < 4) (hm : m < 4) (h1 : S 6 1 = nI o) {K : Option Nat → Mem → Prop} (k : K (some (8 + 5 * ((o + m) % 4))) S) : P_X1_stateAt S (nI m) K := by
  have hlt := Nat.mod_lt (o + m) (show 0 < 4 by omega)
  have e : nI (o + m) - nI (o + m) / (4 : Int32) * (4 : Int32) = nI ((o + m) % 4) := pk_rem (d := 4) (by omega) (by omega) (by omega)
  unfold P_X1_stateAt
  rw [h1, nI_add, e, nI_clamp (by omega)]
  refine ⟨fun q => absurd q (nI_pos (by omega)), fun _ => ⟨fun _ => ⟨fun q => absurd q (nI_pos (by omega)), fun _ => ⟨fun _ => ⟨vp_in_nI hlt (by omega), k⟩, fun q => absurd ((nI_ltI (b := 4) (by omega) (by omega)).mpr hlt) q⟩⟩, fun q => absurd ((nI_ltI (b := 4) (by omega) (by omega)).mpr hm) q⟩⟩
theorem c_copyS {S : Mem} {s s1 : Nat} (hs : s ∈ sts) (hs1 : s1 ∈ sts) (hne : s ≠ s1) (hSh : Sh S) {a : AS} (ha : okS a) (h : StR S s1 a) {K : Mem → Prop} (k : ∀ S', StR S' s a → Sh S' → (∀ i, ¬ (s + 1 ≤ i ∧ i ≤ s + 4) → S' i = S i) → K S') : P_X3_copyFrom s s1 S K := by
  obtain ⟨-, t1, t3⟩ := sts_tab hs
  obtain ⟨-, u1, u3⟩ := sts_tab hs1
  obtain ⟨w1, w3, r1, r3⟩ := sts_dims hs
  obtain ⟨w1', w3', -, -⟩ := sts_dims hs1
  have hap := sts_apart hs1 hs (fun e => hne e.symm)
  obtain ⟨L, hL, -⟩ := hSh _ t1
  have n42 : ∀ s ∈ sts, s + 1 ≠ 42 ∧ s + 3 ≠ 42 := by decide
  unfold P_X3_copyFrom
  refine t_copy t1 u1 hL h.1 (by rw [w1, w1']) (by rw [r1, List.length_map]; exact ha.1) (by have := hap (s1 + 1) (by omega) (by omega); omega) (fun S1 g1 f1 => ?_)
  have hSh1 := hSh.one t1 g1 f1 (fun z => absurd z (n42 s hs).1)
  obtain ⟨M, hM, -⟩ := hSh1 _ t3
  have h3 : TW S1 (s1 + 3) (setR a) := h.2.fr (f1 _ (by have := hap (s1 + 3) (by omega) (by omega); omega) (by have := hap (s1 + 3) (by omega) (by omega); omega)) (f1 _ (by have := hap (s1 + 4) (by omega) (by omega); omega) (by have := hap (s1 + 4) (by omega) (by omega); omega))
  refine t_copy t3 u3 hM h3 (by rw [w3, w3']) (by rw [r3]; exact Nat.le_refl 3) (by have := hap (s1 + 3) (by omega) (by omega); omega) (fun S2 g2 f2 => ?_)
  exact k S2 ⟨g1.fr (f2 _ (by omega) (by omega)) (f2 _ (by omega) (by omega)), g2⟩ (hSh1.one t3 g2 f2 (fun z => absurd z (n42 s hs).2)) (fun i hi => by rw [f2 i (by omega) (by omega), f1 i (by omega) (by omega)])
theorem c_keep30 {S : Mem} {h : List AS} {a : AS} (hSh : Sh S) (ha : okS a) (h1 : StR S 1 a) (hh : HiR S h) (hl : h.length < 4) {K : Mem → Prop} (k : ∀ S', (∀ i, i < 6 ∨ 28 ≤ i → S' i = S i) → Sh S' → HiR S' (h ++ [a]) → K S') : B_X1_keep_30 1 K S := by
  obtain ⟨o, ho, e1, e2, hk⟩ := hh
  unfold B_X1_keep_30
  rw [e2]
  have hm := Nat.mod_lt (o + h.length) (show 0 < 4 by omega)
  refine c_stateAt ho hl e1 ⟨fun q => (by cases q), fun o3 q => ?_⟩
  cases q
  refine ⟨sts_of hm, c_copyS (sts_of hm) (by decide) (by omega) hSh ha h1 (fun S4 g4 hSh4 f4 S6 hS6 => ?_)⟩
  have f6 : ∀ i, i ≠ 6 → S6 i = S4 i := fun i hi => by rw [hS6]; exact mput_ne _ _ _ hi
  have f46 : S4 6 = S 6 := f4 6 (by omega)
  refine k S6 (fun i hi => by rw [f6 i (by omega), f4 i (by omega)]) (hSh4.eq fun t ht => ?_) ⟨o, ho, ?_, ?_, fun j b hj => ?_⟩
  · have key : ∀ x ∈ tabs, x ≠ 6 ∧ x + 1 ≠ 6 := by decide
    obtain ⟨q1, q2⟩ := key t ht
    exact ⟨f6 _ q1, f6 _ q2⟩
  · rw [hS6, mput_at, upd_ne _ _ (by omega), f46]; exact e1
  · rw [hS6, mput_at, upd_at, f46, e2, nI_1, List.length_append]; rfl
  · have hlen := (List.getElem?_eq_some_iff.mp hj).1
    rw [List.length_append] at hlen
    have hlen : j < h.length + 1 := hlen
    have hmj := Nat.mod_lt (o + j) (show 0 < 4 by omega)
    by_cases hjn : j < h.length
    · rw [List.getElem?_append_left hjn] at hj
      have hne : (o + j) % 4 ≠ (o + h.length) % 4 := by omega
      refine (hk j b hj).eq fun i hi1 hi2 => ?_
      rw [f6 i (by omega), f4 i (by omega)]
    · have : j = h.length := by omega
      subst this
      rw [List.getElem?_append_right (Nat.le_refl _), Nat.sub_self] at hj
      cases hj
      exact g4.eq fun i _ _ => f6 i (by omega)
theorem c_keep {S : Mem} {h : List AS} {a : AS} (hSh : Sh S) (ha : okS a) (h1 : StR S 1 a) (hh : HiR S h) (hl : h.length ≤ 4) {K : Mem → Prop} (k : ∀ S', (∀ i, i < 6 ∨ 28 ≤ i → S' i = S i) → Sh S' → HiR S' (pushH h a) → K S') : P_X1_keep 1 S K := by
  obtain ⟨o, ho, e1, e2, hk⟩ := hh
  unfold P_X1_keep
  rw [e2, e1]
  refine ⟨fun q => ?_, fun q S7 hS7 S8 hS8 => ?_⟩
  · have hlt : h.length < 4 := by
      rcases Nat.lt_or_ge h.length 4 with w | w
      · exact w
      · exact absurd (show nI h.length = nI 4 from by rw [show h.length = 4 by omega]) q
    refine c_keep30 hSh ha h1 ⟨o, ho, e1, e2, hk⟩ hlt (fun S' f g1 g2 => k S' f g1 ?_)
    rw [pushH, if_neg (by omega)]
    exact g2
  · have h4 : h.length = 4 := by
      have : nI h.length = nI 4 := q
      exact (nI_eq (by omega) (by omega)).mp this
    have e : nI o + 1 - (nI o + 1) / (4 : Int32) * (4 : Int32) = nI ((o + 1) % 4) := by
      rw [nI_1]; exact pk_rem (d := 4) (by omega) (by omega) (by omega)
    rw [e] at hS7
    have f7 : ∀ i, i ≠ 6 → S8 i = S i := fun i hi => by rw [hS8, mput_ne _ _ _ hi, hS7, mput_ne _ _ _ hi]
    have key : ∀ x ∈ tabs, x ≠ 6 ∧ x + 1 ≠ 6 := by decide
    have hSh8 : Sh S8 := hSh.eq fun t ht => ⟨f7 _ (key t ht).1, f7 _ (key t ht).2⟩
    have hd : (h.drop 1).length = 3 := by rw [List.length_drop]; omega
    have hm := Nat.mod_lt (o + 1) (show 0 < 4 by omega)
    have hh8 : HiR S8 (h.drop 1) := by
      refine ⟨(o + 1) % 4, hm, ?_, ?_, fun j b hj => ?_⟩
      · rw [hS8, mput_at, upd_ne _ _ (by omega), hS7, mput_at, upd_at]
      · rw [hS8, mput_at, upd_at, hS7, mput_at, upd_ne _ _ (by omega), e2, hd, h4]
        exact nI_pred 3
      · rw [List.getElem?_drop] at hj
        have hlen := (List.getElem?_eq_some_iff.mp hj).1
        have := hk (1 + j) b hj
        rw [show (o + (1 + j)) % 4 = ((o + 1) % 4 + j) % 4 by omega] at this
        exact this.eq fun i _ _ => f7 i (by omega)
    refine c_keep30 hSh8 ha (h1.eq fun i _ _ => f7 i (by omega)) hh8 (by omega) (fun S' f g1 g2 => k S' (fun i hi => by rw [f i hi, f7 i (by omega)]) g1 ?_)
    rw [pushH, if_pos h4]
    exact g2
theorem okT_chg {st : AT} {a : AS} (h : okT st) (ha : okS a) : okT (chg st a) := by
  obtain ⟨h1, h2, h3, h4⟩ := h
  refine ⟨ha, ?_, ?_, h4⟩
  · show (pushH st.2.1 st.1).length ≤ 4
    unfold pushH
    split
    · rename_i e; rw [List.length_append, List.length_drop]; simp; omega
    · rename_i e; rw [List.length_append]; simp; omega
  · intro x hx
    have hx : x ∈ pushH st.2.1 st.1 := hx
    unfold pushH at hx
    split at hx
    · rcases List.mem_append.mp hx with q | q
      · exact h3 x (List.mem_of_mem_drop q)
      · rw [List.mem_singleton.mp q]; exact h1
    · rcases List.mem_append.mp hx with q | q
      · exact h3 x q
      · rw [List.mem_singleton.mp q]; exact h1
theorem c_begin {S : Mem} {st : AT} (h : CI S st) {K : Mem → Prop} (k : ∀ S', FrC S S' → CI S' (chg st st.1) → S' 0 4 = 1 → K S') : P_X6_beginChange S K := by
  obtain ⟨h1, h2, h3, h4, h5, h6⟩ := h
  unfold P_X6_beginChange
  refine c_keep h2 h1.1 h3 h4 h1.2.1 (fun S1 f1 hSh1 hh1 S3 hS3 => ?_)
  have f3 : ∀ i, i ≠ 0 → S3 i = S1 i := fun i hi => by rw [hS3]; exact mput_ne _ _ _ hi
  have e0 : S3 0 4 = 1 := by rw [hS3, mput_at, upd_at]
  have key : ∀ x ∈ tabs, x ≠ 0 ∧ x + 1 ≠ 0 := by decide
  refine k S3 (fun i hi => by rw [f3 i (by omega), f1 i (by omega)]) ⟨okT_chg h1 h1.1, hSh1.eq fun t ht => ⟨f3 _ (key t ht).1, f3 _ (key t ht).2⟩, h3.eq fun i _ _ => by rw [f3 i (by omega), f1 i (by omega)], hh1.eq fun i _ _ => f3 i (by omega), h5.fr (by rw [f3 _ (by omega), f1 _ (by omega)]) (by rw [f3 _ (by omega), f1 _ (by omega)]), Or.inl e0⟩ e0
/-- after a change of the rows' table -/
theorem CI.rows {S S' : Mem} {a : AS} {hi : List AS} {tx : List Nat} (h : CI S (a, hi, tx)) (e0 : S 0 4 = 1) (rows : AR) (hok : okS (rows, a.2)) (g : TW S' 2 (rows.map rowR)) (f : Fr S S' 2) : CI S' ((rows, a.2), hi, tx) ∧ S' 0 4 = 1 := by
  obtain ⟨h1, h2, h3, h4, h5, h6⟩ := h
  refine ⟨⟨⟨hok, h1.2⟩, h2.one (by decide) g f, ⟨g, h3.2.fr (f _ (by omega) (by omega)) (f _ (by omega) (by omega))⟩, h4.eq fun i _ _ => f i (by omega) (by omega), h5.fr (f _ (by omega) (by omega)) (f _ (by omega) (by omega)), Or.inl ?_⟩, ?_⟩ <;> (rw [f 0 (by omega) (by omega)]; exact e0)
theorem CI.sets {S S' : Mem} {a : AS} {hi : List AS} {tx : List Nat} (h : CI S (a, hi, tx)) (e0 : S 0 4 = 1) (b : AS) (hb : b.1 = a.1) (hok : okS b) (g : TW S' 4 (setR b)) (f : Fr S S' 4) : CI S' (b, hi, tx) := by
  obtain ⟨h1, h2, h3, h4, h5, h6⟩ := h
  exact ⟨⟨hok, h1.2⟩, h2.one (by decide) g f, ⟨by rw [hb]; exact h3.1.fr (f _ (by omega) (by omega)) (f _ (by omega) (by omega)), g⟩, h4.eq fun i _ _ => f i (by omega) (by omega), h5.fr (f _ (by omega) (by omega)) (f _ (by omega) (by omega)), Or.inl (by rw [f 0 (by omega) (by omega)]; exact e0)⟩
theorem CI.text {S S' : Mem} {a : AS} {hi : List AS} {tx : List Nat} (h : CI S (a, hi, tx)) (tx' : List Nat) (hl : tx'.length ≤ 60) (hc : ∀ c ∈ tx', 32 ≤ c ∧ c ≤ 126) (g : TW S' 49 (tx'.map (fun c => row1 (nI c)))) (f : Fr S S' 49) : CI S' (a, hi, tx') := by
  obtain ⟨h1, h2, h3, h4, h5, h6⟩ := h
  exact ⟨⟨h1.1, h1.2.1, h1.2.2.1, hl, hc⟩, h2.one (by decide) g f, h3.eq fun i _ _ => f i (by omega) (by omega), h4.eq fun i _ _ => f i (by omega) (by omega), g, h6.eq (f _ (by omega) (by omega)) fun i _ _ => f i (by omega) (by omega)⟩
/-- what each call answers and leaves -/
def okRow (k v : Int32) : Prop := 0 ≤ k ∧ k ≤ 9999 ∧ -999 ≤ v ∧ v ≤ 999
theorem le_nI {x : Int32} {n : Nat} (h0 : 0 ≤ x) (h1 : x ≤ nI n) (hn : n < 2 ^ 31) : ∃ j, j ≤ n ∧ x = nI j := nI_of2 (nI_toInt hn) (Int32.not_lt.mpr h0) h1
theorem rows_map_append (rows : AR) (k : Nat) (v : Int32) : ((rows.map rowR) ++ [row1 (nI k)]).set rows.length (upd (((rows.map rowR) ++ [row1 (nI k)]).getD rows.length row0) 1 v) = (rows ++ [(k, v)]).map rowR := by
  have e : ((rows.map rowR) ++ [row1 (nI k)]).getD rows.length row0 = row1 (nI k) := by
    rw [List.getD_eq_getElem?_getD, List.getElem?_append_right (by simp)]
    simp
  rw [e, List.map_append, List.set_append_right _ _ (by simp)]
  simp [rowR]
theorem c_addRow {S : Mem} {a : AS} {hi : List AS} {tx : List Nat} (h : CI S (a, hi, tx)) (e0 : S 0 4 = 1) (hl : a.1.length < 100) {k : Nat} (hk : k ≤ 9999) {v : Int32} {K : Mem → Prop} (kk : ∀ S', FrC S S' → CI S' ((a.1 ++ [(k, v)], a.2), hi, tx) → S' 0 4 = 1 → K S') : P_X3_addRow 1 S (nI k) v K := by
  have h3 := h.2.2.1.1
  unfold P_X3_addRow
  have hlen : (a.1.map rowR).length = a.1.length := List.length_map _
  refine t_append (by decide) h3 (by rw [hlen]; exact hl) (fun S1 g1 f1 => ?_)
  refine t_put (c := 1) (by decide) g1 (by rw [List.length_append, hlen]; simp) (by decide) (fun S2 g2 f2 => ?_)
  rw [hlen, rows_map_append] at g2
  have hok : okS (a.1 ++ [(k, v)], a.2) := by
    refine ⟨by rw [List.length_append]; simp; omega, fun r hr => ?_, h.1.1.2.2⟩
    rcases List.mem_append.mp hr with q | q
    · exact h.1.1.2.1 r q
    · rw [List.mem_singleton.mp q]; exact hk
  obtain ⟨c1, c2⟩ := h.rows e0 _ hok g2 (f1.trans f2)
  exact kk S2 (Fr.frC (t := 2) (by decide) (f1.trans f2)) c1 c2
def aRow (st : AT) (k v : Int32) : Int32 × AT :=
  if 0 ≤ k ∧ k ≤ 9999 ∧ -999 ≤ v ∧ v ≤ 999 then (if st.1.1.length < 100 then (nI st.1.1.length, chg st (st.1.1 ++ [(Int32.toNatClampNeg k, v)], st.1.2)) else (-1000003, st)) else (-1000001, st)
theorem c_row {S : Mem} {st : AT} (h : CI S st) {k v : Int32} {K : Int32 → Mem → Prop} (kk : ∀ S', FrC S S' → CI S' (aRow st k v).2 → K (aRow st k v).1 S') : P_X6_row S k v K := by
  unfold P_X6_row
  unfold aRow at kk
  by_cases c1 : 0 ≤ k ∧ k ≤ 9999
  · refine c_outF (fun z => by rcases z with z | z; exact absurd c1.1 (Int32.not_le.mpr z); exact absurd c1.2 (Int32.not_le.mpr z)) ⟨fun q => absurd rfl q, fun _ => ?_⟩
    by_cases c2 : -999 ≤ v ∧ v ≤ 999
    · rw [if_pos ⟨c1.1, c1.2, c2.1, c2.2⟩] at kk
      refine c_outF (fun z => by rcases z with z | z; exact absurd c2.1 (Int32.not_le.mpr z); exact absurd c2.2 (Int32.not_le.mpr z)) ⟨fun _ => ?_, fun q => absurd rfl q⟩
      have hlen : (st.1.1.map rowR).length = st.1.1.length := List.length_map _
      have hle := h.1.1.1
      obtain ⟨j, hj, rfl⟩ := le_nI (n := 9999) c1.1 c1.2 (by omega)
      refine t_length h.2.2.1.1 ⟨fun q => ?_, fun q => ?_⟩
      · rw [hlen] at q
        have hlt : st.1.1.length < 100 := (nI_ltI (b := 100) (by omega) (by omega)).mp q
        rw [if_pos hlt, nI_clamp (by omega)] at kk
        refine c_begin h (fun S7 f7 g7 e7 => ?_)
        refine c_addRow (a := st.1) g7 e7 hlt hj (fun S9 f9 g9 e9 => ?_)
        refine t_length g9.2.2.1.1 ?_
        rw [List.length_map, List.length_append]
        have e : nI (st.1.1.length + [(j, v)].length) - (1 : Int32) = nI st.1.1.length := nI_pred _
        rw [e]
        exact kk S9 (f7.trans f9) g9
      · rw [hlen] at q
        rw [if_neg (fun z => q ((nI_ltI (b := 100) (by omega) (by omega)).mpr z))] at kk
        exact kk S (FrC.rf S) h
    · rw [if_neg (fun z => c2 z.2.2)] at kk
      refine c_outT (by rcases Classical.not_and_iff_not_or_not.mp c2 with z | z; exact Or.inl (Int32.not_le.mp z); exact Or.inr (Int32.not_le.mp z)) ⟨fun q => absurd q (by decide), fun _ => ?_⟩
      exact kk S (FrC.rf S) h
  · rw [if_neg (fun z => c1 ⟨z.1, z.2.1⟩)] at kk
    refine c_outT (by rcases Classical.not_and_iff_not_or_not.mp c1 with z | z; exact Or.inl (Int32.not_le.mp z); exact Or.inr (Int32.not_le.mp z)) ⟨fun _ => kk S (FrC.rf S) h, fun q => absurd q (by decide)⟩
def aDrop (st : AT) (r : Int32) : Int32 × AT :=
  if r < 0 then (-1000001, st) else if r < nI st.1.1.length then (nI (st.1.1.length - 1), chg st (st.1.1.eraseIdx (Int32.toNatClampNeg r), st.1.2)) else (-1000002, st)
theorem map_eraseIdx' {α β : Type} (f : α → β) : ∀ (L : List α) (i : Nat), (L.map f).eraseIdx i = (L.eraseIdx i).map f
  | [], _ => rfl
  | _ :: _, 0 => rfl
  | x :: L, i + 1 => by simp [List.eraseIdx, map_eraseIdx' f L i]
theorem c_drop {S : Mem} {st : AT} (h : CI S st) {r : Int32} {K : Int32 → Mem → Prop} (kk : ∀ S', FrC S S' → CI S' (aDrop st r).2 → K (aDrop st r).1 S') : P_X6_drop S r K := by
  unfold P_X6_drop
  unfold aDrop at kk
  have hlen : (st.1.1.map rowR).length = st.1.1.length := List.length_map _
  have hle := h.1.1.1
  refine ⟨fun q0 => ?_, fun q0 => ?_⟩
  · have hn : ¬ r < 0 := Int32.not_lt.mpr q0
    rw [if_neg hn] at kk
    refine t_length h.2.2.1.1 ?_
    rw [hlen]
    refine ⟨fun q => ?_, fun q => ?_⟩
    · rw [if_pos q] at kk
      obtain ⟨j, hj, rfl⟩ := nI_of hn
      have hlt : j < st.1.1.length := (nI_ltI hj (by omega)).mp q
      rw [nI_clamp hj] at kk
      refine c_begin h (fun S3 f3 g3 e3 => ?_)
      have g2 : TW S3 2 (st.1.1.map rowR) := g3.2.2.1.1
      refine t_remove (by decide) g2 (by rw [hlen]; exact hlt) (fun S5 g5 f5 => ?_)
      rw [map_eraseIdx'] at g5
      have hl2 : (st.1.1.eraseIdx j).length = st.1.1.length - 1 := List.length_eraseIdx_of_lt hlt
      have hok : okS (st.1.1.eraseIdx j, st.1.2) := ⟨by show (st.1.1.eraseIdx j).length ≤ 100; omega, fun x hx => h.1.1.2.1 x (List.mem_of_mem_eraseIdx hx), h.1.1.2.2⟩
      obtain ⟨c1, c2⟩ := CI.rows (a := st.1) g3 e3 _ hok g5 f5
      refine t_length c1.2.2.1.1 ?_
      rw [List.length_map, hl2]
      exact kk S5 (f3.trans (Fr.frC (t := 2) (by decide) f5)) c1
    · rw [if_neg q] at kk
      exact kk S (FrC.rf S) h
  · rw [if_pos (Int32.not_le.mp q0)] at kk
    exact kk S (FrC.rf S) h
def aClear (st : AT) : Int32 × AT := (nI st.1.1.length, chg st ([], st.1.2))
theorem c_clear {S : Mem} {st : AT} (h : CI S st) {K : Int32 → Mem → Prop} (kk : ∀ S', FrC S S' → CI S' (aClear st).2 → K (aClear st).1 S') : P_X6_clear S K := by
  unfold P_X6_clear
  refine t_length h.2.2.1.1 ?_
  rw [List.length_map]
  refine c_begin h (fun S3 f3 g3 e3 => ?_)
  have g2 : TW S3 2 (st.1.1.map rowR) := g3.2.2.1.1
  refine t_shorten (m := 0) (by decide) g2 (by omega) (fun S5 g5 f5 => ?_)
  have hok : okS (([] : AR), st.1.2) := ⟨Nat.zero_le _, fun x hx => absurd hx List.not_mem_nil, h.1.1.2.2⟩
  obtain ⟨c1, c2⟩ := CI.rows (a := st.1) g3 e3 [] hok g5 f5
  exact kk S5 (f3.trans (Fr.frC (t := 2) (by decide) f5)) c1
theorem c_setting {S : Mem} {s : Nat} (hs : s ∈ sts) {a : AS} (h : StR S s a) {w : Nat} (hw : w < 3) {K : Int32 → Mem → Prop} (k : K (((setR a).getD w row0) 0) S) : P_X3_setting s S (nI w) K := t_at (c := 0) (sts_tab hs).2.2 h.2 (by omega) (by rw [(sts_dims hs).2.1]; omega) k
def okSet (w v : Int32) : Prop := (w = 0 ∧ 1 ≤ v ∧ v ≤ 12) ∨ (w = 1 ∧ 1 ≤ v ∧ v ≤ 4) ∨ (w = 2 ∧ 1 ≤ v ∧ v ≤ 65535 ∧ v &&& 1 = 1)
def getSet (a : AS) (w : Nat) : Nat := match w with | 0 => a.2.1 | 1 => a.2.2.1 | _ => a.2.2.2
def putSet (a : AS) (w v : Nat) : AS := match w with | 0 => (a.1, v, a.2.2) | 1 => (a.1, a.2.1, v, a.2.2.2) | _ => (a.1, a.2.1, a.2.2.1, v)
theorem c_setV {S : Mem} {w v : Int32} {K : Int32 → Mem → Prop} (h1 : okSet w v → K 1 S) (h0 : ¬ okSet w v → K 0 S) : P_X6_isSettingValue S w v K := by
  unfold P_X6_isSettingValue
  have nd : ∀ {lo hi : Int32}, (lo ≤ v ∧ v ≤ hi) ∨ (v < lo ∨ hi < v) := by
    intro lo hi
    rcases Int32.lt_or_le v lo with q | q
    · exact Or.inr (Or.inl q)
    · rcases Int32.lt_or_le hi v with z | z
      · exact Or.inr (Or.inr z)
      · exact Or.inl ⟨q, z⟩
  have nin : ∀ {lo hi : Int32}, lo ≤ v ∧ v ≤ hi → ¬ (v < lo ∨ hi < v) := fun q z => by
    rcases z with z | z
    · exact absurd q.1 (Int32.not_le.mpr z)
    · exact absurd q.2 (Int32.not_le.mpr z)
  have nout : ∀ {lo hi : Int32}, (v < lo ∨ hi < v) → ¬ (lo ≤ v ∧ v ≤ hi) := fun z q => nin q z
  refine ⟨fun e => ?_, fun e => ?_, fun e => ?_, fun e => ?_⟩
  · rcases @nd 1 12 with q | q
    · exact c_outF (nin q) ⟨fun z => absurd rfl z, fun _ => h1 (Or.inl ⟨e, q⟩)⟩
    · refine c_outT q ⟨fun _ => h0 ?_, fun z => absurd z (by decide)⟩
      rintro (⟨-, z⟩ | ⟨z, -⟩ | ⟨z, -⟩)
      · exact nout q z
      · rw [e] at z; exact absurd z (by decide)
      · rw [e] at z; exact absurd z (by decide)
  · rcases @nd 1 4 with q | q
    · exact c_outF (nin q) ⟨fun z => absurd rfl z, fun _ => h1 (Or.inr (Or.inl ⟨e, q⟩))⟩
    · refine c_outT q ⟨fun _ => h0 ?_, fun z => absurd z (by decide)⟩
      rintro (⟨z, -⟩ | ⟨-, z⟩ | ⟨z, -⟩)
      · rw [e] at z; exact absurd z (by decide)
      · exact nout q z
      · rw [e] at z; exact absurd z (by decide)
  · rcases @nd 1 65535 with q | q
    · refine c_outF (nin q) ⟨fun z => absurd rfl z, fun _ => ⟨fun z => h0 ?_, fun z => h1 (Or.inr (Or.inr ⟨e, q.1, q.2, z⟩))⟩⟩
      rintro (⟨y, -⟩ | ⟨y, -⟩ | ⟨-, -, -, y⟩)
      · rw [e] at y; exact absurd y (by decide)
      · rw [e] at y; exact absurd y (by decide)
      · exact z y
    · refine c_outT q ⟨fun _ => h0 ?_, fun z => absurd z (by decide)⟩
      rintro (⟨z, -⟩ | ⟨z, -⟩ | ⟨-, z, y, -⟩)
      · rw [e] at z; exact absurd z (by decide)
      · rw [e] at z; exact absurd z (by decide)
      · exact nout q ⟨z, y⟩
  · refine h0 ?_
    rintro (⟨z, -⟩ | ⟨z, -⟩ | ⟨z, -⟩)
    · exact e.1 z
    · exact e.2.1 z
    · exact e.2.2 z
noncomputable def aSet (st : AT) (w v : Int32) : Int32 × AT := by
  classical
  exact if okSet w v then (nI (getSet st.1 (Int32.toNatClampNeg w)), chg st (putSet st.1 (Int32.toNatClampNeg w) (Int32.toNatClampNeg v))) else (-1000001, st)
theorem okSet_nat {w v : Int32} (h : okSet w v) : ∃ i j : Nat, i < 3 ∧ w = nI i ∧ v = nI j ∧ 1 ≤ j ∧ j ≤ 65535 ∧ (i = 0 → j ≤ 12) ∧ (i = 1 → j ≤ 4) := by
  rcases h with ⟨rfl, h1, h2⟩ | ⟨rfl, h1, h2⟩ | ⟨rfl, h1, h2, -⟩
  · obtain ⟨j, hj, rfl⟩ := le_nI (n := 12) (Int32.le_trans (by decide) h1) h2 (by omega)
    have := (nI_leI (a := 1) (by omega) (by omega)).mp h1
    exact ⟨0, j, by omega, rfl, rfl, this, by omega, fun _ => hj, fun e => by omega⟩
  · obtain ⟨j, hj, rfl⟩ := le_nI (n := 4) (Int32.le_trans (by decide) h1) h2 (by omega)
    have := (nI_leI (a := 1) (by omega) (by omega)).mp h1
    exact ⟨1, j, by omega, rfl, rfl, this, by omega, fun e => by omega, fun _ => hj⟩
  · obtain ⟨j, hj, rfl⟩ := le_nI (n := 65535) (Int32.le_trans (by decide) h1) h2 (by omega)
    have := (nI_leI (a := 1) (by omega) (by omega)).mp h1
    exact ⟨2, j, by omega, rfl, rfl, this, by omega, fun e => by omega, fun e => by omega⟩
theorem putSet_ok {a : AS} (h : okS a) {i j : Nat} (hi : i < 3) (h1 : 1 ≤ j) (h2 : j ≤ 65535) (h3 : i = 0 → j ≤ 12) (h4 : i = 1 → j ≤ 4) : okS (putSet a i j) ∧ (putSet a i j).1 = a.1 := by
  obtain ⟨g1, g2, g3, g4, g5⟩ := h
  rcases (show i = 0 ∨ i = 1 ∨ i = 2 by omega) with rfl | rfl | rfl
  · exact ⟨⟨g1, g2, ⟨h1, h3 rfl⟩, g4, g5⟩, rfl⟩
  · exact ⟨⟨g1, g2, g3, ⟨h1, h4 rfl⟩, g5⟩, rfl⟩
  · exact ⟨⟨g1, g2, g3, g4, ⟨h1, h2⟩⟩, rfl⟩
theorem setR_put (a : AS) {i j : Nat} (hi : i < 3) : (setR a).set i (upd ((setR a).getD i row0) 0 (nI j)) = setR (putSet a i j) ∧ ((setR a).getD i row0) 0 = nI (getSet a i) := by
  rcases (show i = 0 ∨ i = 1 ∨ i = 2 by omega) with rfl | rfl | rfl
  · exact ⟨by show [upd (row1 _) 0 _, _, _] = _; rw [upd_row1]; rfl, rfl⟩
  · exact ⟨by show [_, upd (row1 _) 0 _, _] = _; rw [upd_row1]; rfl, rfl⟩
  · exact ⟨by show [_, _, upd (row1 _) 0 _] = _; rw [upd_row1]; rfl, rfl⟩
theorem c_set {S : Mem} {st : AT} (h : CI S st) {w v : Int32} {K : Int32 → Mem → Prop} (kk : ∀ S', FrC S S' → CI S' (aSet st w v).2 → K (aSet st w v).1 S') : P_X6_set S w v K := by
  unfold P_X6_set
  unfold aSet at kk
  refine c_setV (fun hs => ⟨fun _ => ?_, fun q => absurd q (by decide)⟩) (fun hs => ⟨fun q => absurd rfl q, fun _ => ?_⟩)
  · rw [if_pos hs] at kk
    obtain ⟨i, j, hi, rfl, rfl, h1, h2, h3, h4⟩ := okSet_nat hs
    rw [nI_clamp (by omega), nI_clamp (by omega)] at kk
    refine c_begin h (fun S3 f3 g3 e3 => ?_)
    have gs : StR S3 1 st.1 := g3.2.2.1
    obtain ⟨p1, p2⟩ := setR_put st.1 (j := j) hi
    refine c_setting (by decide) gs hi ?_
    rw [p2]
    refine t_put (c := 0) (by decide) gs.2 hi (by decide) (fun S7 g7 f7 => ?_)
    rw [p1] at g7
    obtain ⟨q1, q2⟩ := putSet_ok h.1.1 hi h1 h2 h3 h4
    exact kk S7 (f3.trans (Fr.frC (t := 4) (by decide) f7)) (CI.sets (a := st.1) g3 e3 _ q2 q1 g7 f7)
  · rw [if_neg hs] at kk
    exact kk S (FrC.rf S) h
