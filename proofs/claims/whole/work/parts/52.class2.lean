/-! rowOf, undo, type, clearText of the class -/
theorem pow_le16 {k : Nat} (h : k ≤ 16) : 2 ^ k ≤ 65536 := Nat.pow_le_pow_right (n := 2) (by omega) h
theorem hsh_lt (fac k : Nat) : hsh fac k < 65536 := Nat.mod_lt _ (by omega)
theorem hash_class {k fac : Nat} (hk : k ≤ 9999) (hf : fac ≤ 65535) : (nI k * nI fac + (7919 : Int32)) &&& (65535 : Int32) = nI (hsh fac k) := by
  have h1 : k * fac ≤ 9999 * 65535 := Nat.mul_le_mul hk hf
  have e : nI k * nI fac + (7919 : Int32) = nI (k * fac + 7919) := by rw [pk_mul]; exact nI_add _ _
  rw [e]
  exact pk_andN (m := 65535) (by omega) 16 (by decide)
theorem first_part {h b : Nat} (hh : h < 65536) (hb1 : 1 ≤ b) (hb4 : b ≤ 4) : nI h >>> (((16 : Int32) - nI b) &&& 31) = nI (h / 2 ^ (16 - (0 + 1) * b) % 2 ^ b) := by
  have e : h / 2 ^ (16 - (0 + 1) * b) % 2 ^ b = h / 2 ^ (16 - b) := by
    rw [show 16 - (0 + 1) * b = 16 - b by omega]
    apply Nat.mod_eq_of_lt
    rw [Nat.div_lt_iff_lt_mul (Nat.pow_pos (by omega)), ← Nat.pow_add, show b + (16 - b) = 16 by omega]
    exact hh
  rw [e]
  refine pk_shrN (by omega) _ (16 - b) ?_
  rcases (show b = 1 ∨ b = 2 ∨ b = 3 ∨ b = 4 by omega) with rfl | rfl | rfl | rfl <;> decide
theorem rowsGet {S : Mem} {s : Nat} (hs : s ∈ sts) {a : AS} (h : StR S s a) {j : Nat} {r : Nat × Int32} (hr : a.1[j]? = some r) {K : Int32 → Mem → Prop} : (K (nI r.1) S → P_X3_keyOf s S (nI j) K) ∧ (K r.2 S → P_X3_valueOf s S (nI j) K) := by
  have hl := (List.getElem?_eq_some_iff.mp hr).1
  have h2 := h.1.2.1
  rw [List.length_map, (sts_dims hs).2.2.1] at h2
  have e : (a.1.map rowR).getD j row0 = rowR r := by rw [List.getD_eq_getElem?_getD, List.getElem?_map, hr]; rfl
  constructor
  · intro k
    refine t_at (c := 0) (sts_tab hs).2.1 h.1 (by omega) (by rw [(sts_dims hs).1]; omega) ?_
    rw [e]; exact k
  · intro k
    refine t_at (c := 1) (sts_tab hs).2.1 h.1 (by omega) (by rw [(sts_dims hs).1]; omega) ?_
    rw [e]; exact k
theorem c_hashOf {S : Mem} {s : Nat} (hs : s ∈ sts) {a : AS} (ha : okS a) (h : StR S s a) {j : Nat} {r : Nat × Int32} (hr : a.1[j]? = some r) {K : Int32 → Mem → Prop} (k : K (nI (hsh a.2.2.2 r.1)) S) : P_X3_hashOf s S (nI j) K := by
  unfold P_X3_hashOf
  refine (rowsGet hs h hr).1 (c_setting hs h (w := 2) (by omega) ?_)
  rw [show ((setR a).getD 2 row0) 0 = nI a.2.2.2 from rfl, hash_class (ha.2.1 r (List.mem_of_getElem? hr)) ha.2.2.2.2.2]
  exact k
theorem c_firstPart {S : Mem} {a : AS} (ha : okS a) (h : StR S 1 a) {k0 : Nat} {K : Int32 → Mem → Prop} (k : K (nI (prt (hsh a.2.2.2) a.2.2.1 0 k0)) S) : P_X6_firstPart S (nI (hsh a.2.2.2 k0)) K := by
  unfold P_X6_firstPart
  refine c_setting (by decide) h (w := 1) (by omega) ?_
  rw [show ((setR a).getD 1 row0) 0 = nI a.2.2.1 from rfl, first_part (hsh_lt _ _) ha.2.2.2.1.1 ha.2.2.2.1.2]
  exact k
def aRowOf (st : AT) (r w : Int32) : Int32 :=
  if r < 0 ∨ ¬ (0 ≤ w ∧ w ≤ 3) then -1000001 else
  match st.1.1[Int32.toNatClampNeg r]? with
  | none => -1000004
  | some x => if w = 0 then nI x.1 else if w = 1 then x.2 else if w = 2 then nI (hsh st.1.2.2.2 x.1) else nI (prt (hsh st.1.2.2.2) st.1.2.2.1 0 x.1)
theorem c_in {S : Mem} {n lo hi : Int32} {K : Int32 → Mem → Prop} (h1 : lo ≤ n ∧ n ≤ hi → K 0 S) (h0 : ¬ (lo ≤ n ∧ n ≤ hi) → K 1 S) : P_X6_isOutside S n lo hi K := by
  by_cases h : lo ≤ n ∧ n ≤ hi
  · refine c_outF ?_ (h1 h)
    rintro (z | z)
    · exact absurd h.1 (Int32.not_le.mpr z)
    · exact absurd h.2 (Int32.not_le.mpr z)
  · refine c_outT ?_ (h0 h)
    rcases Int32.lt_or_le n lo with z | z
    · exact Or.inl z
    · exact Or.inr (Int32.not_le.mp fun q => h ⟨z, q⟩)
theorem c_rowOf {S : Mem} {st : AT} (h : CI S st) {r w : Int32} {K : Int32 → Mem → Prop} (kk : K (aRowOf st r w) S) : P_X6_rowOf S r w K := by
  unfold P_X6_rowOf
  unfold aRowOf at kk
  have hle := h.1.1.1
  refine ⟨fun q => ?_, fun q => ?_⟩
  · rw [if_pos (Or.inl q)] at kk; exact kk
  · refine c_in (fun c => ⟨fun _ => ?_, fun z => absurd rfl z⟩) (fun c => ⟨fun z => absurd z (by decide), fun _ => ?_⟩)
    · rw [if_neg (fun z => z.elim q (fun z => z c))] at kk
      obtain ⟨j, hj, rfl⟩ := nI_of q
      rw [nI_clamp hj] at kk
      refine t_length h.2.2.1.1 ?_
      rw [List.length_map]
      refine ⟨fun z => ?_, fun z => ?_⟩
      · have hlt := (nI_ltI hj (by omega)).mp z
        obtain ⟨x, hx⟩ : ∃ x, st.1.1[j]? = some x := ⟨_, List.getElem?_eq_getElem hlt⟩
        rw [hx] at kk
        dsimp only at kk
        refine ⟨fun e => ?_, fun e => ?_, fun e => ?_, fun e => ?_⟩
        · rw [if_pos e] at kk
          exact (rowsGet (by decide) h.2.2.1 hx).1 kk
        · rw [if_neg (by rw [e]; decide), if_pos e] at kk
          exact (rowsGet (by decide) h.2.2.1 hx).2 kk
        · rw [if_neg (by rw [e]; decide), if_neg (by rw [e]; decide), if_pos e] at kk
          exact c_hashOf (by decide) h.1.1 h.2.2.1 hx kk
        · rw [if_neg e.1, if_neg e.2.1, if_neg e.2.2] at kk
          exact c_hashOf (by decide) h.1.1 h.2.2.1 hx (c_firstPart h.1.1 h.2.2.1 kk)
      · have hge : st.1.1.length ≤ j := Nat.not_lt.mp fun y => z ((nI_ltI hj (by omega)).mpr y)
        rw [List.getElem?_eq_none hge] at kk
        exact kk
    · rw [if_pos (Or.inr c)] at kk
      exact kk
def aUndo (st : AT) : Int32 × AT := match st.2.1.getLast? with
  | none => (-1000002, st)
  | some a => (nI (st.2.1.length - 1), (a, st.2.1.dropLast, st.2.2))
theorem c_undo {S : Mem} {st : AT} (h : CI S st) {K : Int32 → Mem → Prop} (kk : ∀ S', FrC S S' → CI S' (aUndo st).2 → K (aUndo st).1 S') : P_X6_undo S K := by
  obtain ⟨h1, h2, h3, ⟨o, ho, e1, e2, hk⟩, h5, h6⟩ := id h
  have hl4 := h1.2.1
  unfold P_X6_undo P_X1_length
  unfold aUndo at kk
  rw [e2]
  refine ⟨fun q => ?_, fun q => ?_⟩
  · have hpos : 0 < st.2.1.length := by
      rcases Nat.eq_zero_or_pos st.2.1.length with z | z
      · exact absurd (by rw [z]; rfl) q
      · exact z
    obtain ⟨n, hn⟩ : ∃ n, st.2.1.length = n + 1 := ⟨st.2.1.length - 1, by omega⟩
    obtain ⟨a, hget⟩ : ∃ a, st.2.1[n]? = some a := ⟨_, List.getElem?_eq_getElem (by omega)⟩
    have hlast : st.2.1.getLast? = some a := by
      rw [List.getLast?_eq_getElem?, hn, Nat.add_sub_cancel]
      exact hget
    rw [hlast] at kk
    dsimp only at kk
    have ha : okS a := h1.2.2.1 a (List.mem_of_getElem? hget)
    unfold P_X1_restore
    rw [e2, hn, show nI (n + 1) - (1 : Int32) = nI n from nI_pred n]
    have hm := Nat.mod_lt (o + n) (show 0 < 4 by omega)
    refine c_stateAt ho (by omega) e1 ⟨fun q => (by cases q), fun o3 q => ?_⟩
    cases q
    refine ⟨sts_of hm, c_copyS (by decide) (sts_of hm) (by omega) h2 ha (hk n a hget) (fun S4 g4 hSh4 f4 S6 hS6 S5 hS5 => ?_)⟩
    have f6 : ∀ i, i ≠ 6 → S6 i = S4 i := fun i hi => by rw [hS6]; exact mput_ne _ _ _ hi
    have f5 : ∀ i, i ≠ 0 → S5 i = S6 i := fun i hi => by rw [hS5]; exact mput_ne _ _ _ hi
    have ff : ∀ i, i ≠ 0 → i ≠ 6 → ¬ (2 ≤ i ∧ i ≤ 5) → S5 i = S i := fun i a b c => by rw [f5 i a, f6 i b, f4 i (by omega)]
    have f46 : S4 6 = S 6 := f4 6 (by omega)
    have e3 : S5 6 2 = nI n := by
      rw [f5 6 (by omega), hS6, mput_at, upd_at, f46, e2, hn]; exact nI_pred n
    rw [e3]
    rw [hn, Nat.add_sub_cancel] at kk
    have key : ∀ x ∈ tabs, (x ≠ 0 ∧ x + 1 ≠ 0) ∧ x ≠ 6 ∧ x + 1 ≠ 6 := by decide
    have hdl : st.2.1.dropLast.length = n := by rw [List.length_dropLast]; omega
    refine kk S5 (fun i hi => ff i (by omega) (by omega) (by omega)) ⟨⟨ha, by show st.2.1.dropLast.length ≤ 4; omega, fun x hx => h1.2.2.1 x ((List.dropLast_sublist _).subset hx), h1.2.2.2⟩, hSh4.eq fun t ht => ?_, g4.eq fun i _ _ => ?_, ⟨o, ho, ?_, ?_, fun j b hj => ?_⟩, h5.fr (ff _ (by omega) (by omega) (by omega)) (ff _ (by omega) (by omega) (by omega)), Or.inl ?_⟩
    · obtain ⟨⟨q1, q2⟩, q3, q4⟩ := key t ht
      exact ⟨by rw [f5 _ q1, f6 _ q3], by rw [f5 _ q2, f6 _ q4]⟩
    · rw [f5 i (by omega), f6 i (by omega)]
    · rw [f5 6 (by omega), hS6, mput_at, upd_ne _ _ (by omega), f46]; exact e1
    · rw [e3]; exact (congrArg nI hdl).symm
    · have hj2 : st.2.1.dropLast[j]? = some b := hj
      have hjl := (List.getElem?_eq_some_iff.mp hj2).1
      rw [List.getElem?_dropLast, if_pos (by omega)] at hj2
      have hmj := Nat.mod_lt (o + j) (show 0 < 4 by omega)
      exact (hk j b hj2).eq fun i hi1 hi2 => ff i (by omega) (by omega) (by omega)
    · rw [hS5, mput_at, upd_at]
  · have h0 : st.2.1.length = 0 := by
      have : nI st.2.1.length = nI 0 := q
      exact (nI_eq (by omega) (by omega)).mp this
    have : st.2.1 = [] := List.length_eq_zero_iff.mp h0
    rw [this] at kk
    exact kk S (FrC.rf S) h
def aType (st : AT) (c : Int32) : Int32 × AT :=
  if 32 ≤ c ∧ c ≤ 126 then (if st.2.2.length < 60 then (nI (st.2.2.length + 1), (st.1, st.2.1, st.2.2 ++ [Int32.toNatClampNeg c])) else (-1000003, st)) else (-1000001, st)
theorem c_type {S : Mem} {st : AT} (h : CI S st) {c : Int32} {K : Int32 → Mem → Prop} (kk : ∀ S', FrC S S' → CI S' (aType st c).2 → K (aType st c).1 S') : P_X6_type S c K := by
  unfold P_X6_type
  unfold aType at kk
  have h5 := h.2.2.2.2.1
  have hl := h.1.2.2.2.1
  refine c_in (fun q => ⟨fun _ => ?_, fun z => absurd rfl z⟩) (fun q => ⟨fun z => absurd z (by decide), fun _ => ?_⟩)
  · rw [if_pos q] at kk
    obtain ⟨j, hj, rfl⟩ := le_nI (n := 126) (Int32.le_trans (by decide) q.1) q.2 (by omega)
    have hj32 := (nI_leI (a := 32) (by omega) (by omega)).mp q.1
    rw [nI_clamp (by omega)] at kk
    refine t_length h5 ?_
    rw [List.length_map]
    refine ⟨fun z => ?_, fun z => ?_⟩
    · have hlt : st.2.2.length < 60 := (nI_ltI (b := 60) (by omega) (by omega)).mp z
      rw [if_pos hlt] at kk
      refine t_append (by decide) h5 (by rw [List.length_map]; exact hlt) (fun S5 g5 f5 => ?_)
      have g : TW S5 49 ((st.2.2 ++ [j]).map (fun c => row1 (nI c))) := by rw [List.map_append]; exact g5
      refine t_length g ?_
      rw [List.length_map, List.length_append]
      exact kk S5 (Fr.frC (t := 49) (by decide) f5) (CI.text (a := st.1) (hi := st.2.1) (tx := st.2.2) h _ (by rw [List.length_append]; simp; omega) (fun x hx => by
        rcases List.mem_append.mp hx with y | y
        · exact h.1.2.2.2.2 x y
        · rw [List.mem_singleton.mp y]; exact ⟨hj32, hj⟩) g f5)
    · rw [if_neg (fun y => z ((nI_ltI (b := 60) (by omega) (by omega)).mpr y))] at kk
      exact kk S (FrC.rf S) h
  · rw [if_neg q] at kk
    exact kk S (FrC.rf S) h
def aClearText (st : AT) : Int32 × AT := (nI st.2.2.length, (st.1, st.2.1, []))
theorem c_clearText {S : Mem} {st : AT} (h : CI S st) {K : Int32 → Mem → Prop} (kk : ∀ S', FrC S S' → CI S' (aClearText st).2 → K (aClearText st).1 S') : P_X6_clearText S K := by
  unfold P_X6_clearText
  have h5 := h.2.2.2.2.1
  refine t_length h5 ?_
  rw [List.length_map]
  refine t_shorten (m := 0) (by decide) h5 (by omega) (fun S3 g3 f3 => ?_)
  exact kk S3 (Fr.frC (t := 49) (by decide) f3) (CI.text (a := st.1) (hi := st.2.1) (tx := st.2.2) h [] (Nat.zero_le _) (fun x hx => absurd hx List.not_mem_nil) g3 f3)
