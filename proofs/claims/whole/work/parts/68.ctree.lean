/-! the class finishes its memory, runs its files, runs all -/
theorem pk_orN (x y : Nat) : nI x ||| nI y = nI (x ||| y) := by
  apply Int32.toBitVec_inj.mp
  rw [Int32.toBitVec_or]
  show BitVec.ofNat 32 x ||| BitVec.ofNat 32 y = BitVec.ofNat 32 (x ||| y)
  rw [BitVec.ofNat_or]
def EO (S : Mem) (a : AS) (D : List DR) : Prop := TW S 40 (D.map (fun d => row1 (nI (idx a d.1)))) ∧ ∃ E, TW S 38 E ∧ E.length = (ksOf a).length ∧ ∀ i d, D[i]? = some d → (E.getD (idx a d.1) row0) 0 = nI d.2.1 ∧ (E.getD (idx a d.1) row0) 1 = nI d.2.2 ∧ (E.getD (idx a d.1) row0) 2 = nI i
def OU (S : Mem) (a : AS) (lim b : Nat) (o : OUT) (base : List Row) : Prop := CX S a lim b ∧ TW S 34 (o.1.mapIdx prR) ∧ TW S 36 (o.2.1.map srR) ∧ EO S a o.2.2.1 ∧ TW S 42 [] ∧ (∃ PT, TW S 44 PT) ∧ TW S 46 base ∧ S 33 8 = nI o.2.2.2
def OKo (a : AS) (o : OUT) : Prop := nP o ≤ 613 ∧ nS o ≤ 612 ∧ (keysD o).Nodup ∧ ∀ k ∈ keysD o, k ∈ ksOf a
theorem OKo.pre1 {a : AS} {o x : OUT} (h : OKo a (appO o x)) : OKo a o := by
  obtain ⟨h1, h2, h3, h4⟩ := h
  rw [nP_app] at h1
  rw [nS_app] at h2
  rw [keysD_app, List.nodup_append] at h3
  exact ⟨by omega, by omega, h3.1, fun k hk => h4 k (by rw [keysD_app]; exact List.mem_append_left _ hk)⟩
theorem OKo.pre {a : AS} : ∀ (L : List OUT) (o : OUT), OKo a (L.foldl appO o) → OKo a o
  | [], _, h => h
  | x :: L, o, h => (OKo.pre L (appO o x) h).pre1
theorem appO_assoc (x y z : OUT) : appO (appO x y) z = appO x (appO y z) := by
  unfold appO
  simp only [List.append_assoc, Nat.add_assoc]
theorem fold_appO : ∀ (L : List OUT) (x o : OUT), L.foldl appO (appO x o) = appO x (L.foldl appO o)
  | [], _, _ => rfl
  | y :: L, x, o => by rw [List.foldl_cons, List.foldl_cons, appO_assoc, fold_appO L]
theorem OKo.nd {a : AS} {o : OUT} (h : OKo a o) (ha : okS a) : o.2.2.1.length ≤ 100 := by
  have := nodup_len _ _ h.2.2.1 h.2.2.2
  rw [nD_keys] at this
  exact Nat.le_trans this (ksOf_len ha)
section
variable {a : AS} {lim b l d pre : Nat} {PA SA base : List Row} {b0 n : Nat} {σ : PS} {its : List Nat}
theorem fin_loop (ha : okS a) {L : List Nat} (hL : ∀ x ∈ L, x ∈ ksOf a) (h100 : L.length ≤ 100) {D : List DR} (hN : ((D ++ L.map (fun k => (k, l, pre))).map (fun d => d.1)).Nodup) (hD : ∀ d ∈ D, d.1 ∈ ksOf a) (hl100 : D.length + L.length ≤ 100) {K : Mem → Prop} : ∀ (m f j : Nat) (S : Mem), j + m = L.length → m < f → TW S 42 (L.map (irow a)) → EO S a (D ++ (L.take j).map (fun k => (k, l, pre))) →
    (∀ S', TW S' 42 (L.map (irow a)) → EO S' a (D ++ L.map (fun k => (k, l, pre))) → (∀ i, ¬ (38 ≤ i ∧ i ≤ 41) → S' i = S i) → B_X2_finishMemory_90 K S') → B_X2_finishMemory_19 K f S (nI l) (nI pre) (nI j) := by
  intro m
  induction m with
  | zero =>
    intro f j S hj hf h42 hE k
    match f, hf with
    | f + 1, _ =>
      rw [List.take_of_length_le (by omega)] at hE
      exact t_length h42 ⟨fun _ => k S h42 hE (fun _ _ => rfl), fun z => absurd ((nI_leI (by rw [List.length_map]; omega) (by omega)).mpr (by rw [List.length_map]; omega)) z⟩
  | succ m ih =>
    intro f j S hj hf h42 hE k
    match f, hf with
    | f + 1, hf =>
      have hjl : j < L.length := by omega
      have hx : L[j]? = some (L[j]'hjl) := List.getElem?_eq_getElem hjl
      have hmem := hL _ (List.getElem_mem hjl)
      obtain ⟨x, hxe⟩ : ∃ x, L[j]'hjl = x := ⟨_, rfl⟩
      rw [hxe] at hx hmem
      have hix := idx_lt hmem
      have hk100 := ksOf_len ha
      obtain ⟨e1, E, e2, e3, e4⟩ := hE
      have hlenD : (D ++ (L.take j).map (fun k => (k, l, pre))).length = D.length + j := by rw [List.length_append, List.length_map, List.length_take]; omega
      refine t_length h42 ⟨fun z => absurd ((nI_leI (by rw [List.length_map]; omega) (by omega)).mp z) (by rw [List.length_map]; omega), fun _ => ?_⟩
      refine t_at (c := 0) t42.1 h42 (by omega) (by rw [t42.2.1]; omega) ?_
      rw [getD_mapN hx]
      show P_X4_put 38 S (nI (idx a x)) _ _ _
      refine t_put (c := 0) t38.1 e2 (by omega) (by rw [t38.2.1]; omega) (fun S1 g1 f1 => ?_)
      refine t_put (c := 1) t38.1 g1 (by rw [List.length_set]; omega) (by rw [t38.2.1]; omega) (fun S2 g2 f2 => ?_)
      rw [getD_set_self (by omega), List.set_set] at g2
      have f12 := f1.trans f2
      refine t_append t40.1 (e1.fr2 f12 (by omega) (by omega) (by omega)) (by rw [List.length_map, hlenD, t40.2.2]; omega) (fun S3 g3 f3 => ?_)
      refine t_put (c := 2) t38.1 (g2.fr2 f3 (by omega) (by omega) (by omega)) (by rw [List.length_set]; omega) (by rw [t38.2.1]; omega) (fun S4 g4 f4 => ?_)
      rw [getD_set_self (by omega), List.set_set, List.length_map, hlenD] at g4
      rw [nI_1]
      have eT : D ++ (L.take (j + 1)).map (fun k => (k, l, pre)) = D ++ (L.take j).map (fun k => (k, l, pre)) ++ [(x, l, pre)] := by
        rw [List.take_succ_eq_append_getElem hjl, hxe, List.map_append, ← List.append_assoc]; rfl
      refine ih f (j + 1) S4 (by omega) (by omega) (((h42.fr2 f12 (by omega) (by omega) (by omega)).fr2 f3 (by omega) (by omega) (by omega)).fr2 f4 (by omega) (by omega) (by omega)) ?_ (fun S' a1 a2 a3 => k S' a1 a2 (fun i hi => by rw [a3 i hi, f4 i (by omega) (by omega), f3 i (by omega) (by omega), f12 i (by omega) (by omega)]))
      rw [eT]
      refine ⟨?_, _, g4, by rw [List.length_set]; exact e3, fun i dd hi => ?_⟩
      · rw [List.map_append]
        exact g3.fr2 f4 (by omega) (by omega) (by omega)
      · by_cases ei : i = D.length + j
        · subst ei
          rw [← hlenD, List.getElem?_append_right (Nat.le_refl _), Nat.sub_self] at hi
          cases hi
          show (((E.set (idx a x) _).getD (idx a x) row0) 0 = _ ∧ _)
          rw [getD_set_self (by omega)]
          exact ⟨by rw [upd_ne _ _ (by omega), upd_ne _ _ (by omega), upd_at], by rw [upd_ne _ _ (by omega), upd_at], by rw [upd_at]⟩
        · have hil := (List.getElem?_eq_some_iff.mp hi).1
          rw [List.length_append, hlenD, List.length_singleton] at hil
          rw [List.getElem?_append_left (by omega)] at hi
          have hne : idx a dd.1 ≠ idx a x := by
            intro e
            have hdm : dd.1 ∈ ksOf a := by
              rcases List.mem_append.mp (List.mem_of_getElem? hi) with q | q
              · exact hD dd q
              · obtain ⟨y, hy, rfl⟩ := List.mem_map.mp q
                exact hL y (List.mem_of_mem_take hy)
            have exy := idx_inj hdm hmem e
            have hN2 : ((D ++ (L.take (j + 1)).map (fun k => (k, l, pre))).map (fun d => d.1)).Nodup := by
              refine List.Nodup.sublist ?_ hN
              exact (List.Sublist.append (List.Sublist.refl _) ((List.take_sublist _ _).map _)).map _
            rw [eT, List.map_append, List.nodup_append] at hN2
            exact hN2.2.2 dd.1 (List.mem_map.mpr ⟨dd, List.mem_of_getElem? hi, rfl⟩) x (by simp) exy
          rw [getD_set_ne hne]
          exact e4 i dd hi
theorem c_finish {S : Mem} (ha : okS a) {last : Bool} (h : CP S a lim b l pre PA SA base b0 n σ) (g : PI (hsh a.2.2.2) b lim l last its σ) (hits : ∀ x ∈ its, x ∈ ksOf a) (hn : its.length ≤ 100) {D : List DR} (hE : EO S a D) (hN : ((D ++ recD l pre σ).map (fun d => d.1)).Nodup) (hD : ∀ d ∈ D, d.1 ∈ ksOf a) (hl100 : D.length + σ.1.length ≤ 100) {K : Mem → Prop}
    (kk : ∀ S', TW S' 34 (PA ++ [prR PA.length (recP l pre n σ)]) → TW S' 42 [] → EO S' a (D ++ recD l pre σ) → (∀ i, i ≠ 34 → i ≠ 35 → ¬ (38 ≤ i ∧ i ≤ 43) → S' i = S i) → K S') : P_X2_finishMemory S (nI PA.length) (nI l) (nI pre) K := by
  obtain ⟨h1, h2, h3, h4, h5, h6, h7⟩ := h
  have h7' := g.s7
  refine t_length h4 ?_
  rw [List.length_map]
  refine t_put (c := 1) t34.1 h2 (last_lt _ _) (by rw [t34.2.1]; omega) (fun S3 g3 f3 => ⟨σ.1.length + 1, ?_⟩)
  rw [getD_last, set_last] at g3
  have e3 : upd (prR PA.length (recC l pre n σ)) 1 (nI σ.1.length) = prR PA.length (recP l pre n σ) := prR_u1 _ _ _ _ _ _ _ _ _
  rw [e3] at g3
  obtain ⟨q1, E, q2, q3⟩ := hE
  refine fin_loop ha (fun x hx => hits x (g.s2 x hx).1) (by omega) hN hD hl100 σ.1.length (σ.1.length + 1) 0 S3 (by omega) (by omega) (h4.fr2 f3 (by omega) (by omega) (by omega)) ⟨?_, E, q2.fr2 f3 (by omega) (by omega) (by omega), ?_⟩ (fun S5 g5 e5 f5 => ?_)
  · rw [List.take_zero, List.map_nil, List.append_nil]; exact q1.fr2 f3 (by omega) (by omega) (by omega)
  · rw [List.take_zero, List.map_nil, List.append_nil]; exact q3
  · refine t_shorten (m := 0) t42.1 g5 (by omega) (fun S7 g7 f7 => kk S7 ?_ g7 ⟨?_, ?_⟩ (fun i a1 a2 a3 => by rw [f7 i (by omega) (by omega), f5 i (by omega), f3 i (by omega) (by omega)]))
    · exact (g3.fr (f5 _ (by omega)) (f5 _ (by omega))).fr2 f7 (by omega) (by omega) (by omega)
    · exact e5.1.fr2 f7 (by omega) (by omega) (by omega)
    · obtain ⟨E2, p2, p3⟩ := e5.2
      exact ⟨E2, p2.fr2 f7 (by omega) (by omega) (by omega), p3⟩
theorem lv {l d b : Nat} (hd : l + d + 1 = 16 / b) : (l + 1) * b ≤ 16 ∧ l * b ≤ 16 := by
  have h1 : (l + 1) * b ≤ (16 / b) * b := Nat.mul_le_mul_right _ (by omega)
  have h2 := Nat.div_mul_le_self 16 b
  have h3 : l * b ≤ (l + 1) * b := Nat.mul_le_mul_right _ (by omega)
  omega
theorem prefix_step (h : Nat → Nat) {k b l pre p : Nat} (hl : (l + 1) * b ≤ 16) (hp : h k / 2 ^ (16 - l * b) = pre) (hpb : p < 2 ^ b) : (prt h b l k == p) = true ↔ h k / 2 ^ (16 - (l + 1) * b) = pre * 2 ^ b + p := by
  have hs : (l + 1) * b = l * b + b := by rw [Nat.add_mul, Nat.one_mul]
  have e1 : h k / 2 ^ (16 - (l + 1) * b) / 2 ^ b = pre := by
    rw [Nat.div_div_eq_div_mul, ← Nat.pow_add, show 16 - (l + 1) * b + b = 16 - l * b by omega]
    exact hp
  have e2 := Nat.div_add_mod (h k / 2 ^ (16 - (l + 1) * b)) (2 ^ b)
  have e3 : prt h b l k = h k / 2 ^ (16 - (l + 1) * b) % 2 ^ b := rfl
  rw [e1, ← e3, Nat.mul_comm] at e2
  rw [beq_iff_eq]
  omega
end
