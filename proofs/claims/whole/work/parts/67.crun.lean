/-! the class's passes, all of them -/
def take0 (h : Nat → Nat) (b lim l : Nat) (σ : PS) (k : Nat) : PS := if isSp σ (prt h b l k) = true then filK σ (prt h b l k) k else if k ∈ σ.1 then σ else layK lim σ k
theorem take1_need (h : Nat → Nat) (b lim l : Nat) (last : Bool) (σ : PS) (k : Nat) : (isSp σ (prt h b l k) = false ∧ k ∉ σ.1 ∧ lim ≤ σ.1.length ∧ last = false → take1 h b lim l last σ k = take0 h b lim l (spl h b l σ) k) ∧ (¬ (isSp σ (prt h b l k) = false ∧ k ∉ σ.1 ∧ lim ≤ σ.1.length ∧ last = false) → take1 h b lim l last σ k = take0 h b lim l σ k) := by
  constructor
  · rintro ⟨h1, h2, h3⟩
    unfold take1 take0
    rw [if_neg (by rw [h1]; decide), if_neg h2, if_pos h3]
    have : k ∉ (spl h b l σ).1 := fun m => h2 (List.mem_filter.mp m).1
    rw [if_neg this]
  · intro hn
    unfold take1 take0
    by_cases h1 : isSp σ (prt h b l k) = true
    · rw [if_pos h1, if_pos h1]
    · rw [if_neg h1, if_neg h1]
      by_cases h2 : k ∈ σ.1
      · rw [if_pos h2, if_pos h2]
      · rw [if_neg h2, if_neg h2, if_neg (fun h3 => hn ⟨by simpa using h1, h2, h3⟩)]
theorem take1_mono (h : Nat → Nat) (b lim l : Nat) (last : Bool) (σ : PS) (k : Nat) : σ.2.1.length ≤ (take1 h b lim l last σ k).2.1.length := by
  have hs : σ.2.1.length ≤ (spl h b l σ).2.1.length := by show _ ≤ (σ.2.1 ++ [_]).length; rw [List.length_append]; omega
  have h0 : ∀ τ : PS, (take0 h b lim l τ k).2.1 = τ.2.1 := by
    intro τ
    unfold take0
    split
    · rfl
    · split <;> rfl
  by_cases c : isSp σ (prt h b l k) = false ∧ k ∉ σ.1 ∧ lim ≤ σ.1.length ∧ last = false
  · rw [(take1_need h b lim l last σ k).1 c, h0]; exact hs
  · rw [(take1_need h b lim l last σ k).2 c, h0]; omega
theorem fold_mono (h : Nat → Nat) (b lim l : Nat) (last : Bool) : ∀ (M : List Nat) (σ : PS), σ.2.1.length ≤ (M.foldl (take1 h b lim l last) σ).2.1.length
  | [], σ => Nat.le_refl _
  | k :: M, σ => Nat.le_trans (take1_mono h b lim l last σ k) (fold_mono h b lim l last M _)
section
variable {a : AS} {lim b l d pre : Nat} {PA SA base : List Row} {b0 n : Nat} {σ : PS} {its : List Nat}
theorem c_take {S : Mem} (ha : okS a) (hb : 1 ≤ b ∧ b ≤ 4) (hlim : lim ≤ 12) (hl : (l + 1) * b ≤ 16) (h : CP S a lim b l pre PA SA base b0 n σ) (g : PI (hsh a.2.2.2) b lim l (d == 0) its σ) (hits : ∀ x ∈ its, x ∈ ksOf a) (hn : its.length < 100) (hbase : d ≠ 0 → base.length ≤ 1500) {k : Nat} (hk : k ∈ ksOf a) {K : Mem → Prop}
    (kk : ∀ S', CP S' a lim b l pre PA SA base b0 (n + 1) (take0 (hsh a.2.2.2) b lim l σ k) → FrP S S' → K S') : P_X2_takeItem S (nI PA.length) (nI l) (nI (idx a k)) K := by
  have h16 := pow_b hb
  have hpl := prt_lt (hsh a.2.2.2) b l k
  refine ct_taken h (fun S1 g1 f1 => ?_)
  refine c_partOf ha hb hl g1.1 hk (c_isSp g hb.2 g1.2.1 (by omega) (fun e => ⟨fun z => absurd z (by decide), fun _ => ?_⟩) (fun e => ⟨fun _ => ?_, fun z => absurd rfl z⟩))
  · have hd : d ≠ 0 := fun c => by
      have : σ.2.1 = [] := g.s10 (by rw [c]; rfl)
      unfold isSp at e
      rw [this] at e; cases e
    refine ct_fil hb g1 g (hbase hd) hn e (fun S' g' f' => kk S' ?_ (f1.trans f'))
    unfold take0
    rw [if_pos e]; exact g'
  · refine c_isHeld ha g1.2.2.2.1 g.s1 (fun x hx => hits x (g.s2 x hx).1) hk (fun m => ⟨fun _ => ?_, fun z => absurd z (by decide)⟩) (fun m => ⟨fun z => absurd rfl z, fun _ => ?_⟩)
    · refine kk S1 ?_ f1
      unfold take0
      rw [if_neg (by rw [e]; decide), if_pos m]; exact g1
    · refine ct_lay ha hb hlim g1 g hits hn hk m (fun S' g' f' => kk S' ?_ (f1.trans f'))
      unfold take0
      rw [if_neg (by rw [e]; decide), if_neg m]; exact g'
theorem c_item {S : Mem} (ha : okS a) (hb : 1 ≤ b ∧ b ≤ 4) (hlim : 1 ≤ lim ∧ lim ≤ 12) (hd : l + d + 1 = 16 / b) (hl : (l + 1) * b ≤ 16) (h : CP S a lim b l pre PA SA base b0 n σ) (g : PI (hsh a.2.2.2) b lim l (d == 0) its σ) (hits : ∀ x ∈ its, x ∈ ksOf a) (hn : its.length < 100) (hbase : d ≠ 0 → base.length ≤ 1500) {k : Nat} (hk : k ∈ ksOf a) (hSA : SA.length + (take1 (hsh a.2.2.2) b lim l (d == 0) σ k).2.1.length ≤ 612) {K : Mem → Prop}
    (kk : ∀ S', CP S' a lim b l pre PA SA base b0 (n + 1) (take1 (hsh a.2.2.2) b lim l (d == 0) σ k) → FrP S S' → K S') :
    P_X2_needsSpill S (nI PA.length) (nI l) (nI (idx a k)) (fun r26 S25 => (r26 = 0 → P_X2_takeItem S25 (nI PA.length) (nI l) (nI (idx a k)) K) ∧ (¬ r26 = 0 → P_X2_fullestPart S25 (fun r30 S29 => P_X2_spillPart S29 (nI PA.length) r30 (fun S31 => P_X2_takeItem S31 (nI PA.length) (nI l) (nI (idx a k)) K)))) := by
  have h16 := pow_b hb
  have hpl := prt_lt (hsh a.2.2.2) b l k
  have h7 := g.s7
  have hb16 : 16 / b ≤ 16 := Nat.div_le_self _ _
  have no : ¬ (isSp σ (prt (hsh a.2.2.2) b l k) = false ∧ k ∉ σ.1 ∧ lim ≤ σ.1.length ∧ (d == 0) = false) → P_X2_takeItem S (nI PA.length) (nI l) (nI (idx a k)) K := fun c => by
    rw [(take1_need _ _ _ _ _ _ _).2 c] at kk
    exact c_take ha hb hlim.2 hl h g hits hn hbase hk kk
  refine t_length h.2.2.2.1 ?_
  rw [List.length_map, h.1.2.1, h.1.2.2.2]
  refine ⟨fun q => ⟨fun _ => no (fun c => ?_), fun z => absurd rfl z⟩, fun q => ⟨fun q2 => ⟨fun _ => no (fun c => ?_), fun z => absurd rfl z⟩, fun q2 => ?_⟩⟩
  · have := (nI_ltI (by omega) (by omega)).mp q; omega
  · have := (nI_leI (by omega) (by omega)).mp q2
    have c4 : (d == 0) = false := c.2.2.2
    rw [show d = 0 by omega] at c4
    cases c4
  · have hlen : lim ≤ σ.1.length := Nat.not_lt.mp fun z => q ((nI_ltI (by omega) (by omega)).mpr z)
    have hd1 : d ≠ 0 := fun c => q2 ((nI_leI (by omega) (by omega)).mpr (by omega))
    have hdf : (d == 0) = false := beq_eq_false_iff_ne.mpr hd1
    refine c_partOf ha hb hl h.1 hk (c_isSp g hb.2 h.2.1 (by omega) (fun e => ⟨fun _ => ⟨fun _ => no (fun c => ?_), fun z => absurd rfl z⟩, fun z => absurd z (by decide)⟩) (fun e => ⟨fun z => absurd rfl z, fun _ => ?_⟩))
    · rw [e] at c; cases c.1
    · refine c_isHeld ha h.2.2.2.1 g.s1 (fun x hx => hits x (g.s2 x hx).1) hk (fun m => ⟨fun _ => ⟨fun _ => no (fun c => c.2.1 m), fun z => absurd rfl z⟩, fun z => absurd z (by decide)⟩) (fun m => ⟨fun z => absurd rfl z, fun _ => ⟨fun z => absurd z (by decide), fun _ => ?_⟩⟩)
      have hc : isSp σ (prt (hsh a.2.2.2) b l k) = false ∧ k ∉ σ.1 ∧ lim ≤ σ.1.length ∧ (d == 0) = false := ⟨e, m, hlen, hdf⟩
      rw [(take1_need _ _ _ _ _ _ _).1 hc] at kk hSA
      have hne : σ.1 ≠ [] := fun c => by rw [c] at hlen; simp at hlen; omega
      have h0 : (take0 (hsh a.2.2.2) b lim l (spl (hsh a.2.2.2) b l σ) k).2.1 = (spl (hsh a.2.2.2) b l σ).2.1 := by
        unfold take0
        split
        · rfl
        · split <;> rfl
      rw [h0] at hSA
      have hSA : SA.length + (σ.2.1 ++ [_]).length ≤ 612 := hSA
      rw [List.length_append, List.length_singleton] at hSA
      obtain ⟨c1, c2, c3, c4, ⟨PT, c5, c51, c52, c53⟩, c6, c7⟩ := h
      have hw : CP S a lim b l pre PA SA base b0 n σ := ⟨c1, c2, c3, c4, ⟨PT, c5, c51, c52, c53⟩, c6, c7⟩
      refine c_fullest hb (by omega) c5 c51 c52 ?_
      have gf : PI (hsh a.2.2.2) b lim l false its σ := by rw [hdf] at g; exact g
      refine c_spill ha hb hl hw gf hits (hbase hd1) (by omega) hne (by omega) (fun S31 g31 f31 => ?_)
      have g2 : PI (hsh a.2.2.2) b lim l (d == 0) its (spl (hsh a.2.2.2) b l σ) := (g.spill hne hdf).1
      exact c_take ha hb hlim.2 hl g31 g2 hits hn hbase hk (fun S' g' f' => kk S' g' (f31.trans f'))
theorem passR_snoc (h : Nat → Nat) (b lim l : Nat) (last : Bool) (M : List Nat) (k : Nat) : passR h b lim l last (M ++ [k]) = take1 h b lim l last (passR h b lim l last M) k := by
  unfold passR
  rw [List.foldl_append]; rfl
theorem c_loop {RP : Mem → Int32 → Int32 → Int32 → (Mem → Prop) → Prop} {B0 : List Row} {L : List Nat} {q : Nat → Bool} (ha : okS a) (hb : 1 ≤ b ∧ b ≤ 4) (hlim : 1 ≤ lim ∧ lim ≤ 12) (hd : l + d + 1 = 16 / b) (hl : (l + 1) * b ≤ 16) (hlb : l * b ≤ 16) (hL : ∀ x ∈ L, x ∈ ksOf a) (hq : ∀ x ∈ L, q x = true ↔ hsh a.2.2.2 x / 2 ^ (16 - l * b) = pre) (hpre : pre < 65536) (h100 : (L.filter q).length ≤ 100) (hbl : (B0 ++ L.map (irow a)).length ≤ 1600) (hbase : d ≠ 0 → (B0 ++ L.map (irow a)).length ≤ 1500)
    (hSA : SA.length + (passR (hsh a.2.2.2) b lim l (d == 0) (L.filter q)).2.1.length ≤ 612) {K : Mem → Prop} : ∀ (m f j : Nat) (S : Mem), j + m = L.length → m < f → CP S a lim b l pre PA SA (B0 ++ L.map (irow a)) b0 ((L.take j).filter q).length (passR (hsh a.2.2.2) b lim l (d == 0) ((L.take j).filter q)) →
    (∀ S', CP S' a lim b l pre PA SA (B0 ++ L.map (irow a)) b0 (L.filter q).length (passR (hsh a.2.2.2) b lim l (d == 0) (L.filter q)) → FrP S S' → B_X2_runPass_147 RP K S' (nI l) (nI pre) (nI PA.length) (nI (B0 ++ L.map (irow a)).length)) →
    B_X2_runPass_80 RP K f S (nI l) (nI pre) (nI PA.length) (nI (B0 ++ L.map (irow a)).length) (nI (B0.length + j)) := by
  have hlen : (B0 ++ L.map (irow a)).length = B0.length + L.length := by rw [List.length_append, List.length_map]
  intro m
  induction m with
  | zero =>
    intro f j S hj hf h k
    match f, hf with
    | f + 1, _ =>
      rw [List.take_of_length_le (by omega)] at h
      exact ⟨fun _ => k S h (FrP.rf S), fun z => absurd ((nI_leI (by omega) (by omega)).mpr (by omega)) z⟩
  | succ m ih =>
    intro f j S hj hf h k
    match f, hf with
    | f + 1, hf =>
      have hjl : j < L.length := by omega
      have hmem := hL _ (List.getElem_mem hjl)
      refine ⟨fun z => absurd ((nI_leI (by omega) (by omega)).mp z) (by omega), fun _ => ?_⟩
      obtain ⟨c1, c2, c3, c4, c5, ⟨R, c6, c6'⟩, c7⟩ := h
      have hw : CP S a lim b l pre PA SA (B0 ++ L.map (irow a)) b0 ((L.take j).filter q).length (passR (hsh a.2.2.2) b lim l (d == 0) ((L.take j).filter q)) := ⟨c1, c2, c3, c4, c5, ⟨R, c6, c6'⟩, c7⟩
      refine t_at (c := 0) t46.1 c6 (by omega) (by rw [t46.2.1]; omega) ?_
      have eg : ((B0 ++ L.map (irow a) ++ R.map (irow a)).getD (B0.length + j) row0) 0 = nI (idx a L[j]) := by
        rw [List.append_assoc, getD_appR, List.getD_eq_getElem?_getD, List.getElem?_append_left (by rw [List.length_map]; exact hjl), List.getElem?_map, List.getElem?_eq_getElem hjl]
        rfl
      rw [eg]
      have hhl : hsh a.2.2.2 L[j] / 2 ^ (16 - l * b) ≤ hsh a.2.2.2 L[j] := Nat.div_le_self _ _
      have hhs := hsh_lt a.2.2.2 L[j]
      refine c_prefix ha hlb c1 hmem ⟨fun z => ?_, fun z => ?_⟩
      · have hqf : q (L[j]'hjl) = false := by
          cases hc : q (L[j]'hjl) with
          | false => rfl
          | true => exact absurd ((hq _ (List.getElem_mem hjl)).mp hc) (fun e => z (by rw [e]))
        have e2 := take_filter_succ hjl q
        rw [if_neg (by rw [hqf]; decide), List.append_nil] at e2
        show B_X2_runPass_80 RP K f S _ _ _ _ (nI (B0.length + j) + 1)
        rw [nI_1, Nat.add_assoc]
        exact ih f (j + 1) S (by omega) (by omega) (by rw [e2]; exact hw) k
      · have hqt : q (L[j]'hjl) = true := (hq _ (List.getElem_mem hjl)).mpr ((nI_eq (by omega) (by omega)).mp z)
        have e2 := take_filter_succ hjl q
        rw [if_pos hqt] at e2
        have hsub : ((L.take (j + 1)).filter q).length ≤ (L.filter q).length := (List.Sublist.filter q (List.take_sublist _ _)).length_le
        have hlt : ((L.take j).filter q).length < 100 := by rw [e2, List.length_append, List.length_singleton] at hsub; omega
        have es : passR (hsh a.2.2.2) b lim l (d == 0) ((L.take (j + 1)).filter q) = take1 (hsh a.2.2.2) b lim l (d == 0) (passR (hsh a.2.2.2) b lim l (d == 0) ((L.take j).filter q)) (L[j]'hjl) := by rw [e2, passR_snoc]
        have hmono : (passR (hsh a.2.2.2) b lim l (d == 0) ((L.take (j + 1)).filter q)).2.1.length ≤ (passR (hsh a.2.2.2) b lim l (d == 0) (L.filter q)).2.1.length := by
          have e3 : L.filter q = (L.take (j + 1)).filter q ++ (L.drop (j + 1)).filter q := by rw [← List.filter_append, List.take_append_drop]
          rw [e3]
          unfold passR
          rw [List.foldl_append]
          exact fold_mono _ _ _ _ _ _ _
        refine c_item ha hb hlim hd hl hw (PI.all hlim.1 _) (fun x hx => hL x (List.mem_of_mem_take (List.mem_filter.mp hx).1)) hlt hbase hmem (by rw [← es]; omega) (fun S' g' f' => ?_)
        show B_X2_runPass_80 RP K f S' _ _ _ _ (nI (B0.length + j) + 1)
        rw [nI_1, Nat.add_assoc]
        refine ih f (j + 1) S' (by omega) (by omega) ?_ (fun S2 g2 f2 => k S2 g2 (f'.trans f2))
        rw [es, e2, List.length_append]
        exact g'
end
