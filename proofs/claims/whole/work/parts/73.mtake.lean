/-! the reference: adding to a group, laying a group, spilling a part -/
section
variable {a : AS} {lim b l d pre : Nat} {o : OUT} {n cnt0 cnt : Nat} {P : List It} {σ : PS} {FL : Nat → List It} {last : Bool}
theorem FLok.keep {e : It} (h11 : FLok FL P σ cnt0 cnt) (hne : ∀ q, q < 16 → ∀ k ∈ σ.2.2.1 q, k ≠ e.2.1) : FLok FL (P ++ [e]) σ cnt0 cnt := fun q hq => by
  obtain ⟨b1, b2, b3, b4⟩ := h11 q hq
  refine ⟨b1, b2, fun x hx => ⟨(b3 x hx).1, ?_⟩, fun k hkf => ?_⟩
  · rcases (b3 x hx).2 with z | z
    · exact Or.inl (by rw [List.map_append]; exact List.mem_append_left _ z)
    · exact Or.inr z
  · rw [b4 k hkf, aggOf_snoc, if_neg (fun c => hne q hq k hkf c.symm)]
theorem MP.frG {S S' : Mem} (h : MP S a lim b l pre o n cnt0 P σ FL cnt) {σ' : PS} {P' : List It} (f : FrG S S') (g' : GM S' (σ'.1.map (fun k => (k, aggOf P' k)))) (e1 : σ'.2 = σ.2) (hFL : FLok FL P' σ' cnt0 cnt) : MP S' a lim b l pre o n cnt0 P' σ' FL cnt := by
  obtain ⟨⟨h0, h1, h2, h3, h3', h3''⟩, h4, ⟨h5, h6⟩, ⟨h7, h7'⟩, ⟨h8, h8'⟩, h9, h10, h11⟩ := h
  refine ⟨⟨h0.same (f.1 54 (by omega) (by omega)), by rw [f.2 _ (by omega)]; exact h1, by rw [f.2 _ (by omega)]; exact h2, by rw [f.2 _ (by omega)]; exact h3, h3', by rw [e1]; exact h3''⟩, h4.eq (fun j _ => by rw [f.1 58 (by omega) (by omega)]) (fun j _ => by rw [f.1 59 (by omega) (by omega)]) (fun j _ => by rw [f.1 60 (by omega) (by omega)]), ⟨by rw [f.2 _ (by omega)]; exact h5, ?_⟩, ⟨by rw [f.2 _ (by omega), e1]; exact h7, fun j q hj => by rw [e1] at hj; have := h7' j q hj; unfold SM4 at this ⊢; rw [f.1 59 (by omega) (by omega)]; exact this⟩, ⟨by rw [f.2 _ (by omega)]; exact h8, by rw [f.2 _ (by omega), e1]; exact h8'⟩, g', fun q hq => (h10 q hq).fr (by rw [f.1 64 (by omega) (by omega)]) (by rw [f.1 62 (by omega) (by omega)]) (by rw [f.1 63 (by omega) (by omega)]) (fun _ _ _ _ => by rw [f.1 56 (by omega) (by omega)]), hFL⟩
  have : recC l pre n σ' = recC l pre n σ := by unfold recC; rw [e1]
  rw [this]
  exact h6.eq fun c _ => by rw [f.1 58 (by omega) (by omega)]
theorem FrG.nn {cnt0 : Nat} {Q : List It} {S S' : Mem} (f : FrG S S') : FrN cnt0 Q S S' := ⟨fun i hi => f.1 i (by omega) (by omega), fun j hj => f.2 j (by omega), fun i _ _ c _ => by rw [f.1 56 (by omega) (by omega)]⟩
theorem mt_add {S : Mem} {e : It} {j : Nat} {x : Agg} (h : MP S a lim b l pre o n cnt0 P σ FL cnt) (g : PI (hsh a.2.2.2) b lim l last (P.map (fun x => x.2.1)) σ) (hPl : P.length ≤ 100) (hi : ItK S e) (he : e.1 < 1900) (hsp : isSp σ (prt (hsh a.2.2.2) b l e.2.1) = false) (hj : (σ.1.map (fun k => (k, aggOf P k)))[j]? = some (e.2.1, x)) {K : Mem → Prop}
    (kk : ∀ S', MP S' a lim b l pre o n cnt0 (P ++ [e]) σ FL cnt → FrN cnt0 (P ++ [e]) S S' → K S') : P_X7_addsTo S (nI j) (nI e.1) K := by
  have h7 := g.s7
  rw [List.length_map] at h7
  have h11 := h.2.2.2.2.2.2.2
  rw [List.getElem?_map] at hj
  obtain ⟨k0, hk0, hk1⟩ := Option.map_eq_some_iff.mp hj
  obtain ⟨hjl, hje⟩ := List.getElem?_eq_some_iff.mp hk0
  have ek : k0 = e.2.1 := by injection hk1
  have ex : aggOf P k0 = x := by injection hk1
  subst ek
  have hm : e.2.1 ∈ σ.1 := List.mem_of_getElem? hk0
  refine m_addsTo h.2.2.2.2.2.1 (by rw [List.length_map]; omega) (k := e.2.1) (y := x) (by rw [List.getElem?_map, hk0]; show some (e.2.1, aggOf P e.2.1) = _; rw [ex]) he hi (fun S' g' f' => kk S' (h.frG f' ?_ rfl (h11.keep (fun q _ k hk c => ?_))) f'.nn)
  · have : (σ.1.map (fun k => (k, aggOf P k))).set j (e.2.1, mergeA x e.2.2) = σ.1.map (fun k => (k, aggOf (P ++ [e]) k)) := by
      refine List.ext_getElem (by simp) fun i h1 h2 => ?_
      rw [List.length_map] at h2
      rw [List.getElem_set, List.getElem_map, List.getElem_map]
      split
      · rename_i hi; subst hi
        rw [hje, aggOf_snoc, if_pos rfl, if_pos (g.s2 _ hm).1, ex]
      · rename_i hi
        rw [aggOf_snoc, if_neg (fun c => ?_)]
        have hw := List.pairwise_iff_getElem.mp g.s1
        rcases Nat.lt_or_gt_of_ne hi with q | q
        · have := hw j i hjl h2 q; omega
        · have := hw i j h2 hjl q; omega
    rw [← this]; exact g'
  · subst c
    have := (g.s3 q _ hk).2
    rw [this.1, this.2] at hsp
    cases hsp
theorem mt_lay {S : Mem} {e : It} {y0 : Int32} (ha : okS a) (h : MP S a lim b l pre o n cnt0 P σ FL cnt) (g : PI (hsh a.2.2.2) b lim l last (P.map (fun x => x.2.1)) σ) (hP : nP o < 1900) (hPl : P.length < 100) (hks : ∀ x ∈ P, x.2.1 ∈ ksOf a) (hk : e.2.1 ∈ ksOf a) (hi : ItK S e) (he : e.1 < 1900) (hsp : isSp σ (prt (hsh a.2.2.2) b l e.2.1) = false) (hm : e.2.1 ∉ σ.1) (hy : y0 = nI (if lim ≤ σ.1.length then 1 else 0)) {K : Int32 → Mem → Prop}
    (kk : ∀ S', MP S' a lim b l pre o n cnt0 (P ++ [e]) (layK lim σ e.2.1) FL cnt → FrN cnt0 (P ++ [e]) S S' → K 1 S') : B_X7_takes_126 K S (nI e.1) y0 (S 53 13) := by
  obtain ⟨⟨h0, h1, h2, h3, h3', h3''⟩, h4, ⟨h5, h6⟩, ⟨h7, h7'⟩, ⟨h8, h8'⟩, h9, h10, h11⟩ := h
  have hs7 := g.s7
  have hs13 := g.s13
  rw [List.length_map] at hs7 hs13
  have hkey9 : ∀ k ∈ σ.1, k ≤ 9999 := fun k hkm => by
    obtain ⟨y, hy, e⟩ := List.mem_map.mp (g.s2 k hkm).1
    rw [← e]
    exact key_le ha (mem_ksOf.mp (hks y hy))
  intro S13 hS13
  have f13 : ∀ i, i ≠ 53 → S13 i = S i := fun i hi => by rw [hS13, mput_ne _ _ _ hi]
  have o13 : ∀ j, j ≠ 13 → S13 53 j = S 53 j := fun j hj => by rw [hS13, mput_at, upd_ne _ _ hj]
  have emap : (σ.1.map (fun k => (k, aggOf P k))).map (fun g => g.1) = σ.1 := by rw [List.map_map]; exact List.map_id _
  refine m_lays (h9.fr (o13 6 (by omega)) (f13 57 (by omega))) (by rw [List.length_map]; omega) he (hi.eq fun c _ => by rw [f13 56 (by omega)]) (by rw [emap]; exact g.s1) (by rw [emap]; exact hm) (key_le ha (mem_ksOf.mp hk)) (fun gg hgg => ?_) (fun S14 g14 f14 => ?_)
  · obtain ⟨k, hk2, rfl⟩ := List.mem_map.mp hgg
    exact hkey9 k hk2
  · rw [emap] at g14
    have eG : (σ.1.map (fun k => (k, aggOf P k))).insertIdx (pl e.2.1 σ.1) (e.2.1, e.2.2) = (layK lim σ e.2.1).1.map (fun k => (k, aggOf (P ++ [e]) k)) := by
      have e1 : σ.1.map (fun k => (k, aggOf P k)) = σ.1.map (fun k => (k, aggOf (P ++ [e]) k)) := List.map_congr_left fun k hkm => by rw [aggOf_snoc, if_neg (fun c => hm (by rw [c]; exact hkm))]
      have e2 : e.2.2 = aggOf (P ++ [e]) e.2.1 := by
        rw [aggOf_snoc, if_pos rfl, if_neg (fun c => hm ((g.s4 _ c).1 hsp))]
      show _ = (insK e.2.1 σ.1).map _
      rw [insK_insertIdx, map_insertIdx', e1, ← e2]
    rw [eG] at g14
    have e8 : S14 53 8 = nI (nP o + 1) := by rw [f14.2 _ (by omega), o13 _ (by omega)]; exact h5
    have e58 : S14 58 = S 58 := by rw [f14.1 58 (by omega) (by omega), f13 58 (by omega)]
    have q6 : (7 : Int32) * (S14 53 8 - (1 : Int32)) + (6 : Int32) = nI (7 * nP o + 6) := by
      rw [e8, show nI (nP o + 1) - (1 : Int32) = nI (nP o) from pk_sub (b := 1) (by omega), mul7]; exact nI_add _ 6
    have e6 : S14 53 6 = nI (σ.1.length + 1) := by
      rw [g14.1, List.length_map]
      show nI (insK e.2.1 σ.1).length = _
      rw [insK_length]
    rw [q6, clampN (by omega), e58, h6.2.2.2.2.2.2, e6]
    have fin : ∀ v, v = nI (max σ.2.2.2.2.1 (σ.1.length + 1)) → B_X7_takes_183 K S14 v (nI (7 * nP o + 6)) := by
      intro v hv
      unfold B_X7_takes_183
      rw [clampN (by omega)]
      refine ⟨vin (by omega) (by omega), fun S16 hS16 => ?_⟩
      have f16 : ∀ i, i ≠ 58 → S16 i = S14 i := fun i hi => by rw [hS16, mput_ne _ _ _ hi]
      have f58 : ∀ j, j ≠ 7 * nP o + 6 → S16 58 j = S 58 j := fun j hj => by rw [hS16, mput_at, upd_ne _ _ hj, e58]
      have ff : ∀ i, i ≠ 53 → i ≠ 57 → i ≠ 58 → S16 i = S i := fun i a1 a2 a3 => by rw [f16 i a3, f14.1 i a1 a2, f13 i a1]
      have f53 : ∀ j, j ≠ 6 → j ≠ 13 → S16 53 j = S 53 j := fun j a1 a2 => by rw [f16 53 (by omega), f14.2 j a1, o13 j a2]
      refine kk S16 ⟨⟨h0.same (ff 54 (by omega) (by omega) (by omega)), by rw [f53 _ (by omega) (by omega)]; exact h1, by rw [f53 _ (by omega) (by omega)]; exact h2, by rw [f53 _ (by omega) (by omega)]; exact h3, h3', h3''⟩, h4.eq (fun j hj => f58 j (by omega)) (fun j _ => by rw [ff 59 (by omega) (by omega) (by omega)]) (fun j _ => by rw [ff 60 (by omega) (by omega) (by omega)]), ⟨by rw [f53 _ (by omega) (by omega)]; exact h5, ?_⟩, ⟨by rw [f53 _ (by omega) (by omega)]; exact h7, fun j q hj => by have := h7' j q hj; unfold SM4 at this ⊢; rw [ff 59 (by omega) (by omega) (by omega)]; exact this⟩, ⟨by rw [f53 _ (by omega) (by omega)]; exact h8, ?_⟩, g14.fr (by rw [f16 53 (by omega)]) (f16 57 (by omega)), fun q hq => (h10 q hq).fr (by rw [ff 64 (by omega) (by omega) (by omega)]) (by rw [ff 62 (by omega) (by omega) (by omega)]) (by rw [ff 63 (by omega) (by omega) (by omega)]) (fun _ _ _ _ => by rw [ff 56 (by omega) (by omega) (by omega)]), ?_⟩ ⟨fun i hi => ff i (by omega) (by omega) (by omega), fun j hj => f53 j (by omega) (by omega), fun i _ _ c _ => by rw [ff 56 (by omega) (by omega) (by omega)]⟩
      · obtain ⟨p0, p1, p2, p3, p4, p5, p6⟩ := h6
        refine ⟨(f58 _ (by omega)).trans p0, (f58 _ (by omega)).trans p1, (f58 _ (by omega)).trans p2, (f58 _ (by omega)).trans p3, (f58 _ (by omega)).trans p4, (f58 _ (by omega)).trans p5, ?_⟩
        rw [hS16, mput_at, upd_at]; exact hv
      · rw [f16 53 (by omega), f14.2 _ (by omega), hS13, mput_at, upd_at, h8', hy, nI_add, Nat.add_assoc]
        rfl
      · have := h11.keep (e := e) (fun q _ k hkf c => ?_)
        · exact this
        · subst c
          have := (g.s3 q _ hkf).2
          rw [this.1, this.2] at hsp
          cases hsp
    show vp_in _ _ ∧ (nI (σ.1.length + 1) ≤ nI σ.2.2.2.2.1 → _) ∧ _
    refine ⟨vin (by omega) (by omega), fun z => ⟨vin (by omega) (by omega), fin _ ?_⟩, fun z => fin _ ?_⟩
    · have := (nI_leI (by omega) (by omega)).mp z
      show nI σ.2.2.2.2.1 = _
      rw [show max σ.2.2.2.2.1 (σ.1.length + 1) = σ.2.2.2.2.1 by omega]
    · have : ¬ σ.1.length + 1 ≤ σ.2.2.2.2.1 := fun c => (show ¬ nI (σ.1.length + 1) ≤ nI σ.2.2.2.2.1 from z) ((nI_leI (by omega) (by omega)).mpr c)
      rw [show max σ.2.2.2.2.1 (σ.1.length + 1) = σ.1.length + 1 by omega]
theorem m_manyOf {S : Mem} {G : List (Nat × Agg)} {Pn : Nat} (ha : okS a) (hb : 1 ≤ b ∧ b ≤ 4) (hl : (l + 1) * b ≤ 16) (h0 : AllIs (S 54) a) (h14 : S 53 14 = nI b) (hG : GM S G) (hGl : G.length ≤ 100) (h9 : ∀ g ∈ G, g.1 ≤ 9999) (h8 : S 53 8 = nI (Pn + 1)) (hP : Pn < 1900) (hr : S 58 (7 * Pn) = nI l) {p : Nat} (hp : p < 16) {K : Int32 → Mem → Prop} (k : K (nI (cntP (hsh a.2.2.2) b l (G.map (fun g => g.1)) p)) S) : P_X7_manyOf S (nI p) K := by
  have hbp := pow_b hb
  have loop : ∀ m f j, j + m = G.length → m < f → B_X7_manyOf_4 K f S (nI p) (nI (cntP (hsh a.2.2.2) b l ((G.take j).map (fun g => g.1)) p)) (nI j) := by
    intro m
    induction m with
    | zero =>
      intro f j hj hf
      match f, hf with
      | f + 1, _ =>
        rw [List.take_of_length_le (by omega)]
        exact ⟨fun _ => k, fun z => absurd (by rw [hG.1]; exact (nI_leI (by omega) (by omega)).mpr (by omega)) z⟩
    | succ m ih =>
      intro f j hj hf
      match f, hf with
      | f + 1, hf =>
        have hjl : j < G.length := by omega
        have hx : G[j]? = some (G[j]'hjl) := List.getElem?_eq_getElem hjl
        have h9x := h9 _ (List.getElem_mem hjl)
        have e2 : (G.take (j + 1)).map (fun g => g.1) = (G.take j).map (fun g => g.1) ++ [(G[j]'hjl).1] := by rw [List.take_succ_eq_append_getElem hjl, List.map_append]; rfl
        obtain ⟨x, hxe⟩ : ∃ x, G[j]'hjl = x := ⟨_, rfl⟩
        rw [hxe] at hx h9x e2
        have hpl := prt_lt (hsh a.2.2.2) b l x.1
        refine ⟨fun z => absurd (by rw [hG.1] at z; exact (nI_leI (by omega) (by omega)).mp z) (by omega), fun _ => ?_⟩
        rw [mul5, clampN (by omega), (hG.2 j x hx).1]
        refine ⟨vin (by omega) (by omega), m_last (c := 0) h8 hP (by omega) ?_⟩
        rw [Nat.add_zero, hr, h14]
        refine m_part ha h0 h9x hb.1 hb.2 hl ⟨fun z => ?_, fun z => ?_⟩
        · have hne : ¬ prt (hsh a.2.2.2) b l x.1 = p := fun c => z (by rw [c])
          have := ih f (j + 1) (by omega) (by omega)
          rw [e2] at this
          have ec : cntP (hsh a.2.2.2) b l ((G.take j).map (fun g => g.1) ++ [x.1]) p = cntP (hsh a.2.2.2) b l ((G.take j).map (fun g => g.1)) p := by unfold cntP; rw [List.filter_append]; simp [hne]
          rw [ec] at this
          show B_X7_manyOf_4 K f S (nI p) (_ + 0) (nI j + 1)
          rw [nI_1, Int32.add_zero]
          exact this
        · have heq : prt (hsh a.2.2.2) b l x.1 = p := (nI_eq (by omega) (by omega)).mp z
          have := ih f (j + 1) (by omega) (by omega)
          rw [e2] at this
          have ec : cntP (hsh a.2.2.2) b l ((G.take j).map (fun g => g.1) ++ [x.1]) p = cntP (hsh a.2.2.2) b l ((G.take j).map (fun g => g.1)) p + 1 := by unfold cntP; rw [List.filter_append]; simp [heq]
          rw [ec] at this
          show B_X7_manyOf_4 K f S (nI p) (_ + 1) (nI j + 1)
          rw [nI_1, nI_1]
          exact this
  exact ⟨G.length + 1, loop G.length (G.length + 1) 0 (by omega) (by omega)⟩
end
