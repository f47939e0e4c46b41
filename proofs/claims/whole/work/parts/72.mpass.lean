/-! the reference's pass, item by item -/
def PMr (S : Mem) (i : Nat) (r : PR) : Prop := S 58 (7 * i) = nI r.1 ∧ S 58 (7 * i + 1) = nI r.2.1 ∧ S 58 (7 * i + 2) = nI r.2.2.1 ∧ S 58 (7 * i + 3) = nI r.2.2.2.1 ∧ S 58 (7 * i + 4) = nI r.2.2.2.2.1 ∧ S 58 (7 * i + 5) = nI r.2.2.2.2.2.1 ∧ S 58 (7 * i + 6) = nI r.2.2.2.2.2.2
def SM4 (S : Mem) (i : Nat) (r : Nat × Nat × Nat × Nat) : Prop := S 59 (5 * i) = nI r.1 ∧ S 59 (5 * i + 1) = nI r.2.1 ∧ S 59 (5 * i + 2) = nI r.2.2.1 ∧ S 59 (5 * i + 3) = nI r.2.2.2
def SMr (S : Mem) (i : Nat) (r : SR) : Prop := SM4 S i (r.1, r.2.1, r.2.2.1, r.2.2.2.1) ∧ S 59 (5 * i + 4) = nI r.2.2.2.2
def DMr (S : Mem) (a : AS) (i : Nat) (d : DR) : Prop := S 60 (7 * i) = nI d.1 ∧ Ag4 (S 60) (7 * i) (aggK a d.1) ∧ S 60 (7 * i + 5) = nI d.2.1 ∧ S 60 (7 * i + 6) = nI d.2.2
def OM (S : Mem) (a : AS) (o : OUT) : Prop := (∀ i r, o.1[i]? = some r → PMr S i r) ∧ (∀ i r, o.2.1[i]? = some r → SMr S i r) ∧ ∀ i d, o.2.2.1[i]? = some d → DMr S a i d
def aggOf (P : List It) (k : Nat) : Agg := aggs ((P.filter (fun e => e.2.1 == k)).map (fun e => e.2.2))
theorem aggOf_snoc (P : List It) (e : It) (k : Nat) : aggOf (P ++ [e]) k = if e.2.1 = k then (if k ∈ P.map (fun x => x.2.1) then mergeA (aggOf P k) e.2.2 else e.2.2) else aggOf P k := by
  unfold aggOf
  rw [List.filter_append, List.map_append]
  by_cases h : e.2.1 = k
  · rw [if_pos h]
    have e1 : ([e].filter (fun e => e.2.1 == k)).map (fun e => e.2.2) = [e.2.2] := by simp [h]
    rw [e1]
    by_cases m : k ∈ P.map (fun x => x.2.1)
    · rw [if_pos m]
      refine aggs_app (fun z => ?_) _
      obtain ⟨q, hq, hq2⟩ := List.mem_map.mp m
      have : q ∈ P.filter (fun e => e.2.1 == k) := List.mem_filter.mpr ⟨hq, by simp [hq2]⟩
      rw [List.map_eq_nil_iff.mp z] at this
      simp at this
    · rw [if_neg m]
      have : P.filter (fun e => e.2.1 == k) = [] := List.filter_eq_nil_iff.mpr fun q hq hk => m (List.mem_map.mpr ⟨q, hq, by simpa using hk⟩)
      rw [this]
      rfl
  · rw [if_neg h]
    have e1 : ([e].filter (fun e => e.2.1 == k)).map (fun e => e.2.2) = [] := by simp [h]
    rw [e1, List.append_nil]
theorem mem_le_sum {α : Type} (f : α → Nat) : ∀ {L : List α} {x : α}, x ∈ L → f x ≤ (L.map f).sum
  | [], _, h => by simp at h
  | y :: L, x, h => by
    rw [List.map_cons, List.sum_cons]
    rcases List.mem_cons.mp h with rfl | h
    · omega
    · have := mem_le_sum f h; omega
def FLok (FL : Nat → List It) (P : List It) (σ : PS) (cnt0 cnt : Nat) : Prop := ∀ q, q < 16 → ((FL q).map (fun x => x.1)).Nodup ∧ (FL q).map (fun x => x.2.1) = σ.2.2.1 q ∧ (∀ x ∈ FL q, x.1 < cnt ∧ (x.1 ∈ P.map (fun x => x.1) ∨ cnt0 ≤ x.1)) ∧ ∀ k ∈ σ.2.2.1 q, aggOf (FL q) k = aggOf P k
def MP (S : Mem) (a : AS) (lim b l pre : Nat) (o : OUT) (n cnt0 : Nat) (P : List It) (σ : PS) (FL : Nat → List It) (cnt : Nat) : Prop :=
  (AllIs (S 54) a ∧ S 53 15 = nI lim ∧ S 53 14 = nI b ∧ S 53 4 = nI cnt ∧ cnt0 ≤ cnt ∧ cnt ≤ cnt0 + σ.2.2.2.1) ∧ OM S a o ∧ (S 53 8 = nI (nP o + 1) ∧ PMr S (nP o) (recC l pre n σ)) ∧ (S 53 10 = nI (nS o + σ.2.1.length) ∧ ∀ j q, σ.2.1[j]? = some q → SM4 S (nS o + j) (l, pre, q.1, q.2)) ∧
  (S 53 12 = nI (nD o) ∧ S 53 13 = nI (o.2.2.2 + σ.2.2.2.2.2)) ∧ GM S (σ.1.map (fun k => (k, aggOf P k))) ∧ (∀ q, q < 16 → FOK S q (FL q)) ∧ FLok FL P σ cnt0 cnt
def FrN (cnt0 : Nat) (Q : List It) (S S' : Mem) : Prop := (∀ i, (i < 53 ∨ i = 54 ∨ i = 55 ∨ i = 60 ∨ i = 61 ∨ 65 ≤ i) → S' i = S i) ∧ (∀ j, j = 2 ∨ 17 ≤ j → S' 53 j = S 53 j) ∧ ∀ i, i < cnt0 → i ∉ Q.map (fun x => x.1) → ∀ c, c < 6 → S' 56 (6 * i + c) = S 56 (6 * i + c)
theorem FrN.rf (cnt0 : Nat) (Q : List It) (S : Mem) : FrN cnt0 Q S S := ⟨fun _ _ => rfl, fun _ _ => rfl, fun _ _ _ _ _ => rfl⟩
theorem FrN.trans {cnt0 : Nat} {Q : List It} {S S1 S2 : Mem} (h1 : FrN cnt0 Q S S1) (h2 : FrN cnt0 Q S1 S2) : FrN cnt0 Q S S2 := ⟨fun i hi => (h2.1 i hi).trans (h1.1 i hi), fun j hj => (h2.2.1 j hj).trans (h1.2.1 j hj), fun i a b c d => (h2.2.2 i a b c d).trans (h1.2.2 i a b c d)⟩
theorem FrN.mono {cnt0 : Nat} {Q Q' : List It} {S S1 : Mem} (h : FrN cnt0 Q S S1) (hs : ∀ x ∈ Q, x ∈ Q') : FrN cnt0 Q' S S1 := ⟨h.1, h.2.1, fun i a b => h.2.2 i a (fun m => b (by
  obtain ⟨x, hx, e⟩ := List.mem_map.mp m
  exact List.mem_map.mpr ⟨x, hs x hx, e⟩))⟩
theorem PMr.eq {S S' : Mem} {i : Nat} {r : PR} (h : PMr S i r) (f : ∀ c, c < 7 → S' 58 (7 * i + c) = S 58 (7 * i + c)) : PMr S' i r := ⟨(f 0 (by omega)).trans h.1, (f 1 (by omega)).trans h.2.1, (f 2 (by omega)).trans h.2.2.1, (f 3 (by omega)).trans h.2.2.2.1, (f 4 (by omega)).trans h.2.2.2.2.1, (f 5 (by omega)).trans h.2.2.2.2.2.1, (f 6 (by omega)).trans h.2.2.2.2.2.2⟩
theorem OM.eq {S S' : Mem} {a : AS} {o : OUT} (h : OM S a o) (f58 : ∀ j, j < 7 * nP o → S' 58 j = S 58 j) (f59 : ∀ j, j < 5 * nS o → S' 59 j = S 59 j) (f60 : ∀ j, j < 7 * nD o → S' 60 j = S 60 j) : OM S' a o := by
  obtain ⟨h1, h2, h3⟩ := h
  refine ⟨fun i r hi => ?_, fun i r hi => ?_, fun i d hi => ?_⟩
  · have hl : i < nP o := (List.getElem?_eq_some_iff.mp hi).1
    exact (h1 i r hi).eq fun c hc => f58 _ (by omega)
  · have hl : i < nS o := (List.getElem?_eq_some_iff.mp hi).1
    obtain ⟨⟨s0, s1, s2, s3⟩, s4⟩ := h2 i r hi
    exact ⟨⟨(f59 _ (by omega)).trans s0, (f59 _ (by omega)).trans s1, (f59 _ (by omega)).trans s2, (f59 _ (by omega)).trans s3⟩, (f59 _ (by omega)).trans s4⟩
  · have hl : i < nD o := (List.getElem?_eq_some_iff.mp hi).1
    obtain ⟨d0, d1, d2, d3⟩ := h3 i d hi
    exact ⟨(f60 _ (by omega)).trans d0, d1.eq fun c _ _ => f60 _ (by omega), (f60 _ (by omega)).trans d2, (f60 _ (by omega)).trans d3⟩
theorem AllIs.same {S S' : Mem} {a : AS} (h : AllIs (S 54) a) (e : S' 54 = S 54) : AllIs (S' 54) a := by rw [e]; exact h
section
variable {a : AS} {lim b l d pre : Nat} {o : OUT} {n cnt0 cnt : Nat} {P : List It} {σ : PS} {FL : Nat → List It} {last : Bool}
theorem mt_taken {S : Mem} (h : MP S a lim b l pre o n cnt0 P σ FL cnt) (hP : nP o < 1900) {K : Mem → Prop} (kk : ∀ S', MP S' a lim b l pre o (n + 1) cnt0 P σ FL cnt → S' 56 = S 56 → FrN cnt0 [] S S' → K S') : P_X7_counts S (2 : Int32) K := by
  obtain ⟨⟨h0, h1, h2, h3, h3', h3''⟩, h4, ⟨h5, h6⟩, ⟨h7, h7'⟩, ⟨h8, h8'⟩, h9, h10, h11⟩ := h
  refine m_counts (c := 2) h5 hP (by omega) (fun S' hS' => ?_)
  have f : ∀ i, i ≠ 58 → S' i = S i := fun i hi => by rw [hS', mput_ne _ _ _ hi]
  have f58 : ∀ j, j ≠ 7 * nP o + 2 → S' 58 j = S 58 j := fun j hj => by rw [hS', mput_at, upd_ne _ _ hj]
  refine kk S' ⟨⟨h0.same (f 54 (by omega)), by rw [f 53 (by omega)]; exact h1, by rw [f 53 (by omega)]; exact h2, by rw [f 53 (by omega)]; exact h3, h3', h3''⟩, h4.eq (fun j hj => f58 j (by omega)) (fun j _ => by rw [f 59 (by omega)]) (fun j _ => by rw [f 60 (by omega)]), ⟨by rw [f 53 (by omega)]; exact h5, ?_⟩, ⟨by rw [f 53 (by omega)]; exact h7, fun j q hj => by have := h7' j q hj; unfold SM4 at this ⊢; rw [f 59 (by omega)]; exact this⟩, ⟨by rw [f 53 (by omega)]; exact h8, by rw [f 53 (by omega)]; exact h8'⟩, h9.fr (by rw [f 53 (by omega)]) (f 57 (by omega)), fun q hq => (h10 q hq).fr (by rw [f 64 (by omega)]) (by rw [f 62 (by omega)]) (by rw [f 63 (by omega)]) (fun _ _ _ _ => by rw [f 56 (by omega)]), h11⟩ (f 56 (by omega)) ⟨fun i hi => f i (by omega), fun j _ => by rw [f 53 (by omega)], fun _ _ _ _ _ => by rw [f 56 (by omega)]⟩
  obtain ⟨p0, p1, p2, p3, p4, p5, p6⟩ := h6
  refine ⟨(f58 _ (by omega)).trans p0, (f58 _ (by omega)).trans p1, ?_, (f58 _ (by omega)).trans p3, (f58 _ (by omega)).trans p4, (f58 _ (by omega)).trans p5, (f58 _ (by omega)).trans p6⟩
  rw [hS', mput_at, upd_at, p2]
  exact nI_1 n
theorem mt_fil {S : Mem} {e : It} (ha : okS a) (hb : 1 ≤ b ∧ b ≤ 4) (h : MP S a lim b l pre o n cnt0 P σ FL cnt) (g : PI (hsh a.2.2.2) b lim l last (P.map (fun x => x.2.1)) σ) (hP : nP o < 1900) (hcnt : cnt ≤ 1900) (hPl : P.length ≤ 100) (hks : ∀ x ∈ P, x.2.1 ∈ ksOf a) (hk : e.2.1 ∈ ksOf a) (hi : ItK S e) (he : e.1 < cnt0) (hnd : e.1 ∉ P.map (fun x => x.1)) (hsp : isSp σ (prt (hsh a.2.2.2) b l e.2.1) = true) {K : Mem → Prop}
    (kk : ∀ S' FL', MP S' a lim b l pre o n cnt0 (P ++ [e]) (filK σ (prt (hsh a.2.2.2) b l e.2.1) e.2.1) FL' cnt → FrN cnt0 (P ++ [e]) S S' → K S') : P_X7_writes S (nI e.1) (nI (prt (hsh a.2.2.2) b l e.2.1)) K := by
  obtain ⟨⟨h0, h1, h2, h3, h3', h3''⟩, h4, ⟨h5, h6⟩, ⟨h7, h7'⟩, ⟨h8, h8'⟩, h9, h10, h11⟩ := h
  have h16 := pow_b hb
  have hp := prt_lt (hsh a.2.2.2) b l e.2.1
  have hp16 : prt (hsh a.2.2.2) b l e.2.1 < 16 := by omega
  have hits : ∀ x ∈ P.map (fun x => x.2.1), x ∈ ksOf a := fun x hx => by
    obtain ⟨y, hy, rfl⟩ := List.mem_map.mp hx
    exact hks y hy
  have hkey : ∀ q, q < 16 → ∀ x ∈ FL q, x.2.1 ∈ ksOf a ∧ prt (hsh a.2.2.2) b l x.2.1 = q := fun q hq x hx => by
    have : x.2.1 ∈ σ.2.2.1 q := by rw [← (h11 q hq).2.1]; exact List.mem_map.mpr ⟨x, hx, rfl⟩
    obtain ⟨a1, a2, -⟩ := g.s3 q _ this
    exact ⟨hits _ a1, a2⟩
  have hch : ∀ q, q < 16 → ∀ x ∈ FL q, ItK S x := fun q hq x hx => by
    have hne : FL q ≠ [] := fun c => by rw [c] at hx; simp at hx
    exact ((h10 q hq).2 _ _ (List.dropLast_concat_getLast hne).symm).1.it x hx
  have hne : ∀ q, q < 16 → ∀ x ∈ FL q, x.1 ≠ e.1 := fun q hq x hx c => by
    rcases ((h11 q hq).2.2.1 x hx).2 with z | z
    · exact hnd (by rw [← c]; exact z)
    · omega
  have hlen : ∀ q, q < 16 → (FL q).length ≤ 100 := fun q hq => by
    have e1 : (FL q).length = (σ.2.2.1 q).length := by rw [← (h11 q hq).2.1, List.length_map]
    by_cases hF : σ.2.2.1 q = []
    · rw [e1, hF]; simp
    · obtain ⟨y, hy⟩ := List.exists_mem_of_ne_nil _ hF
      obtain ⟨-, a2, a3⟩ := g.s3 q y hy
      have hq2 : q ∈ List.range (2 ^ b) := List.mem_range.mpr (by rw [← a2]; exact prt_lt _ _ _ _)
      have h8 := g.s8
      have h7 := g.s7
      have : (σ.2.2.1 q).length ≤ ((List.range (2 ^ b)).map (fun p => (σ.2.2.1 p).length)).sum := mem_le_sum (fun p => (σ.2.2.1 p).length) hq2
      rw [List.length_map] at h7
      omega
  refine m_writes (FL := FL) h5 hP hp16 h10 (h11 _ hp16).1 hi (by omega) (fun x hx => by have := ((h11 _ hp16).2.2.1 x hx).1; omega) (by have := hlen _ hp16; omega) hne (fun q hq hqp x hx y hy c => ?_) (fun S' F' fo f58 f56a f56b => ?_)
  · have k1 := hch q hq x hx
    have k2 := hch _ hp16 y hy
    have l1 := key_le ha (mem_ksOf.mp (hkey q hq x hx).1)
    have l2 := key_le ha (mem_ksOf.mp (hkey _ hp16 y hy).1)
    have : nI x.2.1 = nI y.2.1 := by rw [← k1.1, ← k2.1, c]
    have := (nI_eq (by omega) (by omega)).mp this
    have q1 := (hkey q hq x hx).2
    have q2 := (hkey _ hp16 y hy).2
    exact hqp (by rw [← q1, this, q2])
  · have f53 : S' 53 = S 53 := fo 53 (by omega) (by omega) (by omega) (by omega) (by omega)
    have g58 : ∀ j, j ≠ 7 * nP o + 5 → S' 58 j = S 58 j := fun j hj => by rw [f58, upd_ne _ _ hj]
    have hmemk : ∀ k ∈ σ.1, aggOf (P ++ [e]) k = aggOf P k := fun k hkm => by
      rw [aggOf_snoc, if_neg (fun c => ?_)]
      have := (g.s2 k hkm).2
      rw [← c, hsp] at this
      cases this
    refine kk S' (fun q => if q = prt (hsh a.2.2.2) b l e.2.1 then FL (prt (hsh a.2.2.2) b l e.2.1) ++ [e] else FL q) ⟨⟨h0.same (fo 54 (by omega) (by omega) (by omega) (by omega) (by omega)), by rw [f53]; exact h1, by rw [f53]; exact h2, by rw [f53]; exact h3, h3', ?_⟩, h4.eq (fun j hj => g58 j (by omega)) (fun j _ => by rw [fo 59 (by omega) (by omega) (by omega) (by omega) (by omega)]) (fun j _ => by rw [fo 60 (by omega) (by omega) (by omega) (by omega) (by omega)]), ⟨by rw [f53]; exact h5, ?_⟩, ⟨by rw [f53]; exact h7, fun j q hj => by have := h7' j q hj; unfold SM4 at this ⊢; rw [fo 59 (by omega) (by omega) (by omega) (by omega) (by omega)]; exact this⟩, ⟨by rw [f53]; exact h8, by rw [f53]; exact h8'⟩, ?_, F', fun q hq => ?_⟩ ⟨fun i hi => fo i (by omega) (by omega) (by omega) (by omega) (by omega), fun j _ => by rw [f53], fun i hi1 hi2 c hc => ?_⟩
    · show cnt ≤ cnt0 + (σ.2.2.2.1 + 1)
      omega
    · obtain ⟨p0, p1, p2, p3, p4, p5, p6⟩ := h6
      refine ⟨(g58 _ (by omega)).trans p0, (g58 _ (by omega)).trans p1, (g58 _ (by omega)).trans p2, (g58 _ (by omega)).trans p3, (g58 _ (by omega)).trans p4, ?_, (g58 _ (by omega)).trans p6⟩
      rw [f58, upd_at, p5]
      exact nI_1 _
    · have : (σ.1.map (fun k => (k, aggOf (P ++ [e]) k))) = σ.1.map (fun k => (k, aggOf P k)) := List.map_congr_left fun k hkm => by rw [hmemk k hkm]
      show GM S' (σ.1.map (fun k => (k, aggOf (P ++ [e]) k)))
      rw [this]
      exact h9.fr (by rw [f53]) (fo 57 (by omega) (by omega) (by omega) (by omega) (by omega))
    · obtain ⟨b1, b2, b3, b4⟩ := h11 q hq
      by_cases eq : q = prt (hsh a.2.2.2) b l e.2.1
      · subst eq
        dsimp only
        rw [if_pos rfl]
        refine ⟨?_, ?_, fun x hx => ?_, fun k hkf => ?_⟩
        · rw [List.map_append, List.nodup_append]
          refine ⟨b1, by simp, fun x hx y hy c => ?_⟩
          have hy : y = e.1 := by simpa using hy
          obtain ⟨z, hz, rfl⟩ := List.mem_map.mp hx
          exact hne _ hp16 z hz (by rw [← hy, c])
        · rw [List.map_append, b2]
          show _ = if prt (hsh a.2.2.2) b l e.2.1 = prt (hsh a.2.2.2) b l e.2.1 then _ else _
          rw [if_pos rfl]; rfl
        · rcases List.mem_append.mp hx with hx | hx
          · refine ⟨(b3 x hx).1, ?_⟩
            rcases (b3 x hx).2 with z | z
            · exact Or.inl (by rw [List.map_append]; exact List.mem_append_left _ z)
            · exact Or.inr z
          · rw [List.mem_singleton] at hx
            subst hx
            exact ⟨by omega, Or.inl (by rw [List.map_append]; exact List.mem_append_right _ (by simp))⟩
        · have hkf : k ∈ (if prt (hsh a.2.2.2) b l e.2.1 = prt (hsh a.2.2.2) b l e.2.1 then σ.2.2.1 (prt (hsh a.2.2.2) b l e.2.1) ++ [e.2.1] else σ.2.2.1 (prt (hsh a.2.2.2) b l e.2.1)) := hkf
          rw [if_pos rfl] at hkf
          rw [aggOf_snoc, aggOf_snoc, b2]
          by_cases ek : e.2.1 = k
          · subst ek
            rw [if_pos rfl, if_pos rfl]
            by_cases m : e.2.1 ∈ σ.2.2.1 (prt (hsh a.2.2.2) b l e.2.1)
            · rw [if_pos m, if_pos (g.s3 _ _ m).1, b4 _ m]
            · rw [if_neg m, if_neg (fun c => m ((g.s4 _ c).2 hsp))]
          · rw [if_neg ek, if_neg ek]
            rcases List.mem_append.mp hkf with z | z
            · exact b4 k z
            · rw [List.mem_singleton] at z
              exact absurd z.symm ek
      · dsimp only
        rw [if_neg eq]
        have eF : (filK σ (prt (hsh a.2.2.2) b l e.2.1) e.2.1).2.2.1 q = σ.2.2.1 q := by
          show (if q = prt (hsh a.2.2.2) b l e.2.1 then _ else σ.2.2.1 q) = _
          rw [if_neg eq]
        rw [eF]
        refine ⟨b1, b2, fun x hx => ⟨(b3 x hx).1, ?_⟩, fun k hkf => ?_⟩
        · rcases (b3 x hx).2 with z | z
          · exact Or.inl (by rw [List.map_append]; exact List.mem_append_left _ z)
          · exact Or.inr z
        · rw [b4 k hkf, aggOf_snoc, if_neg (fun c => eq ?_)]
          rw [c]
          exact (g.s3 q k hkf).2.1.symm
    · rw [List.map_append, List.mem_append] at hi2
      by_cases c5 : c = 5
      · subst c5
        refine f56b i (fun z => hi2 (Or.inr (by simp [z]))) (fun x hx z => ?_)
        rcases ((h11 _ hp16).2.2.1 x hx).2 with y | y
        · exact hi2 (Or.inl (by rw [← z]; exact y))
        · omega
      · exact f56a i c (by omega)
end
