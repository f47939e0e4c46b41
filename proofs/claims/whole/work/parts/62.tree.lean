/-! a pass, without memory -/
theorem sum_upd (f : Nat → Nat) (p0 c : Nat) : ∀ n, p0 < n → ((List.range n).map (fun p => if p = p0 then f p + c else f p)).sum = ((List.range n).map f).sum + c := by
  have out : ∀ n, n ≤ p0 → ((List.range n).map (fun p => if p = p0 then f p + c else f p)).sum = ((List.range n).map f).sum := by
    intro n
    induction n with
    | zero => intro _; rfl
    | succ n ih =>
      intro h
      rw [List.range_succ, List.map_append, List.map_append, List.sum_append, List.sum_append, ih (by omega)]
      show _ + (([if n = p0 then f n + c else f n] : List Nat)).sum = _
      rw [if_neg (by omega)]
      rfl
  intro n
  induction n with
  | zero => intro h; omega
  | succ n ih =>
    intro h
    rw [List.range_succ, List.map_append, List.map_append, List.sum_append, List.sum_append]
    by_cases e : n = p0
    · rw [out n (by omega)]
      show _ + (([if n = p0 then f n + c else f n] : List Nat)).sum = _ + ([f n] : List Nat).sum + c
      rw [if_pos e]
      simp only [List.sum_cons, List.sum_nil]; omega
    · rw [ih (by omega)]
      show _ + (([if n = p0 then f n + c else f n] : List Nat)).sum = _ + ([f n] : List Nat).sum + c
      rw [if_neg e]
      simp only [List.sum_cons, List.sum_nil]; omega
theorem filter_len {α : Type} (q : α → Bool) : ∀ L : List α, (L.filter (fun x => !q x)).length + (L.filter q).length = L.length
  | [] => rfl
  | x :: L => by
    have := filter_len q L
    rw [List.filter_cons, List.filter_cons]
    cases hq : q x <;> simp <;> omega
theorem best_fold (cnt : Nat → Nat) : ∀ (L : List Nat) (b0 : Nat), (L.foldl (fun best p => if cnt best < cnt p then p else best) b0 = b0 ∨ L.foldl (fun best p => if cnt best < cnt p then p else best) b0 ∈ L) ∧
    cnt b0 ≤ cnt (L.foldl (fun best p => if cnt best < cnt p then p else best) b0) ∧ ∀ p ∈ L, cnt p ≤ cnt (L.foldl (fun best p => if cnt best < cnt p then p else best) b0)
  | [], b0 => ⟨Or.inl rfl, Nat.le_refl _, fun p hp => by simp at hp⟩
  | x :: L, b0 => by
    obtain ⟨i1, i2, i3⟩ := best_fold cnt L (if cnt b0 < cnt x then x else b0)
    have hc : cnt b0 ≤ cnt (if cnt b0 < cnt x then x else b0) ∧ cnt x ≤ cnt (if cnt b0 < cnt x then x else b0) := by split <;> omega
    rw [List.foldl_cons]
    refine ⟨?_, by omega, fun p hp => ?_⟩
    · rcases i1 with i1 | i1
      · rw [i1]
        split
        · exact Or.inr List.mem_cons_self
        · exact Or.inl rfl
      · exact Or.inr (List.mem_cons_of_mem _ i1)
    · rcases List.mem_cons.mp hp with rfl | hp
      · omega
      · exact i3 p hp
theorem bestP_lt (h : Nat → Nat) (b l : Nat) (L : List Nat) : bestP h b l L < 2 ^ b := by
  have hb := Nat.two_pow_pos b
  rcases (best_fold (cntP h b l L) (List.range (2 ^ b)) 0).1 with e | e
  · show List.foldl _ _ _ < _
    rw [e]; exact hb
  · exact List.mem_range.mp e
theorem prt_lt (h : Nat → Nat) (b l k : Nat) : prt h b l k < 2 ^ b := Nat.mod_lt _ (Nat.two_pow_pos b)
theorem bestP_ge (h : Nat → Nat) (b l : Nat) (L : List Nat) (p : Nat) (hp : p < 2 ^ b) : cntP h b l L p ≤ cntP h b l L (bestP h b l L) := (best_fold (cntP h b l L) (List.range (2 ^ b)) 0).2.2 p (List.mem_range.mpr hp)
theorem bestP_pos (h : Nat → Nat) (b l : Nat) {L : List Nat} (hL : L ≠ []) : ∃ x ∈ L, prt h b l x = bestP h b l L := by
  match L, hL with
  | x :: L, _ =>
    have h1 := bestP_ge h b l (x :: L) (prt h b l x) (prt_lt h b l x)
    have h2 : 0 < cntP h b l (x :: L) (prt h b l x) := List.length_pos_of_mem (List.mem_filter.mpr ⟨List.mem_cons_self, by simp⟩)
    have h3 : 0 < ((x :: L).filter (fun k => prt h b l k == bestP h b l (x :: L))).length := by show 0 < cntP h b l (x :: L) (bestP h b l (x :: L)); omega
    obtain ⟨y, hy⟩ := List.exists_mem_of_length_pos h3
    obtain ⟨a, c⟩ := List.mem_filter.mp hy
    exact ⟨y, a, by simpa using c⟩
def PI (h : Nat → Nat) (b lim l : Nat) (last : Bool) (its : List Nat) (σ : PS) : Prop :=
  (Srt σ.1) ∧
  (∀ k ∈ σ.1, k ∈ its ∧ isSp σ (prt h b l k) = false) ∧
  (∀ p k, k ∈ σ.2.2.1 p → k ∈ its ∧ prt h b l k = p ∧ isSp σ p = true) ∧
  (∀ k ∈ its, (isSp σ (prt h b l k) = false → k ∈ σ.1) ∧ (isSp σ (prt h b l k) = true → k ∈ σ.2.2.1 (prt h b l k))) ∧
  ((σ.2.1.map (fun q => q.1)).Nodup ∧ ∀ q ∈ σ.2.1, q.1 < 2 ^ b) ∧
  (∀ p, isSp σ p = true → σ.2.2.1 p ≠ []) ∧
  (σ.2.2.2.1 + σ.1.length ≤ its.length) ∧
  (((List.range (2 ^ b)).map (fun p => (σ.2.2.1 p).length)).sum = σ.2.2.2.1) ∧
  (last = false → σ.1.length ≤ lim) ∧
  (last = true → σ.2.1 = []) ∧
  ((σ.2.1.map (fun q => q.2)).sum ≤ σ.2.2.2.1) ∧
  (σ.2.2.2.2.1 ≤ its.length)
theorem PI.s1 {h : Nat → Nat} {b lim l : Nat} {last : Bool} {its : List Nat} {σ : PS} (g : PI h b lim l last its σ) : Srt σ.1 := g.1
theorem PI.s2 {h : Nat → Nat} {b lim l : Nat} {last : Bool} {its : List Nat} {σ : PS} (g : PI h b lim l last its σ) : ∀ k ∈ σ.1, k ∈ its ∧ isSp σ (prt h b l k) = false := g.2.1
theorem PI.s3 {h : Nat → Nat} {b lim l : Nat} {last : Bool} {its : List Nat} {σ : PS} (g : PI h b lim l last its σ) : ∀ p k, k ∈ σ.2.2.1 p → k ∈ its ∧ prt h b l k = p ∧ isSp σ p = true := g.2.2.1
theorem PI.s4 {h : Nat → Nat} {b lim l : Nat} {last : Bool} {its : List Nat} {σ : PS} (g : PI h b lim l last its σ) : ∀ k ∈ its, (isSp σ (prt h b l k) = false → k ∈ σ.1) ∧ (isSp σ (prt h b l k) = true → k ∈ σ.2.2.1 (prt h b l k)) := g.2.2.2.1
theorem PI.s5 {h : Nat → Nat} {b lim l : Nat} {last : Bool} {its : List Nat} {σ : PS} (g : PI h b lim l last its σ) : (σ.2.1.map (fun q => q.1)).Nodup ∧ ∀ q ∈ σ.2.1, q.1 < 2 ^ b := g.2.2.2.2.1
theorem PI.s6 {h : Nat → Nat} {b lim l : Nat} {last : Bool} {its : List Nat} {σ : PS} (g : PI h b lim l last its σ) : ∀ p, isSp σ p = true → σ.2.2.1 p ≠ [] := g.2.2.2.2.2.1
theorem PI.s7 {h : Nat → Nat} {b lim l : Nat} {last : Bool} {its : List Nat} {σ : PS} (g : PI h b lim l last its σ) : σ.2.2.2.1 + σ.1.length ≤ its.length := g.2.2.2.2.2.2.1
theorem PI.s8 {h : Nat → Nat} {b lim l : Nat} {last : Bool} {its : List Nat} {σ : PS} (g : PI h b lim l last its σ) : ((List.range (2 ^ b)).map (fun p => (σ.2.2.1 p).length)).sum = σ.2.2.2.1 := g.2.2.2.2.2.2.2.1
theorem PI.s9 {h : Nat → Nat} {b lim l : Nat} {last : Bool} {its : List Nat} {σ : PS} (g : PI h b lim l last its σ) : last = false → σ.1.length ≤ lim := g.2.2.2.2.2.2.2.2.1
theorem PI.s10 {h : Nat → Nat} {b lim l : Nat} {last : Bool} {its : List Nat} {σ : PS} (g : PI h b lim l last its σ) : last = true → σ.2.1 = [] := g.2.2.2.2.2.2.2.2.2.1
theorem PI.s12 {h : Nat → Nat} {b lim l : Nat} {last : Bool} {its : List Nat} {σ : PS} (g : PI h b lim l last its σ) : (σ.2.1.map (fun q => q.2)).sum ≤ σ.2.2.2.1 := g.2.2.2.2.2.2.2.2.2.2.1
theorem PI.s13 {h : Nat → Nat} {b lim l : Nat} {last : Bool} {its : List Nat} {σ : PS} (g : PI h b lim l last its σ) : σ.2.2.2.2.1 ≤ its.length := g.2.2.2.2.2.2.2.2.2.2.2
theorem isSp_iff {σ : PS} {p : Nat} : isSp σ p = true ↔ p ∈ σ.2.1.map (fun q => q.1) := by
  unfold isSp
  rw [List.any_eq_true, List.mem_map]
  constructor
  · rintro ⟨q, h1, h2⟩; exact ⟨q, h1, by simpa using h2⟩
  · rintro ⟨q, h1, h2⟩; exact ⟨q, h1, by simpa using h2⟩
theorem isSp_spl (h : Nat → Nat) (b l : Nat) (σ : PS) (p : Nat) : isSp (spl h b l σ) p = (isSp σ p || (bestP h b l σ.1 == p)) := by
  unfold isSp spl
  rw [List.any_append]
  simp
section
variable {h : Nat → Nat} {b lim l : Nat} {last : Bool} {its : List Nat} {σ : PS}
theorem PI.zero : PI h b lim l last [] pass0 := ⟨List.Pairwise.nil, fun k hk => by simp [pass0] at hk, fun p k hk => by simp [pass0] at hk, fun k hk => by simp at hk, ⟨List.nodup_nil, fun q hq => by simp [pass0] at hq⟩, fun p hp => by simp [pass0, isSp] at hp, Nat.le_refl _, by
  show ((List.range (2 ^ b)).map (fun _ => 0)).sum = 0
  have : ∀ L : List Nat, (L.map (fun _ => 0)).sum = 0 := by
    intro L
    induction L with
    | nil => rfl
    | cons x L ih => rw [List.map_cons, List.sum_cons, ih]
  exact this _, fun _ => Nat.zero_le _, fun _ => rfl, Nat.le_refl _, Nat.le_refl _⟩
theorem PI.fil (g : PI h b lim l last its σ) {k : Nat} (hk : isSp σ (prt h b l k) = true) : PI h b lim l last (its ++ [k]) (filK σ (prt h b l k) k) := by
  have hF : ∀ q, (filK σ (prt h b l k) k).2.2.1 q = if q = prt h b l k then σ.2.2.1 q ++ [k] else σ.2.2.1 q := by
    intro q
    show (if q = prt h b l k then σ.2.2.1 (prt h b l k) ++ [k] else σ.2.2.1 q) = _
    split
    · rename_i e; rw [e]
    · rfl
  have hsp : ∀ q, isSp (filK σ (prt h b l k) k) q = isSp σ q := fun q => rfl
  refine ⟨g.s1, fun x hx => ⟨List.mem_append_left _ (g.s2 x hx).1, (g.s2 x hx).2⟩, fun p x hx => ?_, fun x hx => ?_, g.s5, fun p hp => ?_, ?_, ?_, g.s9, g.s10, ?_, ?_⟩
  · rw [hF] at hx
    split at hx
    · rename_i e
      rcases List.mem_append.mp hx with hx | hx
      · obtain ⟨a, c, d⟩ := g.s3 p x hx
        exact ⟨List.mem_append_left _ a, c, d⟩
      · rw [List.mem_singleton] at hx
        subst hx
        exact ⟨List.mem_append_right _ (by simp), e.symm, by rw [e]; exact hk⟩
    · obtain ⟨a, c, d⟩ := g.s3 p x hx
      exact ⟨List.mem_append_left _ a, c, d⟩
  · rw [hsp, hF]
    rcases List.mem_append.mp hx with hx | hx
    · refine ⟨(g.s4 x hx).1, fun z => ?_⟩
      have := (g.s4 x hx).2 z
      split
      · exact List.mem_append_left _ this
      · exact this
    · rw [List.mem_singleton] at hx
      subst hx
      exact ⟨fun z => (by rw [hk] at z; cases z), fun _ => by rw [if_pos rfl]; exact List.mem_append_right _ (by simp)⟩
  · rw [hF]
    split
    · simp
    · exact g.s6 p hp
  · have := g.s7
    show σ.2.2.2.1 + 1 + σ.1.length ≤ _
    rw [List.length_append, List.length_singleton]; omega
  · have e : (fun p => ((filK σ (prt h b l k) k).2.2.1 p).length) = (fun p => if p = prt h b l k then (σ.2.2.1 p).length + 1 else (σ.2.2.1 p).length) := by
      funext p
      rw [hF]
      split
      · rw [List.length_append, List.length_singleton]
      · rfl
    rw [e, sum_upd (fun p => (σ.2.2.1 p).length) _ _ _ (prt_lt h b l k), g.s8]
    rfl
  · have := g.s12
    show _ ≤ σ.2.2.2.1 + 1
    exact Nat.le_succ_of_le this
  · have := g.s13
    rw [List.length_append, List.length_singleton]
    exact Nat.le_succ_of_le this
theorem PI.skip (g : PI h b lim l last its σ) {k : Nat} (h1 : isSp σ (prt h b l k) = false) (hk : k ∈ σ.1) : PI h b lim l last (its ++ [k]) σ := by
  refine ⟨g.s1, fun x hx => ⟨List.mem_append_left _ (g.s2 x hx).1, (g.s2 x hx).2⟩, fun p x hx => ?_, fun x hx => ?_, g.s5, g.s6, ?_, g.s8, g.s9, g.s10, g.s12, ?_⟩
  · obtain ⟨a, c, d⟩ := g.s3 p x hx
    exact ⟨List.mem_append_left _ a, c, d⟩
  · rcases List.mem_append.mp hx with hx | hx
    · exact g.s4 x hx
    · rw [List.mem_singleton] at hx
      subst hx
      exact ⟨fun _ => hk, fun z => (by rw [h1] at z; cases z)⟩
  · have := g.s7
    rw [List.length_append, List.length_singleton]; omega
  · have := g.s13
    rw [List.length_append, List.length_singleton]; omega
theorem PI.lay (g : PI h b lim l last its σ) {k : Nat} (h1 : isSp σ (prt h b l k) = false) (hk : k ∉ σ.1) (h9 : last = false → σ.1.length < lim) : PI h b lim l last (its ++ [k]) (layK lim σ k) := by
  have hsp : ∀ q, isSp (layK lim σ k) q = isSp σ q := fun q => rfl
  refine ⟨insK_srt g.s1 hk, fun x hx => ?_, fun p x hx => ?_, fun x hx => ?_, g.s5, g.s6, ?_, g.s8, fun z => ?_, g.s10, g.s12, ?_⟩
  · rcases mem_insK.mp hx with rfl | hx
    · exact ⟨List.mem_append_right _ (by simp), h1⟩
    · exact ⟨List.mem_append_left _ (g.s2 x hx).1, (g.s2 x hx).2⟩
  · obtain ⟨a, c, d⟩ := g.s3 p x hx
    exact ⟨List.mem_append_left _ a, c, d⟩
  · rcases List.mem_append.mp hx with hx | hx
    · exact ⟨fun z => mem_insK.mpr (Or.inr ((g.s4 x hx).1 z)), (g.s4 x hx).2⟩
    · rw [List.mem_singleton] at hx
      subst hx
      exact ⟨fun _ => mem_insK.mpr (Or.inl rfl), fun z => (by rw [hsp, h1] at z; cases z)⟩
  · have := g.s7
    show σ.2.2.2.1 + (insK k σ.1).length ≤ _
    rw [insK_length, List.length_append, List.length_singleton]; omega
  · have := h9 z
    show (insK k σ.1).length ≤ _
    rw [insK_length]; omega
  · have := g.s13
    have h7 := g.s7
    show max σ.2.2.2.2.1 (σ.1.length + 1) ≤ _
    rw [List.length_append, List.length_singleton]; omega
theorem PI.spill (g : PI h b lim l last its σ) (hne : σ.1 ≠ []) (hl : last = false) : PI h b lim l last its (spl h b l σ) ∧ (spl h b l σ).1.length < σ.1.length := by
  obtain ⟨x0, hx0, hb0⟩ := bestP_pos h b l hne
  have hb1 : isSp σ (bestP h b l σ.1) = false := by rw [← hb0]; exact (g.s2 x0 hx0).2
  have hempty : σ.2.2.1 (bestP h b l σ.1) = [] := by
    cases hF : σ.2.2.1 (bestP h b l σ.1) with
    | nil => rfl
    | cons y L =>
      have := (g.s3 (bestP h b l σ.1) y (by rw [hF]; exact List.mem_cons_self)).2.2
      rw [hb1] at this; cases this
  have hF : ∀ q, (spl h b l σ).2.2.1 q = if q = bestP h b l σ.1 then σ.2.2.1 q ++ σ.1.filter (fun k => prt h b l k == bestP h b l σ.1) else σ.2.2.1 q := fun q => rfl
  have hlen := filter_len (fun k => prt h b l k == bestP h b l σ.1) σ.1
  have hpos : 0 < cntP h b l σ.1 (bestP h b l σ.1) := List.length_pos_of_mem (List.mem_filter.mpr ⟨hx0, by simp [hb0]⟩)
  refine ⟨⟨List.Pairwise.filter _ g.s1, fun x hx => ?_, fun p x hx => ?_, fun x hx => ?_, ⟨?_, fun q hq => ?_⟩, fun p hp => ?_, ?_, ?_, fun z => ?_, fun z => ?_, ?_, g.s13⟩, ?_⟩
  · obtain ⟨a, c⟩ := List.mem_filter.mp hx
    rw [isSp_spl, (g.s2 x a).2]
    refine ⟨(g.s2 x a).1, ?_⟩
    have c : ¬ prt h b l x = bestP h b l σ.1 := by simpa using c
    simp [Ne.symm c]
  · rw [isSp_spl]
    rw [hF] at hx
    split at hx
    · rename_i e
      subst e
      rcases List.mem_append.mp hx with hx | hx
      · obtain ⟨a, c, d⟩ := g.s3 _ x hx
        exact ⟨a, c, by simp⟩
      · obtain ⟨a, c⟩ := List.mem_filter.mp hx
        exact ⟨(g.s2 x a).1, by simpa using c, by simp⟩
    · obtain ⟨a, c, d⟩ := g.s3 _ x hx
      exact ⟨a, c, by rw [d]; rfl⟩
  · rw [isSp_spl, hF]
    by_cases e : prt h b l x = bestP h b l σ.1
    · refine ⟨fun z => ?_, fun _ => ?_⟩
      · rw [e] at z; simp at z
      · rw [if_pos e]
        cases hq : isSp σ (prt h b l x) with
        | true => exact List.mem_append_left _ ((g.s4 x hx).2 hq)
        | false => exact List.mem_append_right _ (List.mem_filter.mpr ⟨(g.s4 x hx).1 hq, by simp [e]⟩)
    · rw [if_neg e]
      have e2 : (bestP h b l σ.1 == prt h b l x) = false := by simp [Ne.symm e]
      rw [e2, Bool.or_false]
      exact ⟨fun z => List.mem_filter.mpr ⟨(g.s4 x hx).1 z, by simp [e]⟩, (g.s4 x hx).2⟩
  · show ((σ.2.1 ++ [_]).map _).Nodup
    rw [List.map_append, List.nodup_append]
    refine ⟨g.s5.1, by simp, fun x hx y hy => ?_⟩
    have hy : y = bestP h b l σ.1 := by simpa using hy
    subst hy
    intro e
    rw [e] at hx
    have := isSp_iff.mpr hx
    rw [hb1] at this; cases this
  · rcases List.mem_append.mp hq with hq | hq
    · exact g.s5.2 q hq
    · rw [List.mem_singleton] at hq
      subst hq
      exact bestP_lt h b l σ.1
  · rw [isSp_spl] at hp
    rw [hF]
    split
    · intro c
      have := List.append_eq_nil_iff.mp c
      have hm : x0 ∈ σ.1.filter (fun k => prt h b l k == bestP h b l σ.1) := List.mem_filter.mpr ⟨hx0, by simp [hb0]⟩
      rw [this.2] at hm
      simp at hm
    · rename_i e
      have e2 : (bestP h b l σ.1 == p) = false := by simp [Ne.symm e]
      rw [e2, Bool.or_false] at hp
      exact g.s6 p hp
  · have := g.s7
    show σ.2.2.2.1 + cntP h b l σ.1 (bestP h b l σ.1) + (σ.1.filter (fun k => !(prt h b l k == bestP h b l σ.1))).length ≤ _
    unfold cntP
    omega
  · have e : (fun p => ((spl h b l σ).2.2.1 p).length) = (fun p => if p = bestP h b l σ.1 then (σ.2.2.1 p).length + cntP h b l σ.1 (bestP h b l σ.1) else (σ.2.2.1 p).length) := by
      funext p
      rw [hF]
      split
      · rw [List.length_append]; rfl
      · rfl
    rw [e, sum_upd (fun p => (σ.2.2.1 p).length) _ _ _ (bestP_lt h b l σ.1), g.s8]
    rfl
  · have := g.s9 z
    show (σ.1.filter (fun k => !(prt h b l k == bestP h b l σ.1))).length ≤ _
    omega
  · rw [hl] at z; cases z
  · have := g.s12
    show ((σ.2.1 ++ [_]).map _).sum ≤ σ.2.2.2.1 + cntP h b l σ.1 (bestP h b l σ.1)
    rw [List.map_append, List.sum_append]
    simp only [List.map_cons, List.map_nil, List.sum_cons, List.sum_nil]
    omega
  · show (σ.1.filter (fun k => !(prt h b l k == bestP h b l σ.1))).length < _
    have : cntP h b l σ.1 (bestP h b l σ.1) = (σ.1.filter (fun k => prt h b l k == bestP h b l σ.1)).length := rfl
    omega
theorem PI.step (g : PI h b lim l last its σ) (hlim : 1 ≤ lim) (k : Nat) : PI h b lim l last (its ++ [k]) (take1 h b lim l last σ k) := by
  unfold take1
  split
  · rename_i h1; exact g.fil h1
  · rename_i h1
    have h1 : isSp σ (prt h b l k) = false := by simpa using h1
    split
    · rename_i h2; exact g.skip h1 h2
    · rename_i h2
      split
      · rename_i h3
        have hne : σ.1 ≠ [] := fun e => by rw [e] at h3; simp at h3; omega
        obtain ⟨g2, hlt⟩ := g.spill hne h3.2
        split
        · rename_i h4; exact g2.fil h4
        · rename_i h4
          have h4 : isSp (spl h b l σ) (prt h b l k) = false := by simpa using h4
          have := g.s9 h3.2
          exact g2.lay h4 (fun m => h2 (List.mem_filter.mp m).1) (fun _ => by omega)
      · rename_i h3
        exact g.lay h1 h2 (fun z => Nat.not_le.mp fun c => h3 ⟨c, z⟩)
end
theorem PI.run {h : Nat → Nat} {b lim l : Nat} {last : Bool} (hlim : 1 ≤ lim) : ∀ (M its : List Nat) (σ : PS), PI h b lim l last its σ → PI h b lim l last (its ++ M) (M.foldl (take1 h b lim l last) σ)
  | [], its, σ, g => by rw [List.append_nil]; exact g
  | k :: M, its, σ, g => by
    have := PI.run hlim M _ _ (g.step hlim k)
    rw [List.append_assoc] at this
    exact this
theorem PI.all {h : Nat → Nat} {b lim l : Nat} {last : Bool} (hlim : 1 ≤ lim) (M : List Nat) : PI h b lim l last M (passR h b lim l last M) := PI.run hlim M [] _ PI.zero
theorem two_keys {h : Nat → Nat} {b lim l : Nat} {last : Bool} (hlim : 1 ≤ lim) : ∀ (M its : List Nat) (σ : PS), PI h b lim l last its σ → (σ.2.1 ≠ [] → ∃ x ∈ its, ∃ y ∈ its, x ≠ y) →
    (M.foldl (take1 h b lim l last) σ).2.1 ≠ [] → ∃ x ∈ its ++ M, ∃ y ∈ its ++ M, x ≠ y
  | [], its, σ, g, q, z => by rw [List.append_nil]; exact q z
  | k :: M, its, σ, g, q, z => by
    have := two_keys hlim M (its ++ [k]) _ (g.step hlim k) (fun c => ?_) z
    · rw [List.append_assoc] at this; exact this
    · by_cases e : σ.2.1 = []
      · have hnot : ∀ p, isSp σ p = false := fun p => by unfold isSp; rw [e]; rfl
        unfold take1 at c
        rw [if_neg (by rw [hnot]; decide)] at c
        split at c
        · exact absurd e c
        · rename_i h2
          split at c
          · rename_i h3
            have hne : σ.1 ≠ [] := fun e => by rw [e] at h3; simp at h3; omega
            obtain ⟨x, hx⟩ := List.exists_mem_of_ne_nil _ hne
            exact ⟨x, List.mem_append_left _ (g.s2 x hx).1, k, List.mem_append_right _ (by simp), fun e => h2 (by rw [← e]; exact hx)⟩
          · exact absurd e c
      · obtain ⟨x, hx, y, hy, hxy⟩ := q e
        exact ⟨x, List.mem_append_left _ hx, y, List.mem_append_left _ hy, hxy⟩
