/-! the reference's passes: its small methods -/
abbrev It : Type := Nat × Nat × Agg
def Ag4 (f : Nat → Int32) (i : Nat) (x : Agg) : Prop := f (i + 1) = x.1 ∧ f (i + 2) = x.2.1 ∧ f (i + 3) = x.2.2.1 ∧ f (i + 4) = x.2.2.2
def ItK (S : Mem) (e : It) : Prop := S 56 (6 * e.1) = nI e.2.1 ∧ Ag4 (S 56) (6 * e.1) e.2.2
def GrK (S : Mem) (j : Nat) (g : Nat × Agg) : Prop := S 57 (5 * j) = nI g.1 ∧ Ag4 (S 57) (5 * j) g.2
def Ch (S : Mem) : Int32 → List It → Prop
  | v, [] => v = -1
  | v, e :: L => v = nI e.1 ∧ ItK S e ∧ Ch S (S 56 (6 * e.1 + 5)) L
def GM (S : Mem) (G : List (Nat × Agg)) : Prop := S 53 6 = nI G.length ∧ ∀ j g, G[j]? = some g → GrK S j g
theorem clampN {n : Nat} (h : n < 2 ^ 31) : Int32.toNatClampNeg (nI n) = n := nI_clamp h
theorem mul6 (i : Nat) : (6 : Int32) * nI i = nI (6 * i) := pk_mul 6 i
theorem mul5 (i : Nat) : (5 : Int32) * nI i = nI (5 * i) := pk_mul 5 i
theorem mul7 (i : Nat) : (7 : Int32) * nI i = nI (7 * i) := pk_mul 7 i
theorem mul3 (i : Nat) : (3 : Int32) * nI i = nI (3 * i) := pk_mul 3 i
theorem lit_add (a c : Nat) : nI a + nI c = nI (a + c) := nI_add a c
theorem m_of {S : Mem} {i c : Nat} (hi : i < 1900) (hc : c < 6) {K : Int32 → Mem → Prop} (k : K (S 56 (6 * i + c)) S) : P_X7_of S (nI i) (nI c) K := by
  unfold P_X7_of
  rw [mul6, nI_add, clampN (by omega)]
  exact ⟨vin (by omega) (by omega), k⟩
theorem m_last {S : Mem} {P c : Nat} (h : S 53 8 = nI (P + 1)) (hP : P < 1900) (hc : c < 7) {K : Int32 → Mem → Prop} (k : K (S 58 (7 * P + c)) S) : P_X7_last S (nI c) K := by
  unfold P_X7_last
  rw [h, show nI (P + 1) - (1 : Int32) = nI P from pk_sub (b := 1) (by omega), mul7, nI_add, clampN (by omega)]
  exact ⟨vin (by omega) (by omega), k⟩
theorem m_counts {S : Mem} {P c : Nat} (h : S 53 8 = nI (P + 1)) (hP : P < 1900) (hc : c < 7) {K : Mem → Prop} (k : ∀ S', S' = mput S 58 (7 * P + c) (S 58 (7 * P + c) + 1) → K S') : P_X7_counts S (nI c) K := by
  unfold P_X7_counts
  rw [h, show nI (P + 1) - (1 : Int32) = nI P from pk_sub (b := 1) (by omega), mul7, nI_add, clampN (by omega)]
  exact ⟨vin (by omega) (by omega), vin (by omega) (by omega), fun S1 hS1 => k S1 hS1⟩
theorem Ag4.eq {f g : Nat → Int32} {i j : Nat} {x : Agg} (h : Ag4 f i x) (e : ∀ c, 1 ≤ c → c ≤ 4 → g (j + c) = f (i + c)) : Ag4 g j x := ⟨by rw [e 1 (by omega) (by omega)]; exact h.1, by rw [e 2 (by omega) (by omega)]; exact h.2.1, by rw [e 3 (by omega) (by omega)]; exact h.2.2.1, by rw [e 4 (by omega) (by omega)]; exact h.2.2.2⟩
theorem ItK.eq {S S' : Mem} {e : It} (h : ItK S e) (f : ∀ c, c < 5 → S' 56 (6 * e.1 + c) = S 56 (6 * e.1 + c)) : ItK S' e := ⟨(f 0 (by omega)).trans h.1, h.2.eq fun c _ _ => f c (by omega)⟩
theorem GrK.eq {S S' : Mem} {j : Nat} {g : Nat × Agg} (h : GrK S j g) (f : ∀ c, c < 5 → S' 57 (5 * j + c) = S 57 (5 * j + c)) : GrK S' j g := ⟨(f 0 (by omega)).trans h.1, h.2.eq fun c _ _ => f c (by omega)⟩
theorem Ch.eq {S S' : Mem} : ∀ {L : List It} {v : Int32}, Ch S v L → (∀ e ∈ L, ∀ c, c < 6 → S' 56 (6 * e.1 + c) = S 56 (6 * e.1 + c)) → Ch S' v L
  | [], _, h, _ => h
  | e :: L, v, h, f => by
    obtain ⟨h1, h2, h3⟩ := h
    have fe := f e List.mem_cons_self
    refine ⟨h1, h2.eq fun c hc => fe c (by omega), ?_⟩
    rw [fe 5 (by omega)]
    exact Ch.eq h3 (fun e' he' => f e' (List.mem_cons_of_mem _ he'))
theorem Ch.it {S : Mem} : ∀ {L : List It} {v : Int32}, Ch S v L → ∀ e ∈ L, ItK S e
  | [], _, _, e, he => by simp at he
  | e0 :: L, v, h, e, he => by
    rcases List.mem_cons.mp he with rfl | he
    · exact h.2.1
    · exact Ch.it h.2.2 e he
/-- one more item at the end of a chain -/
theorem Ch.snoc {S S' : Mem} {e' : It} : ∀ {L : List It} {e : It} {v : Int32}, Ch S v (L ++ [e]) → ((L ++ [e]).map (fun x => x.1)).Nodup → (∀ x ∈ L ++ [e], ∀ c, c < 6 → ¬ (x.1 = e.1 ∧ c = 5) → S' 56 (6 * x.1 + c) = S 56 (6 * x.1 + c)) → S' 56 (6 * e.1 + 5) = nI e'.1 → ItK S' e' → S' 56 (6 * e'.1 + 5) = -1 → Ch S' v (L ++ [e] ++ [e'])
  | [], e, v, h, _, f, h5, hi, hl => by
    obtain ⟨h1, h2, -⟩ := h
    have fe := f e (by simp)
    exact ⟨h1, h2.eq fun c hc => fe c (by omega) (by omega), h5, hi, hl⟩
  | x :: L, e, v, h, hn, f, h5, hi, hl => by
    obtain ⟨h1, h2, h3⟩ := h
    have fx := f x List.mem_cons_self
    have hn : ((x :: (L ++ [e])).map (fun x => x.1)).Nodup := hn
    rw [List.map_cons, List.nodup_cons] at hn
    have hne : x.1 ≠ e.1 := fun c => hn.1 (List.mem_map.mpr ⟨e, by simp, c.symm⟩)
    refine ⟨h1, h2.eq fun c hc => fx c (by omega) (by omega), ?_⟩
    rw [fx 5 (by omega) (by omega)]
    exact Ch.snoc h3 hn.2 (fun y hy => f y (List.mem_cons_of_mem _ hy)) h5 hi hl
theorem m_inMemory {S : Mem} {G : List (Nat × Agg)} (h : GM S G) (hl : G.length ≤ 100) {k : Nat} (hk : k ≤ 9999) (hG : ∀ g ∈ G, g.1 ≤ 9999) {K : Int32 → Mem → Prop} (k1 : ∀ j x, G[j]? = some (k, x) → K (nI j) S) (k0 : (∀ g ∈ G, g.1 ≠ k) → K (-1) S) : P_X7_inMemory S (nI k) K := by
  have loop : ∀ m n j, j + m = G.length → m < n → (∀ i g, i < j → G[i]? = some g → g.1 ≠ k) → B_X7_inMemory_2 K n S (nI k) (nI j) := by
    intro m
    induction m with
    | zero =>
      intro n j hj hn hne
      match n, hn with
      | n + 1, _ =>
        have q : S 53 6 ≤ nI j := by rw [h.1]; exact (nI_leI (by omega) (by omega)).mpr (by omega)
        exact ⟨fun _ => ⟨fun _ => k0 (fun g hg => by
          obtain ⟨i, hi, e⟩ := List.getElem_of_mem hg
          exact hne i g (by omega) (by rw [List.getElem?_eq_getElem hi, e])), fun z => absurd q z⟩, fun z => absurd q z⟩
    | succ m ih =>
      intro n j hj hn hne
      match n, hn with
      | n + 1, hn =>
        have hjl : j < G.length := by omega
        have q : ¬ S 53 6 ≤ nI j := by rw [h.1]; intro z; have := (nI_leI (by omega) (by omega)).mp z; omega
        have hg : G[j]? = some (G[j]'hjl) := List.getElem?_eq_getElem hjl
        have h9 := hG _ (List.getElem_mem hjl)
        obtain ⟨g, hge⟩ : ∃ g, G[j]'hjl = g := ⟨_, rfl⟩
        rw [hge] at hg h9
        refine ⟨fun z => absurd z q, fun _ => ?_⟩
        rw [mul5, clampN (by omega), (h.2 j g hg).1, nI_eq (by omega) (by omega)]
        refine ⟨vin (by omega) (by omega), fun e => ⟨fun z => absurd z q, fun _ => k1 j g.2 (by rw [hg, ← e])⟩, fun e => ?_⟩
        rw [nI_1]
        exact ih n (j + 1) (by omega) (by omega) (fun i g' hi hg' => by
          by_cases ei : i = j
          · subst ei; rw [hg] at hg'; cases hg'; exact e
          · exact hne i g' (by omega) hg')
  exact ⟨G.length + 1, loop G.length (G.length + 1) 0 (by omega) (by omega) (fun i g hi => by omega)⟩
theorem cpf_in {f g : Nat → Int32} {b i t : Nat} (h : t < i) : cpf f g b i (b + t) = g t := by
  unfold cpf
  rw [if_pos (by omega), show b + t - b = t by omega]
theorem cpf_out {f g : Nat → Int32} {b i j : Nat} (h : j < b ∨ b + i ≤ j) : cpf f g b i j = f j := by
  unfold cpf
  rw [if_neg (by omega)]
theorem cpf_succ (f g : Nat → Int32) (b i : Nat) : upd (cpf f g b i) (b + i) (g i) = cpf f g b (i + 1) := by
  funext j
  by_cases e : j = b + i
  · subst e; rw [upd_at, cpf_in (by omega)]
  · rw [upd_ne _ _ e]
    unfold cpf
    by_cases c : b ≤ j ∧ j < b + i
    · rw [if_pos c, if_pos (by omega)]
    · rw [if_neg c, if_neg (by omega)]
theorem cpf_zero (f g : Nat → Int32) (b : Nat) : cpf f g b 0 = f := by
  funext j
  exact cpf_out (by omega)
/-- a group of five is moved up a place -/
theorem m_lay30 {R : Mem → Int32 → Int32 → Prop} {K : Mem → Prop} {x1 : Int32} {g : Nat} (hg : 1 ≤ g ∧ g < 100) {S : Mem} (k : R (mset S 57 (cpf (S 57) (fun t => S 57 (5 * g - 5 + t)) (5 * g) 5)) x1 (nI g + (-1 : Int32))) : ∀ m n c, c + m = 5 → m < n → B_X7_laysGroup_30 R K n (mset S 57 (cpf (S 57) (fun t => S 57 (5 * g - 5 + t)) (5 * g) c)) x1 (nI g) (nI c) := by
  intro m
  induction m with
  | zero =>
    intro n c hc hn
    match n, hn with
    | n + 1, _ =>
      have : c = 5 := by omega
      subst this
      exact ⟨fun _ => k, fun z => absurd ((nI_leI (a := 5) (by omega) (by omega)).mpr (by omega)) z⟩
  | succ m ih =>
    intro n c hc hn
    match n, hn with
    | n + 1, hn =>
      refine ⟨fun z => absurd ((nI_leI (a := 5) (by omega) (by omega)).mp z) (by omega), fun _ => ?_⟩
      rw [mul5, show nI (5 * g) - (5 : Int32) = nI (5 * g - 5) from pk_sub (b := 5) (by omega), nI_add, nI_add, clampN (by omega), clampN (by omega), nI_1, mset_at]
      refine ⟨vin (by omega) (by omega), vin (by omega) (by omega), fun S8 hS8 => ?_⟩
      rw [cpf_out (by omega), mput_mset] at hS8
      have e : upd (cpf (S 57) (fun t => S 57 (5 * g - 5 + t)) (5 * g) c) (5 * g + c) (S 57 (5 * g - 5 + c)) = cpf (S 57) (fun t => S 57 (5 * g - 5 + t)) (5 * g) (c + 1) := cpf_succ (S 57) (fun t => S 57 (5 * g - 5 + t)) (5 * g) c
      rw [e] at hS8
      rw [hS8]
      exact ih n (c + 1) (by omega) (by omega)
theorem m_lay71 {K : Mem → Prop} {i g : Nat} (hi : i < 1900) (hg : g < 100) {S : Mem} (k : B_X7_laysGroup_98 K (mset S 57 (cpf (S 57) (fun t => S 56 (6 * i + t)) (5 * g) 5))) : ∀ m n c, c + m = 5 → m < n → B_X7_laysGroup_71 K n (mset S 57 (cpf (S 57) (fun t => S 56 (6 * i + t)) (5 * g) c)) (nI i) (nI g) (nI c) := by
  intro m
  induction m with
  | zero =>
    intro n c hc hn
    match n, hn with
    | n + 1, _ =>
      have : c = 5 := by omega
      subst this
      exact ⟨fun _ => k, fun z => absurd ((nI_leI (a := 5) (by omega) (by omega)).mpr (by omega)) z⟩
  | succ m ih =>
    intro n c hc hn
    match n, hn with
    | n + 1, hn =>
      refine ⟨fun z => absurd ((nI_leI (a := 5) (by omega) (by omega)).mp z) (by omega), fun _ => m_of hi (by omega) ?_⟩
      rw [mul5, nI_add, clampN (by omega), nI_1, mset_ne _ _ (by omega)]
      refine ⟨vin (by omega) (by omega), fun S8 hS8 => ?_⟩
      rw [mput_mset] at hS8
      have e : upd (cpf (S 57) (fun t => S 56 (6 * i + t)) (5 * g) c) (5 * g + c) (S 56 (6 * i + c)) = cpf (S 57) (fun t => S 56 (6 * i + t)) (5 * g) (c + 1) := cpf_succ (S 57) (fun t => S 56 (6 * i + t)) (5 * g) c
      rw [e] at hS8
      rw [hS8]
      exact ih n (c + 1) (by omega) (by omega)
theorem pl_uniq {k : Nat} : ∀ {L : List Nat} {g : Nat}, g ≤ L.length → (∀ j, j < g → L.getD j 0 < k) → (∀ j, g ≤ j → j < L.length → ¬ L.getD j 0 < k) → pl k L = g
  | [], g, h, _, _ => by simp at h; subst h; rfl
  | x :: L, 0, _, _, h2 => by
    unfold pl
    rw [if_neg (show ¬ x < k from h2 0 (by omega) (by simp))]
  | x :: L, g + 1, h, h1, h2 => by
    unfold pl
    rw [if_pos (show x < k from h1 0 (by omega))]
    rw [List.length_cons] at h
    rw [pl_uniq (L := L) (g := g) (by omega) (fun j hj => h1 (j + 1) (by omega)) (fun j hj hjl => h2 (j + 1) (by omega) (by rw [List.length_cons]; omega))]
/-- what stays while groups and their number change -/
def FrG (S S' : Mem) : Prop := (∀ i, i ≠ 53 → i ≠ 57 → S' i = S i) ∧ ∀ j, j ≠ 6 → S' 53 j = S 53 j
theorem FrG.rf (S : Mem) : FrG S S := ⟨fun _ _ _ => rfl, fun _ _ => rfl⟩
theorem FrG.trans {S S1 S2 : Mem} (h1 : FrG S S1) (h2 : FrG S1 S2) : FrG S S2 := ⟨fun i a b => (h2.1 i a b).trans (h1.1 i a b), fun j hj => (h2.2 j hj).trans (h1.2 j hj)⟩
theorem FrG.m57 (S : Mem) (f : Nat → Int32) : FrG S (mset S 57 f) := ⟨fun i _ h => mset_ne _ _ h, fun j _ => by rw [mset_ne _ _ (by omega)]⟩
theorem FrG.p6 (S : Mem) (v : Int32) : FrG S (mput S 53 6 v) := ⟨fun i h _ => mput_ne _ _ _ h, fun j hj => by rw [mput_at, upd_ne _ _ hj]⟩
theorem GM.fr {S S' : Mem} {G : List (Nat × Agg)} (h : GM S G) (h1 : S' 53 6 = S 53 6) (h2 : S' 57 = S 57) : GM S' G := ⟨by rw [h1]; exact h.1, fun j g hg => by have := h.2 j g hg; unfold GrK at this ⊢; rw [h2]; exact this⟩
theorem m_lays {S : Mem} {G : List (Nat × Agg)} {e : It} (h : GM S G) (hl : G.length < 100) (he : e.1 < 1900) (hi : ItK S e) (hs : Srt (G.map (fun g => g.1))) (hk : e.2.1 ∉ G.map (fun g => g.1)) (h9 : e.2.1 ≤ 9999) (hG : ∀ g ∈ G, g.1 ≤ 9999) {K : Mem → Prop}
    (kk : ∀ S', GM S' (G.insertIdx (pl e.2.1 (G.map (fun g => g.1))) (e.2.1, e.2.2)) → FrG S S' → K S') : P_X7_laysGroup S (nI e.1) K := by
  have gd : ∀ j (hj : j < G.length), (G.map (fun g => g.1)).getD j 0 = (G[j]'hj).1 := fun j hj => by rw [List.getD_eq_getElem?_getD, List.getElem?_map, List.getElem?_eq_getElem hj]; rfl
  have fin : ∀ (S1 : Mem) (g : Nat), g ≤ G.length → pl e.2.1 (G.map (fun g => g.1)) = g → FrG S S1 → S1 53 6 = nI G.length → (∀ j x, j < g → G[j]? = some x → GrK S1 j x) → (∀ j x, g ≤ j → G[j]? = some x → GrK S1 (j + 1) x) → B_X7_laysGroup_69 K S1 (nI e.1) (nI g) := by
    intro S1 g hg hp f1 h6 ha hb
    have e56 : S1 56 = S 56 := f1.1 56 (by omega) (by omega)
    refine ⟨6, ?_⟩
    have := m_lay71 (K := K) (i := e.1) (g := g) (S := S1) he (by omega) (fun S2 hS2 => ?_) 5 6 0 (by omega) (by omega)
    · rw [cpf_zero, mset_self] at this
      exact this
    · have f2 : FrG S S2 := f1.trans ((FrG.m57 S1 _).trans (by rw [hS2]; exact FrG.p6 _ _))
      have e57 : S2 57 = cpf (S1 57) (fun t => S1 56 (6 * e.1 + t)) (5 * g) 5 := by rw [hS2, mput_ne _ _ _ (by omega), mset_at]
      have hge : g ≤ G.length := hg
      refine kk S2 ⟨?_, fun j x hx => ?_⟩ f2
      · rw [hS2, mput_at, upd_at, mset_ne _ _ (by omega), h6, nI_1, hp, List.length_insertIdx_of_le_length hge]
      · rw [hp] at hx
        unfold GrK
        rw [e57]
        rcases Nat.lt_trichotomy j g with hjg | hjg | hjg
        · rw [List.getElem?_insertIdx_of_lt hjg] at hx
          have := ha j x hjg hx
          exact ⟨by rw [cpf_out (by omega)]; exact this.1, this.2.eq fun c _ _ => cpf_out (by omega)⟩
        · subst hjg
          rw [List.getElem?_insertIdx_self, if_pos hge] at hx
          cases hx
          refine ⟨?_, ?_⟩
          · have : cpf (S1 57) (fun t => S1 56 (6 * e.1 + t)) (5 * j) 5 (5 * j + 0) = S1 56 (6 * e.1 + 0) := cpf_in (by omega)
            rw [Nat.add_zero, Nat.add_zero] at this
            rw [this, e56]; exact hi.1
          · exact hi.2.eq fun c _ _ => by rw [cpf_in (by omega), e56]
        · rw [List.getElem?_insertIdx_of_gt hjg] at hx
          have := hb (j - 1) x (by omega) hx
          rw [show j - 1 + 1 = j by omega] at this
          exact ⟨by rw [cpf_out (by omega)]; exact this.1, this.2.eq fun c _ _ => cpf_out (by omega)⟩
  have loop : ∀ (g n : Nat) (S1 : Mem), g < n → g ≤ G.length → FrG S S1 → S1 53 6 = nI G.length → (∀ j x, j < g → G[j]? = some x → GrK S1 j x) → (∀ j x, g ≤ j → G[j]? = some x → GrK S1 (j + 1) x) → (∀ j, g ≤ j → j < G.length → ¬ (G.map (fun g => g.1)).getD j 0 < e.2.1) → B_X7_laysGroup_5 K n S1 (nI e.1) (nI g) := by
    intro g
    induction g with
    | zero =>
      intro n S1 hn hg f1 h6 ha hb hgt
      match n, hn with
      | n + 1, _ =>
        refine ⟨fun _ => fin S1 0 hg ?_ f1 h6 ha hb, fun z => absurd ((nI_leI (b := 0) (by omega) (by omega)).mpr (by omega)) z⟩
        exact pl_uniq (by omega) (fun j hj => by omega) (fun j hj hjl => hgt j hj (by rw [List.length_map] at hjl; exact hjl))
    | succ g ih =>
      intro n S1 hn hg f1 h6 ha hb hgt
      match n, hn with
      | n + 1, hn =>
        have hgl : g < G.length := by omega
        have hx : G[g]? = some (G[g]'hgl) := List.getElem?_eq_getElem hgl
        have h9g := hG _ (List.getElem_mem hgl)
        have hgd := gd g hgl
        have hmem : (G[g]'hgl).1 ∈ G.map (fun g => g.1) := List.mem_map.mpr ⟨_, List.getElem_mem hgl, rfl⟩
        obtain ⟨x, hxe⟩ : ∃ x, G[g]'hgl = x := ⟨_, rfl⟩
        rw [hxe] at hx h9g hgd hmem
        have hne : x.1 ≠ e.2.1 := fun c => hk (by rw [← c]; exact hmem)
        have e56 : S1 56 = S 56 := f1.1 56 (by omega) (by omega)
        refine ⟨fun z => absurd ((nI_leI (b := 0) (by omega) (by omega)).mp z) (by omega), fun _ => ?_⟩
        rw [mul5, show nI (5 * (g + 1)) - (5 : Int32) = nI (5 * g) from by rw [show nI (5 * (g + 1)) - (5 : Int32) = nI (5 * (g + 1) - 5) from pk_sub (b := 5) (by omega)]; rfl, clampN (by omega), (ha g x (by omega) hx).1]
        refine ⟨vin (by omega) (by omega), m_of (c := 0) he (by omega) ?_⟩
        rw [e56, Nat.add_zero, hi.1]
        refine ⟨fun q => ?_, fun q => ⟨6, ?_⟩⟩
        · have hlt : x.1 < e.2.1 := by have := (nI_leI (by omega) (by omega)).mp q; omega
          refine fin S1 (g + 1) hg (pl_uniq (by rw [List.length_map]; exact hg) (fun j hj => ?_) (fun j hj hjl => hgt j hj (by rw [List.length_map] at hjl; exact hjl))) f1 h6 ha hb
          by_cases ej : j = g
          · subst ej; rw [hgd]; exact hlt
          · have hw := List.pairwise_iff_getElem.mp hs j g (by rw [List.length_map]; omega) (by rw [List.length_map]; omega) (by omega)
            rw [gd j (by omega)]
            rw [List.getElem_map, List.getElem_map, hxe] at hw
            omega
        · have hgt1 : e.2.1 < x.1 := Nat.not_le.mp fun z => q ((nI_leI (by omega) (by omega)).mpr z)
          have := m_lay30 (K := K) (x1 := nI e.1) (R := fun S x1 x2 => B_X7_laysGroup_5 K n S x1 x2) (g := g + 1) (S := S1) (by omega) ?_ 5 6 0 (by omega) (by omega)
          · rw [cpf_zero, mset_self] at this
            exact this
          · have ep : nI (g + 1) + (-1 : Int32) = nI g := by
              rw [← nI_1, Int32.add_assoc, show (1 : Int32) + (-1) = 0 from by decide, Int32.add_zero]
            rw [ep]
            have e57 : (mset S1 57 (cpf (S1 57) (fun t => S1 57 (5 * (g + 1) - 5 + t)) (5 * (g + 1)) 5)) 57 = cpf (S1 57) (fun t => S1 57 (5 * (g + 1) - 5 + t)) (5 * (g + 1)) 5 := mset_at _ _ _
            refine ih n _ (by omega) (by omega) (f1.trans (FrG.m57 _ _)) (by rw [mset_ne _ _ (by omega)]; exact h6) (fun j y hj hy => ?_) (fun j y hj hy => ?_) (fun j hj hjl => ?_)
            · unfold GrK
              rw [e57]
              have := ha j y (by omega) hy
              exact ⟨by rw [cpf_out (by omega)]; exact this.1, this.2.eq fun c _ _ => cpf_out (by omega)⟩
            · unfold GrK
              rw [e57]
              by_cases ej : j = g
              · subst ej
                rw [hx] at hy
                cases hy
                have h1 := ha j x (by omega) hx
                refine ⟨?_, h1.2.eq fun c _ _ => ?_⟩
                · have : cpf (S1 57) (fun t => S1 57 (5 * (j + 1) - 5 + t)) (5 * (j + 1)) 5 (5 * (j + 1) + 0) = S1 57 (5 * (j + 1) - 5 + 0) := cpf_in (by omega)
                  refine Eq.trans this ?_
                  rw [show 5 * (j + 1) - 5 + 0 = 5 * j by omega]; exact h1.1
                · rw [cpf_in (by omega), show 5 * (j + 1) - 5 = 5 * j by omega]
              · have := hb j y (by omega) hy
                exact ⟨by rw [cpf_out (by omega)]; exact this.1, this.2.eq fun c _ _ => cpf_out (by omega)⟩
            · by_cases ej : j = g
              · subst ej; rw [hgd]; omega
              · exact hgt j (by omega) hjl
  unfold P_X7_laysGroup
  rw [h.1]
  exact ⟨G.length + 1, loop G.length (G.length + 1) S (by omega) (Nat.le_refl _) (FrG.rf S) h.1 (fun j x _ hx => h.2 j x hx) (fun j x hj hx => by have := (List.getElem?_eq_some_iff.mp hx).1; omega) (fun j hj hjl => by omega)⟩
