/-! the reference's loop over items, its finishing -/
section
variable {a : AS} {lim b l d pre : Nat} {o : OUT} {n cnt0 cnt : Nat} {σ : PS} {FL : Nat → List It} {last : Bool}
theorem m_loop {sb : Nat} (ha : okS a) (hb : 1 ≤ b ∧ b ≤ 4) (hlim : 1 ≤ lim ∧ lim ≤ 12) (hd : l + d + 1 = 16 / b) (hl : (l + 1) * b ≤ 16) (hP : nP o < 1900) (hS : nS o < 1800) (hc0 : cnt0 + 100 ≤ 1900) {Le : List It} (hLe : Le.length ≤ 100) (hks : ∀ x ∈ Le, x.2.1 ∈ ksOf a) (hnd : (Le.map (fun x => x.1)).Nodup) (hlt : ∀ x ∈ Le, x.1 < cnt0) {K : Mem → Prop} : ∀ (rest P : List It) (f : Nat) (S : Mem) (v : Int32) (FL : Nat → List It) (cnt : Nat), Le = P ++ rest → rest.length < f → MP S a lim b l pre o P.length cnt0 P (passR (hsh a.2.2.2) b lim l (d == 0) (P.map (fun x => x.2.1))) FL cnt → Ch S v rest →
    (∀ S' FL' cnt', MP S' a lim b l pre o Le.length cnt0 Le (passR (hsh a.2.2.2) b lim l (d == 0) (Le.map (fun x => x.2.1))) FL' cnt' → FrN cnt0 Le S S' → B_X7_doPass_154 K S' (nI sb)) → B_X7_doPass_103 K f S (nI sb) v := by
  intro rest
  induction rest with
  | nil =>
    intro P f S v FL cnt hLP hf h hc k
    match f, hf with
    | f + 1, _ =>
      rw [List.append_nil] at hLP
      subst hLP
      exact ⟨fun _ => k S FL cnt h (FrN.rf _ _ _), fun z => absurd hc z⟩
  | cons e rest ih =>
    intro P f S v FL cnt hLP hf h hc k
    match f, hf with
    | f + 1, hf =>
      obtain ⟨c1, c2, c3⟩ := hc
      have hLP2 : Le = (P ++ [e]) ++ rest := by rw [hLP, List.append_assoc]; rfl
      have heL : e ∈ Le := by rw [hLP]; simp
      have he := hlt e heL
      have hPs : ∀ x ∈ P, x ∈ Le := fun x hx => by rw [hLP]; exact List.mem_append_left _ hx
      have hPes : ∀ x ∈ P ++ [e], x ∈ Le := fun x hx => by rw [hLP2]; exact List.mem_append_left _ hx
      have hPl : P.length < 100 := by rw [hLP, List.length_append, List.length_cons] at hLe; omega
      have hn1 : e.1 ∉ P.map (fun x => x.1) := by
        rw [hLP, List.map_append, List.nodup_append] at hnd
        exact fun m => hnd.2.2 _ m _ (by simp) rfl
      have hn2 : ∀ x ∈ rest, x.1 ∉ (P ++ [e]).map (fun x => x.1) := by
        rw [hLP2, List.map_append, List.nodup_append] at hnd
        exact fun x hx m => hnd.2.2 _ m _ (List.mem_map.mpr ⟨x, hx, rfl⟩) rfl
      have g : PI (hsh a.2.2.2) b lim l (d == 0) (P.map (fun x => x.2.1)) (passR (hsh a.2.2.2) b lim l (d == 0) (P.map (fun x => x.2.1))) := PI.all hlim.1 _
      have hkP : ∀ x ∈ P, x.2.1 ∈ ksOf a := fun x hx => hks x (hPs x hx)
      have es : passR (hsh a.2.2.2) b lim l (d == 0) ((P ++ [e]).map (fun x => x.2.1)) = take1 (hsh a.2.2.2) b lim l (d == 0) (passR (hsh a.2.2.2) b lim l (d == 0) (P.map (fun x => x.2.1))) e.2.1 := by
        rw [List.map_append]; exact passR_snoc _ _ _ _ _ _ _
      obtain ⟨σ, hσ⟩ : ∃ σ, passR (hsh a.2.2.2) b lim l (d == 0) (P.map (fun x => x.2.1)) = σ := ⟨_, rfl⟩
      rw [hσ] at h g es
      have next : ∀ S' FL' cnt', MP S' a lim b l pre o (P.length + 1) cnt0 (P ++ [e]) (take1 (hsh a.2.2.2) b lim l (d == 0) σ e.2.1) FL' cnt' → FrN cnt0 (P ++ [e]) S S' → B_X7_doPass_103 K f S' (nI sb) (S 56 (6 * e.1 + 5)) := by
        intro S' FL' cnt' h' f'
        refine ih (P ++ [e]) f S' _ FL' cnt' hLP2 (by rw [List.length_cons] at hf; omega) (by rw [es, List.length_append]; exact h') (c3.eq fun x hx c hc => ?_) (fun S2 FL2 cnt2 g2 f2 => k S2 FL2 cnt2 g2 ((f'.mono hPes).trans f2))
        have : x ∈ Le := by rw [hLP]; exact List.mem_append_right _ (List.mem_cons_of_mem _ hx)
        exact f'.2.2 x.1 (hlt x this) (hn2 x hx) c hc
      subst c1
      refine ⟨fun z => ?_, fun _ => ?_⟩
      · have := congrArg Int32.toInt z
        rw [nI_toInt (by omega)] at this
        have h2 : (-1 : Int32).toInt = -1 := by decide
        rw [h2] at this
        omega
      · refine m_of (c := 5) (by omega) (by omega) (mt_taken h hP (fun S10 h10 e56 f10 => ?_))
        have hi10 : ItK S10 e := c2.eq fun c _ => by rw [e56]
        have f10' : FrN cnt0 (P ++ [e]) S S10 := f10.mono fun x hx => by simp at hx
        refine m_takes ha hb hlim hd hl h10 g hP hS hc0 hPl hkP (hks e heL) hi10 he hn1 (fun hno S' FL' cnt' h' f' => ⟨1, fun _ => ?_, fun z => absurd z (by decide)⟩) (fun hyes S' FL' cnt' h' f' => ⟨2, fun z => absurd rfl z, fun _ => ?_⟩)
        · rw [← (take1_need (hsh a.2.2.2) b lim l (d == 0) σ e.2.1).2 hno] at h'
          exact next S' FL' cnt' h' (f10'.trans f')
        · have hne : σ.1 ≠ [] := fun c => by
            have := hyes.2.2.1
            rw [c] at this; simp at this; omega
          obtain ⟨g2, hlt2⟩ := g.spill hne hyes.2.2.2
          have h9 := g.s9 hyes.2.2.2
          have hi' : ItK S' e := hi10.eq fun c hc => f'.2.2 e.1 he hn1 c (by omega)
          refine m_takes ha hb hlim hd hl h' g2 hP hS hc0 hPl hkP (hks e heL) hi' he hn1 (fun hno S3 FL3 cnt3 h3 f3 => ⟨fun _ => ?_, fun z => absurd z (by decide)⟩) (fun hyes2 => absurd hyes2.2.2.1 (by omega))
          rw [← (take1_need (hsh a.2.2.2) b lim l (d == 0) σ e.2.1).1 hyes] at h3
          exact next S3 FL3 cnt3 h3 ((f10'.trans (f'.mono fun x hx => List.mem_append_left _ hx)).trans f3)
theorem m_fin12 {R : Mem → Int32 → Prop} {K : Mem → Prop} {j D : Nat} (hj : j < 100) (hD : D < 100) {S : Mem} (h12 : S 53 12 = nI D) (k : B_X7_finishes_47 R K (mset S 60 (cpf (S 60) (fun t => S 57 (5 * j + t)) (7 * D) 5)) (nI j)) : ∀ m f c, c + m = 5 → m < f → B_X7_finishes_12 R K f (mset S 60 (cpf (S 60) (fun t => S 57 (5 * j + t)) (7 * D) c)) (nI j) (nI c) := by
  intro m
  induction m with
  | zero =>
    intro f c hc hf
    match f, hf with
    | f + 1, _ =>
      have : c = 5 := by omega
      subst this
      exact ⟨fun _ => k, fun z => absurd ((nI_leI (a := 5) (by omega) (by omega)).mpr (by omega)) z⟩
  | succ m ih =>
    intro f c hc hf
    match f, hf with
    | f + 1, hf =>
      refine ⟨fun z => absurd ((nI_leI (a := 5) (by omega) (by omega)).mp z) (by omega), fun _ => ?_⟩
      rw [mset_ne _ _ (by omega), h12, mul5, mul7, nI_add, nI_add, clampN (by omega), clampN (by omega), nI_1, mset_ne _ _ (by omega)]
      refine ⟨vin (by omega) (by omega), vin (by omega) (by omega), fun S8 hS8 => ?_⟩
      rw [mput_mset] at hS8
      have e : upd (cpf (S 60) (fun t => S 57 (5 * j + t)) (7 * D) c) (7 * D + c) (S 57 (5 * j + c)) = cpf (S 60) (fun t => S 57 (5 * j + t)) (7 * D) (c + 1) := cpf_succ (S 60) (fun t => S 57 (5 * j + t)) (7 * D) c
      rw [e] at hS8
      rw [hS8]
      exact ih f (c + 1) (by omega) (by omega)
def FinS (S : Mem) (a : AS) (L : List Nat) (G : List (Nat × Agg)) (D Pn l pre n mk w pk j : Nat) : Prop := S 53 12 = nI (D + j) ∧ S 53 8 = nI (Pn + 1) ∧ PMr S Pn (l, pre, n, j, mk, w, pk) ∧ GM S G ∧ ∀ i k, i < j → L[i]? = some k → DMr S a (D + i) (k, l, pre)
def FrF (D Pn : Nat) (S S' : Mem) : Prop := (∀ i, i ≠ 53 → i ≠ 58 → i ≠ 60 → S' i = S i) ∧ (∀ j, j ≠ 12 → j ≠ 6 → S' 53 j = S 53 j) ∧ (∀ j, j ≠ 7 * Pn + 3 → S' 58 j = S 58 j) ∧ ∀ j, j < 7 * D → S' 60 j = S 60 j
theorem FrF.trans {D Pn : Nat} {S S1 S2 : Mem} (h1 : FrF D Pn S S1) (h2 : FrF D Pn S1 S2) : FrF D Pn S S2 := ⟨fun i a b c => (h2.1 i a b c).trans (h1.1 i a b c), fun j a b => (h2.2.1 j a b).trans (h1.2.1 j a b), fun j a => (h2.2.2.1 j a).trans (h1.2.2.1 j a), fun j a => (h2.2.2.2 j a).trans (h1.2.2.2 j a)⟩
theorem m_finL {L : List Nat} {Le : List It} {D Pn mk w pk : Nat} (hL : L.length ≤ 100) (hD : D + L.length ≤ 100) (hPn : Pn < 1900) (hag : ∀ k ∈ L, aggOf Le k = aggK a k) {K : Mem → Prop} : ∀ (m f j : Nat) (S : Mem), j + m = L.length → m < f → FinS S a L (L.map (fun k => (k, aggOf Le k))) D Pn l pre n mk w pk j →
    (∀ S', FinS S' a L (L.map (fun k => (k, aggOf Le k))) D Pn l pre n mk w pk L.length → FrF D Pn S S' → B_X7_finishes_107 K S') → B_X7_finishes_2 K f S (nI j) := by
  intro m
  induction m with
  | zero =>
    intro f j S hj hf h k
    match f, hf with
    | f + 1, _ =>
      have ej : j = L.length := by omega
      subst ej
      have h6 := h.2.2.2.1.1
      rw [List.length_map] at h6
      exact ⟨fun _ => k S h ⟨fun _ _ _ _ => rfl, fun _ _ _ => rfl, fun _ _ => rfl, fun _ _ => rfl⟩, fun z => absurd (by rw [h6]; exact (nI_leI (by omega) (by omega)).mpr (Nat.le_refl _)) z⟩
  | succ m ih =>
    intro f j S hj hf h k
    match f, hf with
    | f + 1, hf =>
      obtain ⟨h12, h8, hp, hG, hdn⟩ := h
      have hjl : j < L.length := by omega
      have h6 := hG.1
      rw [List.length_map] at h6
      have hx : L[j]? = some (L[j]'hjl) := List.getElem?_eq_getElem hjl
      have hxm := List.getElem_mem hjl
      obtain ⟨x, hxe⟩ : ∃ x, L[j]'hjl = x := ⟨_, rfl⟩
      rw [hxe] at hx hxm
      have hgx := hG.2 j (x, aggOf Le x) (by rw [List.getElem?_map, hx]; rfl)
      rw [hag x hxm] at hgx
      refine ⟨fun z => absurd (by rw [h6] at z; exact (nI_leI (by omega) (by omega)).mp z) (by omega), fun _ => ⟨6, ?_⟩⟩
      have key := m_fin12 (R := fun S x1 => B_X7_finishes_2 K f S x1) (K := K) (j := j) (D := D + j) (S := S) (by omega) (by omega) h12 ?_ 5 6 0 (by omega) (by omega)
      · rw [cpf_zero, mset_self] at key
        exact key
      · obtain ⟨S1, hS1⟩ : ∃ S1, mset S 60 (cpf (S 60) (fun t => S 57 (5 * j + t)) (7 * (D + j)) 5) = S1 := ⟨_, rfl⟩
        rw [hS1]
        have o1 : ∀ i, i ≠ 60 → S1 i = S i := fun i hi => by rw [← hS1, mset_ne _ _ hi]
        have e60 : S1 60 = cpf (S 60) (fun t => S 57 (5 * j + t)) (7 * (D + j)) 5 := by rw [← hS1, mset_at]
        have e8 : S1 53 8 = nI (Pn + 1) := by rw [o1 53 (by omega)]; exact h8
        refine m_last (c := 0) e8 hPn (by omega) ?_
        have e12 : S1 53 12 = nI (D + j) := by rw [o1 53 (by omega)]; exact h12
        have p5 : (7 : Int32) * nI (D + j) + (5 : Int32) = nI (7 * (D + j) + 5) := by rw [mul7]; exact nI_add _ 5
        have p6 : (7 : Int32) * nI (D + j) + (6 : Int32) = nI (7 * (D + j) + 6) := by rw [mul7]; exact nI_add _ 6
        rw [Nat.add_zero, o1 58 (by omega), hp.1, e12, p5, clampN (by omega)]
        refine ⟨vin (by omega) (by omega), fun S4 hS4 => ?_⟩
        have e84 : S4 53 8 = nI (Pn + 1) := by rw [hS4, mput_ne _ _ _ (by omega)]; exact e8
        refine m_last (c := 1) e84 hPn (by omega) ?_
        have e412 : S4 53 12 = nI (D + j) := by rw [hS4, mput_ne _ _ _ (by omega)]; exact e12
        have e481 : S4 58 (7 * Pn + 1) = nI pre := by rw [hS4, mput_ne _ _ _ (by omega), o1 58 (by omega)]; exact hp.2.1
        rw [e481, e412, p6, clampN (by omega)]
        refine ⟨vin (by omega) (by omega), fun S7 hS7 S8 hS8 => ?_⟩
        have e88 : S8 53 8 = nI (Pn + 1) := by rw [hS8, mput_at, upd_ne _ _ (by omega), hS7, mput_ne _ _ _ (by omega)]; exact e84
        refine m_counts (c := 3) e88 hPn (by omega) (fun S9 hS9 => ?_)
        have o9 : ∀ i, i ≠ 53 → i ≠ 58 → i ≠ 60 → S9 i = S i := fun i b1 b2 b3 => by rw [hS9, mput_ne _ _ _ b2, hS8, mput_ne _ _ _ b1, hS7, mput_ne _ _ _ b3, hS4, mput_ne _ _ _ b3, o1 i b3]
        have e853 : ∀ j', j' ≠ 12 → S8 53 j' = S 53 j' := fun j' hj' => by rw [hS8, mput_at, upd_ne _ _ hj', hS7, mput_ne _ _ _ (by omega), hS4, mput_ne _ _ _ (by omega), o1 53 (by omega)]
        have e853' : S8 53 12 = nI (D + (j + 1)) := by rw [hS8, mput_at, upd_at, hS7, mput_ne _ _ _ (by omega), e412, nI_1]; rfl
        have e953 : S9 53 = S8 53 := by rw [hS9, mput_ne _ _ _ (by omega)]
        have e858 : S8 58 = S 58 := by rw [hS8, mput_ne _ _ _ (by omega), hS7, mput_ne _ _ _ (by omega), hS4, mput_ne _ _ _ (by omega), o1 58 (by omega)]
        have e958 : ∀ j', j' ≠ 7 * Pn + 3 → S9 58 j' = S 58 j' := fun j' hj' => by rw [hS9, mput_at, upd_ne _ _ hj', e858]
        have e960 : S9 60 = upd (upd (cpf (S 60) (fun t => S 57 (5 * j + t)) (7 * (D + j)) 5) (7 * (D + j) + 5) (nI l)) (7 * (D + j) + 6) (nI pre) := by rw [hS9, mput_ne _ _ _ (by omega), hS8, mput_ne _ _ _ (by omega), hS7, mput_at, hS4, mput_at, e60]
        have low : ∀ t, t < 7 * (D + j) → S9 60 t = S 60 t := fun t ht => by rw [e960, upd_ne _ _ (by omega), upd_ne _ _ (by omega), cpf_out (by omega)]
        have fF : FrF D Pn S S9 := ⟨o9, fun j' a1 _ => by rw [e953, e853 j' a1], e958, fun t ht => low t (by omega)⟩
        show B_X7_finishes_2 K f S9 (nI j + 1)
        rw [nI_1]
        refine ih f (j + 1) S9 (by omega) (by omega) ⟨by rw [e953]; exact e853', by rw [e953]; exact e88, ?_, hG.fr (by rw [e953, e853 6 (by omega)]) (o9 57 (by omega) (by omega) (by omega)), fun i k' hi hk' => ?_⟩ (fun S' a1 a2 => k S' a1 (fF.trans a2))
        · obtain ⟨r0, r1, r2, r3, r4, r5, r6⟩ := hp
          refine ⟨(e958 _ (by omega)).trans r0, (e958 _ (by omega)).trans r1, (e958 _ (by omega)).trans r2, ?_, (e958 _ (by omega)).trans r4, (e958 _ (by omega)).trans r5, (e958 _ (by omega)).trans r6⟩
          rw [hS9, mput_at, upd_at, e858, r3]
          exact nI_1 j
        · by_cases ei : i = j
          · subst ei
            rw [hx] at hk'
            cases hk'
            unfold DMr
            rw [e960]
            refine ⟨?_, hgx.2.eq fun c _ _ => ?_, ?_, ?_⟩
            · rw [upd_ne _ _ (by omega), upd_ne _ _ (by omega)]
              have : cpf (S 60) (fun t => S 57 (5 * i + t)) (7 * (D + i)) 5 (7 * (D + i) + 0) = S 57 (5 * i + 0) := cpf_in (by omega)
              exact this.trans hgx.1
            · rw [upd_ne _ _ (by omega), upd_ne _ _ (by omega), cpf_in (by omega)]
            · rw [upd_ne _ _ (by omega), upd_at]
            · rw [upd_at]
          · obtain ⟨z0, z1, z2, z3⟩ := hdn i k' (by omega) hk'
            exact ⟨(low _ (by omega)).trans z0, z1.eq fun c _ _ => low _ (by omega), (low _ (by omega)).trans z2, (low _ (by omega)).trans z3⟩
end
