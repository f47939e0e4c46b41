/-! the class's passes: the tree, the run -/
theorem OU.fr {S S' : Mem} {a : AS} {lim b : Nat} {o : OUT} {base base' : List Row} (h : OU S a lim b o base) (f : Fr S S' 46) (g : TW S' 46 base') : OU S' a lim b o base' := by
  obtain ⟨h1, h2, h3, ⟨h4, E, h5, h6⟩, h7, ⟨PT, h8⟩, h9, h10⟩ := h
  exact ⟨h1.fr f (by omega), h2.fr2 f (by omega) (by omega) (by omega), h3.fr2 f (by omega) (by omega) (by omega), ⟨h4.fr2 f (by omega) (by omega) (by omega), E, h5.fr2 f (by omega) (by omega) (by omega), h6⟩, h7.fr2 f (by omega) (by omega) (by omega), ⟨PT, h8.fr2 f (by omega) (by omega) (by omega)⟩, g, by rw [f 33 (by omega) (by omega)]; exact h10⟩
def FrQ (S S' : Mem) : Prop := ∀ i, i < 33 ∨ 47 < i → S' i = S i
theorem FrQ.trans {S S1 S2 : Mem} (h1 : FrQ S S1) (h2 : FrQ S1 S2) : FrQ S S2 := fun i hi => (h2 i hi).trans (h1 i hi)
theorem FrP.q {S S' : Mem} (f : FrP S S') : FrQ S S' := fun i hi => f.1 i (by omega)
theorem Fr.q {S S' : Mem} {t : Nat} (f : Fr S S' t) (h : 33 ≤ t ∧ t + 1 ≤ 47) : FrQ S S' := fun i hi => f i (by omega) (by omega)
theorem c_files {a : AS} {lim b l pre end0 mask : Nat} {σ : PS} {base' : List Row} {F : Nat → OUT} (hb : 1 ≤ b ∧ b ≤ 4) (hpre : pre < 65536) (hm : mask < 65536) (hbits : ∀ p, mask.testBit p = isSp σ p) {RP : Mem → Int32 → Int32 → Int32 → (Mem → Prop) → Prop}
    (kid : ∀ p o S K, p < 2 ^ b → isSp σ p = true → OKo a (appO o (F p)) → OU S a lim b o base' → (∀ S', OU S' a lim b (appO o (F p)) base' → FrQ S S' → K S') → RP S (nI (l + 1)) (nI (pre * 2 ^ b + p)) (nI end0) K) {K : Mem → Prop} :
    ∀ (m f j : Nat) (S : Mem) (o : OUT), j + m = 2 ^ b → m < f → OU S a lim b o base' → OKo a ((((List.range' j m).filter (isSp σ)).map F).foldl appO o) →
    (∀ S', OU S' a lim b ((((List.range' j m).filter (isSp σ)).map F).foldl appO o) base' → FrQ S S' → K S') → B_X2_runFiles_3 RP K f S (nI l) (nI pre) (nI mask) (nI end0) (nI j) := by
  have h16 := pow_b hb
  intro m
  induction m with
  | zero =>
    intro f j S o hj hf hO hk k
    match f, hf with
    | f + 1, _ =>
      unfold B_X2_runFiles_3
      rw [hO.1.2.2.1, shl1 (by omega)]
      exact ⟨fun _ => k S hO (fun _ _ => rfl), fun z => absurd ((nI_leI (by omega) (by omega)).mpr (by omega)) z⟩
  | succ m ih =>
    intro f j S o hj hf hO hk k
    match f, hf with
    | f + 1, hf =>
      unfold B_X2_runFiles_3
      rw [hO.1.2.2.1, shl1 (by omega)]
      refine ⟨fun z => absurd ((nI_leI (by omega) (by omega)).mp z) (by omega), fun _ => ?_⟩
      rw [bit_test hm (by omega), hbits]
      rw [List.range'_succ, List.filter_cons] at hk k
      refine ⟨fun z => ?_, fun z => ?_⟩
      · rw [if_neg z] at hk k
        show B_X2_runFiles_3 RP K f S _ _ _ _ (nI j + 1)
        rw [nI_1]
        exact ih f (j + 1) S o (by omega) (by omega) hO hk k
      · rw [if_pos z, List.map_cons, List.foldl_cons] at hk k
        have e1 : (nI pre <<< (nI b &&& 31)) ||| nI j = nI (pre * 2 ^ b + j) := by
          rw [pk_shlN _ b (sh31 b (by omega)) (by have : pre * 2 ^ b ≤ 65536 * 16 := Nat.mul_le_mul (by omega) h16.2; omega), pk_orN, Nat.mul_comm, Nat.two_pow_add_eq_or_of_lt (show j < 2 ^ b by omega)]
        rw [e1, nI_1]
        refine kid j o S _ (by omega) z (OKo.pre _ _ hk) hO (fun S1 hO1 f1 => ?_)
        show B_X2_runFiles_3 RP K f S1 _ _ _ _ (nI j + 1)
        rw [nI_1]
        exact ih f (j + 1) S1 _ (by omega) (by omega) hO1 hk (fun S' g' f' => k S' g' (f1.trans f'))
theorem mapIdx_snoc (L : List PR) (r : PR) : (L ++ [r]).mapIdx prR = L.mapIdx prR ++ [prR (L.mapIdx prR).length r] := by rw [List.mapIdx_concat, List.length_mapIdx]
theorem nP_T (h : Nat → Nat) (b lim d l pre : Nat) (items : List Nat) : 1 ≤ nP (T h b lim (d + 1) l pre items) := by
  rw [T_mu nP nP_app]
  show 1 ≤ 1 + _
  omega
theorem c_pass {a : AS} {lim b d l pre : Nat} (ha : okS a) (hb : 1 ≤ b ∧ b ≤ 4) (hlim : 1 ≤ lim ∧ lim ≤ 12) {S : Mem} {o : OUT} {B0 : List Row} {L : List Nat} {q : Nat → Bool} {K : Mem → Prop} (hd : l + d + 1 = 16 / b) (hL : ∀ x ∈ L, x ∈ ksOf a) (hq : ∀ x ∈ L, q x = true ↔ hsh a.2.2.2 x / 2 ^ (16 - l * b) = pre) (hpre : pre < 65536) (h100 : (L.filter q).length ≤ 100) (hbl : (B0 ++ L.map (irow a)).length ≤ 100 * (l + 1))
    (hok : OKo a (appO o (T (hsh a.2.2.2) b lim (d + 1) l pre (L.filter q)))) (hO : OU S a lim b o (B0 ++ L.map (irow a))) {RP : Mem → Int32 → Int32 → Int32 → (Mem → Prop) → Prop}
    (kid : ∀ (R : List Nat) (p : Nat) (o : OUT) (S : Mem) (K : Mem → Prop), Rok R a b l (passR (hsh a.2.2.2) b lim l (d == 0) (L.filter q)) → p < 2 ^ b → isSp (passR (hsh a.2.2.2) b lim l (d == 0) (L.filter q)) p = true → OKo a (appO o (kidT (hsh a.2.2.2) b lim d l pre (L.filter q) p)) → OU S a lim b o (B0 ++ L.map (irow a) ++ R.map (irow a)) → (∀ S', OU S' a lim b (appO o (kidT (hsh a.2.2.2) b lim d l pre (L.filter q) p)) (B0 ++ L.map (irow a) ++ R.map (irow a)) → FrQ S S' → K S') → RP S (nI (l + 1)) (nI (pre * 2 ^ b + p)) (nI (B0 ++ L.map (irow a)).length) K)
    (k : ∀ S', OU S' a lim b (appO o (T (hsh a.2.2.2) b lim (d + 1) l pre (L.filter q))) (B0 ++ L.map (irow a)) → FrQ S S' → K S') : P_X2_runPassF RP S (nI l) (nI pre) (nI B0.length) K := by
  have h16 := pow_b hb
  have hb16 : 16 / b ≤ 16 := Nat.div_le_self _ _
  obtain ⟨hl1, hlb⟩ := lv hd
  obtain ⟨c1, c2, c3, c4, c5, ⟨PT0, c6⟩, c7, c8⟩ := hO
  have hits : ∀ x ∈ L.filter q, x ∈ ksOf a := fun x hx => hL x (List.mem_filter.mp hx).1
  have hP : (o.1.mapIdx prR).length = nP o := List.length_mapIdx
  have hPl : nP o + 1 ≤ 613 := by
    have h1 := hok.1
    have h2 := nP_T (hsh a.2.2.2) b lim d l pre (L.filter q)
    rw [nP_app] at h1
    omega
  have g : PI (hsh a.2.2.2) b lim l (d == 0) (L.filter q) (passR (hsh a.2.2.2) b lim l (d == 0) (L.filter q)) := PI.all hlim.1 _
  obtain ⟨m1, m2⟩ := mask_PI g hb.2
  have hTs := T_succ (hsh a.2.2.2) b lim d l pre (L.filter q)
  rw [hTs, ← fold_appO] at hok k
  have hok1 := OKo.pre _ _ hok
  have hown : OKo a (appO o (ownT (hsh a.2.2.2) b lim d l pre (L.filter q))) := hok1
  refine ⟨fun _ => ?_, fun z => absurd (by rw [c1.2.2.2]; exact (nI_leI (by omega) (by omega)).mpr (by omega)) z⟩
  refine t_append t34.1 c2 (by rw [hP, t34.2.2]; omega) (fun S1 g1 f1 => ?_)
  refine t_put (c := 5) t34.1 g1 (last_lt _ _) (by rw [t34.2.1]; omega) (fun S3 g3 f3 => ?_)
  rw [getD_last, set_last] at g3
  refine t_put (c := 6) t34.1 g3 (last_lt _ _) (by rw [t34.2.1]; omega) (fun S5 g5 f5 => ?_)
  rw [getD_last, set_last] at g5
  refine t_put (c := 7) t34.1 g5 (last_lt _ _) (by rw [t34.2.1]; omega) (fun S7 g7 f7 => ?_)
  rw [getD_last, set_last, prR_new] at g7
  have fA : Fr S S7 34 := ((f1.trans f3).trans f5).trans f7
  have x7 := c1.fr fA (by omega)
  rw [x7.2.2.1, shl1 (by omega)]
  refine t_reset t44.1 (c6.fr2 fA (by omega) (by omega) (by omega)) (by rw [t44.2.2]; omega) (fun S9 g9 f9 => ?_)
  have c79 := (c7.fr2 fA (by omega) (by omega) (by omega)).fr2 f9 (by omega) (by omega) (by omega)
  refine t_length c79 ⟨L.length + 1, ?_⟩
  have hrep : ∀ p c, ((List.replicate (2 ^ b) row0).getD p row0) c = 0 := by
    intro p c
    rw [List.getD_eq_getElem?_getD, List.getElem?_replicate]
    split <;> rfl
  have hCP : CP S9 a lim b l pre (o.1.mapIdx prR) (o.2.1.map srR) (B0 ++ L.map (irow a)) o.2.2.2 0 pass0 := ⟨x7.fr f9 (by omega), g7.fr2 f9 (by omega) (by omega) (by omega), by rw [show (recS l pre pass0).map srR = [] from rfl, List.append_nil]; exact (c3.fr2 fA (by omega) (by omega) (by omega)).fr2 f9 (by omega) (by omega) (by omega), (c5.fr2 fA (by omega) (by omega) (by omega)).fr2 f9 (by omega) (by omega) (by omega), ⟨_, g9, List.length_replicate, fun p _ => hrep p 0, fun j q hj => by simp [pass0] at hj⟩, ⟨[], by rw [List.map_nil, List.append_nil]; exact c79, rfl, fun p => rfl⟩, by rw [f9 33 (by omega) (by omega), fA 33 (by omega) (by omega)]; exact c8⟩
  have hS2 := hown.2.1
  rw [nS_app] at hS2
  have hS3 : nS (ownT (hsh a.2.2.2) b lim d l pre (L.filter q)) = (passR (hsh a.2.2.2) b lim l (d == 0) (L.filter q)).2.1.length := List.length_map _
  have hS4 : nS o = (o.2.1.map srR).length := (List.length_map _).symm
  refine c_loop (B0 := B0) (q := q) ha hb hlim hd hl1 hlb hL hq hpre h100 (by omega) (fun hd0 => by omega) (by omega) L.length (L.length + 1) 0 S9 (by omega) (by omega) hCP (fun S2 h2 f2 => ?_)
  have hE2 : EO S2 a o.2.2.1 := by
    obtain ⟨q1, E, q2, q3⟩ := c4
    have e : ∀ i, 38 ≤ i → i ≤ 41 → S2 i = S i := fun i h1 h2 => by rw [f2.1 i (by omega), f9 i (by omega) (by omega), fA i (by omega) (by omega)]
    exact ⟨q1.fr (e _ (by omega) (by omega)) (e _ (by omega) (by omega)), E, q2.fr (e _ (by omega) (by omega)) (e _ (by omega) (by omega)), q3⟩
  have hkD : ∀ x : OUT, x.2.2.1.map (fun d => d.1) = keysD x := fun _ => rfl
  have hN := hown.2.2.1
  have hD1 : ∀ d ∈ o.2.2.1, d.1 ∈ ksOf a := fun dd hdd => hown.2.2.2 dd.1 (by rw [keysD_app]; exact List.mem_append_left _ (List.mem_map.mpr ⟨dd, hdd, rfl⟩))
  have hD2 : o.2.2.1.length + (passR (hsh a.2.2.2) b lim l (d == 0) (L.filter q)).1.length ≤ 100 := by
    have := hown.nd ha
    have e : (appO o (ownT (hsh a.2.2.2) b lim d l pre (L.filter q))).2.2.1.length = nD o + nD (ownT (hsh a.2.2.2) b lim d l pre (L.filter q)) := nD_app _ _
    rw [nD_own] at e
    have e2 : nD o = o.2.2.1.length := rfl
    omega
  refine c_finish ha h2 g hits h100 hE2 hN hD1 hD2 (fun S13 g34 g42 gE f13 => ?_)
  obtain ⟨d1, d2, d3, d4, ⟨PT, d5, d5'⟩, ⟨R, d6, d6'⟩, d7⟩ := h2
  have hle : (o.1.mapIdx prR).length + 1 ≤ 613 := by omega
  refine t_at (c := 2) t34.1 g34 (by omega) (by rw [t34.2.1]; omega) ?_
  rw [getD_last]
  show P_X2_runFiles RP S13 (nI l) (nI pre) (nI (maskS (passR (hsh a.2.2.2) b lim l (d == 0) (L.filter q)).2.1)) (nI (B0 ++ L.map (irow a)).length) _
  have fr : ∀ i, i ≠ 34 → i ≠ 35 → ¬ (38 ≤ i ∧ i ≤ 43) → S13 i = S2 i := f13
  have hO1 : OU S13 a lim b (appO o (ownT (hsh a.2.2.2) b lim d l pre (L.filter q))) (B0 ++ L.map (irow a) ++ R.map (irow a)) := by
    refine ⟨⟨d1.1.fr (fr _ (by omega) (by omega) (by omega)) (fr _ (by omega) (by omega) (by omega)), by rw [fr 33 (by omega) (by omega) (by omega)]; exact d1.2.1, by rw [fr 33 (by omega) (by omega) (by omega)]; exact d1.2.2.1, by rw [fr 33 (by omega) (by omega) (by omega)]; exact d1.2.2.2⟩, ?_, ?_, gE, g42, ⟨PT, d5.fr (fr _ (by omega) (by omega) (by omega)) (fr _ (by omega) (by omega) (by omega))⟩, d6.fr (fr _ (by omega) (by omega) (by omega)) (fr _ (by omega) (by omega) (by omega)), ?_⟩
    · show TW S13 34 ((o.1 ++ [recP l pre (L.filter q).length (passR (hsh a.2.2.2) b lim l (d == 0) (L.filter q))]).mapIdx prR)
      rw [mapIdx_snoc]
      exact g34
    · show TW S13 36 ((o.2.1 ++ recS l pre (passR (hsh a.2.2.2) b lim l (d == 0) (L.filter q))).map srR)
      rw [List.map_append]
      exact d3.fr (fr _ (by omega) (by omega) (by omega)) (fr _ (by omega) (by omega) (by omega))
    · rw [fr 33 (by omega) (by omega) (by omega)]; exact d7
  have hfr : FrQ S S13 := fun i hi => by rw [fr i (by omega) (by omega) (by omega), f2.1 i (by omega), f9 i (by omega) (by omega), fA i (by omega) (by omega)]
  have hk0 : kidsP b (passR (hsh a.2.2.2) b lim l (d == 0) (L.filter q)) = (List.range' 0 (2 ^ b)).filter (isSp (passR (hsh a.2.2.2) b lim l (d == 0) (L.filter q))) := by
    unfold kidsP
    rw [List.range_eq_range']
  rw [hk0] at hok k
  refine ⟨2 ^ b + 1, c_files (F := kidT (hsh a.2.2.2) b lim d l pre (L.filter q)) hb hpre m1 m2 (fun p o' S' K' h1 h2 h3 h4 h5 => kid R p o' S' K' d6' h1 h2 h3 h4 h5) (2 ^ b) (2 ^ b + 1) 0 S13 _ (by omega) (by omega) hO1 hok (fun S17 hO17 f17 => ?_)⟩
  refine t_shorten t46.1 hO17.2.2.2.2.2.2.1 (by omega) (fun S19 g19 f19 => ?_)
  rw [List.take_left' rfl] at g19
  exact k S19 (hO17.fr f19 g19) ((hfr.trans f17).trans (f19.q (by omega)))
theorem pow_step {pre b l p : Nat} (h1 : pre < 2 ^ (l * b)) (h2 : p < 2 ^ b) : pre * 2 ^ b + p < 2 ^ ((l + 1) * b) := by
  rw [Nat.add_mul, Nat.one_mul, Nat.pow_add]
  have : (pre + 1) * 2 ^ b ≤ 2 ^ (l * b) * 2 ^ b := Nat.mul_le_mul_right _ (by omega)
  rw [Nat.add_mul, Nat.one_mul] at this
  omega
theorem c_tree {a : AS} {lim b : Nat} (ha : okS a) (hb : 1 ≤ b ∧ b ≤ 4) (hlim : 1 ≤ lim ∧ lim ≤ 12) : ∀ (d f l pre : Nat) (S : Mem) (o : OUT) (B0 : List Row) (L : List Nat) (q : Nat → Bool) (K : Mem → Prop), d < f → l + d + 1 = 16 / b → (∀ x ∈ L, x ∈ ksOf a) → (∀ x ∈ L, q x = true ↔ hsh a.2.2.2 x / 2 ^ (16 - l * b) = pre) → pre < 2 ^ (l * b) → (L.filter q).length ≤ 100 → (B0 ++ L.map (irow a)).length ≤ 100 * (l + 1) →
    OKo a (appO o (T (hsh a.2.2.2) b lim (d + 1) l pre (L.filter q))) → OU S a lim b o (B0 ++ L.map (irow a)) →
    (∀ S', OU S' a lim b (appO o (T (hsh a.2.2.2) b lim (d + 1) l pre (L.filter q))) (B0 ++ L.map (irow a)) → FrQ S S' → K S') → P_X2_runPass f S (nI l) (nI pre) (nI B0.length) K := by
  intro d
  induction d with
  | zero =>
    intro f l pre S o B0 L q K hf hd hL hq hpre h100 hbl hok hO k
    match f, hf with
    | f + 1, _ =>
      have hlb := (lv (d := 0) hd).2
      have hp2 := pow_le16 hlb
      refine c_pass (RP := fun S a b c K => P_X2_runPass f S a b c K) (d := 0) ha hb hlim hd hL hq (by omega) h100 hbl hok hO (fun R p o S K _ _ z => ?_) k
      have g : PI (hsh a.2.2.2) b lim l (0 == 0) (L.filter q) (passR (hsh a.2.2.2) b lim l (0 == 0) (L.filter q)) := PI.all hlim.1 _
      unfold isSp at z
      rw [g.s10 rfl] at z
      cases z
  | succ d ih =>
    intro f l pre S o B0 L q K hf hd hL hq hpre h100 hbl hok hO k
    match f, hf with
    | f + 1, hf =>
      obtain ⟨hl1, hlb⟩ := lv hd
      have hp2 := pow_le16 hlb
      refine c_pass (RP := fun S a b c K => P_X2_runPass f S a b c K) (d := d + 1) ha hb hlim hd hL hq (by omega) h100 hbl hok hO (fun R p o' S' K' hR hp z hok' hO' k' => ?_) k
      have g : PI (hsh a.2.2.2) b lim l (d + 1 == 0) (L.filter q) (passR (hsh a.2.2.2) b lim l (d + 1 == 0) (L.filter q)) := PI.all hlim.1 _
      have h7 := g.s7
      have hRi : ∀ x ∈ R, x ∈ L.filter q := fun x hx => (g.s3 (prt (hsh a.2.2.2) b l x) x (by rw [← hR.2]; exact List.mem_filter.mpr ⟨hx, by simp⟩)).1
      have := ih f (l + 1) (pre * 2 ^ b + p) S' o' (B0 ++ L.map (irow a)) R (fun k => prt (hsh a.2.2.2) b l k == p) K' (by omega) (by omega) (fun x hx => hL x (List.mem_filter.mp (hRi x hx)).1) (fun x hx => prefix_step _ hl1 ((hq x (List.mem_filter.mp (hRi x hx)).1).mp (List.mem_filter.mp (hRi x hx)).2) hp) (pow_step hpre hp) (Nat.le_trans (List.length_filter_le _ _) (by have := hR.1; omega)) (by have := hR.1; rw [List.length_append, List.length_map]; omega)
      rw [hR.2 p] at this
      exact this hok' hO' k'
theorem appO_nil (x : OUT) : appO nilO x = x := by
  unfold appO nilO
  simp
theorem run_ok {a : AS} (ha : okS a) {lim b : Nat} (hlim : 1 ≤ lim) (hb : 1 ≤ b ∧ b ≤ 4) : OKo a (runT a lim b) := by
  obtain ⟨h1, h2, h3, h4, -, -⟩ := run_bounds ha hlim hb
  exact ⟨h1, by omega, h3, fun k hk => (h4 k).mp hk⟩
theorem c_run22 {S : Mem} {st : AT} (h : CG S st) {lim b : Nat} (hlim : 1 ≤ lim ∧ lim ≤ 12) (hb : 1 ≤ b ∧ b ≤ 4) {K : Mem → Prop} (kk : ∀ S', FrC S S' → CG S' st → RunIs S' st.1 lim b → K S') : B_X2_run_22 K S (nI lim) (nI b) := by
  obtain ⟨⟨h1, h2, h3, h4, h5, h6⟩, h7, h8, h9⟩ := h
  obtain ⟨d, hd, hd3, hd15, hdb, -⟩ := dep hb
  have ha := h1.1
  intro S1 hS1 S2 hS2
  refine ⟨fun z => by have := (nI_eq (b := 0) (by omega) (by omega)).mp z; omega, fun S3 hS3 S4 hS4 => ?_⟩
  have o1 : ∀ i, i ≠ 33 → S1 i = S i := fun i hi => by rw [hS1, mput_ne _ _ _ hi]
  have o2 : ∀ i, i ≠ 33 → S2 i = S1 i := fun i hi => by rw [hS2, mput_ne _ _ _ hi]
  have o3 : ∀ i, i ≠ 33 → S3 i = S2 i := fun i hi => by rw [hS3, mput_ne _ _ _ hi]
  have o4' : ∀ i, i ≠ 33 → S4 i = S3 i := fun i hi => by rw [hS4, mput_ne _ _ _ hi]
  have o4 : ∀ i, i ≠ 33 → S4 i = S i := fun i hi => by rw [o4' i hi, o3 i hi, o2 i hi, o1 i hi]
  have e8 : S4 33 8 = 0 := by rw [hS4, mput_at, upd_at]
  have e9 : S4 33 9 = nI lim := by rw [hS4, mput_at, upd_ne _ _ (by omega), hS3, mput_at, upd_ne _ _ (by omega), hS2, mput_at, upd_ne _ _ (by omega), hS1, mput_at, upd_at]
  have e10 : S4 33 10 = nI b := by rw [hS4, mput_at, upd_ne _ _ (by omega), hS3, mput_at, upd_ne _ _ (by omega), hS2, mput_at, upd_at]
  have e11 : S4 33 11 = nI (16 / b - 1) := by
    rw [hS4, mput_at, upd_ne _ _ (by omega), hS3, mput_at, upd_at]
    have e1 : (16 : Int32) / nI b = nI (16 / b) := by
      rcases (show b = 1 ∨ b = 2 ∨ b = 3 ∨ b = 4 by omega) with rfl | rfl | rfl | rfl <;> decide
    rw [e1]
    exact pk_sub (b := 1) (by omega)
  obtain ⟨L34, T34, -⟩ := h2 34 (by decide)
  obtain ⟨L36, T36, -⟩ := h2 36 (by decide)
  obtain ⟨L38, T38, -⟩ := h2 38 (by decide)
  obtain ⟨L40, T40, -⟩ := h2 40 (by decide)
  obtain ⟨L42, T42, E42⟩ := h2 42 (by decide)
  have E42 := E42 rfl
  subst E42
  obtain ⟨L44, T44, -⟩ := h2 44 (by decide)
  obtain ⟨L46, T46, -⟩ := h2 46 (by decide)
  refine t_shorten (m := 0) t34.1 (T34.fr (o4 _ (by omega)) (o4 _ (by omega))) (by omega) (fun S5 g5 f5 => ?_)
  refine t_shorten (m := 0) t36.1 ((T36.fr (o4 _ (by omega)) (o4 _ (by omega))).fr2 f5 (by omega) (by omega) (by omega)) (by omega) (fun S7 g7 f7 => ?_)
  refine t_shorten (m := 0) t40.1 (((T40.fr (o4 _ (by omega)) (o4 _ (by omega))).fr2 f5 (by omega) (by omega) (by omega)).fr2 f7 (by omega) (by omega) (by omega)) (by omega) (fun S9 g9 f9 => ?_)
  have f59 : ∀ i, i ≠ 34 → i ≠ 35 → i ≠ 36 → i ≠ 37 → i ≠ 40 → i ≠ 41 → S9 i = S4 i := fun i a1 a2 a3 a4 a5 a6 => by rw [f9 i a5 a6, f7 i a3 a4, f5 i a1 a2]
  have n9 : ∀ i, i ≠ 33 → i ≠ 34 → i ≠ 35 → i ≠ 36 → i ≠ 37 → i ≠ 40 → i ≠ 41 → S9 i = S i := fun i a0 a1 a2 a3 a4 a5 a6 => by rw [f59 i a1 a2 a3 a4 a5 a6, o4 i a0]
  have G29 : TW S9 29 _ := h8.1.fr (n9 _ (by omega) (by omega) (by omega) (by omega) (by omega) (by omega) (by omega)) (n9 _ (by omega) (by omega) (by omega) (by omega) (by omega) (by omega) (by omega))
  have G31 : TW S9 31 _ := h8.2.fr (n9 _ (by omega) (by omega) (by omega) (by omega) (by omega) (by omega) (by omega)) (n9 _ (by omega) (by omega) (by omega) (by omega) (by omega) (by omega) (by omega))
  refine t_length G29 ?_
  rw [List.length_map]
  refine t_reset t38.1 (T38.fr (n9 _ (by omega) (by omega) (by omega) (by omega) (by omega) (by omega) (by omega)) (n9 _ (by omega) (by omega) (by omega) (by omega) (by omega) (by omega) (by omega))) (by rw [t38.2.2]; exact ksOf_len ha) (fun S13 g13 f13 => ?_)
  refine t_copy (t := 46) (t1 := 31) t46.1 (by decide) ((T46.fr (n9 _ (by omega) (by omega) (by omega) (by omega) (by omega) (by omega) (by omega)) (n9 _ (by omega) (by omega) (by omega) (by omega) (by omega) (by omega) (by omega))).fr2 f13 (by omega) (by omega) (by omega)) (G31.fr2 f13 (by omega) (by omega) (by omega)) (by decide) (by rw [List.length_map, t46.2.2]; have := ha.1; omega) (by omega) (fun S15 g15 f15 => ?_)
  have m33 : S15 33 = S4 33 := by rw [f15 33 (by omega) (by omega), f13 33 (by omega) (by omega), f59 33 (by omega) (by omega) (by omega) (by omega) (by omega) (by omega)]
  have n15 : ∀ i, i < 33 ∨ 47 < i ∨ (42 ≤ i ∧ i ≤ 45) → S15 i = S i := fun i hi => by rw [f15 i (by omega) (by omega), f13 i (by omega) (by omega), n9 i (by omega) (by omega) (by omega) (by omega) (by omega) (by omega) (by omega)]
  have eB : st.1.1.map (fun r => row1 (nI (idx st.1 r.1))) = ([] : List Row) ++ (keysR st.1).map (irow st.1) := by
    unfold keysR
    rw [List.map_map]; rfl
  rw [eB] at g15
  have hO : OU S15 st.1 lim b nilO (([] : List Row) ++ (keysR st.1).map (irow st.1)) := by
    refine ⟨⟨h8.1.fr (n15 _ (by omega)) (n15 _ (by omega)), by rw [m33]; exact e9, by rw [m33]; exact e10, by rw [m33]; exact e11⟩, ?_, ?_, ⟨?_, _, g13.fr2 f15 (by omega) (by omega) (by omega), List.length_replicate, fun i d hi => by simp [nilO] at hi⟩, T42.fr (n15 _ (by omega)) (n15 _ (by omega)), ⟨L44, T44.fr (n15 _ (by omega)) (n15 _ (by omega))⟩, g15, by rw [m33]; exact e8⟩
    · exact (((g5.fr2 f7 (by omega) (by omega) (by omega)).fr2 f9 (by omega) (by omega) (by omega)).fr2 f13 (by omega) (by omega) (by omega)).fr2 f15 (by omega) (by omega) (by omega)
    · exact ((g7.fr2 f9 (by omega) (by omega) (by omega)).fr2 f13 (by omega) (by omega) (by omega)).fr2 f15 (by omega) (by omega) (by omega)
    · exact (g9.fr2 f13 (by omega) (by omega) (by omega)).fr2 f15 (by omega) (by omega) (by omega)
  have eF : (keysR st.1).filter (fun _ => true) = keysR st.1 := List.filter_eq_self.mpr fun _ _ => rfl
  have hks := keysR_len st.1
  have h100 := ha.1
  have key := c_tree ha hb hlim d 17 0 0 S15 nilO [] (keysR st.1) (fun _ => true) K (by omega) (by omega) (fun x hx => mem_ksOf.mpr hx) (fun x _ => ⟨fun _ => by
    have := hsh_lt st.1.2.2.2 x
    rw [Nat.zero_mul]
    exact Nat.div_eq_of_lt this, fun _ => rfl⟩) (by rw [Nat.zero_mul]; exact Nat.one_pos) (by rw [eF]; omega) (by rw [List.nil_append, List.length_map]; omega)
  rw [eF, appO_nil] at key
  have eT : T (hsh st.1.2.2.2) b lim (d + 1) 0 0 (keysR st.1) = runT st.1 lim b := by unfold runT; rw [hd]
  rw [eT] at key
  refine key (run_ok ha hlim.1 hb) hO (fun S' g f => ?_)
  obtain ⟨p1, p2, p3, ⟨p4, E, p5, p6, p7⟩, p8, ⟨PT, p9⟩, p10, p11⟩ := g
  have fS : ∀ i, i < 33 ∨ 47 < i → S' i = S i := fun i hi => by rw [f i hi, n15 i (by omega)]
  have hR : RunIs S' st.1 lim b := ⟨p2, p3, p4, ⟨E, p5, p7⟩, p11⟩
  have hG : GrOK S' st.1 := ⟨p1.1, h8.2.fr (fS _ (by omega)) (fS _ (by omega))⟩
  have hQ : RunOK S' st.1 := ⟨lim, b, hlim, hb, p1.2.1, p1.2.2.1, hR⟩
  have z5 : S' 0 4 = 0 := by rw [fS 0 (by omega)]; exact h7
  refine kk S' (fun i hi => fS i (by omega)) ⟨⟨h1, fun t ht => ?_, h3.eq fun i _ _ => fS i (by omega), h4.eq fun i _ _ => fS i (by omega), h5.fr (fS _ (by omega)) (fS _ (by omega)), Or.inr ⟨z5, hG, Or.inr hQ⟩⟩, z5, hG, Or.inr hQ⟩ hR
  have kt : ∀ t ∈ tabs, t = 34 ∨ t = 36 ∨ t = 38 ∨ t = 40 ∨ t = 42 ∨ t = 44 ∨ t = 46 ∨ t < 32 ∨ 47 < t := by decide
  rcases kt t ht with e | e | e | e | e | e | e | e | e
  · subst e; exact ⟨_, p2, fun z => absurd z (by decide)⟩
  · subst e; exact ⟨_, p3, fun z => absurd z (by decide)⟩
  · subst e; exact ⟨_, p5, fun z => absurd z (by decide)⟩
  · subst e; exact ⟨_, p4, fun z => absurd z (by decide)⟩
  · subst e; exact ⟨_, p8, fun _ => rfl⟩
  · subst e; exact ⟨_, p9, fun z => absurd z (by decide)⟩
  · subst e; exact ⟨_, p10, fun z => absurd z (by decide)⟩
  · obtain ⟨L, q1, q2⟩ := h2 t ht
    exact ⟨L, q1.fr (fS _ (by omega)) (fS _ (by omega)), q2⟩
  · obtain ⟨L, q1, q2⟩ := h2 t ht
    exact ⟨L, q1.fr (fS _ (by omega)) (fS _ (by omega)), q2⟩
theorem c_run {S : Mem} {st : AT} (h : CG S st) {lim b : Nat} (hlim : 1 ≤ lim ∧ lim ≤ 12) (hb : 1 ≤ b ∧ b ≤ 4) {K : Mem → Prop} (kk : ∀ S', FrC S S' → CG S' st → RunIs S' st.1 lim b → K S') : P_X2_run S (nI lim) (nI b) K := by
  have full := c_run22 h hlim hb kk
  refine ⟨fun z => by have := (nI_ltI (b := 1) (by omega) (by omega)).mp z; omega, fun _ => ⟨fun _ => full, fun e1 => ⟨fun _ => full, fun e2 => ?_⟩⟩⟩
  rcases h.2.2.2 with z | ⟨lim', b', l1, l2, q1, q2, q3⟩
  · rw [z] at e1
    have := (nI_eq (a := 0) (by omega) (by omega)).mp e1
    omega
  · rw [q1] at e1
    rw [q2] at e2
    have w1 := (nI_eq (by omega) (by omega)).mp e1
    have w2 := (nI_eq (by omega) (by omega)).mp e2
    subst w1 w2
    exact kk S (FrC.rf S) h q3
theorem c_passesNow {S : Mem} {st : AT} (h : CI S st) {K : Option Nat → Mem → Prop} (kk : ∀ S', FrC S S' → CG S' st → RunIs S' st.1 st.1.2.1 st.1.2.2.1 → K (some 33) S') : P_X6_passesNow S K := by
  refine c_groupsNow h (fun S1 f1 g1 => ⟨rfl, ?_⟩)
  have ha := h.1.1
  refine c_setting (s := 1) (w := 0) (by decide) g1.1.2.2.1 (by omega) (c_setting (s := 1) (w := 1) (by decide) g1.1.2.2.1 (by omega) ?_)
  exact c_run g1 ha.2.2.1 ha.2.2.2.1 (fun S' f' g' r' => kk S' (f1.trans f') g' r')
theorem c_passesBy {S : Mem} {st : AT} (h : CI S st) {lim b : Nat} (hlim : 1 ≤ lim ∧ lim ≤ 12) (hb : 1 ≤ b ∧ b ≤ 4) {K : Option Nat → Mem → Prop} (kk : ∀ S', FrC S S' → CG S' st → RunIs S' st.1 lim b → K (some 33) S') : P_X6_passesBy S (nI lim) (nI b) K :=
  c_groupsNow h (fun _ f1 g1 => ⟨rfl, c_run g1 hlim hb (fun S' f' g' r' => kk S' (f1.trans f') g' r')⟩)
