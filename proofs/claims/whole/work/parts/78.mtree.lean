/-! the reference: a whole pass, all passes -/
def MB (S : Mem) (a : AS) (lim b : Nat) (o : OUT) (w cnt : Nat) : Prop := AllIs (S 54) a ∧ S 53 15 = nI lim ∧ S 53 14 = nI b ∧ S 53 4 = nI cnt ∧ cnt ≤ a.1.length + nW o ∧ OM S a o ∧ S 53 8 = nI (nP o) ∧ S 53 10 = nI (nS o) ∧ S 53 12 = nI (nD o) ∧ S 53 13 = nI o.2.2.2 ∧ S 53 6 = 0 ∧ S 53 17 = nI w
def LeOK (a : AS) (Le : List It) (cnt : Nat) : Prop := Le.length ≤ 100 ∧ (Le.map (fun x => x.1)).Nodup ∧ (∀ x ∈ Le, x.1 < cnt) ∧ (∀ x ∈ Le, x.2.1 ∈ ksOf a) ∧ ∀ x ∈ Le, aggOf Le x.2.1 = aggK a x.2.1
def FrW (S S' : Mem) (w cnt : Nat) (Le : List It) : Prop := (∀ i, (i < 53 ∨ i = 54 ∨ i = 55 ∨ 65 ≤ i) → S' i = S i) ∧ (∀ j, j = 2 ∨ 18 ≤ j → S' 53 j = S 53 j) ∧ (∀ x, x < 3 * w → S' 61 x = S 61 x) ∧ ∀ i, i < cnt → i ∉ Le.map (fun x => x.1) → ∀ c, c < 6 → S' 56 (6 * i + c) = S 56 (6 * i + c)
def OKm (a : AS) (o : OUT) : Prop := OKo a o ∧ nW o ≤ 1600
theorem OKm.pre1 {a : AS} {o x : OUT} (h : OKm a (appO o x)) : OKm a o := ⟨h.1.pre1, by have := h.2; rw [nW_app] at this; omega⟩
theorem OKm.pre {a : AS} : ∀ (L : List OUT) (o : OUT), OKm a (L.foldl appO o) → OKm a o
  | [], _, h => h
  | x :: L, o, h => (OKm.pre L (appO o x) h).pre1
theorem m_zero16 {K : Mem → Prop} {x1 x2 x3 : Int32} : ∀ (m f j : Nat) (S : Mem), j + m = 16 → m < f → (∀ i, i < j → S 64 i = 0) → (∀ S', (∀ i, i < 16 → S' 64 i = 0) → (∀ i, i ≠ 64 → S' i = S i) → B_X7_doPass_24 K S' x1 x2 x3) → B_X7_doPass_3 K f S x1 x2 x3 (nI j) := by
  intro m
  induction m with
  | zero =>
    intro f j S hj hf h k
    match f, hf with
    | f + 1, _ => exact ⟨fun _ => k S (fun i hi => h i (by omega)) (fun _ _ => rfl), fun z => absurd ((nI_leI (a := 16) (by omega) (by omega)).mpr (by omega)) z⟩
  | succ m ih =>
    intro f j S hj hf h k
    match f, hf with
    | f + 1, hf =>
      refine ⟨fun z => absurd ((nI_leI (a := 16) (by omega) (by omega)).mp z) (by omega), fun _ => ⟨vin (by omega) (by omega), fun S1 hS1 => ?_⟩⟩
      rw [clampN (by omega)] at hS1
      rw [nI_1]
      refine ih f (j + 1) S1 (by omega) (by omega) (fun i hi => ?_) (fun S' a1 a2 => k S' a1 (fun i hi => by rw [a2 i hi, hS1, mput_ne _ _ _ hi]))
      rw [hS1, mput_at]
      by_cases e : i = j
      · subst e; rw [upd_at]
      · rw [upd_ne _ _ e]; exact h i (by omega)
theorem m_zero7 {P : Nat} (hP : P < 1900) {K : Mem → Prop} {x1 x2 x3 : Int32} : ∀ (m f j : Nat) (S : Mem), j + m = 7 → m < f → S 53 8 = nI P → (∀ i, i < j → S 58 (7 * P + i) = 0) → (∀ S', (∀ i, i < 7 → S' 58 (7 * P + i) = 0) → (∀ i, i ≠ 58 → S' i = S i) → (∀ t, t < 7 * P → S' 58 t = S 58 t) → B_X7_doPass_56 K S' x1 x2 x3) → B_X7_doPass_27 K f S x1 x2 x3 (nI j) := by
  intro m
  induction m with
  | zero =>
    intro f j S hj hf h8 h k
    match f, hf with
    | f + 1, _ => exact ⟨fun _ => k S (fun i hi => h i (by omega)) (fun _ _ => rfl) (fun _ _ => rfl), fun z => absurd ((nI_leI (a := 7) (by omega) (by omega)).mpr (by omega)) z⟩
  | succ m ih =>
    intro f j S hj hf h8 h k
    match f, hf with
    | f + 1, hf =>
      refine ⟨fun z => absurd ((nI_leI (a := 7) (by omega) (by omega)).mp z) (by omega), fun _ => ?_⟩
      rw [h8, mul7, nI_add, clampN (by omega), nI_1]
      refine ⟨vin (by omega) (by omega), fun S1 hS1 => ?_⟩
      refine ih f (j + 1) S1 (by omega) (by omega) (by rw [hS1, mput_ne _ _ _ (by omega)]; exact h8) (fun i hi => ?_) (fun S' a1 a2 a3 => k S' a1 (fun i hi => by rw [a2 i hi, hS1, mput_ne _ _ _ hi]) (fun t ht => by rw [a3 t ht, hS1, mput_at, upd_ne _ _ (by omega)]))
      rw [hS1, mput_at]
      by_cases e : i = j
      · subst e; rw [upd_at]
      · rw [upd_ne _ _ (by omega)]; exact h i (by omega)
theorem m_pass {a : AS} {lim b l d pre : Nat} {o : OUT} {w cnt : Nat} {S : Mem} {v : Int32} {Le : List It} (ha : okS a) (hb : 1 ≤ b ∧ b ≤ 4) (hlim : 1 ≤ lim ∧ lim ≤ 12) (hd : l + d + 1 = 16 / b) (hpre : pre < 65536) (hw : w ≤ 250) (hB : MB S a lim b o w cnt) (hc : Ch S v Le) (hLe : LeOK a Le cnt) (hok : OKm a (appO o (ownT (hsh a.2.2.2) b lim d l pre (Le.map (fun x => x.2.1))))) {K : Mem → Prop}
    (kk : ∀ S' cnt' (fst : Nat → Int32) (Lf : Nat → List It), MB S' a lim b (appO o (ownT (hsh a.2.2.2) b lim d l pre (Le.map (fun x => x.2.1)))) (w + (kidsP b (passR (hsh a.2.2.2) b lim l (d == 0) (Le.map (fun x => x.2.1)))).length) cnt' → Stk S' w (l + 1) pre b fst (kidsP b (passR (hsh a.2.2.2) b lim l (d == 0) (Le.map (fun x => x.2.1)))) →
      (∀ p ∈ kidsP b (passR (hsh a.2.2.2) b lim l (d == 0) (Le.map (fun x => x.2.1))), Ch S' (fst p) (Lf p) ∧ LeOK a (Lf p) cnt' ∧ (Lf p).map (fun x => x.2.1) = (passR (hsh a.2.2.2) b lim l (d == 0) (Le.map (fun x => x.2.1))).2.2.1 p ∧ ∀ x ∈ Lf p, x.1 ∈ Le.map (fun x => x.1) ∨ cnt ≤ x.1) → FrW S S' w cnt Le → cnt ≤ cnt' → K S') : P_X7_doPass S (nI l) (nI pre) v K := by
  have h16 := pow_b hb
  obtain ⟨hl1, hlb⟩ := lv hd
  obtain ⟨b0, b15, b14, b4, bc, bO, b8, b10, b12, b13, b6, b17⟩ := hB
  obtain ⟨e1, e2, e3, e4, e5⟩ := hLe
  have hkP : ∀ x ∈ Le.map (fun x => x.2.1), x ∈ ksOf a := fun x hx => by
    obtain ⟨y, hy, rfl⟩ := List.mem_map.mp hx
    exact e4 y hy
  have g : PI (hsh a.2.2.2) b lim l (d == 0) (Le.map (fun x => x.2.1)) (passR (hsh a.2.2.2) b lim l (d == 0) (Le.map (fun x => x.2.1))) := PI.all hlim.1 _
  have hs7 := g.s7
  rw [List.length_map] at hs7
  obtain ⟨mk1, mk2⟩ := mask_PI g hb.2
  have hr100 := ha.1
  obtain ⟨hok1, hokW⟩ := hok
  have hP1 := hok1.1
  have hS1 := hok1.2.1
  rw [nP_app] at hP1
  rw [nS_app] at hS1
  rw [nW_app] at hokW
  have hD1 := hok1.nd ha
  have hD1 : nD o + nD (ownT (hsh a.2.2.2) b lim d l pre (Le.map (fun x => x.2.1))) ≤ 100 := by rw [← nD_app]; exact hD1
  rw [nD_own] at hD1
  have eW : nW (ownT (hsh a.2.2.2) b lim d l pre (Le.map (fun x => x.2.1))) = (passR (hsh a.2.2.2) b lim l (d == 0) (Le.map (fun x => x.2.1))).2.2.2.1 := Nat.add_zero _
  have eS : nS (ownT (hsh a.2.2.2) b lim d l pre (Le.map (fun x => x.2.1))) = (passR (hsh a.2.2.2) b lim l (d == 0) (Le.map (fun x => x.2.1))).2.1.length := List.length_map _
  have eP : nP (ownT (hsh a.2.2.2) b lim d l pre (Le.map (fun x => x.2.1))) = 1 := rfl
  have eD : nD (ownT (hsh a.2.2.2) b lim d l pre (Le.map (fun x => x.2.1))) = (passR (hsh a.2.2.2) b lim l (d == 0) (Le.map (fun x => x.2.1))).1.length := nD_own _ _ _ _ _ _ _
  obtain ⟨σ, hσ⟩ : ∃ σ, passR (hsh a.2.2.2) b lim l (d == 0) (Le.map (fun x => x.2.1)) = σ := ⟨_, rfl⟩
  have eOwn : ownT (hsh a.2.2.2) b lim d l pre (Le.map (fun x => x.2.1)) = ([recP l pre Le.length σ], recS l pre σ, recD l pre σ, σ.2.2.2.2.2) := by unfold ownT; rw [hσ, List.length_map]
  rw [hσ] at kk g hs7 mk1 mk2 hD1 eW eS eD
  refine ⟨17, m_zero16 16 17 0 S (by omega) (by omega) (fun i hi => by omega) (fun S1 z1 o1 => ⟨8, ?_⟩)⟩
  refine m_zero7 (P := nP o) (by omega) 7 8 0 S1 (by omega) (by omega) (by rw [o1 53 (by omega)]; exact b8) (fun i hi => by omega) (fun S2 z2 o2 low2 => ?_)
  have f2 : ∀ i, i ≠ 58 → i ≠ 64 → S2 i = S i := fun i q1 q2 => by rw [o2 i q1, o1 i q2]
  unfold B_X7_doPass_56
  rw [f2 53 (by omega) (by omega), b8, mul7, clampN (by omega)]
  refine ⟨vin (by omega) (by omega), fun S3 hS3 => ?_⟩
  have e38 : S3 53 8 = nI (nP o) := by rw [hS3, mput_ne _ _ _ (by omega), f2 53 (by omega) (by omega)]; exact b8
  rw [e38, mul7, show nI (7 * nP o) + (1 : Int32) = nI (7 * nP o + 1) from nI_add _ 1, clampN (by omega)]
  refine ⟨vin (by omega) (by omega), fun S4 hS4 S5 hS5 => ?_⟩
  have o5 : ∀ i, i ≠ 53 → i ≠ 58 → i ≠ 64 → S5 i = S i := fun i q1 q2 q3 => by rw [hS5, mput_ne _ _ _ q1, hS4, mput_ne _ _ _ q2, hS3, mput_ne _ _ _ q2, f2 i q2 q3]
  have e453 : S4 53 = S 53 := by rw [hS4, mput_ne _ _ _ (by omega), hS3, mput_ne _ _ _ (by omega), f2 53 (by omega) (by omega)]
  have e553 : ∀ j, j ≠ 8 → S5 53 j = S 53 j := fun j hj => by rw [hS5, mput_at, upd_ne _ _ hj, e453]
  have e558 : S5 58 = upd (upd (S2 58) (7 * nP o) (nI l)) (7 * nP o + 1) (nI pre) := by rw [hS5, mput_ne _ _ _ (by omega), hS4, mput_at, hS3, mput_at]
  have low5 : ∀ t, t < 7 * nP o → S5 58 t = S 58 t := fun t ht => by rw [e558, upd_ne _ _ (by omega), upd_ne _ _ (by omega), low2 t ht, o1 58 (by omega)]
  have h564 : ∀ i, i < 16 → S5 64 i = 0 := fun i hi => by rw [hS5, mput_ne _ _ _ (by omega), hS4, mput_ne _ _ _ (by omega), hS3, mput_ne _ _ _ (by omega), o2 64 (by omega)]; exact z1 i hi
  have hMP : MP S5 a lim b l pre o 0 cnt [] pass0 (fun _ => []) cnt := by
    refine ⟨⟨b0.same (o5 54 (by omega) (by omega) (by omega)), by rw [e553 _ (by omega)]; exact b15, by rw [e553 _ (by omega)]; exact b14, by rw [e553 _ (by omega)]; exact b4, Nat.le_refl _, by show cnt ≤ cnt + 0; omega⟩, bO.eq low5 (fun j _ => by rw [o5 59 (by omega) (by omega) (by omega)]) (fun j _ => by rw [o5 60 (by omega) (by omega) (by omega)]), ⟨?_, ?_⟩, ⟨by rw [e553 _ (by omega)]; exact b10, fun j q hj => by simp [pass0] at hj⟩, ⟨by rw [e553 _ (by omega)]; exact b12, by rw [e553 _ (by omega)]; exact b13⟩, ⟨by rw [e553 _ (by omega)]; exact b6, fun j q hj => by simp [pass0] at hj⟩, fun q hq => ⟨h564 q hq, fun L e hL => by simp at hL⟩, fun q hq => ⟨List.nodup_nil, rfl, fun x hx => by simp at hx, fun k hk => by simp [pass0] at hk⟩⟩
    · rw [hS5, mput_at, upd_at, e453, b8, nI_1]
    · unfold PMr
      rw [e558]
      refine ⟨?_, ?_, ?_, ?_, ?_, ?_, ?_⟩
      · rw [upd_ne _ _ (by omega), upd_at]; rfl
      · rw [upd_at]; rfl
      · rw [upd_ne _ _ (by omega), upd_ne _ _ (by omega), z2 2 (by omega)]; rfl
      · rw [upd_ne _ _ (by omega), upd_ne _ _ (by omega), z2 3 (by omega)]; rfl
      · rw [upd_ne _ _ (by omega), upd_ne _ _ (by omega), z2 4 (by omega)]; rfl
      · rw [upd_ne _ _ (by omega), upd_ne _ _ (by omega), z2 5 (by omega)]; rfl
      · rw [upd_ne _ _ (by omega), upd_ne _ _ (by omega), z2 6 (by omega)]; rfl
  have e510 : S5 53 10 = nI (nS o) := by rw [e553 _ (by omega)]; exact b10
  rw [e510]
  refine ⟨Le.length + 1, m_loop (sb := nS o) ha hb hlim hd hl1 (by omega) (by omega) (by omega) e1 e4 e2 e3 Le [] (Le.length + 1) S5 v _ cnt rfl (by omega) hMP (hc.eq fun x hx c hcc => by rw [o5 56 (by omega) (by omega) (by omega)]) (fun S6 FL6 cnt6 g6 f6 => ?_)⟩
  rw [hσ] at g6
  obtain ⟨⟨c0, c15, c14, c4, c4', c4''⟩, cO, ⟨c8, cP⟩, ⟨c10, cS⟩, ⟨c12, c13⟩, cG, cF, cFL⟩ := g6
  have hag : ∀ k ∈ σ.1, aggOf Le k = aggK a k := fun k hk => by
    obtain ⟨y, hy, e⟩ := List.mem_map.mp (g.s2 k hk).1
    rw [← e]; exact e5 y hy
  refine ⟨σ.1.length + 1, m_finL (L := σ.1) (Le := Le) (D := nD o) (Pn := nP o) (by omega) hD1 (by omega) hag σ.1.length (σ.1.length + 1) 0 S6 (by omega) (by omega) ⟨c12, c8, cP, cG, fun i k hi => by omega⟩ (fun S7 q7 f7 => ?_)⟩
  obtain ⟨q12, q8, qP, qG, qD⟩ := q7
  intro S8 hS8
  have o8 : ∀ i, i ≠ 53 → i ≠ 58 → i ≠ 60 → S8 i = S6 i := fun i r1 r2 r3 => by rw [hS8, mput_ne _ _ _ r1, f7.1 i r1 r2 r3]
  have e853 : ∀ j, j ≠ 6 → j ≠ 12 → S8 53 j = S6 53 j := fun j r1 r2 => by rw [hS8, mput_at, upd_ne _ _ r1, f7.2.1 j r2 r1]
  have e858 : S8 58 = S7 58 := by rw [hS8, mput_ne _ _ _ (by omega)]
  have e860 : S8 60 = S7 60 := by rw [hS8, mput_ne _ _ _ (by omega)]
  have hFle : ∀ p, p < 16 → (FL6 p).length = (σ.2.2.1 p).length := fun p hp => by rw [← (cFL p hp).2.1, List.length_map]
  refine ⟨σ.2.1.length + 1, m_leaveA (s0 := nS o) (sp := σ.2.1) (F := σ.2.2.1) (by omega) (fun q hq => by have := g.s5.2 q hq; omega) σ.2.1.length (σ.2.1.length + 1) 0 S8 (by omega) (by omega) (by rw [e853 _ (by omega) (by omega)]; exact c10) (fun i q hq => by have := cS i q hq; unfold SM4 at this ⊢; rw [o8 59 (by omega) (by omega) (by omega)]; exact this) (fun q hq => ?_) (fun i q hi => by omega) (fun S9 r9 o9 low9 => ?_)⟩
  · have hq16 : q.1 < 16 := by have := g.s5.2 q hq; omega
    rw [o8 64 (by omega) (by omega) (by omega), (cF q.1 hq16).1, hFle q.1 hq16]
  · have e914 : S9 53 14 = nI b := by rw [o9 53 (by omega), e853 _ (by omega) (by omega)]; exact c14
    unfold B_X7_leavesFiles_41
    rw [e914, shl1 (by omega), Int32.sub_eq_add_neg]
    have e58 : S9 58 = S7 58 := by rw [o9 58 (by omega), e858]
    refine ⟨2 ^ b + 1, m_leaveB (σ := σ) (l := l) (pre := pre) (w := w) (Pn := nP o) (mask := maskS σ.2.1) (fst := S6 62) hb hpre mk1 mk2 hw (by omega) (2 ^ b) (2 ^ b + 1) 0 S9 (by omega) (by omega) e914 (by rw [o9 53 (by omega), e853 _ (by omega) (by omega)]; exact c8) (by rw [e58]; exact qP.1) (by rw [e58]; exact qP.2.1) (by rw [e58]; exact qP.2.2.2.2.1) (fun p hp => by rw [o9 62 (by omega), o8 62 (by omega) (by omega) (by omega)]) ?_ trivial (fun S10 s17 sStk o10 e1053 low10 => ?_)⟩
    · rw [o9 53 (by omega), e853 _ (by omega) (by omega), f6.2.1 17 (by omega), e553 17 (by omega)]; exact b17
    · have hk0 : kidsP b σ = (List.range' 0 (2 ^ b)).filter (isSp σ) := by
        unfold kidsP
        rw [List.range_eq_range']
      rw [← hk0] at s17 sStk
      have n10 : ∀ i, i ≠ 53 → i ≠ 58 → i ≠ 59 → i ≠ 60 → i ≠ 61 → S10 i = S6 i := fun i r1 r2 r3 r4 r5 => by rw [o10 i r1 r5, o9 i r3, o8 i r1 r2 r4]
      have n53 : ∀ j, j ≠ 6 → j ≠ 12 → j ≠ 17 → S10 53 j = S6 53 j := fun j r1 r2 r3 => by rw [e1053 j r3, o9 53 (by omega), e853 j r1 r2]
      have n58 : S10 58 = S7 58 := by rw [o10 58 (by omega) (by omega), e58]
      have n59 : S10 59 = S9 59 := o10 59 (by omega) (by omega)
      have n60 : S10 60 = S7 60 := by rw [o10 60 (by omega) (by omega), o9 60 (by omega), e860]
      refine kk S10 cnt6 (S6 62) FL6 ?_ sStk (fun p hp => ?_) ⟨fun i hi => ?_, fun j hj => ?_, fun x hx => ?_, fun i hi1 hi2 c hcc => ?_⟩ c4'
      · refine ⟨c0.same (n10 54 (by omega) (by omega) (by omega) (by omega) (by omega)), by rw [n53 _ (by omega) (by omega) (by omega)]; exact c15, by rw [n53 _ (by omega) (by omega) (by omega)]; exact c14, by rw [n53 _ (by omega) (by omega) (by omega)]; exact c4, by rw [nW_app, eW]; omega, ⟨fun i r hi => ?_, fun i r hi => ?_, fun i dd hi => ?_⟩, ?_, ?_, ?_, ?_, ?_, s17⟩
        · rw [eOwn] at hi
          have hi : (o.1 ++ [recP l pre Le.length σ])[i]? = some r := hi
          unfold PMr
          rw [n58]
          by_cases ei : i < nP o
          · rw [List.getElem?_append_left ei] at hi
            exact (cO.1 i r hi).eq fun c hcc => f7.2.2.1 _ (by omega)
          · have hil := (List.getElem?_eq_some_iff.mp hi).1
            rw [List.length_append, List.length_singleton] at hil
            have ei : i = o.1.length := by have : nP o = o.1.length := rfl; omega
            subst ei
            rw [List.getElem?_append_right (Nat.le_refl _), Nat.sub_self] at hi
            cases hi
            exact qP
        · rw [eOwn] at hi
          have hi : (o.2.1 ++ recS l pre σ)[i]? = some r := hi
          by_cases ei : i < nS o
          · rw [List.getElem?_append_left ei] at hi
            obtain ⟨⟨w0, w1, w2, w3⟩, w4⟩ := cO.2.1 i r hi
            have lw : ∀ t, t < 5 * nS o → S10 59 t = S6 59 t := fun t ht => by rw [n59, low9 t ht, o8 59 (by omega) (by omega) (by omega)]
            exact ⟨⟨(lw _ (by omega)).trans w0, (lw _ (by omega)).trans w1, (lw _ (by omega)).trans w2, (lw _ (by omega)).trans w3⟩, (lw _ (by omega)).trans w4⟩
          · have hge : o.2.1.length ≤ i := by have : nS o = o.2.1.length := rfl; omega
            rw [List.getElem?_append_right hge] at hi
            unfold recS at hi
            rw [List.getElem?_map] at hi
            obtain ⟨q, hq, hqr⟩ := Option.map_eq_some_iff.mp hi
            have := r9 (i - o.2.1.length) q hq
            rw [show nS o + (i - o.2.1.length) = i by have : nS o = o.2.1.length := rfl; omega] at this
            rw [← hqr]
            unfold SMr SM4 at this ⊢
            rw [n59]; exact this
        · rw [eOwn] at hi
          have hi : (o.2.2.1 ++ recD l pre σ)[i]? = some dd := hi
          unfold DMr
          rw [n60]
          by_cases ei : i < nD o
          · rw [List.getElem?_append_left ei] at hi
            obtain ⟨w0, w1, w2, w3⟩ := cO.2.2 i dd hi
            have lw : ∀ t, t < 7 * nD o → S7 60 t = S6 60 t := fun t ht => f7.2.2.2 t ht
            exact ⟨(lw _ (by omega)).trans w0, w1.eq fun c _ _ => lw _ (by omega), (lw _ (by omega)).trans w2, (lw _ (by omega)).trans w3⟩
          · have hge : o.2.2.1.length ≤ i := by have : nD o = o.2.2.1.length := rfl; omega
            rw [List.getElem?_append_right hge] at hi
            unfold recD at hi
            rw [List.getElem?_map] at hi
            obtain ⟨q, hq, hqr⟩ := Option.map_eq_some_iff.mp hi
            have := qD (i - o.2.2.1.length) q (List.getElem?_eq_some_iff.mp hq).1 hq
            rw [show nD o + (i - o.2.2.1.length) = i by have : nD o = o.2.2.1.length := rfl; omega] at this
            rw [← hqr]
            exact this
        · rw [n53 _ (by omega) (by omega) (by omega), nP_app, eP]; exact c8
        · rw [n53 _ (by omega) (by omega) (by omega), nS_app, eS]; exact c10
        · rw [e1053 _ (by omega), o9 53 (by omega), hS8, mput_at, upd_ne _ _ (by omega), q12, nD_app, eD]
        · rw [n53 _ (by omega) (by omega) (by omega), c13, eOwn]; rfl
        · rw [e1053 _ (by omega), o9 53 (by omega), hS8, mput_at, upd_at]
      · obtain ⟨hp1, hp2⟩ := mem_kids.mp hp
        have hp16 : p < 16 := by omega
        have hne : FL6 p ≠ [] := fun c => by
          have := (cFL p hp16).2.1
          rw [c] at this
          exact g.s6 p hp2 this.symm
        obtain ⟨w1, w2, w3, w4⟩ := cFL p hp16
        have hlen : (σ.2.2.1 p).length ≤ 100 := by
          have := mem_le_sum (fun p => (σ.2.2.1 p).length) (List.mem_range.mpr hp1)
          have := g.s8
          omega
        have hkk : ∀ x ∈ FL6 p, x.2.1 ∈ σ.2.2.1 p := fun x hx => by rw [← w2]; exact List.mem_map.mpr ⟨x, hx, rfl⟩
        refine ⟨?_, ⟨by rw [hFle p hp16]; exact hlen, w1, fun x hx => (w3 x hx).1, fun x hx => hkP _ (g.s3 p _ (hkk x hx)).1, fun x hx => ?_⟩, w2, fun x hx => (w3 x hx).2⟩
        · exact ((cF p hp16).2 _ _ (List.dropLast_concat_getLast hne).symm).1.eq fun x _ c _ => by rw [n10 56 (by omega) (by omega) (by omega) (by omega) (by omega)]
        · rw [w4 _ (hkk x hx)]
          obtain ⟨y, hy, e⟩ := List.mem_map.mp (g.s3 p _ (hkk x hx)).1
          rw [← e]; exact e5 y hy
      · rw [n10 i (by omega) (by omega) (by omega) (by omega) (by omega), f6.1 i (by omega), o5 i (by omega) (by omega) (by omega)]
      · rw [n53 j (by omega) (by omega) (by omega), f6.2.1 j (by omega), e553 j (by omega)]
      · rw [low10 x hx, o9 61 (by omega), o8 61 (by omega) (by omega) (by omega), f6.1 61 (by omega), o5 61 (by omega) (by omega) (by omega)]
      · rw [n10 56 (by omega) (by omega) (by omega) (by omega) (by omega), f6.2.2 i hi1 hi2 c hcc, o5 56 (by omega) (by omega) (by omega)]
