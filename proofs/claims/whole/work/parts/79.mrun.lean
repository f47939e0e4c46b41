/-! the reference: the tree, the run -/
theorem FrW.cut {S S1 S2 : Mem} {w w' cnt cnt' : Nat} {Le Lp : List It} (h1 : FrW S S1 w cnt Le) (h2 : FrW S1 S2 w' cnt' Lp) (hw : w ≤ w') (hc : cnt ≤ cnt') (hs : ∀ x ∈ Lp, x.1 ∈ Le.map (fun x => x.1) ∨ cnt ≤ x.1) : FrW S S2 w cnt Le := by
  refine ⟨fun i hi => (h2.1 i hi).trans (h1.1 i hi), fun j hj => (h2.2.1 j hj).trans (h1.2.1 j hj), fun x hx => (h2.2.2.1 x (by omega)).trans (h1.2.2.1 x hx), fun i a b c d => (h2.2.2.2 i (by omega) (fun m => ?_) c d).trans (h1.2.2.2 i a b c d)⟩
  obtain ⟨x, hx, e⟩ := List.mem_map.mp m
  rcases hs x hx with z | z
  · exact b (by rw [← e]; exact z)
  · omega
/-- a subtree of the reference -/
def TreeM (a : AS) (lim b d : Nat) : Prop := ∀ (l pre : Nat) (S : Mem) (o : OUT) (w cnt : Nat) (v : Int32) (Le : List It) (n : Nat) (K : Mem → Prop), l + d + 1 = 16 / b → pre < 2 ^ (l * b) → w ≤ 16 * l → MB S a lim b o (w + 1) cnt → EntM S w l pre v → Ch S v Le → LeOK a Le cnt → OKm a (appO o (T (hsh a.2.2.2) b lim (d + 1) l pre (Le.map (fun x => x.2.1)))) →
  (∀ S' cnt', MB S' a lim b (appO o (T (hsh a.2.2.2) b lim (d + 1) l pre (Le.map (fun x => x.2.1)))) w cnt' → cnt ≤ cnt' → FrW S S' w cnt Le → B_X7_run_165 K n S') → B_X7_run_165 K (n + nP (T (hsh a.2.2.2) b lim (d + 1) l pre (Le.map (fun x => x.2.1)))) S
theorem m_kids {a : AS} {lim b d l pre w : Nat} {fst : Nat → Int32} {Lf : Nat → List It} {F : Nat → List Nat} (ha : okS a) (ih : TreeM a lim b d) (hd : l + 1 + d + 1 = 16 / b) (hpre : pre < 2 ^ (l * b)) (hw : w ≤ 16 * l) (n : Nat) (K : Mem → Prop) : ∀ (ps : List Nat) (S : Mem) (o : OUT) (cnt cnt0 : Nat) (S0 : Mem) (Le : List It), ps.length ≤ 16 → ps.Nodup → (∀ p ∈ ps, p < 2 ^ b) → MB S a lim b o (w + ps.length) cnt → Stk S w (l + 1) pre b fst ps → (∀ p ∈ ps, Ch S (fst p) (Lf p) ∧ LeOK a (Lf p) cnt ∧ (Lf p).map (fun x => x.2.1) = F p ∧ (∀ x ∈ Lf p, x.1 ∈ Le.map (fun x => x.1) ∨ cnt0 ≤ x.1) ∧ ∀ k ∈ F p, prt (hsh a.2.2.2) b l k = p) →
    OKm a ((ps.map (fun p => T (hsh a.2.2.2) b lim (d + 1) (l + 1) (pre * 2 ^ b + p) (F p))).foldl appO o) → FrW S0 S w cnt0 Le → cnt0 ≤ cnt →
    (∀ S' cnt', MB S' a lim b ((ps.map (fun p => T (hsh a.2.2.2) b lim (d + 1) (l + 1) (pre * 2 ^ b + p) (F p))).foldl appO o) w cnt' → cnt0 ≤ cnt' → FrW S0 S' w cnt0 Le → B_X7_run_165 K n S') → B_X7_run_165 K (n + (ps.map (fun p => nP (T (hsh a.2.2.2) b lim (d + 1) (l + 1) (pre * 2 ^ b + p) (F p)))).sum) S := by
  intro ps
  induction ps with
  | nil => intro S o cnt cnt0 S0 Le _ _ _ hB _ _ _ f hc k; exact k S cnt hB hc f
  | cons p ps ihp =>
    intro S o cnt cnt0 S0 Le hl hn hps hB hst hF hok f hc k
    obtain ⟨hent, hst2⟩ := hst
    obtain ⟨n1, n2⟩ := List.nodup_cons.mp hn
    obtain ⟨p1, p2, p3, p4, p5⟩ := hF p List.mem_cons_self
    rw [List.length_cons] at hl hB
    rw [List.map_cons, List.foldl_cons] at hok
    rw [List.map_cons, List.sum_cons, Nat.add_comm (nP _), ← Nat.add_assoc]
    rw [← p3]
    have hok1 : OKm a (appO o (T (hsh a.2.2.2) b lim (d + 1) (l + 1) (pre * 2 ^ b + p) ((Lf p).map (fun x => x.2.1)))) := by rw [p3]; exact OKm.pre _ _ hok
    refine ih (l + 1) (pre * 2 ^ b + p) S o (w + ps.length) cnt (fst p) (Lf p) _ K hd (pow_step hpre (hps p List.mem_cons_self)) (by omega) hB hent p1 p2 hok1 (fun S1 cnt1 g1 hc1 f1 => ?_)
    rw [p3] at g1
    refine ihp S1 _ cnt1 cnt0 S0 Le (by omega) n2 (fun q hq => hps q (List.mem_cons_of_mem _ hq)) g1 (hst2.eq fun t ht => f1.2.2.1 t ht) (fun q hq => ?_) hok (f.cut f1 (by omega) hc p4) (by omega) (fun S' cnt' a1 a2 a3 => k S' cnt' (by rw [List.map_cons, List.foldl_cons]; exact a1) a2 a3)
    obtain ⟨q1, ⟨q21, q22, q23, q24, q25⟩, q3, q4, q5⟩ := hF q (List.mem_cons_of_mem _ hq)
    refine ⟨q1.eq fun x hx c hcc => f1.2.2.2 x.1 (q23 x hx) (fun m => ?_) c hcc, ⟨q21, q22, fun x hx => by have := q23 x hx; omega, q24, q25⟩, q3, q4, q5⟩
    obtain ⟨y, hy, e⟩ := List.mem_map.mp m
    have k1 := (q1.it x hx).1
    have k2 := (p1.it y hy).1
    rw [e] at k2
    have l1 := key_le ha (mem_ksOf.mp (q24 x hx))
    have l2 := key_le ha (mem_ksOf.mp (p2.2.2.2.1 y hy))
    have ek := (nI_eq (by omega) (by omega)).mp (k1.symm.trans k2)
    have r1 := q5 x.2.1 (by rw [← q3]; exact List.mem_map.mpr ⟨x, hx, rfl⟩)
    have r2 := p5 y.2.1 (by rw [← p3]; exact List.mem_map.mpr ⟨y, hy, rfl⟩)
    exact n1 (by rw [← r2, ← ek, r1]; exact hq)
theorem m_treeStep {a : AS} {lim b d : Nat} (ha : okS a) (hb : 1 ≤ b ∧ b ≤ 4) (hlim : 1 ≤ lim ∧ lim ≤ 12)
    (kids : ∀ (l pre w : Nat) (fst : Nat → Int32) (Lf : Nat → List It) (its : List Nat) (n : Nat) (K : Mem → Prop) (S : Mem) (o : OUT) (cnt cnt0 : Nat) (S0 : Mem) (Le : List It), l + d + 1 = 16 / b → pre < 2 ^ (l * b) → w ≤ 16 * l → its = Le.map (fun x => x.2.1) → MB S a lim b o (w + (kidsP b (passR (hsh a.2.2.2) b lim l (d == 0) its)).length) cnt → Stk S w (l + 1) pre b fst (kidsP b (passR (hsh a.2.2.2) b lim l (d == 0) its)) → (∀ p ∈ kidsP b (passR (hsh a.2.2.2) b lim l (d == 0) its), Ch S (fst p) (Lf p) ∧ LeOK a (Lf p) cnt ∧ (Lf p).map (fun x => x.2.1) = (passR (hsh a.2.2.2) b lim l (d == 0) its).2.2.1 p ∧ ∀ x ∈ Lf p, x.1 ∈ Le.map (fun x => x.1) ∨ cnt0 ≤ x.1) →
      OKm a (((kidsP b (passR (hsh a.2.2.2) b lim l (d == 0) its)).map (kidT (hsh a.2.2.2) b lim d l pre its)).foldl appO o) → FrW S0 S w cnt0 Le → cnt0 ≤ cnt →
      (∀ S' cnt', MB S' a lim b (((kidsP b (passR (hsh a.2.2.2) b lim l (d == 0) its)).map (kidT (hsh a.2.2.2) b lim d l pre its)).foldl appO o) w cnt' → cnt0 ≤ cnt' → FrW S0 S' w cnt0 Le → B_X7_run_165 K n S') → B_X7_run_165 K (n + ((kidsP b (passR (hsh a.2.2.2) b lim l (d == 0) its)).map (fun p => nP (kidT (hsh a.2.2.2) b lim d l pre its p))).sum) S) : TreeM a lim b d := by
  intro l pre S o w cnt v Le n K hd hpre hw hB hent hc hLe hok k
  obtain ⟨hl1, hlb⟩ := lv hd
  have hp2 := pow_le16 hlb
  have hb16 : 16 / b ≤ 16 := Nat.div_le_self _ _
  obtain ⟨b0, b15, b14, b4, bc, bO, b8, b10, b12, b13, b6, b17⟩ := hB
  have hTs := T_succ (hsh a.2.2.2) b lim d l pre (Le.map (fun x => x.2.1))
  have hok2 := hok
  rw [hTs, ← fold_appO] at hok2 k
  have hTm := T_mu nP nP_app (hsh a.2.2.2) b lim d l pre (Le.map (fun x => x.2.1))
  have e1 : nP (ownT (hsh a.2.2.2) b lim d l pre (Le.map (fun x => x.2.1))) = 1 := rfl
  rw [hTm, e1, Nat.add_comm 1, ← Nat.add_assoc]
  have e17 : S 53 17 - (1 : Int32) = nI w := by rw [b17]; exact pk_sub (b := 1) (by omega)
  refine ⟨fun z => absurd (by rw [b17] at z; exact (nI_leI (b := 0) (by omega) (by omega)).mp z) (by omega), fun _ S12 hS12 => ?_⟩
  rw [e17] at hS12
  have o12 : ∀ i, i ≠ 53 → S12 i = S i := fun i hi => by rw [hS12, mput_ne _ _ _ hi]
  have e53 : ∀ j, j ≠ 17 → S12 53 j = S 53 j := fun j hj => by rw [hS12, mput_at, upd_ne _ _ hj]
  have e1217 : S12 53 17 = nI w := by rw [hS12, mput_at, upd_at]
  have p1 : (3 : Int32) * nI w + (1 : Int32) = nI (3 * w + 1) := by rw [mul3]; exact nI_add _ 1
  have p2 : (3 : Int32) * nI w + (2 : Int32) = nI (3 * w + 2) := by rw [mul3]; exact nI_add _ 2
  rw [e1217, p1, p2, mul3, clampN (by omega), clampN (by omega), clampN (by omega), o12 61 (by omega), hent.1, hent.2.1, hent.2.2]
  refine ⟨vin (by omega) (by omega), vin (by omega) (by omega), vin (by omega) (by omega), ?_⟩
  have hB12 : MB S12 a lim b o w cnt := ⟨b0.same (o12 54 (by omega)), by rw [e53 _ (by omega)]; exact b15, by rw [e53 _ (by omega)]; exact b14, by rw [e53 _ (by omega)]; exact b4, bc, bO.eq (fun j _ => by rw [o12 58 (by omega)]) (fun j _ => by rw [o12 59 (by omega)]) (fun j _ => by rw [o12 60 (by omega)]), by rw [e53 _ (by omega)]; exact b8, by rw [e53 _ (by omega)]; exact b10, by rw [e53 _ (by omega)]; exact b12, by rw [e53 _ (by omega)]; exact b13, by rw [e53 _ (by omega)]; exact b6, e1217⟩
  have f12 : FrW S S12 w cnt Le := ⟨fun i hi => o12 i (by omega), fun j hj => e53 j (by omega), fun x _ => by rw [o12 61 (by omega)], fun i _ _ c _ => by rw [o12 56 (by omega)]⟩
  refine m_pass ha hb hlim hd (by omega) (by omega) hB12 (hc.eq fun x _ c _ => by rw [o12 56 (by omega)]) hLe (OKm.pre _ _ hok2) (fun S13 cnt13 fst Lf g13 st13 h13 f13 hc13 => ?_)
  exact kids l pre w fst Lf _ n K S13 _ cnt13 cnt S Le hd hpre hw rfl g13 st13 h13 hok2 (f12.cut f13 (Nat.le_refl _) (Nat.le_refl _) (fun x hx => Or.inl (List.mem_map.mpr ⟨x, hx, rfl⟩))) hc13 k
theorem m_tree {a : AS} {lim b : Nat} (ha : okS a) (hb : 1 ≤ b ∧ b ≤ 4) (hlim : 1 ≤ lim ∧ lim ≤ 12) : ∀ d, TreeM a lim b d := by
  intro d
  induction d with
  | zero =>
    refine m_treeStep ha hb hlim (fun l pre w fst Lf its n K S o cnt cnt0 S0 Le hd hpre hw hits hB hst hF hok f hc k => ?_)
    rw [kids_last hlim.1] at hB k ⊢
    exact k S cnt hB hc f
  | succ d ih =>
    refine m_treeStep ha hb hlim (fun l pre w fst Lf its n K S o cnt cnt0 S0 Le hd hpre hw hits hB hst hF hok f hc k => ?_)
    have g : PI (hsh a.2.2.2) b lim l (d + 1 == 0) its (passR (hsh a.2.2.2) b lim l (d + 1 == 0) its) := PI.all hlim.1 _
    have h16 := pow_b hb
    exact m_kids (Lf := Lf) (F := (passR (hsh a.2.2.2) b lim l (d + 1 == 0) its).2.2.1) ha ih (by omega) hpre hw n K _ S o cnt cnt0 S0 Le (by have := kids_len b (passR (hsh a.2.2.2) b lim l (d + 1 == 0) its); omega) (kids_nodup _ _) (fun p hp => (mem_kids.mp hp).1) hB hst (fun p hp => by
      obtain ⟨q1, q2, q3, q4⟩ := hF p hp
      exact ⟨q1, q2, q3, q4, fun k hk => (g.s3 p k hk).2.1⟩) hok f hc k
