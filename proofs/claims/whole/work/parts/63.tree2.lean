/-! all passes, without memory -/
theorem mu_fold (μ : OUT → Nat) (hμ : ∀ x y, μ (appO x y) = μ x + μ y) : ∀ (L : List OUT) (o : OUT), μ (L.foldl appO o) = μ o + (L.map μ).sum
  | [], o => rfl
  | x :: L, o => by
    rw [List.foldl_cons, mu_fold μ hμ L, hμ, List.map_cons, List.sum_cons]; omega
theorem sum_le {α : Type} {f g : α → Nat} : ∀ {L : List α}, (∀ x ∈ L, f x ≤ g x) → (L.map f).sum ≤ (L.map g).sum
  | [], _ => Nat.le_refl _
  | x :: L, h => by
    have h1 := h x List.mem_cons_self
    have h2 := sum_le (L := L) (fun y hy => h y (List.mem_cons_of_mem _ hy))
    rw [List.map_cons, List.map_cons, List.sum_cons, List.sum_cons]; omega
theorem sum_filter_le {α : Type} (q : α → Bool) (g : α → Nat) : ∀ L : List α, ((L.filter q).map g).sum ≤ (L.map g).sum
  | [] => Nat.le_refl _
  | x :: L => by
    have := sum_filter_le q g L
    rw [List.filter_cons, List.map_cons, List.sum_cons]
    split
    · rw [List.map_cons, List.sum_cons]; omega
    · omega
theorem sum_mul {α : Type} (f : α → Nat) (c : Nat) : ∀ L : List α, (L.map (fun x => f x * c)).sum = (L.map f).sum * c
  | [] => by simp
  | x :: L => by rw [List.map_cons, List.map_cons, List.sum_cons, List.sum_cons, sum_mul f c L, Nat.add_mul]
theorem nodup_len : ∀ (L M : List Nat), L.Nodup → (∀ x ∈ L, x ∈ M) → L.length ≤ M.length
  | [], _, _, _ => Nat.zero_le _
  | x :: L, M, hn, hs => by
    obtain ⟨h1, h2⟩ := List.nodup_cons.mp hn
    have hx := hs x List.mem_cons_self
    have := nodup_len L (M.erase x) h2 (fun y hy => (List.mem_erase_of_ne (fun e => h1 (by rw [← e]; exact hy))).mpr (hs y (List.mem_cons_of_mem _ hy)))
    rw [List.length_erase_of_mem hx] at this
    have := List.length_pos_of_mem hx
    rw [List.length_cons]; omega
theorem two_len {L : List Nat} {x y : Nat} (hx : x ∈ L) (hy : y ∈ L) (hne : x ≠ y) : 2 ≤ L.length := by
  match L, hx, hy with
  | [z], hx, hy =>
    rw [List.mem_singleton] at hx hy
    exact absurd (hx.trans hy.symm) hne
  | z :: w :: L, _, _ => simp
theorem mem_kids {b : Nat} {σ : PS} {p : Nat} : p ∈ kidsP b σ ↔ p < 2 ^ b ∧ isSp σ p = true := by
  unfold kidsP
  rw [List.mem_filter, List.mem_range]
theorem kids_nodup (b : Nat) (σ : PS) : (kidsP b σ).Nodup := List.Pairwise.filter _ List.nodup_range
theorem kids_len (b : Nat) (σ : PS) : (kidsP b σ).length ≤ 2 ^ b := by
  have := List.length_filter_le (isSp σ) (List.range (2 ^ b))
  rw [List.length_range] at this
  exact this
theorem kids_nil {b : Nat} {σ : PS} (h : σ.2.1 = []) : kidsP b σ = [] := List.filter_eq_nil_iff.mpr fun p _ => by unfold isSp; rw [h]; simp
theorem kids_sum {h : Nat → Nat} {b lim l : Nat} {last : Bool} {its : List Nat} {σ : PS} (g : PI h b lim l last its σ) : ((kidsP b σ).map (fun p => (σ.2.2.1 p).length)).sum ≤ σ.2.2.2.1 := by
  rw [← g.s8]
  exact sum_filter_le _ _ _
theorem kids_ne {h : Nat → Nat} {b lim l : Nat} {last : Bool} {its : List Nat} {σ : PS} (g : PI h b lim l last its σ) {p : Nat} (hp : p ∈ kidsP b σ) : σ.2.2.1 p ≠ [] := g.s6 p (mem_kids.mp hp).2
theorem spills_kids {h : Nat → Nat} {b lim l : Nat} {last : Bool} {its : List Nat} {σ : PS} (g : PI h b lim l last its σ) : σ.2.1.length = (kidsP b σ).length := by
  have h1 := nodup_len (σ.2.1.map (fun q => q.1)) (kidsP b σ) g.s5.1 (fun x hx => by
    obtain ⟨q, hq, rfl⟩ := List.mem_map.mp hx
    exact mem_kids.mpr ⟨g.s5.2 q hq, isSp_iff.mpr hx⟩)
  have h2 := nodup_len (kidsP b σ) (σ.2.1.map (fun q => q.1)) (kids_nodup b σ) (fun x hx => isSp_iff.mp (mem_kids.mp hx).2)
  rw [List.length_map] at h1 h2
  omega
def keysD (o : OUT) : List Nat := o.2.2.1.map (fun d => d.1)
theorem keysD_app (x y : OUT) : keysD (appO x y) = keysD x ++ keysD y := List.map_append
theorem foldD (F : Nat → OUT) (cls : Nat → Nat) : ∀ (ps : List Nat) (o : OUT), ps.Nodup → (∀ p ∈ ps, (keysD (F p)).Nodup ∧ ∀ k ∈ keysD (F p), cls k = p) → (keysD o).Nodup → (∀ k ∈ keysD o, cls k ∉ ps) →
    (keysD ((ps.map F).foldl appO o)).Nodup ∧ ∀ k, k ∈ keysD ((ps.map F).foldl appO o) ↔ k ∈ keysD o ∨ ∃ p ∈ ps, k ∈ keysD (F p)
  | [], o, _, _, h3, _ => ⟨h3, fun k => by simp⟩
  | p :: ps, o, h1, h2, h3, h4 => by
    obtain ⟨n1, n2⟩ := List.nodup_cons.mp h1
    obtain ⟨f1, f2⟩ := h2 p List.mem_cons_self
    have hn : (keysD (appO o (F p))).Nodup := by
      rw [keysD_app, List.nodup_append]
      refine ⟨h3, f1, fun x hx y hy e => ?_⟩
      subst e
      exact h4 x hx (by rw [f2 x hy]; exact List.mem_cons_self)
    obtain ⟨r1, r2⟩ := foldD F cls ps (appO o (F p)) n2 (fun q hq => h2 q (List.mem_cons_of_mem _ hq)) hn (fun k hk => by
      rw [keysD_app] at hk
      rcases List.mem_append.mp hk with hk | hk
      · exact fun z => h4 k hk (List.mem_cons_of_mem _ z)
      · rw [f2 k hk]; exact n1)
    rw [List.map_cons, List.foldl_cons]
    refine ⟨r1, fun k => ?_⟩
    rw [r2, keysD_app, List.mem_append]
    constructor
    · rintro ((c | c) | ⟨q, hq, c⟩)
      · exact Or.inl c
      · exact Or.inr ⟨p, List.mem_cons_self, c⟩
      · exact Or.inr ⟨q, List.mem_cons_of_mem _ hq, c⟩
    · rintro (c | ⟨q, hq, c⟩)
      · exact Or.inl (Or.inl c)
      · rcases List.mem_cons.mp hq with rfl | hq
        · exact Or.inl (Or.inr c)
        · exact Or.inr ⟨q, hq, c⟩
def kidT (h : Nat → Nat) (b lim d l pre : Nat) (items : List Nat) (p : Nat) : OUT := T h b lim d (l + 1) (pre * 2 ^ b + p) ((passR h b lim l (d == 0) items).2.2.1 p)
def ownT (h : Nat → Nat) (b lim d l pre : Nat) (items : List Nat) : OUT := ([recP l pre items.length (passR h b lim l (d == 0) items)], recS l pre (passR h b lim l (d == 0) items), recD l pre (passR h b lim l (d == 0) items), (passR h b lim l (d == 0) items).2.2.2.2.2)
theorem T_succ (h : Nat → Nat) (b lim d l pre : Nat) (items : List Nat) : T h b lim (d + 1) l pre items = ((kidsP b (passR h b lim l (d == 0) items)).map (kidT h b lim d l pre items)).foldl appO (ownT h b lim d l pre items) := rfl
theorem keysD_own (h : Nat → Nat) (b lim d l pre : Nat) (items : List Nat) : keysD (ownT h b lim d l pre items) = (passR h b lim l (d == 0) items).1 := by
  show (List.map _ (List.map _ _)) = _
  rw [List.map_map]
  exact List.map_id _
theorem kids_last {h : Nat → Nat} {b lim l : Nat} (hlim : 1 ≤ lim) (items : List Nat) : kidsP b (passR h b lim l (0 == 0) items) = [] := kids_nil ((PI.all hlim items).s10 rfl)
theorem T_D {h : Nat → Nat} {b lim : Nat} (hlim : 1 ≤ lim) : ∀ (d l pre : Nat) (items : List Nat), (keysD (T h b lim (d + 1) l pre items)).Nodup ∧ ∀ k, k ∈ keysD (T h b lim (d + 1) l pre items) ↔ k ∈ items := by
  intro d
  induction d with
  | zero =>
    intro l pre items
    have g : PI h b lim l (0 == 0) items (passR h b lim l (0 == 0) items) := PI.all hlim items
    rw [T_succ, kids_last hlim]
    show (keysD (ownT h b lim 0 l pre items)).Nodup ∧ ∀ k, k ∈ keysD (ownT h b lim 0 l pre items) ↔ _
    rw [keysD_own]
    refine ⟨g.s1.imp (fun h => Nat.ne_of_lt h), fun k => ⟨fun c => (g.s2 k c).1, fun c => (g.s4 k c).1 ?_⟩⟩
    unfold isSp
    rw [g.s10 rfl]; rfl
  | succ d ih =>
    intro l pre items
    have g : PI h b lim l (d + 1 == 0) items (passR h b lim l (d + 1 == 0) items) := PI.all hlim items
    have hk : ∀ p ∈ kidsP b (passR h b lim l (d + 1 == 0) items), (keysD (kidT h b lim (d + 1) l pre items p)).Nodup ∧ ∀ k ∈ keysD (kidT h b lim (d + 1) l pre items p), prt h b l k = p := fun p _ => by
      obtain ⟨a, c⟩ := ih (l + 1) (pre * 2 ^ b + p) ((passR h b lim l (d + 1 == 0) items).2.2.1 p)
      exact ⟨a, fun k hk => (g.s3 p k ((c k).mp hk)).2.1⟩
    obtain ⟨r1, r2⟩ := foldD (kidT h b lim (d + 1) l pre items) (prt h b l) _ (ownT h b lim (d + 1) l pre items) (kids_nodup b _) hk (by rw [keysD_own]; exact g.s1.imp (fun h => Nat.ne_of_lt h)) (fun k hk z => by
      rw [keysD_own] at hk
      have := (g.s2 k hk).2
      rw [(mem_kids.mp z).2] at this
      cases this)
    rw [T_succ]
    refine ⟨r1, fun k => ?_⟩
    rw [r2, keysD_own]
    constructor
    · rintro (c | ⟨p, hp, c⟩)
      · exact (g.s2 k c).1
      · exact (g.s3 p k (((ih _ _ _).2 k).mp c)).1
    · intro c
      cases hq : isSp (passR h b lim l (d + 1 == 0) items) (prt h b l k) with
      | false => exact Or.inl ((g.s4 k c).1 hq)
      | true => exact Or.inr ⟨prt h b l k, mem_kids.mpr ⟨prt_lt h b l k, hq⟩, ((ih _ _ _).2 k).mpr ((g.s4 k c).2 hq)⟩
def gR (b : Nat) : Nat → Nat → Nat → Nat
  | 0, _, _ => 0
  | d + 1, c, m => min c (m / 2) + gR b d (c * 2 ^ b) m
theorem gR_add (b : Nat) : ∀ (d c1 c2 m1 m2 : Nat), gR b d c1 m1 + gR b d c2 m2 ≤ gR b d (c1 + c2) (m1 + m2)
  | 0, _, _, _, _ => Nat.le_refl _
  | d + 1, c1, c2, m1, m2 => by
    have := gR_add b d (c1 * 2 ^ b) (c2 * 2 ^ b) m1 m2
    rw [← Nat.add_mul] at this
    unfold gR
    omega
theorem gR_mono (b : Nat) : ∀ (d c1 c2 m1 m2 : Nat), c1 ≤ c2 → m1 ≤ m2 → gR b d c1 m1 ≤ gR b d c2 m2
  | 0, _, _, _, _, _, _ => Nat.le_refl _
  | d + 1, c1, c2, m1, m2, h1, h2 => by
    have := gR_mono b d (c1 * 2 ^ b) (c2 * 2 ^ b) m1 m2 (Nat.mul_le_mul_right _ h1) h2
    unfold gR
    omega
theorem gR_sum (b d : Nat) (m : Nat → Nat) : ∀ ps : List Nat, (ps.map (fun p => m p + gR b d 1 (m p))).sum ≤ (ps.map m).sum + gR b d ps.length ((ps.map m).sum)
  | [] => Nat.zero_le _
  | p :: ps => by
    have h1 := gR_sum b d m ps
    have h2 := gR_add b d 1 ps.length (m p) ((ps.map m).sum)
    rw [Nat.add_comm 1] at h2
    rw [List.map_cons, List.map_cons, List.sum_cons, List.sum_cons, List.length_cons]
    omega
theorem map_sum_map {α β : Type} (f : α → β) (μ : β → Nat) (L : List α) : ((L.map f).map μ).sum = (L.map (fun x => μ (f x))).sum := by rw [List.map_map]; rfl
def nP (o : OUT) : Nat := o.1.length
def nS (o : OUT) : Nat := o.2.1.length
def nD (o : OUT) : Nat := o.2.2.1.length
def nO (o : OUT) : Nat := (o.2.1.map (fun r => r.2.2.2.1)).sum
theorem nP_app (x y : OUT) : nP (appO x y) = nP x + nP y := List.length_append
theorem nS_app (x y : OUT) : nS (appO x y) = nS x + nS y := List.length_append
theorem nD_app (x y : OUT) : nD (appO x y) = nD x + nD y := List.length_append
theorem nO_app (x y : OUT) : nO (appO x y) = nO x + nO y := by unfold nO appO; rw [List.map_append, List.sum_append]
theorem T_mu (μ : OUT → Nat) (hμ : ∀ x y, μ (appO x y) = μ x + μ y) (h : Nat → Nat) (b lim d l pre : Nat) (items : List Nat) : μ (T h b lim (d + 1) l pre items) = μ (ownT h b lim d l pre items) + ((kidsP b (passR h b lim l (d == 0) items)).map (fun p => μ (kidT h b lim d l pre items p))).sum := by
  rw [T_succ, mu_fold μ hμ, map_sum_map]
theorem nD_keys (o : OUT) : (keysD o).length = nD o := List.length_map _
theorem nD_own (h : Nat → Nat) (b lim d l pre : Nat) (items : List Nat) : nD (ownT h b lim d l pre items) = (passR h b lim l (d == 0) items).1.length := List.length_map _
theorem T_pos {h : Nat → Nat} {b lim : Nat} (hlim : 1 ≤ lim) {d l pre : Nat} {items : List Nat} (hne : items ≠ []) : 1 ≤ nD (T h b lim (d + 1) l pre items) := by
  obtain ⟨x, hx⟩ := List.exists_mem_of_ne_nil _ hne
  rw [← nD_keys]
  exact List.length_pos_of_mem (((T_D hlim d l pre items).2 x).mpr hx)
theorem T_P {h : Nat → Nat} {b lim : Nat} (hlim : 1 ≤ lim) : ∀ (d l pre : Nat) (items : List Nat), items ≠ [] → nP (T h b lim (d + 1) l pre items) ≤ nD (T h b lim (d + 1) l pre items) + gR b d 1 (nD (T h b lim (d + 1) l pre items)) := by
  intro d
  induction d with
  | zero =>
    intro l pre items hne
    have := T_pos (h := h) (b := b) hlim (d := 0) (l := l) (pre := pre) hne
    have e : nP (T h b lim (0 + 1) l pre items) = 1 := by rw [T_mu nP nP_app, kids_last hlim]; rfl
    omega
  | succ d ih =>
    intro l pre items hne
    have g : PI h b lim l (d + 1 == 0) items (passR h b lim l (d + 1 == 0) items) := PI.all hlim items
    have hpos := T_pos (h := h) (b := b) hlim (d := d + 1) (l := l) (pre := pre) hne
    by_cases hk : kidsP b (passR h b lim l (d + 1 == 0) items) = []
    · have e : nP (T h b lim (d + 1 + 1) l pre items) = 1 := by rw [T_mu nP nP_app, hk]; rfl
      omega
    · have hsp : (passR h b lim l (d + 1 == 0) items).2.1 ≠ [] := fun e => hk (kids_nil e)
      have h2 : 2 ≤ nD (T h b lim (d + 1 + 1) l pre items) := by
        obtain ⟨x, hx, y, hy, hxy⟩ := two_keys hlim items [] pass0 PI.zero (fun z => absurd rfl z) hsp
        rw [← nD_keys]
        exact two_len (((T_D hlim (d + 1) l pre items).2 x).mpr hx) (((T_D hlim (d + 1) l pre items).2 y).mpr hy) hxy
      have e1 : nP (T h b lim (d + 1 + 1) l pre items) = 1 + ((kidsP b (passR h b lim l (d + 1 == 0) items)).map (fun p => nP (kidT h b lim (d + 1) l pre items p))).sum := by rw [T_mu nP nP_app]; rfl
      have e2 : nD (T h b lim (d + 1 + 1) l pre items) = (passR h b lim l (d + 1 == 0) items).1.length + ((kidsP b (passR h b lim l (d + 1 == 0) items)).map (fun p => nD (kidT h b lim (d + 1) l pre items p))).sum := by rw [T_mu nD nD_app, nD_own]
      have h3 := sum_le (L := kidsP b (passR h b lim l (d + 1 == 0) items)) (f := fun p => nP (kidT h b lim (d + 1) l pre items p)) (g := fun p => nD (kidT h b lim (d + 1) l pre items p) + gR b d 1 (nD (kidT h b lim (d + 1) l pre items p))) (fun p hp => ih (l + 1) _ _ (kids_ne g hp))
      have h4 := gR_sum b d (fun p => nD (kidT h b lim (d + 1) l pre items p)) (kidsP b (passR h b lim l (d + 1 == 0) items))
      have h5 := gR_mono b d (kidsP b (passR h b lim l (d + 1 == 0) items)).length (1 * 2 ^ b) ((kidsP b (passR h b lim l (d + 1 == 0) items)).map (fun p => nD (kidT h b lim (d + 1) l pre items p))).sum (nD (T h b lim (d + 1 + 1) l pre items)) (by rw [Nat.one_mul]; exact kids_len b _) (by omega)
      show _ ≤ _ + (min 1 (nD (T h b lim (d + 1 + 1) l pre items) / 2) + gR b d (1 * 2 ^ b) (nD (T h b lim (d + 1 + 1) l pre items)))
      omega
theorem T_S {h : Nat → Nat} {b lim : Nat} (hlim : 1 ≤ lim) : ∀ (d l pre : Nat) (items : List Nat), nS (T h b lim (d + 1) l pre items) + 1 = nP (T h b lim (d + 1) l pre items) := by
  intro d
  induction d with
  | zero =>
    intro l pre items
    have g : PI h b lim l (0 == 0) items (passR h b lim l (0 == 0) items) := PI.all hlim items
    rw [T_mu nP nP_app, T_mu nS nS_app, kids_last hlim]
    show (List.map _ (passR h b lim l (0 == 0) items).2.1).length + 0 + 1 = 1 + 0
    rw [g.s10 rfl]; rfl
  | succ d ih =>
    intro l pre items
    have g : PI h b lim l (d + 1 == 0) items (passR h b lim l (d + 1 == 0) items) := PI.all hlim items
    have e1 : nP (T h b lim (d + 1 + 1) l pre items) = 1 + ((kidsP b (passR h b lim l (d + 1 == 0) items)).map (fun p => nP (kidT h b lim (d + 1) l pre items p))).sum := by rw [T_mu nP nP_app]; rfl
    have e2 : nS (T h b lim (d + 1 + 1) l pre items) = (passR h b lim l (d + 1 == 0) items).2.1.length + ((kidsP b (passR h b lim l (d + 1 == 0) items)).map (fun p => nS (kidT h b lim (d + 1) l pre items p))).sum := by
      rw [T_mu nS nS_app]
      show (List.map _ _).length + _ = _
      rw [List.length_map]
    have h3 : ∀ ps : List Nat, (ps.map (fun p => nS (kidT h b lim (d + 1) l pre items p))).sum + ps.length = (ps.map (fun p => nP (kidT h b lim (d + 1) l pre items p))).sum := by
      intro ps
      induction ps with
      | nil => rfl
      | cons p ps ihp =>
        have := ih (l + 1) (pre * 2 ^ b + p) ((passR h b lim l (d + 1 == 0) items).2.2.1 p)
        have this : nS (kidT h b lim (d + 1) l pre items p) + 1 = nP (kidT h b lim (d + 1) l pre items p) := this
        rw [List.map_cons, List.map_cons, List.sum_cons, List.sum_cons, List.length_cons]
        omega
    have := h3 (kidsP b (passR h b lim l (d + 1 == 0) items))
    have := spills_kids g
    omega
theorem T_O {h : Nat → Nat} {b lim : Nat} (hlim : 1 ≤ lim) : ∀ (d l pre : Nat) (items : List Nat), nO (T h b lim d l pre items) ≤ items.length * d := by
  intro d
  induction d with
  | zero => intro l pre items; exact Nat.zero_le _
  | succ d ih =>
    intro l pre items
    have g : PI h b lim l (d == 0) items (passR h b lim l (d == 0) items) := PI.all hlim items
    rw [T_mu nO nO_app]
    have h1 : nO (ownT h b lim d l pre items) ≤ items.length := by
      have e : nO (ownT h b lim d l pre items) = ((passR h b lim l (d == 0) items).2.1.map (fun q => q.2)).sum := by
        show ((List.map _ (List.map _ _))).sum = _
        rw [List.map_map]; rfl
      have := g.s12
      have := g.s7
      omega
    have h2 := sum_le (L := kidsP b (passR h b lim l (d == 0) items)) (f := fun p => nO (kidT h b lim d l pre items p)) (g := fun p => ((passR h b lim l (d == 0) items).2.2.1 p).length * d) (fun p _ => ih _ _ _)
    rw [sum_mul] at h2
    have h3 := kids_sum g
    have h4 := g.s7
    have h5 : ((kidsP b (passR h b lim l (d == 0) items)).map (fun p => ((passR h b lim l (d == 0) items).2.2.1 p).length)).sum * d ≤ items.length * d := Nat.mul_le_mul_right _ (by omega)
    rw [Nat.mul_succ]
    omega
theorem dep {b : Nat} (hb : 1 ≤ b ∧ b ≤ 4) : ∃ d, 16 / b = d + 1 ∧ 3 ≤ d ∧ d ≤ 15 ∧ (d + 1) * b ≤ 16 ∧ 100 + gR b d 1 100 ≤ 613 := by
  obtain ⟨h1, h4⟩ := hb
  have : b = 1 ∨ b = 2 ∨ b = 3 ∨ b = 4 := by omega
  rcases this with rfl | rfl | rfl | rfl
  · exact ⟨15, by decide⟩
  · exact ⟨7, by decide⟩
  · exact ⟨4, by decide⟩
  · exact ⟨3, by decide⟩
theorem run_bounds {a : AS} (ha : okS a) {lim b : Nat} (hlim : 1 ≤ lim) (hb : 1 ≤ b ∧ b ≤ 4) :
    nP (runT a lim b) ≤ 613 ∧ nS (runT a lim b) + 1 = nP (runT a lim b) ∧ (keysD (runT a lim b)).Nodup ∧ (∀ k, k ∈ keysD (runT a lim b) ↔ k ∈ ksOf a) ∧ nD (runT a lim b) ≤ 100 ∧ nO (runT a lim b) ≤ 1600 := by
  obtain ⟨d, e, hd3, hd15, -, hg⟩ := dep hb
  have hD := T_D (h := hsh a.2.2.2) (b := b) hlim d 0 0 (keysR a)
  have hO := T_O (h := hsh a.2.2.2) (b := b) hlim (d + 1) 0 0 (keysR a)
  have hS := T_S (h := hsh a.2.2.2) (b := b) hlim d 0 0 (keysR a)
  unfold runT
  rw [e]
  have h100 := ha.1
  have hnD : nD (T (hsh a.2.2.2) b lim (d + 1) 0 0 (keysR a)) ≤ 100 := by
    rw [← nD_keys]
    exact Nat.le_trans (nodup_len _ _ hD.1 (fun x hx => mem_ksOf.mpr ((hD.2 x).mp hx))) (ksOf_len ha)
  refine ⟨?_, hS, hD.1, fun k => (hD.2 k).trans mem_ksOf.symm, hnD, ?_⟩
  · by_cases hne : keysR a = []
    · rw [hne, T_mu nP nP_app]
      have : kidsP b (passR (hsh a.2.2.2) b lim 0 (d == 0) []) = [] := kids_nil rfl
      rw [this]
      exact (by decide : 1 + 0 ≤ 613)
    · have := T_P (h := hsh a.2.2.2) (b := b) hlim d 0 0 (keysR a) hne
      have := gR_mono b d 1 1 _ 100 (Nat.le_refl _) hnD
      omega
  · rw [keysR_len] at hO
    have : a.1.length * (d + 1) ≤ 100 * 16 := Nat.mul_le_mul h100 (by omega)
    omega
