/-! what both sides have in common: rows, settings, history, text -/
abbrev AR : Type := List (Nat × Int32)
abbrev AS : Type := AR × Nat × Nat × Nat
abbrev AT : Type := AS × List AS × List Nat
def rowR (r : Nat × Int32) : Row := upd (row1 (nI r.1)) 1 r.2
def okS (a : AS) : Prop := a.1.length ≤ 100 ∧ (∀ r ∈ a.1, r.1 ≤ 9999) ∧ (1 ≤ a.2.1 ∧ a.2.1 ≤ 12) ∧ (1 ≤ a.2.2.1 ∧ a.2.2.1 ≤ 4) ∧ (1 ≤ a.2.2.2 ∧ a.2.2.2 ≤ 65535)
def okT (st : AT) : Prop := okS st.1 ∧ st.2.1.length ≤ 4 ∧ (∀ x ∈ st.2.1, okS x) ∧ st.2.2.length ≤ 60 ∧ ∀ c ∈ st.2.2, 32 ≤ c ∧ c ≤ 126
def setR (a : AS) : List Row := [row1 (nI a.2.1), row1 (nI a.2.2.1), row1 (nI a.2.2.2)]
def StR (S : Mem) (s : Nat) (a : AS) : Prop := TW S (s + 1) (a.1.map rowR) ∧ TW S (s + 3) (setR a)
def pushH (h : List AS) (a : AS) : List AS := if h.length = 4 then h.drop 1 ++ [a] else h ++ [a]
/-- a change: the state ahead of it goes into the history -/
def chg (st : AT) (a : AS) : AT := (a, pushH st.2.1 st.1, st.2.2)
/-! hashes, parts, passes -/
def hsh (fac k : Nat) : Nat := (k * fac + 7919) % 65536
def prt (h : Nat → Nat) (b l k : Nat) : Nat := (h k / 2 ^ (16 - (l + 1) * b)) % 2 ^ b
/-- within a pass: memory, spills (part, groups out), files, written, peak, beyond -/
abbrev PS : Type := List Nat × List (Nat × Nat) × (Nat → List Nat) × Nat × Nat × Nat
def insK (k : Nat) : List Nat → List Nat
  | [] => [k]
  | x :: L => if x < k then x :: insK k L else k :: x :: L
def cntP (h : Nat → Nat) (b l : Nat) (L : List Nat) (p : Nat) : Nat := (L.filter (fun k => prt h b l k == p)).length
def bestP (h : Nat → Nat) (b l : Nat) (L : List Nat) : Nat := (List.range (2 ^ b)).foldl (fun best p => if cntP h b l L best < cntP h b l L p then p else best) 0
def layK (lim : Nat) (σ : PS) (k : Nat) : PS := (insK k σ.1, σ.2.1, σ.2.2.1, σ.2.2.2.1, max σ.2.2.2.2.1 (σ.1.length + 1), σ.2.2.2.2.2 + (if lim ≤ σ.1.length then 1 else 0))
def filK (σ : PS) (p k : Nat) : PS := (σ.1, σ.2.1, (fun q => if q = p then σ.2.2.1 p ++ [k] else σ.2.2.1 q), σ.2.2.2.1 + 1, σ.2.2.2.2.1, σ.2.2.2.2.2)
def spl (h : Nat → Nat) (b l : Nat) (σ : PS) : PS := (σ.1.filter (fun k => !(prt h b l k == bestP h b l σ.1)), σ.2.1 ++ [(bestP h b l σ.1, cntP h b l σ.1 (bestP h b l σ.1))], (fun q => if q = bestP h b l σ.1 then σ.2.2.1 q ++ σ.1.filter (fun k => prt h b l k == bestP h b l σ.1) else σ.2.2.1 q), σ.2.2.2.1 + cntP h b l σ.1 (bestP h b l σ.1), σ.2.2.2.2.1, σ.2.2.2.2.2)
def isSp (σ : PS) (p : Nat) : Bool := σ.2.1.any (fun q => q.1 == p)
def take1 (h : Nat → Nat) (b lim l : Nat) (last : Bool) (σ : PS) (k : Nat) : PS :=
  if isSp σ (prt h b l k) = true then filK σ (prt h b l k) k
  else if k ∈ σ.1 then σ
  else if lim ≤ σ.1.length ∧ last = false then
    (if isSp (spl h b l σ) (prt h b l k) = true then filK (spl h b l σ) (prt h b l k) k else layK lim (spl h b l σ) k)
  else layK lim σ k
def pass0 : PS := ([], [], (fun _ => []), 0, 0, 0)
def passR (h : Nat → Nat) (b lim l : Nat) (last : Bool) (items : List Nat) : PS := items.foldl (take1 h b lim l last) pass0
/-- a pass: level, prefix, taken, finished, parts spilled, written, peak -/
abbrev PR : Type := Nat × Nat × Nat × Nat × Nat × Nat × Nat
/-- a spill: level, prefix, part, groups out, items of its file -/
abbrev SR : Type := Nat × Nat × Nat × Nat × Nat
/-- a finished group: key, level, prefix -/
abbrev DR : Type := Nat × Nat × Nat
abbrev OUT : Type := List PR × List SR × List DR × Nat
def maskS (sp : List (Nat × Nat)) : Nat := sp.foldl (fun m q => m + 2 ^ q.1) 0
def recP (l pre n : Nat) (σ : PS) : PR := (l, pre, n, σ.1.length, maskS σ.2.1, σ.2.2.2.1, σ.2.2.2.2.1)
def recS (l pre : Nat) (σ : PS) : List SR := σ.2.1.map (fun q => (l, pre, q.1, q.2, (σ.2.2.1 q.1).length))
def recD (l pre : Nat) (σ : PS) : List DR := σ.1.map (fun k => (k, l, pre))
def kidsP (b : Nat) (σ : PS) : List Nat := (List.range (2 ^ b)).filter (isSp σ)
def appO (x y : OUT) : OUT := (x.1 ++ y.1, x.2.1 ++ y.2.1, x.2.2.1 ++ y.2.2.1, x.2.2.2 + y.2.2.2)
def nilO : OUT := ([], [], [], 0)
/-- all passes of a subtree -/
def T (h : Nat → Nat) (b lim : Nat) : Nat → Nat → Nat → List Nat → OUT
  | 0, _, _, _ => nilO
  | d + 1, l, pre, items =>
    ((kidsP b (passR h b lim l (d == 0) items)).map (fun p => T h b lim d (l + 1) (pre * 2 ^ b + p) ((passR h b lim l (d == 0) items).2.2.1 p))).foldl appO
      ([recP l pre items.length (passR h b lim l (d == 0) items)], recS l pre (passR h b lim l (d == 0) items), recD l pre (passR h b lim l (d == 0) items), (passR h b lim l (d == 0) items).2.2.2.2.2)
def keysR (a : AS) : List Nat := a.1.map (fun r => r.1)
def runT (a : AS) (lim b : Nat) : OUT := T (hsh a.2.2.2) b lim (16 / b) 0 0 (keysR a)
/-! groups -/
abbrev Agg : Type := Int32 × Int32 × Int32 × Int32
def mergeA (x y : Agg) : Agg := (x.1 + y.1, x.2.1 + y.2.1, (if y.2.2.1 < x.2.2.1 then y.2.2.1 else x.2.2.1), (if x.2.2.2 < y.2.2.2 then y.2.2.2 else x.2.2.2))
def oneA (v : Int32) : Agg := (1, v, v, v)
def aggs : List Agg → Agg
  | [] => (0, 0, 0, 0)
  | x :: L => L.foldl mergeA x
def aggK (a : AS) (k : Nat) : Agg := aggs ((a.1.filter (fun r => r.1 == k)).map (fun r => oneA r.2))
/-- the unlike keys, rising -/
def addK (L : List Nat) (k : Nat) : List Nat := if k ∈ L then L else insK k L
def ksOf (a : AS) : List Nat := (keysR a).foldl addK []
def factR (a : AS) (k : Nat) : Row := fun c => match c with
  | 0 => nI k
  | 1 => (aggK a k).1
  | 2 => (aggK a k).2.1
  | 3 => (aggK a k).2.2.1
  | 4 => (aggK a k).2.2.2
  | 5 => nI (hsh a.2.2.2 k)
  | _ => 0
def idx (a : AS) (k : Nat) : Nat := (ksOf a).idxOf k
def prR (i : Nat) (r : PR) : Row := fun c => match c with
  | 0 => nI r.2.2.1
  | 1 => nI r.2.2.2.1
  | 2 => nI r.2.2.2.2.1
  | 3 => nI r.2.2.2.2.2.1
  | 4 => nI r.2.2.2.2.2.2
  | 5 => nI i
  | 6 => nI r.1
  | 7 => nI r.2.1
  | _ => 0
def srR (r : SR) : Row := fun c => match c with
  | 0 => nI r.1
  | 1 => nI r.2.1
  | 2 => nI r.2.2.1
  | 3 => nI r.2.2.2.1
  | 4 => nI r.2.2.2.2
  | _ => 0
/-- the class's groups -/
def GrOK (S : Mem) (a : AS) : Prop := TW S 29 ((ksOf a).map (factR a)) ∧ TW S 31 (a.1.map (fun r => row1 (nI (idx a r.1))))
/-- the class's passes by a limit and bits -/
def RunIs (S : Mem) (a : AS) (lim b : Nat) : Prop :=
  TW S 34 ((runT a lim b).1.mapIdx prR) ∧ TW S 36 ((runT a lim b).2.1.map srR) ∧ TW S 40 ((runT a lim b).2.2.1.map (fun d => row1 (nI (idx a d.1)))) ∧
  (∃ E : List Row, TW S 38 E ∧ ∀ i d, (runT a lim b).2.2.1[i]? = some d → (E.getD (idx a d.1) row0) 0 = nI d.2.1 ∧ (E.getD (idx a d.1) row0) 1 = nI d.2.2 ∧ (E.getD (idx a d.1) row0) 2 = nI i) ∧
  S 33 8 = nI (runT a lim b).2.2.2
def RunOK (S : Mem) (a : AS) : Prop := ∃ lim b, (1 ≤ lim ∧ lim ≤ 12) ∧ (1 ≤ b ∧ b ≤ 4) ∧ S 33 9 = nI lim ∧ S 33 10 = nI b ∧ RunIs S a lim b
def CA (S : Mem) (a : AS) : Prop := S 0 4 = 1 ∨ (S 0 4 = 0 ∧ GrOK S a ∧ (S 33 9 = 0 ∨ RunOK S a))
def Sh (S : Mem) : Prop := ∀ t ∈ tabs, ∃ L, TW S t L ∧ (t = 42 → L = [])
def HiR (S : Mem) (h : List AS) : Prop := ∃ o, o < 4 ∧ S 6 1 = nI o ∧ S 6 2 = nI h.length ∧ ∀ k a, h[k]? = some a → StR S (8 + 5 * ((o + k) % 4)) a
/-- the class's memory holds st -/
def CI (S : Mem) (st : AT) : Prop := okT st ∧ Sh S ∧ StR S 1 st.1 ∧ HiR S st.2.1 ∧ TW S 49 (st.2.2.map (fun c => row1 (nI c))) ∧ CA S st.1
def AllIs (f : Nat → Int32) (a : AS) : Prop := f 0 = nI a.1.length ∧ f 1 = nI a.2.1 ∧ f 2 = nI a.2.2.1 ∧ f 3 = nI a.2.2.2 ∧ ∀ k r, a.1[k]? = some r → f (4 + k) = nI r.1 ∧ f (104 + k) = r.2
/-- the reference's memory holds st -/
def MI (S : Mem) (st : AT) : Prop := okT st ∧ AllIs (S 54) st.1 ∧ S 53 2 = nI st.2.1.length ∧ (∀ k a, st.2.1[k]? = some a → AllIs (fun j => S 55 (204 * k + j)) a) ∧ S 53 22 = nI st.2.2.length ∧ (∀ k c, st.2.2[k]? = some c → S 65 k = nI c) ∧ S 53 6 = 0
def Inv (S : Mem) : Prop := ∃ st, CI S st ∧ MI S st
def FrC (S S' : Mem) : Prop := ∀ i, 53 ≤ i → S' i = S i
def FrM (S S' : Mem) : Prop := ∀ i, i < 53 → S' i = S i
/-! frames -/
theorem TW.fr2 {S S' : Mem} {t u : Nat} {L : List Row} (h : TW S t L) (f : Fr S S' u) (h1 : t ≠ u) (h2 : t ≠ u + 1) (h3 : t + 1 ≠ u) : TW S' t L := h.fr (f t h1 h2) (f (t + 1) h3 (by omega))
theorem tabs_apart {t u : Nat} (ht : t ∈ tabs) (hu : u ∈ tabs) (h : t ≠ u) : t ≠ u + 1 ∧ t + 1 ≠ u := by
  have key : ∀ x ∈ tabs, ∀ y ∈ tabs, x ≠ y → x ≠ y + 1 ∧ x + 1 ≠ y := by decide
  exact key t ht u hu h
theorem tabs_lt53 {t : Nat} (ht : t ∈ tabs) : t + 1 < 53 := by
  have key : ∀ x ∈ tabs, x + 1 < 53 := by decide
  exact key t ht
theorem Sh.one {S S' : Mem} {t : Nat} {L : List Row} (h : Sh S) (ht : t ∈ tabs) (hL : TW S' t L) (f : Fr S S' t) (hx : t = 42 → L = [] := by intro z; exact absurd z (by decide)) : Sh S' := by
  intro u hu
  by_cases e : u = t
  · subst e; exact ⟨L, hL, hx⟩
  · obtain ⟨M, hM⟩ := h u hu
    obtain ⟨a, b⟩ := tabs_apart hu ht e
    exact ⟨M, hM.1.fr2 f e a b, hM.2⟩
theorem Sh.eq {S S' : Mem} (h : Sh S) (f : ∀ t ∈ tabs, S' t = S t ∧ S' (t + 1) = S (t + 1)) : Sh S' := fun t ht => by
  obtain ⟨L, hL⟩ := h t ht
  exact ⟨L, hL.1.fr (f t ht).1 (f t ht).2, hL.2⟩
theorem Fr.frC {S S' : Mem} {t : Nat} (ht : t ∈ tabs) (f : Fr S S' t) : FrC S S' := fun i hi => by
  have := tabs_lt53 ht
  exact f i (by omega) (by omega)
theorem FrC.trans {S S1 S2 : Mem} (h1 : FrC S S1) (h2 : FrC S1 S2) : FrC S S2 := fun i hi => (h2 i hi).trans (h1 i hi)
theorem FrM.trans {S S1 S2 : Mem} (h1 : FrM S S1) (h2 : FrM S1 S2) : FrM S S2 := fun i hi => (h2 i hi).trans (h1 i hi)
theorem FrC.rf (S : Mem) : FrC S S := fun _ _ => rfl
theorem FrM.rf (S : Mem) : FrM S S := fun _ _ => rfl
theorem StR.eq {S S' : Mem} {s : Nat} {a : AS} (h : StR S s a) (f : ∀ i, s + 1 ≤ i → i ≤ s + 4 → S' i = S i) : StR S' s a := ⟨h.1.fr (f _ (by omega) (by omega)) (f _ (by omega) (by omega)), h.2.fr (f _ (by omega) (by omega)) (f _ (by omega) (by omega))⟩
theorem HiR.eq {S S' : Mem} {h : List AS} (hh : HiR S h) (f : ∀ i, 6 ≤ i → i ≤ 27 → S' i = S i) : HiR S' h := by
  obtain ⟨o, h1, h2, h3, h4⟩ := hh
  refine ⟨o, h1, by rw [f 6 (by omega) (by omega)]; exact h2, by rw [f 6 (by omega) (by omega)]; exact h3, fun k a ha => (h4 k a ha).eq fun i hi hj => ?_⟩
  have := Nat.mod_lt (o + k) (show 0 < 4 by omega)
  exact f i (by omega) (by omega)
theorem GrOK.eq {S S' : Mem} {a : AS} (h : GrOK S a) (f : ∀ i, 28 ≤ i → i ≤ 47 → S' i = S i) : GrOK S' a := ⟨h.1.fr (f _ (by omega) (by omega)) (f _ (by omega) (by omega)), h.2.fr (f _ (by omega) (by omega)) (f _ (by omega) (by omega))⟩
theorem RunIs.eq {S S' : Mem} {a : AS} {lim b : Nat} (h : RunIs S a lim b) (f : ∀ i, 28 ≤ i → i ≤ 47 → S' i = S i) : RunIs S' a lim b := by
  obtain ⟨h1, h2, h3, ⟨E, h4, h5⟩, h6⟩ := h
  exact ⟨h1.fr (f _ (by omega) (by omega)) (f _ (by omega) (by omega)), h2.fr (f _ (by omega) (by omega)) (f _ (by omega) (by omega)), h3.fr (f _ (by omega) (by omega)) (f _ (by omega) (by omega)), ⟨E, h4.fr (f _ (by omega) (by omega)) (f _ (by omega) (by omega)), h5⟩, by rw [f 33 (by omega) (by omega)]; exact h6⟩
theorem CA.eq {S S' : Mem} {a : AS} (h : CA S a) (f0 : S' 0 = S 0) (f : ∀ i, 28 ≤ i → i ≤ 47 → S' i = S i) : CA S' a := by
  have f33 := f 33 (by omega) (by omega)
  rcases h with h | ⟨h1, h2, h3⟩
  · exact Or.inl (by rw [f0]; exact h)
  · refine Or.inr ⟨by rw [f0]; exact h1, h2.eq f, ?_⟩
    rcases h3 with h3 | ⟨lim, b, g1, g2, g3, g4, g5⟩
    · exact Or.inl (by rw [f33]; exact h3)
    · exact Or.inr ⟨lim, b, g1, g2, by rw [f33]; exact g3, by rw [f33]; exact g4, g5.eq f⟩
theorem CI.frM {S S' : Mem} {st : AT} (h : CI S st) (f : FrM S S') : CI S' st := by
  obtain ⟨h1, h2, h3, h4, h5, h6⟩ := h
  refine ⟨h1, h2.eq fun t ht => ⟨f _ ?_, f _ ?_⟩, h3.eq fun i _ _ => f i (by omega), h4.eq fun i _ _ => f i (by omega), h5.fr (f _ (by omega)) (f _ (by omega)), h6.eq (f _ (by omega)) fun i _ _ => f i (by omega)⟩ <;> have := tabs_lt53 ht <;> omega
theorem AllIs.eq {f g : Nat → Int32} {a : AS} (h : AllIs f a) (ha : a.1.length ≤ 100) (e : ∀ j, j < 204 → g j = f j) : AllIs g a := by
  obtain ⟨h1, h2, h3, h4, h5⟩ := h
  refine ⟨by rw [e _ (by omega)]; exact h1, by rw [e _ (by omega)]; exact h2, by rw [e _ (by omega)]; exact h3, by rw [e _ (by omega)]; exact h4, fun k r hr => ?_⟩
  have := (List.getElem?_eq_some_iff.mp hr).1
  rw [e _ (by omega), e _ (by omega)]
  exact h5 k r hr
theorem MI.frC {S S' : Mem} {st : AT} (h : MI S st) (f : FrC S S') : MI S' st := by
  obtain ⟨h1, h2, h3, h4, h5, h6, h7⟩ := h
  exact ⟨h1, by rw [f _ (by omega)]; exact h2, by rw [f _ (by omega)]; exact h3, by rw [f 55 (by omega)]; exact h4, by rw [f _ (by omega)]; exact h5, by rw [f 65 (by omega)]; exact h6, by rw [f _ (by omega)]; exact h7⟩
theorem upd_row1 (x v : Int32) : upd (row1 x) 0 v = row1 v := by
  funext c
  by_cases h : c = 0
  · subst h; rfl
  · simp [upd, row1, h]
/-- the literals as numbers -/
theorem li (n : Nat) : (@OfNat.ofNat Int32 n Int32.instOfNat) = nI n := rfl
