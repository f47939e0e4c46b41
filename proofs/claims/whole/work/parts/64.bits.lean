/-! masks of parts; rows of passes and spills -/
theorem add_or {m q : Nat} (hm : m < 65536) (hq : q < 16) (h : m.testBit q = false) : m + 2 ^ q = m ||| 2 ^ q := by
  have h2 : 2 ^ q ≤ 65536 := pow_le16 (by omega)
  have e : BitVec.ofNat 32 m &&& BitVec.ofNat 32 (2 ^ q) = 0#32 := by
    apply BitVec.eq_of_toNat_eq
    rw [BitVec.toNat_and, BitVec.toNat_ofNat, BitVec.toNat_ofNat, Nat.mod_eq_of_lt (show m < 2 ^ 32 by omega), Nat.mod_eq_of_lt (show 2 ^ q < 2 ^ 32 by omega)]
    apply Nat.eq_of_testBit_eq
    intro i
    rw [Nat.testBit_and, Nat.testBit_two_pow]
    by_cases e : q = i
    · subst e; rw [h]; simp
    · simp [e]
  have e2 := congrArg BitVec.toNat (BitVec.add_eq_or_of_and_eq_zero _ _ e)
  rw [BitVec.toNat_add, BitVec.toNat_or, BitVec.toNat_ofNat, BitVec.toNat_ofNat, Nat.mod_eq_of_lt (show m < 2 ^ 32 by omega), Nat.mod_eq_of_lt (show 2 ^ q < 2 ^ 32 by omega), Nat.mod_eq_of_lt (by omega)] at e2
  exact e2
theorem maskS_app (sp : List (Nat × Nat)) (q : Nat × Nat) : maskS (sp ++ [q]) = maskS sp + 2 ^ q.1 := by
  unfold maskS
  rw [List.foldl_append]; rfl
theorem mask_bits : ∀ (n : Nat) (sp : List (Nat × Nat)), sp.length = n → (sp.map (fun q => q.1)).Nodup → (∀ q ∈ sp, q.1 < 16) → maskS sp < 65536 ∧ ∀ p, (maskS sp).testBit p = sp.any (fun q => q.1 == p)
  | 0, sp, h, _, _ => by
    have : sp = [] := List.length_eq_zero_iff.mp h
    subst this
    exact ⟨by decide, fun p => Nat.zero_testBit p⟩
  | n + 1, sp, h, hn, hl => by
    have hne : sp ≠ [] := fun e => by rw [e] at h; cases h
    obtain ⟨L, q, rfl⟩ : ∃ L q, sp = L ++ [q] := ⟨sp.dropLast, sp.getLast hne, (List.dropLast_concat_getLast hne).symm⟩
    rw [List.length_append, List.length_singleton] at h
    rw [List.map_append, List.nodup_append] at hn
    obtain ⟨h1, -, h3⟩ := hn
    obtain ⟨r1, r2⟩ := mask_bits n L (by omega) h1 (fun x hx => hl x (List.mem_append_left _ hx))
    have hq : q.1 < 16 := hl q (List.mem_append_right _ (by simp))
    have hb : (maskS L).testBit q.1 = false := by
      rw [r2]
      cases hc : L.any (fun x => x.1 == q.1) with
      | false => rfl
      | true =>
        obtain ⟨x, hx, e⟩ := List.any_eq_true.mp hc
        exact absurd (by simpa using e) (h3 x.1 (List.mem_map.mpr ⟨x, hx, rfl⟩) q.1 (by simp))
    rw [maskS_app, add_or r1 hq hb]
    refine ⟨Nat.or_lt_two_pow (n := 16) r1 (Nat.pow_lt_pow_right (by omega) hq), fun p => ?_⟩
    rw [Nat.testBit_or, r2, List.any_append, Nat.testBit_two_pow]
    have e : [q].any (fun q => q.1 == p) = decide (q.1 = p) := by
      by_cases c : q.1 = p <;> simp [c]
    rw [e]
theorem mask_PI {h : Nat → Nat} {b lim l : Nat} {last : Bool} {its : List Nat} {σ : PS} (g : PI h b lim l last its σ) (hb : b ≤ 4) : maskS σ.2.1 < 65536 ∧ ∀ p, (maskS σ.2.1).testBit p = isSp σ p := by
  have h16 : 2 ^ b ≤ 16 := Nat.pow_le_pow_right (n := 2) (by omega) hb
  exact mask_bits _ σ.2.1 rfl g.s5.1 (fun q hq => by have := g.s5.2 q hq; omega)
theorem sh31 : ∀ m, m < 17 → ((nI m &&& 31).toBitVec.smod 32).toNat = m := by decide
theorem bit_test {m p : Nat} (hm : m < 65536) (hp : p < 16) : (nI m >>> (nI p &&& 31)) &&& (1 : Int32) = (1 : Int32) ↔ m.testBit p = true := by
  have e1 : nI m >>> (nI p &&& 31) = nI (m / 2 ^ p) := pk_shrN (by omega) _ p (sh31 p (by omega))
  have hle : m / 2 ^ p ≤ m := Nat.div_le_self _ _
  have e2 : nI (m / 2 ^ p) &&& (1 : Int32) = nI (m / 2 ^ p % 2) := pk_andN (m := 1) (by omega) 1 (by decide)
  rw [e1, e2, Nat.testBit_eq_decide_div_mod_eq, decide_eq_true_iff]
  exact nI_eq (b := 1) (by omega) (by omega)
theorem shl1 {p : Nat} (hp : p < 17) : (1 : Int32) <<< (nI p &&& 31) = nI (2 ^ p) := by
  have := pk_shlN (n := 1) (nI p &&& 31) p (sh31 p hp) (by have := pow_le16 (k := p) (by omega); omega)
  rw [Nat.one_mul] at this
  exact this
theorem pow_b {b : Nat} (hb : 1 ≤ b ∧ b ≤ 4) : 2 ≤ 2 ^ b ∧ 2 ^ b ≤ 16 := ⟨by have := Nat.pow_le_pow_right (n := 2) (by omega) hb.1; omega, Nat.pow_le_pow_right (n := 2) (by omega) hb.2⟩
theorem set_last {α : Type} (L : List α) (r x : α) : (L ++ [r]).set L.length x = L ++ [x] := by
  induction L with
  | nil => rfl
  | cons y L ih => rw [List.cons_append, List.length_cons, List.set_cons_succ, ih, List.cons_append]
theorem getD_last (L : List Row) (r : Row) : (L ++ [r]).getD L.length row0 = r := by
  rw [List.getD_eq_getElem?_getD, List.getElem?_append_right (Nat.le_refl _), Nat.sub_self]; rfl
theorem prR_u0 (P l pre n f m w k n' : Nat) : upd (prR P (l, pre, n, f, m, w, k)) 0 (nI n') = prR P (l, pre, n', f, m, w, k) := by
  funext c
  match c with
  | 0 => rfl
  | 1 => rfl
  | 2 => rfl
  | 3 => rfl
  | 4 => rfl
  | 5 => rfl
  | 6 => rfl
  | 7 => rfl
  | c + 8 => exact upd_ne _ _ (by omega)
theorem prR_u1 (P l pre n f m w k n' : Nat) : upd (prR P (l, pre, n, f, m, w, k)) 1 (nI n') = prR P (l, pre, n, n', m, w, k) := by
  funext c
  match c with
  | 0 => rfl
  | 1 => rfl
  | 2 => rfl
  | 3 => rfl
  | 4 => rfl
  | 5 => rfl
  | 6 => rfl
  | 7 => rfl
  | c + 8 => exact upd_ne _ _ (by omega)
theorem prR_u2 (P l pre n f m w k n' : Nat) : upd (prR P (l, pre, n, f, m, w, k)) 2 (nI n') = prR P (l, pre, n, f, n', w, k) := by
  funext c
  match c with
  | 0 => rfl
  | 1 => rfl
  | 2 => rfl
  | 3 => rfl
  | 4 => rfl
  | 5 => rfl
  | 6 => rfl
  | 7 => rfl
  | c + 8 => exact upd_ne _ _ (by omega)
theorem prR_u3 (P l pre n f m w k n' : Nat) : upd (prR P (l, pre, n, f, m, w, k)) 3 (nI n') = prR P (l, pre, n, f, m, n', k) := by
  funext c
  match c with
  | 0 => rfl
  | 1 => rfl
  | 2 => rfl
  | 3 => rfl
  | 4 => rfl
  | 5 => rfl
  | 6 => rfl
  | 7 => rfl
  | c + 8 => exact upd_ne _ _ (by omega)
theorem prR_u4 (P l pre n f m w k n' : Nat) : upd (prR P (l, pre, n, f, m, w, k)) 4 (nI n') = prR P (l, pre, n, f, m, w, n') := by
  funext c
  match c with
  | 0 => rfl
  | 1 => rfl
  | 2 => rfl
  | 3 => rfl
  | 4 => rfl
  | 5 => rfl
  | 6 => rfl
  | 7 => rfl
  | c + 8 => exact upd_ne _ _ (by omega)
theorem prR_new (P l pre : Nat) : upd (upd (upd (row1 (0 : Int32)) 5 (nI P)) 6 (nI l)) 7 (nI pre) = prR P (l, pre, 0, 0, 0, 0, 0) := by
  funext c
  match c with
  | 0 => rfl
  | 1 => rfl
  | 2 => rfl
  | 3 => rfl
  | 4 => rfl
  | 5 => rfl
  | 6 => rfl
  | 7 => rfl
  | c + 8 =>
    rw [upd_ne _ _ (by omega), upd_ne _ _ (by omega), upd_ne _ _ (by omega)]
    exact if_neg (by omega)
theorem srR_new (l pre p o f : Nat) : upd (upd (upd (upd (row1 (nI l)) 1 (nI pre)) 2 (nI p)) 3 (nI o)) 4 (nI f) = srR (l, pre, p, o, f) := by
  funext c
  match c with
  | 0 => rfl
  | 1 => rfl
  | 2 => rfl
  | 3 => rfl
  | 4 => rfl
  | c + 5 =>
    rw [upd_ne _ _ (by omega), upd_ne _ _ (by omega), upd_ne _ _ (by omega), upd_ne _ _ (by omega)]
    exact if_neg (by omega)
theorem srR_u4 (l pre p o f f' : Nat) : upd (srR (l, pre, p, o, f)) 4 (nI f') = srR (l, pre, p, o, f') := by
  funext c
  match c with
  | 0 => rfl
  | 1 => rfl
  | 2 => rfl
  | 3 => rfl
  | 4 => rfl
  | c + 5 => exact upd_ne _ _ (by omega)
theorem cnt_insK (h : Nat → Nat) (b l k p : Nat) : ∀ L : List Nat, cntP h b l (insK k L) p = cntP h b l L p + (if prt h b l k = p then 1 else 0)
  | [] => by
    unfold cntP insK
    by_cases e : prt h b l k = p
    · rw [if_pos e]; simp [e]
    · rw [if_neg e]; simp [e]
  | x :: L => by
    have ih := cnt_insK h b l k p L
    unfold cntP at ih
    unfold cntP insK
    split
    · rw [List.filter_cons, List.filter_cons]
      split
      · rw [List.length_cons, List.length_cons, ih]; omega
      · exact ih
    · rw [List.filter_cons]
      by_cases e : prt h b l k = p
      · rw [if_pos e, if_pos (by simp [e]), List.length_cons]
      · rw [if_neg e, if_neg (by simp [e])]; rfl
theorem cnt_out (h : Nat → Nat) (b l : Nat) (L : List Nat) (q p : Nat) : cntP h b l (L.filter (fun k => !(prt h b l k == q))) p = if p = q then 0 else cntP h b l L p := by
  unfold cntP
  rw [List.filter_filter]
  split
  · rename_i e
    subst e
    rw [List.filter_eq_nil_iff.mpr (fun x _ => by cases (prt h b l x == p) <;> simp)]
    rfl
  · rename_i e
    congr 1
    refine List.filter_congr fun x _ => ?_
    by_cases e2 : prt h b l x = p
    · have : ¬ prt h b l x = q := fun c => e (by omega)
      simp [e2, e]
    · simp [e2]
theorem cnt_le (h : Nat → Nat) (b l : Nat) (L : List Nat) (p : Nat) : cntP h b l L p ≤ L.length := List.length_filter_le _ _
