/-! tables as lists of rows -/
abbrev Row : Type := Nat → Int32
def row0 : Row := fun _ => 0
def row1 (v : Int32) : Row := fun c => if c = 0 then v else 0
def TW (S : Mem) (t : Nat) (L : List Row) : Prop := S t 3 = nI L.length ∧ L.length ≤ tRn t ∧ ∀ k c, k < L.length → c < tWn t → S (t + 1) (k * tWn t + c) = (L.getD k row0) c
def Fr (S S' : Mem) (t : Nat) : Prop := ∀ i, i ≠ t → i ≠ t + 1 → S' i = S i
theorem tdim {t : Nat} (h : t ∈ tabs) : 1 ≤ tWn t ∧ tWn t ≤ 8 ∧ 1 ≤ tRn t ∧ tRn t ≤ 1600 ∧ tRn t * tWn t ≤ 4904 := by
  simp only [tabs, List.mem_cons, List.not_mem_nil, or_false] at h
  rcases h with rfl | rfl | rfl | rfl | rfl | rfl | rfl | rfl | rfl | rfl | rfl | rfl | rfl | rfl | rfl | rfl | rfl | rfl | rfl | rfl | rfl <;> decide
theorem row_lt {k n w c R : Nat} (hk : k < n) (hn : n ≤ R) (hc : c < w) : k * w + c < R * w := by
  have h1 : (k + 1) * w ≤ R * w := Nat.mul_le_mul_right w (by omega)
  rw [Nat.add_mul, Nat.one_mul] at h1
  omega
theorem row_inj {k1 k2 w c1 c2 : Nat} (h1 : c1 < w) (h2 : c2 < w) (e : k1 * w + c1 = k2 * w + c2) : k1 = k2 ∧ c1 = c2 := by
  have hw : 0 < w := by omega
  have e1 : (k1 * w + c1) / w = k1 := by rw [Nat.mul_comm, Nat.mul_add_div hw, Nat.div_eq_of_lt h1]; rfl
  have e2 : (k2 * w + c2) / w = k2 := by rw [Nat.mul_comm, Nat.mul_add_div hw, Nat.div_eq_of_lt h2]; rfl
  have e3 : k1 = k2 := by rw [← e1, e, e2]
  subst e3
  exact ⟨rfl, by omega⟩
theorem TW.len {S : Mem} {t : Nat} {L : List Row} (h : TW S t L) : S t 3 = nI L.length := h.1
theorem TW.le {S : Mem} {t : Nat} {L : List Row} (h : TW S t L) : L.length ≤ tRn t := h.2.1
theorem TW.fr {S S' : Mem} {t : Nat} {L : List Row} (h : TW S t L) (h1 : S' t = S t) (h2 : S' (t + 1) = S (t + 1)) : TW S' t L := ⟨by rw [h1]; exact h.1, h.2.1, fun k c hk hc => by rw [h2]; exact h.2.2 k c hk hc⟩
theorem mset_fr (S : Mem) (t : Nat) (f : Nat → Int32) : Fr S (mset S (t + 1) f) t := fun i _ h => mset_ne S f h
theorem Fr.trans {S S1 S2 : Mem} {t : Nat} (h1 : Fr S S1 t) (h2 : Fr S1 S2 t) : Fr S S2 t := fun i a b => (h2 i a b).trans (h1 i a b)
theorem Fr.put3 (S : Mem) (t k : Nat) (v : Int32) : Fr S (mput S t k v) t := fun i h _ => mset_ne S _ h
theorem Fr.put4 (S : Mem) (t k : Nat) (v : Int32) : Fr S (mput S (t + 1) k v) t := fun i _ h => mset_ne S _ h
theorem mput_at (S : Mem) (a j : Nat) (v : Int32) : mput S a j v a = upd (S a) j v := mset_at S a _
theorem mput_ne (S : Mem) {a i : Nat} (j : Nat) (v : Int32) (h : i ≠ a) : mput S a j v i = S i := mset_ne S _ h
theorem upd_at (f : Nat → Int32) (k : Nat) (x : Int32) : upd f k x k = x := if_pos rfl
theorem upd_ne (f : Nat → Int32) {k j : Nat} (x : Int32) (h : j ≠ k) : upd f k x j = f j := if_neg h
theorem t_length {t : Nat} {S : Mem} {L : List Row} (h : TW S t L) {K : Int32 → Mem → Prop} (k : K (nI L.length) S) : P_X4_length t S K := by
  unfold P_X4_length
  rw [h.1]
  exact k
theorem t_at {t : Nat} {S : Mem} {L : List Row} (ht : t ∈ tabs) (h : TW S t L) {r c : Nat} (hr : r < 2 ^ 31) (hc : c < tWn t) {K : Int32 → Mem → Prop} (k : K ((L.getD r row0) c) S) : P_X4_at t S (nI r) (nI c) K := by
  obtain ⟨h1, h2, h3⟩ := h
  have d := tdim ht
  unfold P_X4_at
  have e : nI r * nI (tWn t) + nI c = nI (r * tWn t + c) := by rw [pk_mul, nI_add]
  refine ⟨fun q => absurd q (nI_pos hr), fun _ => ⟨fun q => ?_, fun q => ⟨fun q => absurd q (nI_pos (by omega)), fun _ => ⟨fun _ => ?_, fun q => absurd ((nI_ltI (by omega) (by omega)).mpr hc) q⟩⟩⟩⟩
  · rw [h1] at q
    have := (nI_leI (by omega) hr).mp q
    rw [List.getD_eq_getElem?_getD, List.getElem?_eq_none this] at k
    exact k
  · rw [h1] at q
    have hlt : r < L.length := Nat.not_le.mp fun z => q ((nI_leI (by omega) hr).mpr z)
    have := row_lt hlt h2 hc
    rw [e, nI_clamp (by omega), h3 r c hlt hc]
    exact ⟨vp_in_nI this (by omega), k⟩
theorem TW.put {t : Nat} {S : Mem} {L : List Row} (h : TW S t L) {r c : Nat} (hr : r < L.length) (hc : c < tWn t) (v : Int32) : TW (mput S (t + 1) (r * tWn t + c) v) t (L.set r (upd (L.getD r row0) c v)) := by
  obtain ⟨h1, h2, h3⟩ := h
  refine ⟨by rw [mput_ne _ _ _ (by omega), List.length_set]; exact h1, by rw [List.length_set]; exact h2, fun k c' hk hc' => ?_⟩
  rw [List.length_set] at hk
  rw [mput_at]
  by_cases e : k * tWn t + c' = r * tWn t + c
  · obtain ⟨rfl, rfl⟩ := row_inj hc' hc e
    rw [upd_at, List.getD_eq_getElem?_getD, List.getElem?_set_self hr]
    simp [upd]
  · rw [upd_ne _ _ e, h3 k c' hk hc']
    by_cases hkr : k = r
    · subst hkr
      have : c' ≠ c := fun z => e (by rw [z])
      rw [List.getD_eq_getElem?_getD (l := L.set k _), List.getElem?_set_self hr]
      simp [upd, this]
    · rw [List.getD_eq_getElem?_getD (l := L.set r _), List.getElem?_set_ne (fun z => hkr z.symm), ← List.getD_eq_getElem?_getD]
theorem t_put {t : Nat} {S : Mem} {L : List Row} (ht : t ∈ tabs) (h : TW S t L) {r c : Nat} (hr : r < L.length) (hc : c < tWn t) {v : Int32} {K : Mem → Prop} (k : ∀ S', TW S' t (L.set r (upd (L.getD r row0) c v)) → Fr S S' t → K S') : P_X4_put t S (nI r) (nI c) v K := by
  have d := tdim ht
  have hh := h
  obtain ⟨h1, h2, h3⟩ := h
  unfold P_X4_put
  have e : nI r * nI (tWn t) + nI c = nI (r * tWn t + c) := by rw [pk_mul, nI_add]
  have := row_lt hr h2 hc
  refine ⟨fun q => absurd q (nI_pos (by omega)), fun _ => ⟨fun q => ?_, fun _ => ⟨fun q => absurd q (nI_pos (by omega)), fun _ => ⟨fun q => ?_, fun _ => ?_⟩⟩⟩⟩
  · rw [h1] at q
    exact absurd ((nI_leI (by omega) (by omega)).mp q) (by omega)
  · exact absurd ((nI_leI (by omega) (by omega)).mp q) (by omega)
  · rw [e, nI_clamp (by omega)]
    exact ⟨vp_in_nI this (by omega), fun S1 hS1 => hS1 ▸ k _ (hh.put hr hc v) (Fr.put4 _ _ _ _)⟩
theorem t_raise {t : Nat} {S : Mem} {L : List Row} (ht : t ∈ tabs) (h : TW S t L) {r c : Nat} (hr : r < L.length) (hc : c < tWn t) {v : Int32} {K : Mem → Prop} (k : ∀ S', TW S' t (L.set r (upd (L.getD r row0) c ((L.getD r row0) c + v))) → Fr S S' t → K S') : P_X4_raise t S (nI r) (nI c) v K := by
  have d := tdim ht
  have hh := h
  obtain ⟨h1, h2, h3⟩ := h
  unfold P_X4_raise
  have e : nI r * nI (tWn t) + nI c = nI (r * tWn t + c) := by rw [pk_mul, nI_add]
  have := row_lt hr h2 hc
  refine ⟨fun q => absurd q (nI_pos (by omega)), fun _ => ⟨fun q => ?_, fun _ => ⟨fun q => absurd q (nI_pos (by omega)), fun _ => ⟨fun q => ?_, fun _ => ?_⟩⟩⟩⟩
  · rw [h1] at q
    exact absurd ((nI_leI (by omega) (by omega)).mp q) (by omega)
  · exact absurd ((nI_leI (by omega) (by omega)).mp q) (by omega)
  · rw [e, nI_clamp (by omega), h3 r c hr hc]
    exact ⟨vp_in_nI this (by omega), vp_in_nI this (by omega), fun S1 hS1 => hS1 ▸ k _ (hh.put hr hc _) (Fr.put4 _ _ _ _)⟩
/-! Arrays.fill -/
def xfill (f : Nat → Int32) (a b : Nat) (v : Int32) : Nat → Int32 := fun j => if a ≤ j ∧ j < b then v else f j
theorem fill_loop {t : Nat} (ht : t ∈ tabs) {K : Mem → Prop} {v : Int32} {b : Nat} (hb : b ≤ tRn t * tWn t) : ∀ (n i : Nat) (S : Mem), i ≤ b → b - i < n → K (mset S (t + 1) (xfill (S (t + 1)) i b v)) → B_J7_fill_fda19_10 t K n S (nI b) v (nI i) := by
  have d := tdim ht
  intro n
  induction n with
  | zero => intro i S _ h; omega
  | succ n ih =>
    intro i S hi hn hK
    refine ⟨fun q => ?_, fun q => ?_⟩
    · have hq := (nI_leI (by omega) (by omega)).mp q
      have e : i = b := by omega
      subst e
      have : mset S (t + 1) (xfill (S (t + 1)) i i v) = S := by
        funext a
        by_cases ha : a = t + 1
        · subst ha
          rw [mset_at]
          funext j
          simp only [xfill]
          rw [if_neg (by omega)]
        · rw [mset_ne _ _ ha]
      rw [this] at hK
      exact hK
    · have hlt : i < b := Nat.not_le.mp fun z => q ((nI_leI (by omega) (by omega)).mpr z)
      refine ⟨vp_in_nI (by omega) (by omega), fun S3 hS3 => ?_⟩
      rw [nI_clamp (by omega)] at hS3
      rw [nI_1]
      refine ih (i + 1) S3 hlt (by omega) ?_
      have : mset S3 (t + 1) (xfill (S3 (t + 1)) (i + 1) b v) = mset S (t + 1) (xfill (S (t + 1)) i b v) := by
        subst hS3
        funext a
        by_cases ha : a = t + 1
        · subst ha
          rw [mset_at, mset_at, mput_at]
          funext j
          simp only [xfill]
          by_cases hj : j = i
          · subst hj
            rw [if_neg (by omega), if_pos (by omega), upd_at]
          · rw [upd_ne _ _ hj]
            by_cases h2 : i ≤ j ∧ j < b
            · rw [if_pos (by omega), if_pos h2]
            · rw [if_neg (by omega), if_neg h2]
        · rw [mset_ne _ _ ha, mset_ne _ _ ha, mput_ne _ _ _ ha]
      rw [this]
      exact hK
theorem t_fill {t : Nat} (ht : t ∈ tabs) {S : Mem} {K : Mem → Prop} {v : Int32} {a b : Nat} (hab : a ≤ b) (hb : b ≤ tRn t * tWn t) (hK : K (mset S (t + 1) (xfill (S (t + 1)) a b v))) : P_J7_fill_fda19 t S (nI a) (nI b) v K := by
  have d := tdim ht
  unfold P_J7_fill_fda19 P_J7_rangeCheck_23922
  refine ⟨fun _ => ⟨fun _ => ⟨fun _ => ⟨b - a + 1, fill_loop ht hb _ a S hab (by omega) hK⟩, fun q => q ((nI_leI (by omega) (by omega)).mpr hb)⟩, fun q => q (nI_pos' (by omega))⟩, fun q => q ((nI_leI (by omega) (by omega)).mpr hab)⟩
theorem getD_app {L : List Row} {r : Row} {k : Nat} (hk : k < L.length) : (L ++ [r]).getD k row0 = L.getD k row0 := by
  rw [List.getD_eq_getElem?_getD, List.getElem?_append_left hk, ← List.getD_eq_getElem?_getD]
theorem t_append {t : Nat} {S : Mem} {L : List Row} (ht : t ∈ tabs) (h : TW S t L) (hl : L.length < tRn t) {v : Int32} {K : Int32 → Mem → Prop} (k : ∀ S', TW S' t (L ++ [row1 v]) → Fr S S' t → K (nI L.length) S') : P_X4_append t S v K := by
  have d := tdim ht
  obtain ⟨h1, h2, h3⟩ := h
  unfold P_X4_append
  rw [h1]
  have e : nI L.length * nI (tWn t) = nI (L.length * tWn t) := pk_mul _ _
  have hlim : L.length * tWn t + tWn t ≤ tRn t * tWn t := by
    have := Nat.mul_le_mul_right (tWn t) (show L.length + 1 ≤ tRn t from hl)
    rw [Nat.add_mul, Nat.one_mul] at this
    exact this
  refine ⟨fun _ => ?_, fun q => absurd ((nI_ltI (by omega) (by omega)).mpr hl) q⟩
  rw [e, nI_add]
  refine t_fill ht (by omega) hlim ⟨vp_in_nI (by omega) (by omega), fun S3 hS3 S4 hS4 => ?_⟩
  rw [nI_clamp (by omega)] at hS3
  have e3 : S3 t 3 = nI L.length := by rw [hS3, mput_ne _ _ _ (by omega), mset_ne _ _ (by omega)]; exact h1
  have e4 : S4 t 3 = nI (L.length + 1) := by rw [hS4, mput_at, upd_at, e3, nI_1]
  have e5 : S4 t 3 - 1 = nI L.length := by rw [e4]; exact nI_pred _
  rw [e5]
  refine k S4 ⟨by rw [e4, List.length_append]; rfl, by rw [List.length_append]; show L.length + 1 ≤ tRn t; omega, fun j c hj hc => ?_⟩ (fun i a b => by rw [hS4, mput_ne _ _ _ a, hS3, mput_ne _ _ _ b, mset_ne _ _ b])
  rw [List.length_append] at hj
  have hj : j < L.length + 1 := hj
  rw [hS4, mput_ne _ _ _ (by omega), hS3, mput_at]
  by_cases hjl : j < L.length
  · have q1 := row_lt hjl (Nat.le_refl L.length) hc
    rw [upd_ne _ _ (by omega), mset_at, getD_app hjl, ← h3 j c hjl hc]
    simp only [xfill]
    rw [if_neg (by omega)]
  · have : j = L.length := by omega
    subst this
    have e6 : (L ++ [row1 v]).getD L.length row0 = row1 v := by
      rw [List.getD_eq_getElem?_getD, List.getElem?_append_right (Nat.le_refl _)]
      simp
    rw [e6]
    by_cases hc0 : c = 0
    · subst hc0
      exact upd_at _ _ _
    · rw [upd_ne _ _ (by omega), mset_at]
      simp only [xfill, row1]
      rw [if_pos (by omega), if_neg hc0]
theorem t_appendFull {t : Nat} {S : Mem} {L : List Row} (h : TW S t L) (ht : t ∈ tabs) (hl : ¬ L.length < tRn t) {v : Int32} {K : Int32 → Mem → Prop} (k : K (-1) S) : P_X4_append t S v K := by
  have d := tdim ht
  unfold P_X4_append
  have := h.2.1
  refine ⟨fun q => ?_, fun _ => k⟩
  rw [h.1] at q
  exact absurd ((nI_ltI (by omega) (by omega)).mp q) hl
theorem t_shorten {t : Nat} {S : Mem} {L : List Row} (ht : t ∈ tabs) (h : TW S t L) {m : Nat} (hm : m < 2 ^ 31) {K : Mem → Prop} (k : ∀ S', TW S' t (L.take m) → Fr S S' t → K S') : P_X4_shorten t S (nI m) K := by
  have d := tdim ht
  have hh := h
  obtain ⟨h1, h2, h3⟩ := h
  unfold P_X4_shorten
  rw [h1]
  refine ⟨fun q => absurd q (nI_pos hm), fun _ => ⟨fun q => ?_, fun q S1 hS1 => ?_⟩⟩
  · have := (nI_leI (by omega) hm).mp q
    refine k S ?_ (fun _ _ _ => rfl)
    rw [List.take_of_length_le this]
    exact hh
  · have hlt : m < L.length := Nat.not_le.mp fun z => q ((nI_leI (by omega) hm).mpr z)
    have hl : (L.take m).length = m := by rw [List.length_take]; omega
    refine k S1 ⟨by rw [hS1, mput_at, upd_at, hl], by omega, fun j c hj hc => ?_⟩ (by rw [hS1]; exact Fr.put3 _ _ _ _)
    rw [hl] at hj
    rw [hS1, mput_ne _ _ _ (by omega), h3 j c (by omega) hc, List.getD_eq_getElem?_getD, List.getD_eq_getElem?_getD, List.getElem?_take, if_pos hj]
theorem t_reset {t : Nat} {S : Mem} {L : List Row} (ht : t ∈ tabs) (h : TW S t L) {m : Nat} (hm : m ≤ tRn t) {K : Mem → Prop} (k : ∀ S', TW S' t (List.replicate m row0) → Fr S S' t → K S') : P_X4_reset t S (nI m) K := by
  have d := tdim ht
  unfold P_X4_reset
  have e1 : (if nI (tRn t) < nI m then nI (tRn t) else nI m) = nI m := if_neg (fun q => absurd ((nI_ltI (by omega) (by omega)).mp q) (by omega))
  have e2 : (if (0 : Int32) < nI m then nI m else 0) = nI m := by
    by_cases h0 : m = 0
    · subst h0; rfl
    · exact if_pos (by rw [← nI_0]; exact (nI_ltI (by omega) (by omega)).mpr (by omega))
  rw [e1, e2]
  intro S1 hS1
  have e3 : S1 t 3 = nI m := by rw [hS1, mput_at, upd_at]
  have hlim : m * tWn t ≤ tRn t * tWn t := Nat.mul_le_mul_right _ hm
  rw [e3, pk_mul, ← nI_0]
  refine t_fill ht (by omega) hlim ?_
  refine k _ ⟨by rw [mset_ne _ _ (by omega), e3, List.length_replicate], by rw [List.length_replicate]; exact hm, fun j c hj hc => ?_⟩ (fun i a b => by rw [mset_ne _ _ b, hS1, mput_ne _ _ _ a])
  rw [List.length_replicate] at hj
  have := row_lt hj (Nat.le_refl m) hc
  rw [mset_at]
  simp only [xfill]
  rw [if_pos (by omega), List.getD_eq_getElem?_getD, List.getElem?_replicate, if_pos hj]
  rfl
theorem t_remove {t : Nat} {S : Mem} {L : List Row} (ht : t ∈ tabs) (h : TW S t L) {r : Nat} (hr : r < L.length) {K : Mem → Prop} (k : ∀ S', TW S' t (L.eraseIdx r) → Fr S S' t → K S') : P_X4_remove t S (nI r) K := by
  have d := tdim ht
  obtain ⟨h1, h2, h3⟩ := h
  unfold P_X4_remove
  rw [h1]
  have e1 : nI L.length - nI r - 1 = nI (L.length - r - 1) := by
    rw [pk_sub (by omega), show L.length - r = (L.length - r - 1) + 1 from by omega]
    exact nI_pred _
  have hl : (L.eraseIdx r).length = L.length - 1 := List.length_eraseIdx_of_lt hr
  have hlim : L.length * tWn t ≤ tRn t * tWn t := Nat.mul_le_mul_right _ h2
  have hsum : (r * tWn t + tWn t) + (L.length - r - 1) * tWn t = L.length * tWn t := by
    rw [← Nat.succ_mul, ← Nat.add_mul]
    congr 1
    omega
  refine ⟨fun q => absurd q (nI_pos (by omega)), fun _ => ⟨fun _ => ?_, fun q => absurd ((nI_ltI (by omega) (by omega)).mpr hr) q⟩⟩
  rw [e1, pk_mul, nI_add, pk_mul]
  refine ⟨nI_pos (by omega), nI_pos (by omega), nI_pos (by omega), ?_, ?_, fun S1 hS1 S2 hS2 => ?_⟩
  · rw [nI_clamp (by omega), nI_clamp (by omega)]; omega
  · rw [nI_clamp (by omega), nI_clamp (by omega)]; omega
  · rw [nI_clamp (by omega), nI_clamp (by omega), nI_clamp (by omega)] at hS1
    have e3 : S1 t 3 = nI L.length := by rw [hS1, mset_ne _ _ (by omega)]; exact h1
    refine k S2 ⟨?_, by omega, fun j c hj hc => ?_⟩ (fun i a b => by rw [hS2, mput_ne _ _ _ a, hS1, mset_ne _ _ b])
    · rw [hS2, mput_at, upd_at, e3, hl, show L.length = (L.length - 1) + 1 from by omega]
      exact nI_pred _
    · rw [hl] at hj
      rw [hS2, mput_ne _ _ _ (by omega), hS1, mset_at]
      simp only [va_cpy]
      rw [List.getD_eq_getElem?_getD, List.getElem?_eraseIdx]
      by_cases hjr : j < r
      · have q1 := row_lt hjr (Nat.le_refl r) hc
        rw [if_neg (by omega), if_pos hjr, h3 j c (by omega) hc, List.getD_eq_getElem?_getD]
      · have q1 : r * tWn t ≤ j * tWn t := Nat.mul_le_mul_right _ (by omega)
        have q2 := row_lt (show j + 1 < L.length by omega) (Nat.le_refl L.length) hc
        have q3 : (j + 1) * tWn t = j * tWn t + tWn t := Nat.succ_mul _ _
        rw [if_pos (by omega), if_neg hjr, ← List.getD_eq_getElem?_getD, ← h3 (j + 1) c (by omega) hc]
        congr 1
        omega
theorem t_insert {t : Nat} {S : Mem} {L : List Row} (ht : t ∈ tabs) (h : TW S t L) {r : Nat} (hr : r ≤ L.length) (hl : L.length < tRn t) {v : Int32} {K : Mem → Prop} (k : ∀ S', TW S' t (L.insertIdx r (row1 v)) → Fr S S' t → K S') : P_X4_insert t S (nI r) v K := by
  have d := tdim ht
  obtain ⟨h1, h2, h3⟩ := h
  unfold P_X4_insert
  rw [h1]
  have hli : (L.insertIdx r (row1 v)).length = L.length + 1 := by rw [List.length_insertIdx, if_pos hr]
  have hlim : (L.length + 1) * tWn t ≤ tRn t * tWn t := Nat.mul_le_mul_right _ hl
  have hrw : r * tWn t ≤ L.length * tWn t := Nat.mul_le_mul_right _ hr
  have e0 : (L.length + 1) * tWn t = L.length * tWn t + tWn t := Nat.succ_mul _ _
  have hs : (L.length - r) * tWn t = L.length * tWn t - r * tWn t := Nat.sub_mul _ _ _
  refine ⟨fun q => absurd q (nI_pos (by omega)), fun _ => ⟨fun q => absurd ((nI_ltI (by omega) (by omega)).mp q) (by omega), fun _ => ⟨fun _ => ?_, fun q => absurd ((nI_ltI (by omega) (by omega)).mpr hl) q⟩⟩⟩
  rw [pk_sub hr, pk_mul, nI_add, pk_mul]
  refine ⟨nI_pos (by omega), nI_pos (by omega), nI_pos (by omega), ?_, ?_, fun S1 hS1 => ?_⟩
  · rw [nI_clamp (by omega), nI_clamp (by omega)]; omega
  · rw [nI_clamp (by omega), nI_clamp (by omega)]; omega
  · rw [nI_clamp (by omega), nI_clamp (by omega), nI_clamp (by omega)] at hS1
    refine t_fill ht (by omega) (by omega) ⟨vp_in_nI (by omega) (by omega), fun S4 hS4 S5 hS5 => ?_⟩
    rw [nI_clamp (by omega)] at hS4
    have e4 : S4 t 3 = nI L.length := by rw [hS4, mput_ne _ _ _ (by omega), mset_ne _ _ (by omega), hS1, mset_ne _ _ (by omega)]; exact h1
    refine k S5 ⟨by rw [hS5, mput_at, upd_at, e4, nI_1, hli], by omega, fun j c hj hc => ?_⟩ (fun i a b => by rw [hS5, mput_ne _ _ _ a, hS4, mput_ne _ _ _ b, mset_ne _ _ b, hS1, mset_ne _ _ b])
    rw [hli] at hj
    rw [hS5, mput_ne _ _ _ (by omega), hS4, mput_at, List.getD_eq_getElem?_getD, List.getElem?_insertIdx]
    by_cases hjr : j < r
    · have q1 := row_lt hjr (Nat.le_refl r) hc
      rw [if_pos hjr, upd_ne _ _ (by omega), mset_at]
      simp only [xfill]
      rw [if_neg (by omega), hS1, mset_at]
      simp only [va_cpy]
      rw [if_neg (by omega), h3 j c (by omega) hc, List.getD_eq_getElem?_getD]
    · by_cases hje : j = r
      · subst hje
        rw [if_neg hjr, if_pos rfl, if_pos (by omega)]
        simp only [Option.getD_some]
        by_cases hc0 : c = 0
        · subst hc0
          exact upd_at _ _ _
        · rw [upd_ne _ _ (by omega), mset_at]
          simp only [xfill, row1]
          rw [if_pos (by omega), if_neg hc0]
      · have q0 : (r + 1) * tWn t ≤ j * tWn t := Nat.mul_le_mul_right _ (by omega)
        have q0' : (r + 1) * tWn t = r * tWn t + tWn t := Nat.succ_mul _ _
        have q2 := row_lt (show j < L.length + 1 by omega) (Nat.le_refl _) hc
        have q3 : (j - 1) * tWn t + tWn t = j * tWn t := by rw [← Nat.succ_mul]; congr 1; omega
        rw [if_neg hjr, if_neg hje, upd_ne _ _ (by omega), mset_at]
        simp only [xfill]
        rw [if_neg (by omega), hS1, mset_at]
        simp only [va_cpy]
        rw [if_pos (by omega), ← List.getD_eq_getElem?_getD, ← h3 (j - 1) c (by omega) hc]
        congr 1
        omega
theorem t_copy {t t1 : Nat} {S : Mem} {L L1 : List Row} (ht : t ∈ tabs) (ht1 : t1 ∈ tabs) (h : TW S t L) (h1' : TW S t1 L1) (hw : tWn t1 = tWn t) (hl : L1.length ≤ tRn t) (hne : t1 ≠ t + 1) {K : Mem → Prop} (k : ∀ S', TW S' t L1 → Fr S S' t → K S') : P_X4_copyFrom t t1 S K := by
  have d := tdim ht
  have d1 := tdim ht1
  obtain ⟨g1, g2, g3⟩ := h1'
  unfold P_X4_copyFrom
  rw [g1]
  have q1 : L1.length * tWn t ≤ tRn t * tWn t := Nat.mul_le_mul_right _ hl
  have q2 : L1.length * tWn t1 ≤ tRn t1 * tWn t1 := Nat.mul_le_mul_right _ g2
  rw [hw] at q2
  refine ⟨fun q => absurd (by rw [hw]) q, fun _ => ⟨fun _ => ?_, fun q => absurd ((nI_leI (by omega) (by omega)).mpr hl) q⟩⟩
  rw [pk_mul, ← nI_0]
  refine ⟨nI_pos (by omega), nI_pos (by omega), nI_pos (by omega), ?_, ?_, fun S1 hS1 S2 hS2 => ?_⟩
  · rw [nI_clamp (by omega), nI_clamp (by omega), hw]; omega
  · rw [nI_clamp (by omega), nI_clamp (by omega)]; omega
  · rw [nI_clamp (by omega), nI_clamp (by omega)] at hS1
    have e1 : S1 t1 3 = nI L1.length := by rw [hS1, mset_ne _ _ (by omega)]; exact g1
    refine k S2 ⟨by rw [hS2, mput_at, upd_at, e1], hl, fun j c hj hc => ?_⟩ (fun i a b => by rw [hS2, mput_ne _ _ _ a, hS1, mset_ne _ _ b])
    have q3 := row_lt hj (Nat.le_refl L1.length) hc
    have g := g3 j c hj (by rw [hw]; exact hc)
    rw [hw] at g
    rw [hS2, mput_ne _ _ _ (by omega), hS1, mset_at, ← g]
    simp only [va_cpy]
    rw [if_pos (by omega)]
    congr 1
    omega
/-- sums, greatest numbers, places -/
def sumC (L : List Row) (c : Nat) : Int32 := L.foldl (fun s r => s + r c) 0
def maxC (L : List Row) (c : Nat) : Int32 := L.foldl (fun s r => if s < r c then r c else s) 0
theorem foldl_take_succ {α β : Type} (f : β → α → β) (L : List α) (k : Nat) (d : α) (b : β) (h : k < L.length) : (L.take (k + 1)).foldl f b = f ((L.take k).foldl f b) (L.getD k d) := by
  rw [List.take_succ, List.foldl_append, List.getD_eq_getElem?_getD, List.getElem?_eq_getElem h]
  rfl
theorem sum_loop {t : Nat} {S : Mem} {L : List Row} (ht : t ∈ tabs) (h : TW S t L) {c : Nat} (hc : c < tWn t) {K : Int32 → Mem → Prop} (k : K (sumC L c) S) : ∀ (n i : Nat), i ≤ L.length → L.length - i < n → B_X4_sumOf_4 t K n S (nI c) (sumC (L.take i) c) (nI i) := by
  have d := tdim ht
  have hl := h.2.1
  intro n
  induction n with
  | zero => intro i _ h; omega
  | succ n ih =>
    intro i hi hn
    refine ⟨fun q => ?_, fun q => ?_⟩
    · rw [h.1] at q
      have := (nI_leI (by omega) (by omega)).mp q
      rw [List.take_of_length_le this]
      exact k
    · rw [h.1] at q
      have hlt : i < L.length := Nat.not_le.mp fun z => q ((nI_leI (by omega) (by omega)).mpr z)
      refine t_at ht h (by omega) hc ?_
      rw [nI_1]
      have := ih (i + 1) hlt (by omega)
      rw [show sumC (L.take (i + 1)) c = sumC (L.take i) c + (L.getD i row0) c from foldl_take_succ _ L i row0 0 hlt] at this
      exact this
theorem t_sum {t : Nat} {S : Mem} {L : List Row} (ht : t ∈ tabs) (h : TW S t L) {c : Nat} (hc : c < tWn t) {K : Int32 → Mem → Prop} (k : K (sumC L c) S) : P_X4_sumOf t S (nI c) K := ⟨L.length + 1, sum_loop ht h hc k _ 0 (Nat.zero_le _) (by omega)⟩
theorem max_loop {t : Nat} {S : Mem} {L : List Row} (ht : t ∈ tabs) (h : TW S t L) {c : Nat} (hc : c < tWn t) {K : Int32 → Mem → Prop} (k : K (maxC L c) S) : ∀ (n i : Nat), i ≤ L.length → L.length - i < n → B_X4_greatestOf_4 t K n S (nI c) (maxC (L.take i) c) (nI i) := by
  have d := tdim ht
  have hl := h.2.1
  intro n
  induction n with
  | zero => intro i _ h; omega
  | succ n ih =>
    intro i hi hn
    refine ⟨fun q => ?_, fun q => ?_⟩
    · rw [h.1] at q
      have := (nI_leI (by omega) (by omega)).mp q
      rw [List.take_of_length_le this]
      exact k
    · rw [h.1] at q
      have hlt : i < L.length := Nat.not_le.mp fun z => q ((nI_leI (by omega) (by omega)).mpr z)
      refine t_at ht h (by omega) hc ?_
      rw [nI_1]
      have := ih (i + 1) hlt (by omega)
      rw [show maxC (L.take (i + 1)) c = (if maxC (L.take i) c < (L.getD i row0) c then (L.getD i row0) c else maxC (L.take i) c) from foldl_take_succ _ L i row0 0 hlt] at this
      exact this
theorem t_max {t : Nat} {S : Mem} {L : List Row} (ht : t ∈ tabs) (h : TW S t L) {c : Nat} (hc : c < tWn t) {K : Int32 → Mem → Prop} (k : K (maxC L c) S) : P_X4_greatestOf t S (nI c) K := ⟨L.length + 1, max_loop ht h hc k _ 0 (Nat.zero_le _) (by omega)⟩
/-- the place of a number among rows that rise by their first: p rows lie below it, those from p on don't -/
def PlaceOf (L : List Row) (v : Int32) (p : Nat) : Prop := p ≤ L.length ∧ (∀ k, k < p → (L.getD k row0) 0 < v) ∧ ∀ k, p ≤ k → k < L.length → ¬ (L.getD k row0) 0 < v
theorem place_loop {t : Nat} {S : Mem} {L : List Row} (ht : t ∈ tabs) (h : TW S t L) {v : Int32} {p : Nat} (hp : PlaceOf L v p) {K : Int32 → Mem → Prop} (k : K (nI p) S) : ∀ (e n i : Nat), e ≤ 6 → e + 1 < n → i ≤ p → p < i + 2 ^ (e + 1) → B_X4_placeOf_5 t K n S v (nI i) (nI (2 ^ e)) := by
  have d := tdim ht
  obtain ⟨h1, h2, h3⟩ := h
  obtain ⟨p1, p2, p3⟩ := hp
  have fin : ∀ (n i : Nat), 0 < n → i = p → B_X4_placeOf_5 t K n S v (nI i) (nI 0) := by
    intro n i hn hi
    subst hi
    match n, hn with
    | n + 1, _ => exact ⟨fun _ => k, fun q => absurd (by rw [nI_0]; exact Int32.le_refl 0) q⟩
  have half : ∀ e : Nat, e ≤ 6 → (nI (2 ^ (e + 1))) / (2 : Int32) = nI (2 ^ e) := by
    intro e he
    have : 2 ^ (e + 1) ≤ 2 ^ 7 := Nat.pow_le_pow_right (by omega) (by omega)
    show nI (2 ^ (e + 1)) / nI 2 = _
    rw [pk_div (by omega) (by omega) (by omega)]
    congr 1
    rw [Nat.pow_succ]
    omega
  intro e
  induction e with
  | zero =>
    intro n i he hn hi hp
    match n, hn with
    | n + 1, hn =>
      have h01 : (nI (2 ^ 0)) / (2 : Int32) = nI 0 := by decide
      have hp' : p < i + 2 := hp
      refine ⟨fun q => absurd q (nI_nle (by decide) (by decide)), fun _ => ⟨fun q => ?_, fun q => ?_⟩⟩
      · rw [h1, nI_add] at q
        have := (nI_ltI (by omega) (by omega)).mp q
        show B_X4_placeOf_5 t K n S v (nI i) (nI (2 ^ 0) / 2)
        rw [h01]
        exact fin n i (by omega) (by omega)
      · rw [h1, nI_add] at q
        have hle : i + 1 ≤ L.length := Nat.not_lt.mp fun z => q ((nI_ltI (by omega) (by omega)).mpr z)
        have e1 : nI i + nI (2 ^ 0) - 1 = nI i := by
          rw [nI_add]; exact nI_pred i
        rw [e1, pk_mul]
        have q1 := row_lt (show i < L.length by omega) h2 (show 0 < tWn t by omega)
        have g : S (t + 1) (i * tWn t) = (L.getD i row0) 0 := h3 i 0 (by omega) (by omega)
        have q1 : i * tWn t < tRn t * tWn t := q1
        refine ⟨vp_in_nI q1 (by omega), ?_⟩
        rw [nI_clamp (by omega), g]
        refine ⟨fun z => ?_, fun z => ?_⟩
        · show B_X4_placeOf_5 t K n S v (nI i) (nI (2 ^ 0) / 2)
          rw [h01]
          refine fin n i (by omega) ?_
          rcases Nat.lt_or_ge i p with w | w
          · exact absurd (p2 i w) (Int32.not_lt.mpr z)
          · omega
        · show B_X4_placeOf_5 t K n S v (nI i + nI (2 ^ 0)) (nI (2 ^ 0) / 2)
          rw [h01, nI_add]
          refine fin n (i + 1) (by omega) ?_
          rcases Nat.lt_or_ge i p with w | w
          · omega
          · exact absurd (Int32.not_le.mp z) (p3 i w (by omega))
  | succ e ih =>
    intro n i he hn hi hp
    have b1 : 2 ^ (e + 1) ≤ 2 ^ 7 := Nat.pow_le_pow_right (by omega) (by omega)
    have b2 : 2 ^ (e + 1 + 1) = 2 * 2 ^ (e + 1) := by rw [Nat.pow_succ, Nat.mul_comm]
    have b3 : 0 < 2 ^ (e + 1) := Nat.pow_pos (by omega)
    match n, hn with
    | n + 1, hn =>
      refine ⟨fun q => absurd q (nI_nle b3 (by omega)), fun _ => ⟨fun q => ?_, fun q => ?_⟩⟩
      · rw [h1, nI_add] at q
        have := (nI_ltI (by omega) (by omega)).mp q
        show B_X4_placeOf_5 t K n S v (nI i) (nI (2 ^ (e + 1)) / 2)
        rw [half e (by omega)]
        exact ih n i (by omega) (by omega) hi (by omega)
      · rw [h1, nI_add] at q
        have hle : i + 2 ^ (e + 1) ≤ L.length := Nat.not_lt.mp fun z => q ((nI_ltI (by omega) (by omega)).mpr z)
        have e1 : nI i + nI (2 ^ (e + 1)) - 1 = nI (i + 2 ^ (e + 1) - 1) := by
          rw [nI_add, show i + 2 ^ (e + 1) = (i + 2 ^ (e + 1) - 1) + 1 from by omega]
          exact nI_pred _
        rw [e1, pk_mul]
        have q1 := row_lt (show i + 2 ^ (e + 1) - 1 < L.length by omega) h2 (show 0 < tWn t by omega)
        have g : S (t + 1) ((i + 2 ^ (e + 1) - 1) * tWn t) = (L.getD (i + 2 ^ (e + 1) - 1) row0) 0 := h3 (i + 2 ^ (e + 1) - 1) 0 (by omega) (by omega)
        have q1 : (i + 2 ^ (e + 1) - 1) * tWn t < tRn t * tWn t := q1
        refine ⟨vp_in_nI q1 (by omega), ?_⟩
        rw [nI_clamp (by omega), g]
        refine ⟨fun z => ?_, fun z => ?_⟩
        · show B_X4_placeOf_5 t K n S v (nI i) (nI (2 ^ (e + 1)) / 2)
          rw [half e (by omega)]
          refine ih n i (by omega) (by omega) hi ?_
          rcases Nat.lt_or_ge (i + 2 ^ (e + 1) - 1) p with w | w
          · exact absurd (p2 _ w) (Int32.not_lt.mpr z)
          · omega
        · show B_X4_placeOf_5 t K n S v (nI i + nI (2 ^ (e + 1))) (nI (2 ^ (e + 1)) / 2)
          rw [half e (by omega), nI_add]
          refine ih n (i + 2 ^ (e + 1)) (by omega) (by omega) ?_ (by omega)
          rcases Nat.lt_or_ge (i + 2 ^ (e + 1) - 1) p with w | w
          · omega
          · exact absurd (Int32.not_le.mp z) (p3 _ w (by omega))
theorem t_place {t : Nat} {S : Mem} {L : List Row} (ht : t ∈ tabs) (h : TW S t L) {v : Int32} {p : Nat} (hp : PlaceOf L v p) (hl : L.length ≤ 100) {K : Int32 → Mem → Prop} (k : K (nI p) S) : P_X4_placeOf t S v K := ⟨8, place_loop ht h hp k 6 8 0 (by omega) (by omega) (Nat.zero_le _) (by have := hp.1; omega)⟩
