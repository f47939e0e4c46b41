/-- the memory behind the constructors -/
def Init (S : Mem) : Prop := (S 0 4 = 1 ∧ (S 2 3 = 0 ∧ TW S 4 [row1 3, row1 2, row1 40503]) ∧ ((∀ k, S 6 k = 0) ∧ (S 9 3 = 0 ∧ TW S 11 [row1 3, row1 2, row1 40503]) ∧ (S 14 3 = 0 ∧ TW S 16 [row1 3, row1 2, row1 40503]) ∧ (S 19 3 = 0 ∧ TW S 21 [row1 3, row1 2, row1 40503]) ∧ (S 24 3 = 0 ∧ TW S 26 [row1 3, row1 2, row1 40503])) ∧ (S 29 3 = 0 ∧ S 31 3 = 0) ∧ ((∀ k, S 33 k = 0) ∧ S 34 3 = 0 ∧ S 36 3 = 0 ∧ S 38 3 = 0 ∧ S 40 3 = 0 ∧ S 42 3 = 0 ∧ S 44 3 = 0 ∧ S 46 3 = 0) ∧ (S 49 3 = 0 ∧ S 51 3 = 0)) ∧ ((∀ k, S 53 k = 0) ∧ S 54 0 = 0 ∧ S 54 1 = 3 ∧ S 54 2 = 2 ∧ S 54 3 = 40503)
theorem nest_tbl : ∀ w ∈ xnest, w ∈ lw_tbl := by
  intro w hw
  simp only [xnest, List.mem_cons, List.not_mem_nil, or_false] at hw
  rcases hw with rfl | rfl | rfl | rfl | rfl | rfl | rfl | rfl | rfl | rfl | rfl | rfl | rfl | rfl | rfl | rfl | rfl | rfl
  · exact List.mem_append_right _ (List.mem_of_getElem? (i := 61) (by decide +kernel))
  · exact List.mem_append_right _ (List.mem_of_getElem? (i := 62) (by decide +kernel))
  · exact List.mem_append_right _ (List.mem_of_getElem? (i := 64) (by decide +kernel))
  · exact List.mem_append_right _ (List.mem_of_getElem? (i := 104) (by decide +kernel))
  · exact List.mem_append_right _ (List.mem_of_getElem? (i := 105) (by decide +kernel))
  · exact List.mem_append_right _ (List.mem_of_getElem? (i := 107) (by decide +kernel))
  · exact List.mem_append_right _ (List.mem_of_getElem? (i := 116) (by decide +kernel))
  · exact List.mem_append_right _ (List.mem_of_getElem? (i := 118) (by decide +kernel))
  · exact List.mem_append_right _ (List.mem_of_getElem? (i := 120) (by decide +kernel))
  · exact List.mem_append_right _ (List.mem_of_getElem? (i := 122) (by decide +kernel))
  · exact List.mem_append_right _ (List.mem_of_getElem? (i := 124) (by decide +kernel))
  · exact List.mem_append_right _ (List.mem_of_getElem? (i := 129) (by decide +kernel))
  · exact List.mem_append_right _ (List.mem_of_getElem? (i := 167) (by decide +kernel))
  · exact List.mem_append_right _ (List.mem_of_getElem? (i := 169) (by decide +kernel))
  · exact List.mem_append_right _ (List.mem_of_getElem? (i := 171) (by decide +kernel))
  · exact List.mem_append_right _ (List.mem_of_getElem? (i := 173) (by decide +kernel))
  · exact List.mem_append_right _ (List.mem_of_getElem? (i := 175) (by decide +kernel))
  · exact List.mem_append_right _ (List.mem_of_getElem? (i := 535) (by decide +kernel))
theorem over_tbl : Cond.arrayOver (.object "SpilledGroups$State") ∈ lw_tbl := List.mem_append_right _ (List.mem_of_getElem? (i := 77) (by decide +kernel))
theorem XJ_of {G : XG} {A : Nat → Prop} {S : Mem} (h : va_D A (wW G S)) : XJ G := fun j k a b h1 h2 h3 => h.1 j k _ _ (wW_at G S h1) (wW_at G S h2) h3
set_option maxRecDepth 100000 in
set_option maxHeartbeats 8000000 in
theorem start_of {Inv : Mem → Prop} (hs : LStep Inv) (h0 : ∀ S : Mem, Init S → Inv S) {p : Program} {e : Env} {s : State} {m : MethodId} {below : List Frame} {meth : Method} {c : Code} (l : Launch) {b L : Nat} {xs : Nat → Int32} (hL : L ≤ 2048) (C0 : lw_At p s m meth c b L xs) : W p l e room_1 s m #[Value.ref b] below meth c s.heap [] 0 0 (lw_Z below #[Value.ref b] s) (entryFrame m ([Value.ref b] : List Value).toArray 4) := by
  obtain ⟨hx, hb, hr, hml, hown, hts, hX, hbl, hlocks, hgv⟩ := id C0
  have hA : ∀ q : Nat, s.heap.size ≤ q → (fun q : Nat => s.heap.size ≤ q) q := fun _ h => h
  have hbA : ¬ (fun q : Nat => s.heap.size ≤ q) b := Nat.not_le.mpr hbl
  have htb : ∀ w ∈ TB, w.before #[Value.ref b] s = true := fun w h => hts w (List.mem_filter.mp h).1
  have hN : XN s := by
    intro w hw
    refine va_Nw.of ?_ (hts w (nest_tbl w hw))
    revert w
    decide
  have hO : va_AO "SpilledGroups$State" s := va_AO.of (hts _ over_tbl)
  obtain ⟨c0, iS0, hKn0⟩ := u_known (C := RX0) (T := TX0) (N := 2) (n := 2) htb inX0 (htb _ q_96)
  obtain ⟨c1, iS1, hKn1⟩ := u_known (C := RX1) (T := TX1) (N := 3) (n := 3) htb inX1 (htb _ q_71)
  obtain ⟨c2, iS2, hKn2⟩ := u_known (C := RX2) (T := TX2) (N := 12) (n := 12) htb inX2 (htb _ q_90)
  obtain ⟨c3, iS3, hKn3⟩ := u_known (C := RX3) (T := TX3) (N := 2) (n := 2) htb inX3 (htb _ q_21)
  obtain ⟨c4, iS4, hKn4⟩ := u_known (C := RX4) (T := TX4) (N := 4) (n := 4) htb inX4 (htb _ q_27)
  obtain ⟨c5, iS5, hKn5⟩ := u_known (C := RX5) (T := TX5) (N := 6) (n := 6) htb inX5 (htb _ q_159)
  obtain ⟨c6, iS6, hKn6⟩ := u_known (C := RX6) (T := TX6) (N := 5) (n := 5) htb inX6 (htb _ q_13)
  obtain ⟨c7, iS7, hKn7⟩ := u_known (C := RX7) (T := TX7) (N := 30) (n := 30) htb inX7 (htb _ q_548)
  obtain ⟨cI, kI, compI, i1, i2, i3⟩ := Cond.arrayClass_spec (htb _ q_48)
  obtain ⟨compO, cO, kO, o1, o2, o3, o4, o5⟩ := Cond.arrayOver_spec (hts _ over_tbl)
  obtain ⟨D, hKc⟩ : ∃ D : va_G, ∀ (k : Nat) (q : vw_C), vwCl[k]? = some q → u_Kn s q.1 q.2.1 q.2.2 (D.1 k) (D.2 k) := by
    refine ⟨(fun k => if k = 0 then c0 else if k = 1 then c1 else if k = 2 then c2 else if k = 3 then c3 else if k = 4 then c4 else if k = 5 then c5 else if k = 6 then c6 else c7, fun k => if k = 0 then iS0 else if k = 1 then iS1 else if k = 2 then iS2 else if k = 3 then iS3 else if k = 4 then iS4 else if k = 5 then iS5 else if k = 6 then iS6 else iS7), ?_⟩
    intro k q hq
    match k, hq with
    | 0, hq => cases hq; exact hKn0
    | 1, hq => cases hq; exact hKn1
    | 2, hq => cases hq; exact hKn2
    | 3, hq => cases hq; exact hKn3
    | 4, hq => cases hq; exact hKn4
    | 5, hq => cases hq; exact hKn5
    | 6, hq => cases hq; exact hKn6
    | 7, hq => cases hq; exact hKn7
    | k + 8, hq => simp [vwCl] at hq
  have hK : va_K D vwCl (xTy cI cO) s := by
    refine ⟨hKc, fun k q hq => ?_⟩
    match k, hq with
    | 0, hq => cases hq; exact ⟨fun n z => ⟨(fun k h => by cases h), kI, i2, compI, i3⟩, i1⟩
    | 1, hq => cases hq; exact ⟨fun n z => ⟨(fun k h => by cases h), kO, o3, compO, o4⟩, kO, compO, o3, o4, o1, o5⟩
    | k + 2, hq => simp at hq
  have hS : va_S (fun q : Nat => s.heap.size ≤ q) s.heap s.heap [] := va_S.rf
  have hP : va_P D vwCl [] s.heap := fun k q h => by simp at h
  have hD : va_D (fun q : Nat => s.heap.size ≤ q) [] := ⟨fun i j p q h => by simp at h, fun k q h => by simp at h⟩
  have hl := lv_entry ([.ref b]) (n := 4) (Nat.le_of_ble_eq_true rfl)
  rw [lg_entry_eq]
  generalize (lg_sl ([.ref b]) ++ List.replicate (4 - (lg_sl ([.ref b])).length) Slot.unset).toArray = ls at hl ⊢
  have hl : lv_has ls 4 [(0, .ref b)] := hl
  refine va_new (ci := 6) (fs := [.null, .null, .null, .null, .int 0]) (C := RX6) (T := TX6) (N := 5) hx hb htb inX6 tyX6 tyX6_ok hown (htb _ q_12) (htb _ q_13) (htb _ q_1) hK hP hD hS hA rfl (fun j hj => by rcases (show j = 0 ∨ j = 1 ∨ j = 2 ∨ j = 3 ∨ j = 4 by omega) with rfl | rfl | rfl | rfl | rfl <;> rfl) (Nat.le_of_ble_eq_true rfl) (Nat.le_of_ble_eq_true rfl) dL_law_0 (fun q1 H hP hD hS => ?_)
  have hP : va_P D vwCl [(q1, .inr (6, [.null, .null, .null, .null, .int 0]))] H := hP
  have hD : va_D (fun q : Nat => s.heap.size ≤ q) [(q1, .inr (6, [.null, .null, .null, .null, .int 0]))] := hD
  refine lv_dup hx hb dL_law_3 rfl ?_
  refine N_call (k := 0) (wr := []) (As := []) (rest := [.ref q1]) hx hb hml hown htb hK hN hO hP hD hS hA hl.1 (N_X6 l D cI cO q1) 0 [] rfl rfl rfl (by decide) (by decide) q_16 q_1 q_15 q_14 rfl (by decide +kernel) rfl ⟨Nat.le_of_ble_eq_true rfl, Nat.le_of_ble_eq_true rfl⟩ rfl (Nat.le_of_ble_eq_true rfl) dL_law_4 ⟨Nat.le_of_ble_eq_true rfl, Nat.le_of_ble_eq_true rfl⟩ (fun ad1 S1 H locs hI1 hP hD hS => ?_)
  obtain ⟨e1, hI1⟩ := hI1
  have e1 : ad1 0 = q1 := e1
  refine W.widen (k := 53) (n := 12027) (Nat.le_of_ble_eq_true rfl) (Nat.le_of_ble_eq_true rfl) ?_
  refine lv_astore_n (lv' := [(1, .ref q1), (0, .ref b)]) hx hb dL_law_7 rfl hl (by decide) rfl (fun ls hl => ?_)
  have hP : va_P D vwCl (wW (NG D cI cO [0, 1, 2, 3, 4, 5, 6, 7, 8, 9, 10, 11, 12, 13, 14, 15, 16, 17, 18, 19, 20, 21, 22, 23, 24, 25, 26, 27, 28, 29, 30, 31, 32, 33, 34, 35, 36, 37, 38, 39, 40, 41, 42, 43, 44, 45, 46, 47, 48, 49, 50, 51, 52] (ad1, S1)) S1) H := hP
  have hD : va_D (fun q : Nat => s.heap.size ≤ q) (wW (NG D cI cO [0, 1, 2, 3, 4, 5, 6, 7, 8, 9, 10, 11, 12, 13, 14, 15, 16, 17, 18, 19, 20, 21, 22, 23, 24, 25, 26, 27, 28, 29, 30, 31, 32, 33, 34, 35, 36, 37, 38, 39, 40, 41, 42, 43, 44, 45, 46, 47, 48, 49, 50, 51, 52] (ad1, S1)) S1) := hD
  refine va_new (ci := 7) (fs := [.null, .null, .int 0, .null, .int 0, .null, .int 0, .null, .int 0, .null, .int 0, .null, .int 0, .int 0, .int 0, .int 0, .null, .int 0, .null, .null, .null, .null, .int 0, .int 0, .int 0, .int 0, .int 0, .int 0, .int 0, .int 0]) (C := RX7) (T := TX7) (N := 30) hx hb htb inX7 tyX7 tyX7_ok hown (htb _ q_547) (htb _ q_548) (htb _ q_10) hK hP hD hS hA rfl (fun j hj => by rcases (show j = 0 ∨ j = 1 ∨ j = 2 ∨ j = 3 ∨ j = 4 ∨ j = 5 ∨ j = 6 ∨ j = 7 ∨ j = 8 ∨ j = 9 ∨ j = 10 ∨ j = 11 ∨ j = 12 ∨ j = 13 ∨ j = 14 ∨ j = 15 ∨ j = 16 ∨ j = 17 ∨ j = 18 ∨ j = 19 ∨ j = 20 ∨ j = 21 ∨ j = 22 ∨ j = 23 ∨ j = 24 ∨ j = 25 ∨ j = 26 ∨ j = 27 ∨ j = 28 ∨ j = 29 by omega) with rfl | rfl | rfl | rfl | rfl | rfl | rfl | rfl | rfl | rfl | rfl | rfl | rfl | rfl | rfl | rfl | rfl | rfl | rfl | rfl | rfl | rfl | rfl | rfl | rfl | rfl | rfl | rfl | rfl | rfl <;> rfl) (Nat.le_of_ble_eq_true rfl) (Nat.le_of_ble_eq_true rfl) dL_law_8 (fun q2 H hP hD hS => ?_)
  refine lv_dup hx hb dL_law_11 rfl ?_
  refine N_call (k := 0) (wr := wW (NG D cI cO [0, 1, 2, 3, 4, 5, 6, 7, 8, 9, 10, 11, 12, 13, 14, 15, 16, 17, 18, 19, 20, 21, 22, 23, 24, 25, 26, 27, 28, 29, 30, 31, 32, 33, 34, 35, 36, 37, 38, 39, 40, 41, 42, 43, 44, 45, 46, 47, 48, 49, 50, 51, 52] (ad1, S1)) S1) (As := []) (rest := [.ref q2]) hx hb hml hown htb hK hN hO hP hD hS hA hl.1 (N_X7 l D cI cO q2) 53 (List.range 53) rfl rfl rfl (by decide) (by decide) q_551 q_10 q_550 q_549 rfl (by decide +kernel) rfl ⟨Nat.le_of_ble_eq_true rfl, Nat.le_of_ble_eq_true rfl⟩ rfl (Nat.le_of_ble_eq_true rfl) dL_law_12 ⟨Nat.le_of_ble_eq_true rfl, Nat.le_of_ble_eq_true rfl⟩ (fun ad2 S2 H locs hI2 hP hD hS => ?_)
  obtain ⟨e2, hI2⟩ := hI2
  have e2 : ad2 53 = q2 := e2
  refine W.widen (k := 66) (n := 49485) (Nat.le_of_ble_eq_true rfl) (Nat.le_of_ble_eq_true rfl) ?_
  refine lv_astore_n (lv' := [(2, .ref q2), (1, .ref q1), (0, .ref b)]) hx hb dL_law_15 rfl hl (by decide) rfl (fun ls hl => ?_)
  refine lv_iconst (v := 0) hx hb dL_law_16 (by decide) ?_
  refine lv_istore_n (lv' := [(3, .int 0), (2, .ref q2), (1, .ref q1), (0, .ref b)]) hx hb dL_law_17 rfl hl (by decide) rfl (fun ls hl => ?_)
  have hP := N_swap hP (k := 7) (a := ad1 7) (cA := cO) (x := (4, .inr (.inr (.inr (.inr (fun j => some (ad1 (8 + 5 * j)))))))) (x' := (4, .inr (.inr (.inr (.inr (fun j => some ((fun i => if i < 53 then ad1 i else ad2 i) (8 + 5 * j)))))))) rfl (vp_cell_4 cO _ _ (fun j hj => by rcases (show j = 0 ∨ j = 1 ∨ j = 2 ∨ j = 3 by omega) with rfl | rfl | rfl | rfl <;> rfl))
  have hD := hD.set (p := 7) (e := .inl (cO, (4, .inr (.inr (.inr (.inr (fun j => some ((fun i => if i < 53 then ad1 i else ad2 i) (8 + 5 * j))))))))) (a := ad1 7) (e0 := .inl (cO, (4, .inr (.inr (.inr (.inr (fun j => some (ad1 (8 + 5 * j))))))))) rfl
  obtain ⟨SF, hSF⟩ : ∃ SF : Mem, SF = fun i => if i < 53 then S1 i else S2 i := ⟨_, rfl⟩
  have hP9 : va_P D vwCl (wW (D, cI, cO, (fun i => if i < 53 then ad1 i else ad2 i), List.range 66) SF) H := by rw [hSF]; exact hP
  have hD9 : va_D (fun q : Nat => s.heap.size ≤ q) (wW (D, cI, cO, (fun i => if i < 53 then ad1 i else ad2 i), List.range 66) SF) := by rw [hSF]; exact hD
  have hInit : Init SF := by
    subst hSF
    obtain ⟨a1, ⟨a2, a3⟩, ⟨b1, ⟨b2, b3⟩, ⟨b4, b5⟩, ⟨b6, b7⟩, b8, b9⟩, a4, a5, a6⟩ := hI1
    exact ⟨⟨a1, ⟨a2, a3.fr rfl rfl⟩, ⟨b1, ⟨b2, b3.fr rfl rfl⟩, ⟨b4, b5.fr rfl rfl⟩, ⟨b6, b7.fr rfl rfl⟩, b8, b9.fr rfl rfl⟩, a4, a5, a6⟩, hI2⟩
  have hJ : XJ (D, cI, cO, (fun i => if i < 53 then ad1 i else ad2 i), List.range 66) := XJ_of hD9
  have hl9 : lv_has ls 4 [(0, .ref b), (1, .ref (ad1 0)), (2, .ref (ad2 53)), (3, .int (nI 0))] := by
    rw [e1, e2]
    exact lv_sub hl [3, 2, 1, 0] rfl
  have hlaw := law_loop (κ := (p, l, e, room_1, s, m, #[Value.ref b], below, meth, c, (D, cI, cO, (fun i => if i < 53 then ad1 i else ad2 i), List.range 66), (fun q : Nat => s.heap.size ≤ q), 4, 66, 49485, lw_Z below #[Value.ref b] s)) (b := b) (L := L) (xs := xs) ⟨hx, hb, hml, rfl, hown, htb, hK, hJ, (fun i hi => by obtain ⟨k, -, hk⟩ := wW_get _ SF hi; exact hD9.2 k _ hk), rfl, rfl, Nat.le_of_ble_eq_true rfl, Nat.le_of_ble_eq_true rfl, hN⟩ (fun i hi => List.mem_range.mpr hi) hL hX hbl hbA hs (fun S lv H locs ls hP hS hl => va_forget (fun q hq => hS.2.2 q hq) (W.widen (k := 600000) (n := 7302249) (Nat.le_of_ble_eq_true rfl) (Nat.le_of_ble_eq_true rfl) (lw_ret hx hb hr hlocks dL_law_635))) (L + 1) 0 SF (h0 SF hInit) (Nat.zero_le _) (by omega)
  exact hlaw H locs ls hP9 hS hl9
