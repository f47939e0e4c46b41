/-! constructors: worlds as lists of cells -/
abbrev xTy (cI cO : ClassId) : List (ClassId × FieldType) := [(cI, .int), (cO, .object "SpilledGroups$State")]
def NB (D : va_G) (cI cO : ClassId) (sz : Nat) (ws0 : va_W) (U : State) : Prop := U.heap.size = sz ∧ va_P D vwCl ws0 U.heap ∧ va_K D vwCl (xTy cI cO) U ∧ va_D (fun _ => True) ws0 ∧ XN U ∧ va_AO "SpilledGroups$State" U
abbrev NU : Type := (Nat → Nat) × Mem
abbrev NG (D : va_G) (cI cO : ClassId) (ids : List Nat) (u : NU) : XG := (D, cI, cO, u.1, ids)
def NQ (D : va_G) (cI cO : ClassId) (ids : List Nat) (A : Nat → Prop) (u : NU) (t : State) : Prop := va_P D vwCl (wW (NG D cI cO ids u) u.2) t.heap ∧ va_D A (wW (NG D cI cO ids u) u.2)
def NM (l : Launch) (D : va_G) (cI cO : ClassId) (y : MethodName) (b : ByteArray) (nl F N mc ms : Nat) (q : Nat) (raw : va_E) (As : List Value) (ids : List Nat) (post : NU → Prop) : Prop :=
  ∀ sz : Nat, Met l y (.code y b nl none :: TB) { frames := F, cells := mc, slots := ms, locals := N } (va_Pc (.ref q :: As) (NB D cI cO sz [(q, raw)])) (va_Qv post (NQ D cI cO ids (va_A [(q, raw)] sz)) (va_A [(q, raw)] sz)) mc ms (va_A [(q, raw)] sz)
theorem N_meth {l : Launch} {D : va_G} {cI cO : ClassId} {y : MethodName} {b : ByteArray} {nl F N mc ms q : Nat} {raw : va_E} {As : List Value} {ids : List Nat} {post : NU → Prop} (own : String) (hown : y.cls = own) (hy : plainName y.cls = true) (hsz : (lg_sl (.ref q :: As)).length ≤ nl) (hnm : y.name = "<init>")
    (body : ∀ (p : Program) (e : Env) (s : State) (m : MethodId) (below : List Frame) (meth : Method) (c : Code) (A : Nat → Prop) (ls : Array Slot), p.tables.exec = Jvm.exec → c.code = b → c.maxLocals = nl → meth.sig.returnType = none → (∀ w ∈ TB, w.before (Value.ref q :: As).toArray s = true) → s.vm.findClass own = some m.cls → meth.locks = false → meth.name = "<init>" → va_K D vwCl (xTy cI cO) s → XN s → va_AO "SpilledGroups$State" s → va_P D vwCl [(q, raw)] s.heap → va_D A [(q, raw)] → (∀ x, s.heap.size ≤ x → A x) → lv_has ls nl (lv_args 0 (.ref q :: As)) →
      W p l e { frames := F, cells := mc, slots := ms, locals := N } s m (Value.ref q :: As).toArray below meth c s.heap [] 0 0 (MQ below (va_Qv post (NQ D cI cO ids A) A) (Value.ref q :: As).toArray s mc ms A) (F0 m 0 ls [])) : NM l D cI cO y b nl F N mc ms q raw As ids post := by
  intro sz
  refine Met.ofW (cc := b) (maxL := nl) (ret := none) hy rfl ?_
  intro p e s m args below meth c s₁ B hml hv
  obtain ⟨rfl, rfl, hP, hK, hD0, hN, hO⟩ := hv
  have hts := atoms_spec (ws := .code y b nl none :: TB) B.pre
  have ho : s.vm.findClass y.cls = some m.cls := findClass_of_methodNamed B.named
  have hin : meth.name = "<init>" := (name_of_methodNamed B.named B.method).1.trans hnm
  rw [lg_entry_eq]
  subst hown
  exact body p e s m below meth c _ _ B.exec B.bytes hml B.returns (fun w hw => hts w (List.mem_cons_of_mem _ hw)) ho B.notSynchronized hin hK hN hO hP hD0.self (fun x hx => Or.inr hx) (lv_entry _ hsz)
section NCalls
variable {p : Program} {l : Launch} {e : Env} {R : Room} {s : State} {m : MethodId} {args : Array Value} {below : List Frame} {meth : Method} {c : Code} {H : Heap} {locs : List Loc} {cells slots : Nat} {Q : State → Prop} {D : va_G} {cI cO : ClassId} {A : Nat → Prop} {ws wr : va_W} {cc : ByteArray} {nL pc : Nat} {own : String} {ls : Array Slot} {st : List Value}
theorem N_call (hx : p.tables.exec = Jvm.exec) (hb : c.code = cc) (hml : c.maxLocals = nL) (hown : s.vm.findClass own = some m.cls) (hts : ∀ w ∈ TB, w.before args s = true) (hK : va_K D vwCl (xTy cI cO) s) (hN : XN s) (hO : va_AO "SpilledGroups$State" s) (hP : va_P D vwCl ws H) (hD : va_D A ws) (hS : va_S A s.heap H locs) (hA : ∀ x, s.heap.size ≤ x → A x) (hls : ls.size = nL)
    {y : MethodName} {b : ByteArray} {nl f n mc ms k index q : Nat} {raw : va_E} {As rest : List Value} {ids : List Nat} {post : NU → Prop} (hM : NM l D cI cO y b nl f n mc ms q raw As ids post) (k0 : Nat) (isR : List Nat)
    (hC : [k0].map (fun i => ws[i]?) = [(q, raw)].map some) (hC' : [k0].filterMap (fun i => ws[i]?) = [(q, raw)]) (hR : isR.map (fun i => ws[i]?) = wr.map some) (hn : va_nd isR = true) (hdis : ∀ i ∈ isR, i ∉ [k0])
    (qc : Cond.code y b nl none ∈ TB) (qi : Cond.initialized y.cls ∈ TB) (qm : Cond.instanceMethod y ∈ TB) (ql : Cond.methodLink own index y ∈ TB) (hy1 : y.name = "<init>") (hd : y.cls ≠ "java/lang/invoke/MethodHandle" ∧ y.cls ≠ "java/lang/invoke/VarHandle" ∧ (parseMethodDescriptor y.desc).map (fun d => d.parameters.length) = some k)
    (hlen : As.length = k) (hRoom : f + 1 ≤ R.frames ∧ 8 + (nl + 11) + n ≤ R.locals) (hst : st = As.reverse ++ .ref q :: rest) (hW : (rest.map fun v => v.category).sum ≤ 8) (hdg : decode cc pc = .ok (.invokespecial index, 3)) (hf : cells + mc ≤ R.cells ∧ slots + ms ≤ R.slots)
    (kk : ∀ (ad1 : Nat → Nat) (S1 : Mem) (H1 : Heap) (locs1 : List Loc), post (ad1, S1) → va_P D vwCl (wr ++ wW (NG D cI cO ids (ad1, S1)) S1) H1 → va_D A (wr ++ wW (NG D cI cO ids (ad1, S1)) S1) → va_S A s.heap H1 locs1 → W p l e R s m args below meth c H1 locs1 (cells + mc) (slots + ms) Q (F0 m (pc + 3) ls rest)) : W p l e R s m args below meth c H locs cells slots Q (F0 m pc ls st) := by
  have hPc := hP.sub (ws' := [(q, raw)]) [k0] hC'
  have hDc := hD.sub (ws' := [(q, raw)]) [k0] (by simp [va_nd]) hC
  have hFc := va_free (wc := [(q, raw)]) hD hS hA [k0] hC
  refine va_callv (va_runI (nL := nL) (n := k) (own := own) (As := As) (rest := rest) (Ts := TB) ⟨hx, hb, hml, hown, hts⟩ (hM H.size) ⟨callB_of k hts (tbl_goodIn qc) rfl rfl rfl (hts _ qi) (hts _ ql) hd hRoom, hy1, hts _ qm⟩ ⟨fun a U g mk z => ?_, fun U hU hW => ⟨rfl, by rw [hU], by rw [hU]; exact hPc, va_K.moved hW.alike hK, hDc.weaken (fun _ _ _ _ => trivial), hN.warm hW, hO.moved hW.alike⟩⟩ rfl hlen hls hst (lv_room hW) hdg hf) hS (fun x _ h => hFc x h) hFc (fun u t H1 locs1 ht hvm hw hB hz1 hk1 hS1 => ?_)
  · obtain ⟨z0, z1, zP, zK, zD, zN, zO⟩ := z
    exact ⟨z0, z1, zP, va_K.moved (u := U) (U := U.calling g mk a) (Vm.Alike.refl U.vm) zK, zD, XN.same (u := U) (U := U.calling g mk a) rfl zN, va_AO.moved (u := U) (U := U.calling g mk a) (Vm.Alike.refl U.vm) zO⟩
  · obtain ⟨hP1, hD1⟩ := hB
    rw [ht] at hP1
    obtain ⟨hP2, hD2⟩ := va_join (wr := wr) (w1 := wW (NG D cI cO ids u) u.2) hP hD [k0] isR hC hR hn hdis hk1 hFc hP1 hD1
    exact kk u.1 u.2 H1 locs1 hw hP2 hD2 hS1
theorem N_callV (hx : p.tables.exec = Jvm.exec) (hb : c.code = cc) (hml : c.maxLocals = nL) (hown : s.vm.findClass own = some m.cls) (hts : ∀ w ∈ TB, w.before args s = true) (hK : va_K D vwCl (xTy cI cO) s) (hN : XN s) (hP : va_P D vwCl ws H) (hD : va_D A ws) (hS : va_S A s.heap H locs) (hA : ∀ x, s.heap.size ≤ x → A x) (hls : ls.size = nL)
    {y : MethodName} {b : ByteArray} {nl f n k index i ci : Nat} {ty : FieldType} (E : XE y b nl (some ty) k) {S : Mem} {ad : Nat → Nat} {ids : List Nat} {fs : List Value} {T : u_T} {Nf : Nat} {As rest : List Value} {K : Int32 → Mem → Prop} (hM : XMi l (NG D cI cO ids (ad, S)) y b nl ty f n (.ref (ad i) :: As) S K) (hc : (i, wcell (NG D cI cO ids (ad, S)) i (S i)) = (i, .inr (ci, fs))) (hi : (wW (NG D cI cO ids (ad, S)) S)[0]? = some (ad i, .inr (ci, fs))) (hcl : vwCl[ci]? = some (y.cls, T, Nf))
    (isC isR : List Nat) (hC : isC.map (fun i => ws[i]?) = (wW (NG D cI cO ids (ad, S)) S).map some) (hC' : isC.filterMap (fun i => ws[i]?) = wW (NG D cI cO ids (ad, S)) S) (hR : isR.map (fun i => ws[i]?) = wr.map some) (hn : va_nd isR = true) (hnC : va_nd isC = true) (hdis : ∀ i ∈ isR, i ∉ isC)
    (ql : Cond.methodLink own index y ∈ TB) (hlen : As.length = k) (hRoom : f + 1 ≤ R.frames ∧ 8 + (nl + 11) + n ≤ R.locals) (hst : st = As.reverse ++ .ref (ad i) :: rest) (hW : (rest.map fun v => v.category).sum ≤ 8) (hdg : decode cc pc = .ok (.invokevirtual index, 3)) (hf : cells ≤ R.cells ∧ slots ≤ R.slots)
    (kk : ∀ (r : Int32) (S1 : Mem) (H1 : Heap) (locs1 : List Loc), K r S1 → va_P D vwCl (wr ++ wW (NG D cI cO ids (ad, S1)) S1) H1 → va_D A (wr ++ wW (NG D cI cO ids (ad, S1)) S1) → va_S A s.heap H1 locs1 → W p l e R s m args below meth c H1 locs1 cells slots Q (F0 m (pc + 3) ls (.int r :: rest))) : W p l e R s m args below meth c H locs cells slots Q (F0 m pc ls st) := by
  have hPc := hP.sub (ws' := wW (NG D cI cO ids (ad, S)) S) isC hC'
  have hDc := hD.sub (ws' := wW (NG D cI cO ids (ad, S)) S) isC hnC hC
  have hFc := va_free (wc := wW (NG D cI cO ids (ad, S)) S) hD hS hA isC hC
  have hXA : ∀ x, XA (NG D cI cO ids (ad, S)) x → va_A (wW (NG D cI cO ids (ad, S)) S) H.size x := by
    rintro x ⟨a, ha, rfl⟩
    obtain ⟨k, -, hk⟩ := wW_get (NG D cI cO ids (ad, S)) S ha
    exact va_A.in hk
  refine va_calli (va_runV (nL := nL) (n := k) (C := y.cls) (own := own) (As := As) (rest := rest) (Ts := TB) ⟨hx, hb, hml, hown, hts⟩ hM ⟨callB_of k hts (tbl_goodIn E.1) rfl rfl rfl (hts _ E.2.2.2.1) (hts _ ql) E.2.2.2.2 hRoom, hts _ E.2.1, hts _ E.2.2.1⟩ ⟨XB_blind _, va_recv hK hPc hcl hi, fun U hU hW => ⟨rfl, by rw [hU]; exact hPc, va_K.moved hW.alike hK, hN.warm hW⟩⟩ rfl hlen hls hst (lv_room hW) hdg hf) hS (fun x _ h => hFc x (hXA x h)) (fun x h => hFc x (hXA x h)) (fun r u t H1 locs1 ht hvm hw hB hz1 hk1 hS1 => ?_)
  obtain ⟨hP1, -, -⟩ := hB
  rw [ht] at hP1
  have hD1 : va_D (va_A (wW (NG D cI cO ids (ad, S)) S) H.size) (wW (NG D cI cO ids (ad, S)) u) := by
    have e : ∀ (k : Nat) (x : Nat × va_E), (wW (NG D cI cO ids (ad, S)) u)[k]? = some x → ∃ y : Nat × va_E, (wW (NG D cI cO ids (ad, S)) S)[k]? = some y ∧ y.1 = x.1 := by
      intro k x hx
      obtain ⟨a, ha, rfl⟩ := wW_inv _ _ hx
      exact ⟨_, wW_at _ _ ha, rfl⟩
    refine ⟨fun i j p q hp hq h => ?_, fun k x hx => ?_⟩
    · obtain ⟨p', h1, h2⟩ := e i p hp
      obtain ⟨q', h3, h4⟩ := e j q hq
      exact hDc.1 i j p' q' h1 h3 (by rw [h2, h4, h])
    · obtain ⟨y, h1, h2⟩ := e k x hx
      rw [← h2]
      exact va_A.in h1
  obtain ⟨hP2, hD2⟩ := va_join (wr := wr) (w1 := wW (NG D cI cO ids (ad, S)) u) hP hD isC isR hC hR hn hdis (fun x h1 h2 => hk1 x h1 (fun z => h2 (hXA x z))) hFc hP1 hD1
  exact kk r u H1 locs1 hw hP2 hD2 hS1
theorem N_newa (hexec : p.tables.exec = Jvm.exec) (hb : c.code = cc) (harr : (Cond.arrayClass .int).before args s = true) (hK : va_K D vwCl (xTy cI cO) s) (hP : va_P D vwCl ws H) (hD : va_D A ws) (hS : va_S A s.heap H locs) (hA : ∀ x, s.heap.size ≤ x → A x)
    {n : Int32} {N' : Nat} {rest : List Value} (hn : ¬ n < 0) (hN : n.toNatClampNeg = N') (hbytes : N' * 4 ≤ 536870912) (hcells : cells + 1 ≤ R.cells) (hslots : slots + N' ≤ R.slots) (hdg : decode cc pc = .ok (.newarray .int, 2))
    (kk : ∀ (q : Nat) (H1 : Heap), va_P D vwCl (ws ++ [(q, .inl (cI, N', .inl (fun _ => 0)))]) H1 → va_D A (ws ++ [(q, .inl (cI, N', .inl (fun _ => 0)))]) → va_S A s.heap H1 locs → W p l e R s m args below meth c H1 locs (cells + 1) (slots + N') Q (F0 m (pc + 2) ls (.ref q :: rest))) : W p l e R s m args below meth c H locs cells slots Q (F0 m pc ls (.int n :: rest)) := by
  refine va_newa (atype := .int) (a0 := (N', .inl (fun _ => 0))) hexec hb harr (ty := .int) rfl hK hP hD hS hA (fun _ => rfl) hn hN hbytes hcells hslots hdg (fun q cA H1 hK1 hP1 hD1 hS1 => ?_)
  have e1 := (hK1.2 2 (cA, .int) rfl).2
  have e2 := (hK1.2 0 (cI, .int) rfl).2
  have e : cA = cI := by
    have a : s.vm.findClass ("[" ++ FieldType.int.toString) = some cA := e1
    have b : s.vm.findClass ("[" ++ FieldType.int.toString) = some cI := e2
    exact Option.some.inj (a.symm.trans b)
  subst e
  exact kk q H1 hP1 hD1 hS1
theorem N_newq (hexec : p.tables.exec = Jvm.exec) (hb : c.code = cc) (hown : s.vm.findClass own = some m.cls) {index : Nat} (hcl : (Cond.classLink own index "SpilledGroups$State").before args s = true) (hover : va_AO "SpilledGroups$State" s) (hK : va_K D vwCl (xTy cI cO) s) (hP : va_P D vwCl ws H) (hD : va_D A ws) (hS : va_S A s.heap H locs) (hA : ∀ x, s.heap.size ≤ x → A x)
    {n : Int32} {N' : Nat} {rest : List Value} (hn : ¬ n < 0) (hN : n.toNatClampNeg = N') (hbytes : N' * 4 ≤ 536870912) (hcells : cells + 1 ≤ R.cells) (hslots : slots + N' ≤ R.slots) (hdg : decode cc pc = .ok (.anewarray index, 3))
    (kk : ∀ (q : Nat) (H1 : Heap), va_P D vwCl (ws ++ [(q, .inl (cO, N', .inr (.inr (.inr (.inr (fun _ => none))))))]) H1 → va_D A (ws ++ [(q, .inl (cO, N', .inr (.inr (.inr (.inr (fun _ => none))))))]) → va_S A s.heap H1 locs → W p l e R s m args below meth c H1 locs (cells + 1) (slots + N') Q (F0 m (pc + 3) ls (.ref q :: rest))) : W p l e R s m args below meth c H locs cells slots Q (F0 m pc ls (.int n :: rest)) := by
  refine va_newq hexec hb hown hcl hover hK hP hD hS hA hn hN hbytes hcells hslots hdg (fun q cA H1 hK1 hP1 hD1 hS1 => ?_)
  obtain ⟨kA, comp, -, -, -, f1⟩ := (hK1.2 2 (cA, .object "SpilledGroups$State") rfl).2
  obtain ⟨kB, comp', -, -, -, f2⟩ := (hK1.2 1 (cO, .object "SpilledGroups$State") rfl).2
  have e : cA = cO := Option.some.inj (f1.symm.trans f2)
  subst e
  exact kk q H1 hP1 hD1 hS1
end NCalls
theorem N_swap {D : va_G} {cl : List vw_C} {ws : va_W} {H : Heap} {k a : Nat} {cA : ClassId} {x x' : vp_A} (hP : va_P D cl ws H) (h : ws[k]? = some (a, .inl (cA, x))) (he : vp_cell cA x = vp_cell cA x') : va_P D cl (ws.set k (a, .inl (cA, x'))) H := by
  have hl := (List.getElem?_eq_some_iff.mp h).1
  intro j q hq
  by_cases hj : j = k
  · subst hj
    rw [List.getElem?_set_self hl] at hq
    cases hq
    have := hP j _ h
    show H[a]? = some (vp_cell cA x')
    rw [← he]
    exact this
  · rw [List.getElem?_set_ne (fun z => hj z.symm)] at hq
    exact hP j q hq
theorem vp_cell_4 (cA : ClassId) (f g : Nat → Option Nat) (h : ∀ j, j < 4 → f j = g j) : vp_cell cA (4, .inr (.inr (.inr (.inr f)))) = vp_cell cA (4, .inr (.inr (.inr (.inr g)))) := by
  rw [vp_cell_q, vp_cell_q]
  simp only [arrV]
  congr 2
  funext j
  rw [h j.val j.isLt]
theorem tab_ctor {t : Nat} (h : t ∈ tabs) : (if nI (tRn t) < 0 then (0 : Int32) else nI (tRn t)) = nI (tRn t) ∧ (if nI (tWn t) < 1 then (1 : Int32) else nI (tWn t)) = nI (tWn t) ∧ nI (tRn t) * nI (tWn t) = nI (tRn t * tWn t) ∧ tRn t * tWn t < 2 ^ 31 ∧ (tRn t * tWn t) * 4 ≤ 536870912 := by
  have d := tdim h
  exact ⟨if_neg (nI_pos (by omega)), if_neg (fun q => absurd ((nI_ltI (b := 1) (by omega) (by omega)).mp q) (by omega)), pk_mul _ _, by omega, by omega⟩
theorem XJ2 {G : XG} {a b : Nat} (hL : xL G = [a, b]) (h : xad G a ≠ xad G b) : XJ G := by
  intro j k x y h1 h2 h3
  rw [hL] at h1 h2
  match j, k with
  | 0, 0 => rfl
  | 1, 1 => rfl
  | 0, 1 => cases h1; cases h2; exact absurd h3 h
  | 1, 0 => cases h1; cases h2; exact absurd h3.symm h
  | j + 2, _ => simp at h1
  | 0, k + 2 => simp at h2
  | 1, k + 2 => simp at h2
