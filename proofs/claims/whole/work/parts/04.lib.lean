def xnest : List Cond := [(Jvm.Cond.fieldLinkNest "SpilledGroups$Groups" (27 : Nat) "SpilledGroups$State" "rows" "LSpilledGroups$Table;" "SpilledGroups"), (Jvm.Cond.fieldLinkNest "SpilledGroups" (46 : Nat) "SpilledGroups$State" "rows" "LSpilledGroups$Table;" "SpilledGroups"), (Jvm.Cond.fieldLinkNest "SpilledGroups" (80 : Nat) "SpilledGroups$State" "settings" "LSpilledGroups$Table;" "SpilledGroups"), (Jvm.Cond.fieldLinkNest "SpilledGroups$Passes" (62 : Nat) "SpilledGroups$Groups" "facts" "LSpilledGroups$Table;" "SpilledGroups"), (Jvm.Cond.fieldLinkNest "SpilledGroups" (104 : Nat) "SpilledGroups$Groups" "facts" "LSpilledGroups$Table;" "SpilledGroups"), (Jvm.Cond.fieldLinkNest "SpilledGroups$Passes" (72 : Nat) "SpilledGroups$Groups" "ofRows" "LSpilledGroups$Table;" "SpilledGroups"), (Jvm.Cond.fieldLinkNest "SpilledGroups" (123 : Nat) "SpilledGroups$Passes" "groups" "LSpilledGroups$Groups;" "SpilledGroups"), (Jvm.Cond.fieldLinkNest "SpilledGroups" (131 : Nat) "SpilledGroups$Passes" "passes" "LSpilledGroups$Table;" "SpilledGroups"), (Jvm.Cond.fieldLinkNest "SpilledGroups" (133 : Nat) "SpilledGroups$Passes" "spills" "LSpilledGroups$Table;" "SpilledGroups"), (Jvm.Cond.fieldLinkNest "SpilledGroups" (117 : Nat) "SpilledGroups$Passes" "ends" "LSpilledGroups$Table;" "SpilledGroups"), (Jvm.Cond.fieldLinkNest "SpilledGroups" (120 : Nat) "SpilledGroups$Passes" "order" "LSpilledGroups$Table;" "SpilledGroups"), (Jvm.Cond.fieldLinkNest "SpilledGroups" (145 : Nat) "SpilledGroups$Passes" "beyond" "I" "SpilledGroups"), (Jvm.Cond.fieldLinkNest "SpilledGroups" (168 : Nat) "SpilledGroups$Text" "characters" "LSpilledGroups$Table;" "SpilledGroups"), (Jvm.Cond.fieldLinkNest "SpilledGroups" (190 : Nat) "SpilledGroups$Text" "rows" "LSpilledGroups$Table;" "SpilledGroups"), (Jvm.Cond.fieldLinkNest "SpilledGroups" (184 : Nat) "SpilledGroups$Text" "position" "I" "SpilledGroups"), (Jvm.Cond.fieldLinkNest "SpilledGroups" (181 : Nat) "SpilledGroups$Text" "reason" "I" "SpilledGroups"), (Jvm.Cond.fieldLinkNest "SpilledGroups" (187 : Nat) "SpilledGroups$Text" "cause" "I" "SpilledGroups"), (Jvm.Cond.methodLinkNest "SpilledGroups$Text" (69 : Nat) ({ cls := "SpilledGroups", name := "isOutside", desc := "(III)Z" } : Jvm.MethodName) "SpilledGroups")]
def XN (U : State) : Prop := ∀ w ∈ xnest, va_Nw w U
theorem XN.same {u U : State} (h : u.vm = U.vm) (hN : XN u) : XN U := by
  intro w hw
  refine va_Nw.same ?_ h (hN w hw)
  revert w
  decide
theorem XN.warm {s U : State} (hN : XN s) (hW : s.WarmedH U.vm) : XN U := by
  intro w hw
  have h0 := hN w hw
  simp only [xnest, List.mem_cons, List.not_mem_nil, or_false] at hw
  rcases hw with rfl | rfl | rfl | rfl | rfl | rfl | rfl | rfl | rfl | rfl | rfl | rfl | rfl | rfl | rfl | rfl | rfl | rfl <;> first | exact va_Nw.warmF hW h0 | exact va_Nw.warmM hW h0
theorem z_61 : (Jvm.Cond.fieldLinkNest "SpilledGroups$Groups" (27 : Nat) "SpilledGroups$State" "rows" "LSpilledGroups$Table;" "SpilledGroups") ∈ xnest := List.mem_of_getElem? (i := 0) rfl
theorem z_62 : (Jvm.Cond.fieldLinkNest "SpilledGroups" (46 : Nat) "SpilledGroups$State" "rows" "LSpilledGroups$Table;" "SpilledGroups") ∈ xnest := List.mem_of_getElem? (i := 1) rfl
theorem z_64 : (Jvm.Cond.fieldLinkNest "SpilledGroups" (80 : Nat) "SpilledGroups$State" "settings" "LSpilledGroups$Table;" "SpilledGroups") ∈ xnest := List.mem_of_getElem? (i := 2) rfl
theorem z_104 : (Jvm.Cond.fieldLinkNest "SpilledGroups$Passes" (62 : Nat) "SpilledGroups$Groups" "facts" "LSpilledGroups$Table;" "SpilledGroups") ∈ xnest := List.mem_of_getElem? (i := 3) rfl
theorem z_105 : (Jvm.Cond.fieldLinkNest "SpilledGroups" (104 : Nat) "SpilledGroups$Groups" "facts" "LSpilledGroups$Table;" "SpilledGroups") ∈ xnest := List.mem_of_getElem? (i := 4) rfl
theorem z_107 : (Jvm.Cond.fieldLinkNest "SpilledGroups$Passes" (72 : Nat) "SpilledGroups$Groups" "ofRows" "LSpilledGroups$Table;" "SpilledGroups") ∈ xnest := List.mem_of_getElem? (i := 5) rfl
theorem z_116 : (Jvm.Cond.fieldLinkNest "SpilledGroups" (123 : Nat) "SpilledGroups$Passes" "groups" "LSpilledGroups$Groups;" "SpilledGroups") ∈ xnest := List.mem_of_getElem? (i := 6) rfl
theorem z_118 : (Jvm.Cond.fieldLinkNest "SpilledGroups" (131 : Nat) "SpilledGroups$Passes" "passes" "LSpilledGroups$Table;" "SpilledGroups") ∈ xnest := List.mem_of_getElem? (i := 7) rfl
theorem z_120 : (Jvm.Cond.fieldLinkNest "SpilledGroups" (133 : Nat) "SpilledGroups$Passes" "spills" "LSpilledGroups$Table;" "SpilledGroups") ∈ xnest := List.mem_of_getElem? (i := 8) rfl
theorem z_122 : (Jvm.Cond.fieldLinkNest "SpilledGroups" (117 : Nat) "SpilledGroups$Passes" "ends" "LSpilledGroups$Table;" "SpilledGroups") ∈ xnest := List.mem_of_getElem? (i := 9) rfl
theorem z_124 : (Jvm.Cond.fieldLinkNest "SpilledGroups" (120 : Nat) "SpilledGroups$Passes" "order" "LSpilledGroups$Table;" "SpilledGroups") ∈ xnest := List.mem_of_getElem? (i := 10) rfl
theorem z_129 : (Jvm.Cond.fieldLinkNest "SpilledGroups" (145 : Nat) "SpilledGroups$Passes" "beyond" "I" "SpilledGroups") ∈ xnest := List.mem_of_getElem? (i := 11) rfl
theorem z_167 : (Jvm.Cond.fieldLinkNest "SpilledGroups" (168 : Nat) "SpilledGroups$Text" "characters" "LSpilledGroups$Table;" "SpilledGroups") ∈ xnest := List.mem_of_getElem? (i := 12) rfl
theorem z_169 : (Jvm.Cond.fieldLinkNest "SpilledGroups" (190 : Nat) "SpilledGroups$Text" "rows" "LSpilledGroups$Table;" "SpilledGroups") ∈ xnest := List.mem_of_getElem? (i := 13) rfl
theorem z_171 : (Jvm.Cond.fieldLinkNest "SpilledGroups" (184 : Nat) "SpilledGroups$Text" "position" "I" "SpilledGroups") ∈ xnest := List.mem_of_getElem? (i := 14) rfl
theorem z_173 : (Jvm.Cond.fieldLinkNest "SpilledGroups" (181 : Nat) "SpilledGroups$Text" "reason" "I" "SpilledGroups") ∈ xnest := List.mem_of_getElem? (i := 15) rfl
theorem z_175 : (Jvm.Cond.fieldLinkNest "SpilledGroups" (187 : Nat) "SpilledGroups$Text" "cause" "I" "SpilledGroups") ∈ xnest := List.mem_of_getElem? (i := 16) rfl
theorem z_535 : (Jvm.Cond.methodLinkNest "SpilledGroups$Text" (69 : Nat) ({ cls := "SpilledGroups", name := "isOutside", desc := "(III)Z" } : Jvm.MethodName) "SpilledGroups") ∈ xnest := List.mem_of_getElem? (i := 17) rfl
/-! a memory of whole numbers: object, place -/
abbrev Mem : Type := Nat → Nat → Int32
def mset (S : Mem) (a : Nat) (f : Nat → Int32) : Mem := fun i => if i = a then f else S i
theorem mset_at (S : Mem) (a : Nat) (f : Nat → Int32) : mset S a f a = f := if_pos rfl
theorem mset_ne (S : Mem) {a i : Nat} (f : Nat → Int32) (h : i ≠ a) : mset S a f i = S i := if_neg h
def mput (S : Mem) (a j : Nat) (v : Int32) : Mem := mset S a (upd (S a) j v)
abbrev XG : Type := va_G × ClassId × ClassId × (Nat → Nat) × List Nat
abbrev xad (G : XG) : Nat → Nat := G.2.2.2.1
abbrev xL (G : XG) : List Nat := G.2.2.2.2
abbrev xI (G : XG) : ClassId := G.2.1
abbrev xO (G : XG) : ClassId := G.2.2.1
abbrev xT (G : XG) : List (ClassId × FieldType) := [(G.2.1, .int), (G.2.2.1, .object "SpilledGroups$State")]
def tabs : List Nat := [2, 4, 9, 11, 14, 16, 19, 21, 24, 26, 29, 31, 34, 36, 38, 40, 42, 44, 46, 49, 51]
def sts : List Nat := [1, 8, 13, 18, 23]
def tWn (t : Nat) : Nat := match t with
  | 2 => 2
  | 4 => 1
  | 9 => 2
  | 11 => 1
  | 14 => 2
  | 16 => 1
  | 19 => 2
  | 21 => 1
  | 24 => 2
  | 26 => 1
  | 29 => 6
  | 31 => 1
  | 34 => 8
  | 36 => 5
  | 38 => 3
  | 40 => 1
  | 42 => 1
  | 44 => 2
  | 46 => 1
  | 49 => 1
  | 51 => 2
  | _ => 1
def tRn (t : Nat) : Nat := match t with
  | 2 => 100
  | 4 => 3
  | 9 => 100
  | 11 => 3
  | 14 => 100
  | 16 => 3
  | 19 => 100
  | 21 => 3
  | 24 => 100
  | 26 => 3
  | 29 => 100
  | 31 => 100
  | 34 => 613
  | 36 => 612
  | 38 => 100
  | 40 => 100
  | 42 => 100
  | 44 => 16
  | 46 => 1600
  | 49 => 60
  | 51 => 15
  | _ => 0
abbrev xtab (G : XG) (t : Nat) (f : Nat → Int32) : va_E := .inr (4, [.ref (xad G (t + 1)), .int (nI (tWn t)), .int (nI (tRn t)), .int (f 3)])
abbrev xarr (G : XG) (n : Nat) (f : Nat → Int32) : va_E := .inl (xI G, n, .inl f)
abbrev xsta (G : XG) (s : Nat) : va_E := .inr (3, [.ref (xad G (s + 1)), .ref (xad G (s + 3))])
def wcell (G : XG) (i : Nat) (f : Nat → Int32) : va_E := match i with
  | 0 => .inr (6, [.ref (xad G 1), .ref (xad G 6), .ref (xad G 33), .ref (xad G 48), .int (f 4)])
  | 1 => xsta G 1
  | 2 => xtab G 2 f
  | 3 => xarr G (tRn 2 * tWn 2) f
  | 4 => xtab G 4 f
  | 5 => xarr G (tRn 4 * tWn 4) f
  | 6 => .inr (1, [.ref (xad G 7), .int (f 1), .int (f 2)])
  | 7 => .inl (xO G, 4, .inr (.inr (.inr (.inr (fun j => some (xad G (8 + 5 * j)))))))
  | 8 => xsta G 8
  | 9 => xtab G 9 f
  | 10 => xarr G (tRn 9 * tWn 9) f
  | 11 => xtab G 11 f
  | 12 => xarr G (tRn 11 * tWn 11) f
  | 13 => xsta G 13
  | 14 => xtab G 14 f
  | 15 => xarr G (tRn 14 * tWn 14) f
  | 16 => xtab G 16 f
  | 17 => xarr G (tRn 16 * tWn 16) f
  | 18 => xsta G 18
  | 19 => xtab G 19 f
  | 20 => xarr G (tRn 19 * tWn 19) f
  | 21 => xtab G 21 f
  | 22 => xarr G (tRn 21 * tWn 21) f
  | 23 => xsta G 23
  | 24 => xtab G 24 f
  | 25 => xarr G (tRn 24 * tWn 24) f
  | 26 => xtab G 26 f
  | 27 => xarr G (tRn 26 * tWn 26) f
  | 28 => .inr (0, [.ref (xad G 29), .ref (xad G 31)])
  | 29 => xtab G 29 f
  | 30 => xarr G (tRn 29 * tWn 29) f
  | 31 => xtab G 31 f
  | 32 => xarr G (tRn 31 * tWn 31) f
  | 33 => .inr (2, [.ref (xad G 28), .ref (xad G 34), .ref (xad G 36), .ref (xad G 38), .ref (xad G 40), .ref (xad G 42), .ref (xad G 44), .ref (xad G 46), .int (f 8), .int (f 9), .int (f 10), .int (f 11)])
  | 34 => xtab G 34 f
  | 35 => xarr G (tRn 34 * tWn 34) f
  | 36 => xtab G 36 f
  | 37 => xarr G (tRn 36 * tWn 36) f
  | 38 => xtab G 38 f
  | 39 => xarr G (tRn 38 * tWn 38) f
  | 40 => xtab G 40 f
  | 41 => xarr G (tRn 40 * tWn 40) f
  | 42 => xtab G 42 f
  | 43 => xarr G (tRn 42 * tWn 42) f
  | 44 => xtab G 44 f
  | 45 => xarr G (tRn 44 * tWn 44) f
  | 46 => xtab G 46 f
  | 47 => xarr G (tRn 46 * tWn 46) f
  | 48 => .inr (5, [.ref (xad G 49), .ref (xad G 51), .int (f 2), .int (f 3), .int (f 4), .int (f 5)])
  | 49 => xtab G 49 f
  | 50 => xarr G (tRn 49 * tWn 49) f
  | 51 => xtab G 51 f
  | 52 => xarr G (tRn 51 * tWn 51) f
  | 53 => .inr (7, [.ref (xad G 54), .ref (xad G 55), .int (f 2), .ref (xad G 56), .int (f 4), .ref (xad G 57), .int (f 6), .ref (xad G 58), .int (f 8), .ref (xad G 59), .int (f 10), .ref (xad G 60), .int (f 12), .int (f 13), .int (f 14), .int (f 15), .ref (xad G 61), .int (f 17), .ref (xad G 62), .ref (xad G 63), .ref (xad G 64), .ref (xad G 65), .int (f 22), .int (f 23), .int (f 24), .int (f 25), .int (f 26), .int (f 27), .int (f 28), .int (f 29)])
  | 54 => xarr G 204 f
  | 55 => xarr G 816 f
  | 56 => xarr G 11400 f
  | 57 => xarr G 500 f
  | 58 => xarr G 13300 f
  | 59 => xarr G 9500 f
  | 60 => xarr G 700 f
  | 61 => xarr G 900 f
  | 62 => xarr G 16 f
  | 63 => xarr G 16 f
  | 64 => xarr G 16 f
  | _ => xarr G 60 f
theorem wc_0 (G : XG) (f : Nat → Int32) : wcell G 0 f = .inr (6, [.ref (xad G 1), .ref (xad G 6), .ref (xad G 33), .ref (xad G 48), .int (f 4)]) := rfl
theorem wc_1 (G : XG) (f : Nat → Int32) : wcell G 1 f = xsta G 1 := rfl
theorem wc_2 (G : XG) (f : Nat → Int32) : wcell G 2 f = xtab G 2 f := rfl
theorem wc_3 (G : XG) (f : Nat → Int32) : wcell G 3 f = xarr G (tRn 2 * tWn 2) f := rfl
theorem wc_4 (G : XG) (f : Nat → Int32) : wcell G 4 f = xtab G 4 f := rfl
theorem wc_5 (G : XG) (f : Nat → Int32) : wcell G 5 f = xarr G (tRn 4 * tWn 4) f := rfl
theorem wc_6 (G : XG) (f : Nat → Int32) : wcell G 6 f = .inr (1, [.ref (xad G 7), .int (f 1), .int (f 2)]) := rfl
theorem wc_7 (G : XG) (f : Nat → Int32) : wcell G 7 f = .inl (xO G, 4, .inr (.inr (.inr (.inr (fun j => some (xad G (8 + 5 * j))))))) := rfl
theorem wc_8 (G : XG) (f : Nat → Int32) : wcell G 8 f = xsta G 8 := rfl
theorem wc_9 (G : XG) (f : Nat → Int32) : wcell G 9 f = xtab G 9 f := rfl
theorem wc_10 (G : XG) (f : Nat → Int32) : wcell G 10 f = xarr G (tRn 9 * tWn 9) f := rfl
theorem wc_11 (G : XG) (f : Nat → Int32) : wcell G 11 f = xtab G 11 f := rfl
theorem wc_12 (G : XG) (f : Nat → Int32) : wcell G 12 f = xarr G (tRn 11 * tWn 11) f := rfl
theorem wc_13 (G : XG) (f : Nat → Int32) : wcell G 13 f = xsta G 13 := rfl
theorem wc_14 (G : XG) (f : Nat → Int32) : wcell G 14 f = xtab G 14 f := rfl
theorem wc_15 (G : XG) (f : Nat → Int32) : wcell G 15 f = xarr G (tRn 14 * tWn 14) f := rfl
theorem wc_16 (G : XG) (f : Nat → Int32) : wcell G 16 f = xtab G 16 f := rfl
theorem wc_17 (G : XG) (f : Nat → Int32) : wcell G 17 f = xarr G (tRn 16 * tWn 16) f := rfl
theorem wc_18 (G : XG) (f : Nat → Int32) : wcell G 18 f = xsta G 18 := rfl
theorem wc_19 (G : XG) (f : Nat → Int32) : wcell G 19 f = xtab G 19 f := rfl
theorem wc_20 (G : XG) (f : Nat → Int32) : wcell G 20 f = xarr G (tRn 19 * tWn 19) f := rfl
theorem wc_21 (G : XG) (f : Nat → Int32) : wcell G 21 f = xtab G 21 f := rfl
theorem wc_22 (G : XG) (f : Nat → Int32) : wcell G 22 f = xarr G (tRn 21 * tWn 21) f := rfl
theorem wc_23 (G : XG) (f : Nat → Int32) : wcell G 23 f = xsta G 23 := rfl
theorem wc_24 (G : XG) (f : Nat → Int32) : wcell G 24 f = xtab G 24 f := rfl
theorem wc_25 (G : XG) (f : Nat → Int32) : wcell G 25 f = xarr G (tRn 24 * tWn 24) f := rfl
theorem wc_26 (G : XG) (f : Nat → Int32) : wcell G 26 f = xtab G 26 f := rfl
theorem wc_27 (G : XG) (f : Nat → Int32) : wcell G 27 f = xarr G (tRn 26 * tWn 26) f := rfl
theorem wc_28 (G : XG) (f : Nat → Int32) : wcell G 28 f = .inr (0, [.ref (xad G 29), .ref (xad G 31)]) := rfl
theorem wc_29 (G : XG) (f : Nat → Int32) : wcell G 29 f = xtab G 29 f := rfl
theorem wc_30 (G : XG) (f : Nat → Int32) : wcell G 30 f = xarr G (tRn 29 * tWn 29) f := rfl
theorem wc_31 (G : XG) (f : Nat → Int32) : wcell G 31 f = xtab G 31 f := rfl
theorem wc_32 (G : XG) (f : Nat → Int32) : wcell G 32 f = xarr G (tRn 31 * tWn 31) f := rfl
theorem wc_33 (G : XG) (f : Nat → Int32) : wcell G 33 f = .inr (2, [.ref (xad G 28), .ref (xad G 34), .ref (xad G 36), .ref (xad G 38), .ref (xad G 40), .ref (xad G 42), .ref (xad G 44), .ref (xad G 46), .int (f 8), .int (f 9), .int (f 10), .int (f 11)]) := rfl
theorem wc_34 (G : XG) (f : Nat → Int32) : wcell G 34 f = xtab G 34 f := rfl
theorem wc_35 (G : XG) (f : Nat → Int32) : wcell G 35 f = xarr G (tRn 34 * tWn 34) f := rfl
theorem wc_36 (G : XG) (f : Nat → Int32) : wcell G 36 f = xtab G 36 f := rfl
theorem wc_37 (G : XG) (f : Nat → Int32) : wcell G 37 f = xarr G (tRn 36 * tWn 36) f := rfl
theorem wc_38 (G : XG) (f : Nat → Int32) : wcell G 38 f = xtab G 38 f := rfl
theorem wc_39 (G : XG) (f : Nat → Int32) : wcell G 39 f = xarr G (tRn 38 * tWn 38) f := rfl
theorem wc_40 (G : XG) (f : Nat → Int32) : wcell G 40 f = xtab G 40 f := rfl
theorem wc_41 (G : XG) (f : Nat → Int32) : wcell G 41 f = xarr G (tRn 40 * tWn 40) f := rfl
theorem wc_42 (G : XG) (f : Nat → Int32) : wcell G 42 f = xtab G 42 f := rfl
theorem wc_43 (G : XG) (f : Nat → Int32) : wcell G 43 f = xarr G (tRn 42 * tWn 42) f := rfl
theorem wc_44 (G : XG) (f : Nat → Int32) : wcell G 44 f = xtab G 44 f := rfl
theorem wc_45 (G : XG) (f : Nat → Int32) : wcell G 45 f = xarr G (tRn 44 * tWn 44) f := rfl
theorem wc_46 (G : XG) (f : Nat → Int32) : wcell G 46 f = xtab G 46 f := rfl
theorem wc_47 (G : XG) (f : Nat → Int32) : wcell G 47 f = xarr G (tRn 46 * tWn 46) f := rfl
theorem wc_48 (G : XG) (f : Nat → Int32) : wcell G 48 f = .inr (5, [.ref (xad G 49), .ref (xad G 51), .int (f 2), .int (f 3), .int (f 4), .int (f 5)]) := rfl
theorem wc_49 (G : XG) (f : Nat → Int32) : wcell G 49 f = xtab G 49 f := rfl
theorem wc_50 (G : XG) (f : Nat → Int32) : wcell G 50 f = xarr G (tRn 49 * tWn 49) f := rfl
theorem wc_51 (G : XG) (f : Nat → Int32) : wcell G 51 f = xtab G 51 f := rfl
theorem wc_52 (G : XG) (f : Nat → Int32) : wcell G 52 f = xarr G (tRn 51 * tWn 51) f := rfl
theorem wc_53 (G : XG) (f : Nat → Int32) : wcell G 53 f = .inr (7, [.ref (xad G 54), .ref (xad G 55), .int (f 2), .ref (xad G 56), .int (f 4), .ref (xad G 57), .int (f 6), .ref (xad G 58), .int (f 8), .ref (xad G 59), .int (f 10), .ref (xad G 60), .int (f 12), .int (f 13), .int (f 14), .int (f 15), .ref (xad G 61), .int (f 17), .ref (xad G 62), .ref (xad G 63), .ref (xad G 64), .ref (xad G 65), .int (f 22), .int (f 23), .int (f 24), .int (f 25), .int (f 26), .int (f 27), .int (f 28), .int (f 29)]) := rfl
theorem wc_54 (G : XG) (f : Nat → Int32) : wcell G 54 f = xarr G 204 f := rfl
theorem wc_55 (G : XG) (f : Nat → Int32) : wcell G 55 f = xarr G 816 f := rfl
theorem wc_56 (G : XG) (f : Nat → Int32) : wcell G 56 f = xarr G 11400 f := rfl
theorem wc_57 (G : XG) (f : Nat → Int32) : wcell G 57 f = xarr G 500 f := rfl
theorem wc_58 (G : XG) (f : Nat → Int32) : wcell G 58 f = xarr G 13300 f := rfl
theorem wc_59 (G : XG) (f : Nat → Int32) : wcell G 59 f = xarr G 9500 f := rfl
theorem wc_60 (G : XG) (f : Nat → Int32) : wcell G 60 f = xarr G 700 f := rfl
theorem wc_61 (G : XG) (f : Nat → Int32) : wcell G 61 f = xarr G 900 f := rfl
theorem wc_62 (G : XG) (f : Nat → Int32) : wcell G 62 f = xarr G 16 f := rfl
theorem wc_63 (G : XG) (f : Nat → Int32) : wcell G 63 f = xarr G 16 f := rfl
theorem wc_64 (G : XG) (f : Nat → Int32) : wcell G 64 f = xarr G 16 f := rfl
theorem wc_65 (G : XG) (f : Nat → Int32) : wcell G 65 f = xarr G 60 f := rfl
theorem tabs_lt {t : Nat} (h : t ∈ tabs) : t < 66 ∧ t + 1 < 66 := by
  simp only [tabs, List.mem_cons, List.not_mem_nil, or_false] at h
  omega
theorem wTab (G : XG) (f : Nat → Int32) {t : Nat} (h : t ∈ tabs) : wcell G t f = xtab G t f := by
  simp only [tabs, List.mem_cons, List.not_mem_nil, or_false] at h
  rcases h with rfl | rfl | rfl | rfl | rfl | rfl | rfl | rfl | rfl | rfl | rfl | rfl | rfl | rfl | rfl | rfl | rfl | rfl | rfl | rfl | rfl <;> rfl
theorem wTabA (G : XG) (f : Nat → Int32) {t : Nat} (h : t ∈ tabs) : wcell G (t + 1) f = xarr G (tRn t * tWn t) f := by
  simp only [tabs, List.mem_cons, List.not_mem_nil, or_false] at h
  rcases h with rfl | rfl | rfl | rfl | rfl | rfl | rfl | rfl | rfl | rfl | rfl | rfl | rfl | rfl | rfl | rfl | rfl | rfl | rfl | rfl | rfl <;> rfl
theorem wSta (G : XG) (f : Nat → Int32) {s : Nat} (h : s ∈ sts) : wcell G s f = xsta G s := by
  simp only [sts, List.mem_cons, List.not_mem_nil, or_false] at h
  rcases h with rfl | rfl | rfl | rfl | rfl <;> rfl
theorem sts_tab {s : Nat} (h : s ∈ sts) : s < 66 ∧ s + 1 ∈ tabs ∧ s + 3 ∈ tabs := by
  simp only [sts, List.mem_cons, List.not_mem_nil, or_false] at h
  rcases h with rfl | rfl | rfl | rfl | rfl <;> decide
def wW (G : XG) (S : Mem) : va_W := (xL G).map (fun i => (xad G i, wcell G i (S i)))
theorem wW_at (G : XG) (S : Mem) {k i : Nat} (h : (xL G)[k]? = some i) : (wW G S)[k]? = some (xad G i, wcell G i (S i)) := by
  simp [wW, h]
theorem wW_get (G : XG) (S : Mem) {i : Nat} (hi : i ∈ xL G) : ∃ k : Nat, (xL G)[k]? = some i ∧ (wW G S)[k]? = some (xad G i, wcell G i (S i)) := by
  obtain ⟨k, hk⟩ := List.getElem?_of_mem hi
  exact ⟨k, hk, wW_at G S hk⟩
theorem wW_inv (G : XG) (S : Mem) {k : Nat} {q : Nat × va_E} (h : (wW G S)[k]? = some q) : ∃ i, (xL G)[k]? = some i ∧ q = (xad G i, wcell G i (S i)) := by
  simp only [wW, List.getElem?_map] at h
  cases hk : (xL G)[k]? with
  | none => rw [hk] at h; cases h
  | some i => rw [hk] at h; exact ⟨i, rfl, (Option.some.inj h).symm⟩
/-- the objects are apart -/
def XJ (G : XG) : Prop := ∀ (j k a b : Nat), (xL G)[j]? = some a → (xL G)[k]? = some b → xad G a = xad G b → j = k
theorem wW_set {G : XG} (hJ : XJ G) {S S' : Mem} {i k : Nat} (hi : (xL G)[k]? = some i) {e : va_E} (he : wcell G i (S' i) = e) (ho : ∀ j, j ≠ i → S' j = S j) : (wW G S).set k (xad G i, e) = wW G S' := by
  have hlen : k < (wW G S).length := (List.getElem?_eq_some_iff.mp (wW_at G S hi)).1
  apply List.ext_getElem?
  intro j
  by_cases hj : j = k
  · subst hj
    rw [List.getElem?_set_self hlen, wW_at G S' hi, he]
  · rw [List.getElem?_set_ne (fun q => hj q.symm)]
    simp only [wW, List.getElem?_map]
    cases hq : (xL G)[j]? with
    | none => rfl
    | some a =>
      have hne : a ≠ i := fun e => hj (hJ j k a i hq hi (by rw [e]))
      simp only [Option.map_some, ho a hne]
def XA (G : XG) : Nat → Prop := fun q => ∃ i, i ∈ xL G ∧ q = xad G i
theorem wW_D {G : XG} (hJ : XJ G) {A : Nat → Prop} (hA : ∀ i, i ∈ xL G → A (xad G i)) (S : Mem) : va_D A (wW G S) := by
  refine ⟨fun i j p q hp hq h => ?_, fun k q hk => ?_⟩
  · obtain ⟨a, h1, rfl⟩ := wW_inv G S hp
    obtain ⟨b, h2, rfl⟩ := wW_inv G S hq
    exact hJ i j a b h1 h2 h
  · obtain ⟨a, h1, rfl⟩ := wW_inv G S hk
    exact hA a (List.mem_of_getElem? h1)
/-- all objects of both sides are there -/
def XF (G : XG) : Prop := ∀ i, i < 66 → i ∈ xL G
/-- a table and its cells are there -/
def XT (G : XG) (t : Nat) : Prop := t ∈ tabs ∧ t ∈ xL G ∧ t + 1 ∈ xL G
theorem XF.tab {G : XG} (h : XF G) {t : Nat} (ht : t ∈ tabs) : XT G t := ⟨ht, h _ (tabs_lt ht).1, h _ (tabs_lt ht).2⟩
/-! the context of a walk, as one value -/
abbrev Kx : Type := Program × Launch × Env × Room × State × MethodId × Array Value × List Frame × Method × Code × XG × (Nat → Prop) × Nat × Nat × Nat × (State → Prop)
abbrev kp (κ : Kx) : Program := κ.1
abbrev kl (κ : Kx) : Launch := κ.2.1
abbrev ke (κ : Kx) : Env := κ.2.2.1
abbrev kR (κ : Kx) : Room := κ.2.2.2.1
abbrev ks (κ : Kx) : State := κ.2.2.2.2.1
abbrev km (κ : Kx) : MethodId := κ.2.2.2.2.2.1
abbrev ka (κ : Kx) : Array Value := κ.2.2.2.2.2.2.1
abbrev kb (κ : Kx) : List Frame := κ.2.2.2.2.2.2.2.1
abbrev kM (κ : Kx) : Method := κ.2.2.2.2.2.2.2.2.1
abbrev kC (κ : Kx) : Code := κ.2.2.2.2.2.2.2.2.2.1
abbrev kG (κ : Kx) : XG := κ.2.2.2.2.2.2.2.2.2.2.1
abbrev kA (κ : Kx) : Nat → Prop := κ.2.2.2.2.2.2.2.2.2.2.2.1
abbrev kN (κ : Kx) : Nat := κ.2.2.2.2.2.2.2.2.2.2.2.2.1
abbrev kc (κ : Kx) : Nat := κ.2.2.2.2.2.2.2.2.2.2.2.2.2.1
abbrev ko (κ : Kx) : Nat := κ.2.2.2.2.2.2.2.2.2.2.2.2.2.2.1
abbrev kQ (κ : Kx) : State → Prop := κ.2.2.2.2.2.2.2.2.2.2.2.2.2.2.2
/-- the machine of κ, at pc, over the memory S, with the locals lv and the stack st, comes to its end -/
def XW (κ : Kx) (S : Mem) (pc : Nat) (lv : List (Nat × Value)) (st : List Value) : Prop :=
  ∀ (H : Heap) (locs : List Loc) (ls : Array Slot), va_P (kG κ).1 vwCl (wW (kG κ) S) H → va_S (kA κ) (ks κ).heap H locs → lv_has ls (kN κ) lv →
    W (kp κ) (kl κ) (ke κ) (kR κ) (ks κ) (km κ) (ka κ) (kb κ) (kM κ) (kC κ) H locs (kc κ) (ko κ) (kQ κ) (F0 (km κ) pc ls st)
def XC (κ : Kx) (own : String) (cc : ByteArray) (nl F N : Nat) : Prop :=
  (kp κ).tables.exec = Jvm.exec ∧ (kC κ).code = cc ∧ (kC κ).maxLocals = nl ∧ kN κ = nl ∧ (ks κ).vm.findClass own = some (km κ).cls ∧ (∀ w ∈ TB, w.before (ka κ) (ks κ) = true) ∧ va_K (kG κ).1 vwCl (xT (kG κ)) (ks κ) ∧ XJ (kG κ) ∧ (∀ i, i ∈ xL (kG κ) → kA κ (xad (kG κ) i)) ∧ (kR κ).frames = F ∧ (kR κ).locals = N ∧ kc κ ≤ (kR κ).cells ∧ ko κ ≤ (kR κ).slots ∧ XN (ks κ)
section XCs
variable {κ : Kx} {own : String} {cc : ByteArray} {nl F N : Nat}
theorem XC.g_ml (C : XC κ own cc nl F N) : (kC κ).maxLocals = nl := C.2.2.1
theorem XC.g_nl (C : XC κ own cc nl F N) : kN κ = nl := C.2.2.2.1
theorem XC.g_own (C : XC κ own cc nl F N) : (ks κ).vm.findClass own = some (km κ).cls := C.2.2.2.2.1
theorem XC.g_ts (C : XC κ own cc nl F N) : ∀ w ∈ TB, w.before (ka κ) (ks κ) = true := C.2.2.2.2.2.1
theorem XC.g_K (C : XC κ own cc nl F N) : va_K (kG κ).1 vwCl (xT (kG κ)) (ks κ) := C.2.2.2.2.2.2.1
theorem XC.g_J (C : XC κ own cc nl F N) : XJ (kG κ) := C.2.2.2.2.2.2.2.1
theorem XC.g_A (C : XC κ own cc nl F N) : ∀ i, i ∈ xL (kG κ) → kA κ (xad (kG κ) i) := C.2.2.2.2.2.2.2.2.1
theorem XC.g_F (C : XC κ own cc nl F N) : (kR κ).frames = F := C.2.2.2.2.2.2.2.2.2.1
theorem XC.g_N (C : XC κ own cc nl F N) : (kR κ).locals = N := C.2.2.2.2.2.2.2.2.2.2.1
theorem XC.g_c (C : XC κ own cc nl F N) : kc κ ≤ (kR κ).cells := C.2.2.2.2.2.2.2.2.2.2.2.1
theorem XC.g_o (C : XC κ own cc nl F N) : ko κ ≤ (kR κ).slots := C.2.2.2.2.2.2.2.2.2.2.2.2.1
theorem XC.g_X (C : XC κ own cc nl F N) : XN (ks κ) := C.2.2.2.2.2.2.2.2.2.2.2.2.2
theorem XC.g_D (C : XC κ own cc nl F N) (S : Mem) : va_D (kA κ) (wW (kG κ) S) := wW_D C.g_J C.g_A S
end XCs
section XRows
variable {κ : Kx} {own : String} {cc : ByteArray} {nl F N : Nat} {S : Mem} {pc : Nat} {lv lv' : List (Nat × Value)} {st : List Value}
theorem X_sub (ks : List Nat) (h : lv_pick lv ks = lv') (kk : XW κ S pc lv' st) : XW κ S pc lv st := fun H locs ls hP hS hl => kk H locs ls hP hS (lv_sub hl ks h)
theorem X_mem {S' : Mem} (h : S = S') (kk : XW κ S' pc lv st) : XW κ S pc lv st := h ▸ kk
theorem X_iconst (C : XC κ own cc nl F N) {n : Int} (v : Int32) (hdg : decode cc pc = .ok (.iconst n, 1)) (hv : Int32.ofInt n = v) (kk : XW κ S (pc + 1) lv (.int v :: st)) : XW κ S pc lv st := fun H locs ls hP hS hl => lv_iconst C.1 C.2.1 hdg hv (kk H locs ls hP hS hl)
theorem X_bipush (C : XC κ own cc nl F N) {n : Int} (v : Int32) (hdg : decode cc pc = .ok (.bipush n, 2)) (hv : (Int8.ofInt n).toInt32 = v) (kk : XW κ S (pc + 2) lv (.int v :: st)) : XW κ S pc lv st := fun H locs ls hP hS hl => lv_bipush C.1 C.2.1 hdg hv (kk H locs ls hP hS hl)
theorem X_sipush (C : XC κ own cc nl F N) {n : Int} (v : Int32) (hdg : decode cc pc = .ok (.sipush n, 3)) (hv : (Int16.ofInt n).toInt32 = v) (kk : XW κ S (pc + 3) lv (.int v :: st)) : XW κ S pc lv st := fun H locs ls hP hS hl => lv_sipush C.1 C.2.1 hdg hv (kk H locs ls hP hS hl)
theorem X_lconst (C : XC κ own cc nl F N) {n : Fin 2} (v : Int64) (hdg : decode cc pc = .ok (.lconst n, 1)) (hv : Int64.ofNat (n : Nat) = v) (kk : XW κ S (pc + 1) lv (.long v :: st)) : XW κ S pc lv st := fun H locs ls hP hS hl => lv_lconst C.1 C.2.1 hdg hv (kk H locs ls hP hS hl)
theorem X_ldc (C : XC κ own cc nl F N) {index : Nat} (v : Int32) (hq : Cond.constant own index v ∈ TB) (hdg : decode cc pc = .ok (.ldc index, 2)) (kk : XW κ S (pc + 2) lv (.int v :: st)) : XW κ S pc lv st := fun H locs ls hP hS hl => lv_ldc C.1 C.2.1 C.g_own (C.g_ts _ hq) hdg (kk H locs ls hP hS hl)
theorem X_ldc2 (C : XC κ own cc nl F N) {index : Nat} (v : Int64) (hq : Cond.constantLong own index v ∈ TB) (hdg : decode cc pc = .ok (.ldc2_w index, 3)) (kk : XW κ S (pc + 3) lv (.long v :: st)) : XW κ S pc lv st := fun H locs ls hP hS hl => lv_ldc2 C.1 C.2.1 C.g_own (C.g_ts _ hq) hdg (kk H locs ls hP hS hl)
theorem X_iload_n (C : XC κ own cc nl F N) {k : Fin 4} (i : Nat) {x : Int32} (q : Nat) (hdg : decode cc pc = .ok (.iload_n k, 1)) (hi : (k : Nat) = i) (hl : lv[q]? = some (i, .int x)) (kk : XW κ S (pc + 1) lv (.int x :: st)) : XW κ S pc lv st := fun H locs ls hP hS h => lv_iload_n C.1 C.2.1 hdg hi (lv_at h q hl) (kk H locs ls hP hS h)
theorem X_iload (C : XC κ own cc nl F N) {i : Nat} {x : Int32} (q : Nat) (hdg : decode cc pc = .ok (.iload i, 2)) (hl : lv[q]? = some (i, .int x)) (kk : XW κ S (pc + 2) lv (.int x :: st)) : XW κ S pc lv st := fun H locs ls hP hS h => lv_iload C.1 C.2.1 hdg (lv_at h q hl) (kk H locs ls hP hS h)
theorem X_lload_n (C : XC κ own cc nl F N) {k : Fin 4} (i : Nat) {x : Int64} (q : Nat) (hdg : decode cc pc = .ok (.lload_n k, 1)) (hi : (k : Nat) = i) (hl : lv[q]? = some (i, .long x)) (kk : XW κ S (pc + 1) lv (.long x :: st)) : XW κ S pc lv st := fun H locs ls hP hS h => lv_lload_n C.1 C.2.1 hdg hi (lv_at h q hl) (kk H locs ls hP hS h)
theorem X_lload (C : XC κ own cc nl F N) {i : Nat} {x : Int64} (q : Nat) (hdg : decode cc pc = .ok (.lload i, 2)) (hl : lv[q]? = some (i, .long x)) (kk : XW κ S (pc + 2) lv (.long x :: st)) : XW κ S pc lv st := fun H locs ls hP hS h => lv_lload C.1 C.2.1 hdg (lv_at h q hl) (kk H locs ls hP hS h)
theorem X_aload_n (C : XC κ own cc nl F N) {k : Fin 4} (i : Nat) {x : Nat} (q : Nat) (hdg : decode cc pc = .ok (.aload_n k, 1)) (hi : (k : Nat) = i) (hl : lv[q]? = some (i, .ref x)) (kk : XW κ S (pc + 1) lv (.ref x :: st)) : XW κ S pc lv st := fun H locs ls hP hS h => lv_aload_n C.1 C.2.1 hdg hi (lv_at h q hl) (kk H locs ls hP hS h)
theorem X_istore_n (C : XC κ own cc nl F N) {k : Fin 4} (i : Nat) {x : Int32} (lv' : List (Nat × Value)) (hdg : decode cc pc = .ok (.istore_n k, 1)) (hi : (k : Nat) = i) (hn : i < nl) (hl : (i, Value.int x) :: lv.filter (fun q => !(q.1 == i) && !(q.1 + 1 == i && q.2.category == 2)) = lv') (kk : XW κ S (pc + 1) lv' st) : XW κ S pc lv (.int x :: st) := fun H locs ls hP hS h => lv_istore_n C.1 C.2.1 hdg hi h (by rw [C.g_nl]; exact hn) hl (fun ls' h' => kk H locs ls' hP hS h')
theorem X_istore (C : XC κ own cc nl F N) {i : Nat} {x : Int32} (lv' : List (Nat × Value)) (hdg : decode cc pc = .ok (.istore i, 2)) (hn : i < nl) (hl : (i, Value.int x) :: lv.filter (fun q => !(q.1 == i) && !(q.1 + 1 == i && q.2.category == 2)) = lv') (kk : XW κ S (pc + 2) lv' st) : XW κ S pc lv (.int x :: st) := fun H locs ls hP hS h => lv_istore C.1 C.2.1 hdg h (by rw [C.g_nl]; exact hn) hl (fun ls' h' => kk H locs ls' hP hS h')
theorem X_astore_n (C : XC κ own cc nl F N) {k : Fin 4} (i : Nat) {x : Nat} (lv' : List (Nat × Value)) (hdg : decode cc pc = .ok (.astore_n k, 1)) (hi : (k : Nat) = i) (hn : i < nl) (hl : (i, Value.ref x) :: lv.filter (fun q => !(q.1 == i) && !(q.1 + 1 == i && q.2.category == 2)) = lv') (kk : XW κ S (pc + 1) lv' st) : XW κ S pc lv (.ref x :: st) := fun H locs ls hP hS h => lv_astore_n C.1 C.2.1 hdg hi h (by rw [C.g_nl]; exact hn) hl (fun ls' h' => kk H locs ls' hP hS h')
theorem X_iinc (C : XC κ own cc nl F N) {i : Nat} {n : Int} {x : Int32} (v : Int32) (q : Nat) (lv' : List (Nat × Value)) (hdg : decode cc pc = .ok (.iinc i n, 3)) (hk : lv[q]? = some (i, .int x)) (hv : x + Int32.ofInt n = v) (hn : i < nl) (hl : (i, Value.int v) :: lv.filter (fun q => !(q.1 == i) && !(q.1 + 1 == i && q.2.category == 2)) = lv') (kk : XW κ S (pc + 3) lv' st) : XW κ S pc lv st := fun H locs ls hP hS h => lv_iinc C.1 C.2.1 hdg h hk hv (by rw [C.g_nl]; exact hn) hl (fun ls' h' => kk H locs ls' hP hS h')
theorem X_dup (C : XC κ own cc nl F N) {a : Value} (hdg : decode cc pc = .ok (.dup, 1)) (ha : a.category = 1) (kk : XW κ S (pc + 1) lv (a :: a :: st)) : XW κ S pc lv (a :: st) := fun H locs ls hP hS h => lv_dup C.1 C.2.1 hdg ha (kk H locs ls hP hS h)
theorem X_dup2 (C : XC κ own cc nl F N) {a b : Value} (hdg : decode cc pc = .ok (.dup2, 1)) (ha : a.category = 1) (hb : b.category = 1) (kk : XW κ S (pc + 1) lv (a :: b :: a :: b :: st)) : XW κ S pc lv (a :: b :: st) := fun H locs ls hP hS h => lv_dup2_11 C.1 C.2.1 hdg ha hb (kk H locs ls hP hS h)
theorem X_pop (C : XC κ own cc nl F N) {a : Value} (hdg : decode cc pc = .ok (.pop, 1)) (ha : a.category = 1) (kk : XW κ S (pc + 1) lv st) : XW κ S pc lv (a :: st) := fun H locs ls hP hS h => lv_pop C.1 C.2.1 hdg ha (kk H locs ls hP hS h)
theorem X_i2l (C : XC κ own cc nl F N) {x : Int32} (hdg : decode cc pc = .ok (.i2l, 1)) (kk : XW κ S (pc + 1) lv (.long x.toInt64 :: st)) : XW κ S pc lv (.int x :: st) := fun H locs ls hP hS h => lv_i2l C.1 C.2.1 hdg rfl (kk H locs ls hP hS h)
theorem X_lcmp (C : XC κ own cc nl F N) {x y : Int64} (hdg : decode cc pc = .ok (.lcmp, 1)) (kk : XW κ S (pc + 1) lv (.int (lg_cmp x y) :: st)) : XW κ S pc lv (.long y :: .long x :: st) := fun H locs ls hP hS h => W.lcmp C.1 C.2.1 hdg (kk H locs ls hP hS h)
theorem X_goto (C : XC κ own cc nl F N) {off : Int} (tgt : Nat) (hdg : decode cc pc = .ok (.goto off, 3)) (ht : (pc : Int) + off = (tgt : Int)) (kk : XW κ S tgt lv st) : XW κ S pc lv st := fun H locs ls hP hS h => lv_goto C.1 C.2.1 hdg ht (kk H locs ls hP hS h)
theorem X_ifnull (C : XC κ own cc nl F N) {x : Nat} {off : Int} (hdg : decode cc pc = .ok (.ifnull off, 3)) (kk : XW κ S (pc + 3) lv st) : XW κ S pc lv (.ref x :: st) := fun H locs ls hP hS h => lv_ifnull C.1 C.2.1 hdg (kk H locs ls hP hS h)
theorem X_tin (C : XC κ own cc nl F N) {dflt lo hi : Int} {offs : Array Int} {len : Nat} {x : Int32} {off : Int} (tgt : Nat) (hdg : decode cc pc = .ok (.tableswitch dflt lo hi offs, len)) (h1 : ¬ x.toInt < lo) (h2 : ¬ hi < x.toInt) (ho : offs[(x.toInt - lo).toNat]? = some off) (ht : (pc : Int) + off = (tgt : Int)) (kk : XW κ S tgt lv st) : XW κ S pc lv (.int x :: st) := fun H locs ls hP hS h => lv_tableIn C.1 C.2.1 hdg h1 h2 ho ht (kk H locs ls hP hS h)
theorem X_tout (C : XC κ own cc nl F N) {dflt lo hi : Int} {offs : Array Int} {len : Nat} {x : Int32} (tgt : Nat) (hdg : decode cc pc = .ok (.tableswitch dflt lo hi offs, len)) (h1 : x.toInt < lo ∨ hi < x.toInt) (ht : (pc : Int) + dflt = (tgt : Int)) (kk : XW κ S tgt lv st) : XW κ S pc lv (.int x :: st) := fun H locs ls hP hS h => lv_tableOut C.1 C.2.1 hdg h1 ht (kk H locs ls hP hS h)
/-! fields and arrays -/
theorem X_get (C : XC κ own cc nl F N) {i ci : Nat} {fs : List Value} (hi : i ∈ xL (kG κ)) (hc : wcell (kG κ) i (S i) = .inr (ci, fs)) {Cn : String} {T : u_T} {Nf : Nat} (hcl : vwCl[ci]? = some (Cn, T, Nf)) (hin : ∀ w ∈ u_ws Cn T Nf, w ∈ TB) (k : Nat) (hk : k < Nf) {index : Nat} (hq : Cond.fieldLink own index (T k).1 (T k).2.1 (T k).2.2.1 ∈ TB) {v : Value} (hv : fs[k]? = some v) (hdg : decode cc pc = .ok (.getfield index, 3)) (kk : XW κ S (pc + 3) lv (v :: st)) : XW κ S pc lv (.ref (xad (kG κ) i) :: st) := by
  intro H locs ls hP hS h
  obtain ⟨q0, -, hq0⟩ := wW_get (kG κ) S hi
  exact va_get C.1 C.2.1 C.g_ts hin C.g_own C.g_K hP q0 (hq0.trans (by rw [hc])) hcl k hk (C.g_ts _ hq) (fun _ h => h) hv hdg (kk H locs ls hP hS h)
theorem X_getN (C : XC κ own cc nl F N) {i ci : Nat} {fs : List Value} (hi : i ∈ xL (kG κ)) (hc : wcell (kG κ) i (S i) = .inr (ci, fs)) {Cn host : String} {T : u_T} {Nf : Nat} (hcl : vwCl[ci]? = some (Cn, T, Nf)) (hin : ∀ w ∈ u_ws Cn T Nf, w ∈ TB) (k : Nat) (hk : k < Nf) {index : Nat} (hq : Cond.fieldLinkNest own index (T k).1 (T k).2.1 (T k).2.2.1 host ∈ xnest) {v : Value} (hv : fs[k]? = some v) (hdg : decode cc pc = .ok (.getfield index, 3)) (kk : XW κ S (pc + 3) lv (v :: st)) : XW κ S pc lv (.ref (xad (kG κ) i) :: st) := by
  intro H locs ls hP hS h
  obtain ⟨q0, -, hq0⟩ := wW_get (kG κ) S hi
  exact va_getN C.1 C.2.1 C.g_ts hin C.g_own C.g_K hP q0 (hq0.trans (by rw [hc])) hcl k hk (va_Nw.use rfl (C.g_X _ hq)) (fun _ h => h) hv hdg (kk H locs ls hP hS h)
theorem X_put (C : XC κ own cc nl F N) {i ci : Nat} {fs : List Value} (hi : i ∈ xL (kG κ)) (hc : wcell (kG κ) i (S i) = .inr (ci, fs)) {Cn : String} {T : u_T} {Nf : Nat} (hcl : vwCl[ci]? = some (Cn, T, Nf)) (hin : ∀ w ∈ u_ws Cn T Nf, w ∈ TB) {ty0 : Nat → FieldType} (hty : ∀ k, k < Nf → parseFieldDescriptor (T k).2.2.1 = some (ty0 k)) (hnm : ∀ a, a < Nf → ∀ b, b < Nf → a ≠ b → (T a).2.1 ≠ (T b).2.1) (k : Nat) (hk : k < Nf) {index : Nat} (hq : Cond.fieldLink own index (T k).1 (T k).2.1 (T k).2.2.1 ∈ TB) (hfin : (T k).2.2.2 = false) {v : Int32} (hn : narrow (ty0 k) (.int v) = .int v) (hfit : fits (ty0 k) (.int v) = true) (hlen : k < fs.length) {S1 : Mem} (hS1 : S1 = mput S i k v) (hc1 : wcell (kG κ) i (upd (S i) k v) = .inr (ci, fs.set k (.int v))) (hdg : decode cc pc = .ok (.putfield index, 3)) (kk : XW κ S1 (pc + 3) lv st) : XW κ S pc lv (.int v :: .ref (xad (kG κ) i) :: st) := by
  intro H locs ls hP hS h
  obtain ⟨q0, hk0, hq0⟩ := wW_get (kG κ) S hi
  refine va_put (fs := fs) C.1 C.2.1 C.g_ts hin ty0 hty hnm C.g_own C.g_K hP (C.g_D S) hS q0 (hq0.trans (by rw [hc])) hcl k hk (C.g_ts _ hq) (fun _ h => h) hfin (hty k hk) hn hfit hlen hdg (fun H1 locs1 hP1 _ hS1' => ?_)
  have e : (wW (kG κ) S).set q0 (xad (kG κ) i, .inr (ci, fs.set k (.int v))) = wW (kG κ) S1 := wW_set C.g_J hk0 (by rw [hS1]; show wcell _ _ (mset S i _ i) = _; rw [mset_at]; exact hc1) (fun j hj => by rw [hS1]; exact mset_ne S _ hj)
  rw [e] at hP1
  exact kk H1 locs1 ls hP1 hS1' h
theorem X_iald (C : XC κ own cc nl F N) {i n : Nat} (hi : i ∈ xL (kG κ)) (hc : wcell (kG κ) i (S i) = xarr (kG κ) n (S i)) {x : Int32} (hin : vp_in x n) (hdg : decode cc pc = .ok (.iaload, 1)) (kk : XW κ S (pc + 1) lv (.int (S i x.toNatClampNeg) :: st)) : XW κ S pc lv (.int x :: .ref (xad (kG κ) i) :: st) := by
  intro H locs ls hP hS h
  obtain ⟨q0, -, hq0⟩ := wW_get (kG κ) S hi
  exact va_iald C.1 C.2.1 C.g_K hP q0 0 (hq0.trans (by rw [hc])) rfl hin hdg (kk H locs ls hP hS h)
theorem X_iast (C : XC κ own cc nl F N) {i n : Nat} (hi : i ∈ xL (kG κ)) (hc : wcell (kG κ) i (S i) = xarr (kG κ) n (S i)) {x v : Int32} (hin : vp_in x n) {S1 : Mem} (hS1 : S1 = mput S i x.toNatClampNeg v) (hc1 : wcell (kG κ) i (upd (S i) x.toNatClampNeg v) = xarr (kG κ) n (upd (S i) x.toNatClampNeg v)) (hdg : decode cc pc = .ok (.iastore, 1)) (kk : XW κ S1 (pc + 1) lv st) : XW κ S pc lv (.int v :: .int x :: .ref (xad (kG κ) i) :: st) := by
  intro H locs ls hP hS h
  obtain ⟨q0, hk0, hq0⟩ := wW_get (kG κ) S hi
  refine va_iast C.1 C.2.1 C.g_K hP (C.g_D S) hS q0 0 (hq0.trans (by rw [hc])) rfl hin hdg (fun H1 locs1 hP1 _ hS1' => ?_)
  have e : (wW (kG κ) S).set q0 (xad (kG κ) i, .inl (xI (kG κ), n, .inl (upd (S i) x.toNatClampNeg v))) = wW (kG κ) S1 := wW_set C.g_J hk0 (by rw [hS1]; show wcell _ _ (mset S i _ i) = _; rw [mset_at]; exact hc1) (fun j hj => by rw [hS1]; exact mset_ne S _ hj)
  rw [e] at hP1
  exact kk H1 locs1 ls hP1 hS1' h
theorem X_alen (C : XC κ own cc nl F N) {i n : Nat} (hi : i ∈ xL (kG κ)) (hc : wcell (kG κ) i (S i) = xarr (kG κ) n (S i)) (hdg : decode cc pc = .ok (.arraylength, 1)) (kk : XW κ S (pc + 1) lv (.int (nI n) :: st)) : XW κ S pc lv (.ref (xad (kG κ) i) :: st) := by
  intro H locs ls hP hS h
  obtain ⟨q0, -, hq0⟩ := wW_get (kG κ) S hi
  exact va_alen (x := (n, .inl (S i))) (v := nI n) C.1 C.2.1 C.g_K hP q0 0 (hq0.trans (by rw [hc])) rfl rfl hdg (kk H locs ls hP hS h)
theorem X_copy (C : XC κ own cc nl F N) {i j n0 n1 : Nat} (hi : i ∈ xL (kG κ)) (hj : j ∈ xL (kG κ)) (hc0 : wcell (kG κ) i (S i) = xarr (kG κ) n0 (S i)) (hc1 : wcell (kG κ) j (S j) = xarr (kG κ) n1 (S j)) {index : Nat} (hq : Cond.methodLink own index arraycopyName ∈ TB) (hq1 : Cond.native arraycopyName ∈ TB) (hq2 : Cond.static arraycopyName ∈ TB) (hq3 : Cond.initialized "java/lang/System" ∈ TB) (hlv : 0 < nl)
    {sp dp n : Int32} (h1 : ¬ sp < 0) (h2 : ¬ dp < 0) (h3 : ¬ n < 0) (h4 : sp.toNatClampNeg + n.toNatClampNeg ≤ n0) (h5 : dp.toNatClampNeg + n.toNatClampNeg ≤ n1) (hF : 1 ≤ F) (hN : (st.map fun v => v.category).sum + (nativeFrameWords "java/lang/System" "arraycopy" 5 + 11) ≤ N) {S1 : Mem} (hS1 : S1 = mset S j (va_cpy (S i) (S j) sp.toNatClampNeg dp.toNatClampNeg n.toNatClampNeg)) (hc2 : wcell (kG κ) j (va_cpy (S i) (S j) sp.toNatClampNeg dp.toNatClampNeg n.toNatClampNeg) = xarr (kG κ) n1 (va_cpy (S i) (S j) sp.toNatClampNeg dp.toNatClampNeg n.toNatClampNeg)) (hdg : decode cc pc = .ok (.invokestatic index, 3)) (kk : XW κ S1 (pc + 3) lv st) : XW κ S pc lv (.int n :: .int dp :: .ref (xad (kG κ) j) :: .int sp :: .ref (xad (kG κ) i) :: st) := by
  intro H locs ls hP hS h
  obtain ⟨q0, -, hq0⟩ := wW_get (kG κ) S hi
  obtain ⟨q1, hk1, hq1'⟩ := wW_get (kG κ) S hj
  refine va_copyi C.1 C.2.1 (by rw [C.g_ml, h.1, C.g_nl]) C.g_own (C.g_ts _ hq) (C.g_ts _ hq1) (C.g_ts _ hq2) (C.g_ts _ hq3) C.g_K hP (C.g_D S) hS q0 q1 0 0 (hq0.trans (by rw [hc0])) (hq1'.trans (by rw [hc1])) rfl rfl rfl h1 h2 h3 h4 h5 (fun _ _ => rfl) (by rw [C.g_F]; exact hF) (by rw [C.g_N]; exact hN) hdg (fun H1 locs1 hP1 _ hS1' => ?_)
  have e : (wW (kG κ) S).set q1 (xad (kG κ) j, .inl (xI (kG κ), n1, .inl (va_cpy (S i) (S j) sp.toNatClampNeg dp.toNatClampNeg n.toNatClampNeg))) = wW (kG κ) S1 := wW_set C.g_J hk1 (by rw [hS1, mset_at]; exact hc2) (fun k hk => by rw [hS1]; exact mset_ne S _ hk)
  rw [e] at hP1
  exact kk H1 locs1 ls hP1 hS1' h
theorem X_max (C : XC κ own cc nl F N) {index : Nat} (hq : Cond.methodLink own index Lib.Math.max.name ∈ TB) (hq1 : Cond.static Lib.Math.max.name ∈ TB) (hq2 : Cond.initialized "java/lang/Math" ∈ TB) (hq3 : Cond.code Lib.Math.max.name Lib.Math.max.code 2 (some .int) ∈ TB) {x y : Int32} (hF : 1 ≤ F) (hN : (st.map fun v => v.category).sum + 13 ≤ N) (hdg : decode cc pc = .ok (.invokestatic index, 3)) (kk : XW κ S (pc + 3) lv (.int (if x < y then y else x) :: st)) : XW κ S pc lv (.int y :: .int x :: st) := fun H locs ls hP hS h => va_mmax C.1 C.2.1 (by rw [C.g_ml, h.1, C.g_nl]) C.g_own (C.g_ts _ hq) (C.g_ts _ hq1) (C.g_ts _ hq2) (C.g_ts _ hq3) (by rw [C.g_F]; exact hF) (by rw [C.g_N]; exact hN) C.g_c C.g_o hdg (kk H locs ls hP hS h)
theorem X_min (C : XC κ own cc nl F N) {index : Nat} (hq : Cond.methodLink own index Lib.Math.min.name ∈ TB) (hq1 : Cond.static Lib.Math.min.name ∈ TB) (hq2 : Cond.initialized "java/lang/Math" ∈ TB) (hq3 : Cond.code Lib.Math.min.name Lib.Math.min.code 2 (some .int) ∈ TB) {x y : Int32} (hF : 1 ≤ F) (hN : (st.map fun v => v.category).sum + 13 ≤ N) (hdg : decode cc pc = .ok (.invokestatic index, 3)) (kk : XW κ S (pc + 3) lv (.int (if y < x then y else x) :: st)) : XW κ S pc lv (.int y :: .int x :: st) := fun H locs ls hP hS h => va_mmin C.1 C.2.1 (by rw [C.g_ml, h.1, C.g_nl]) C.g_own (C.g_ts _ hq) (C.g_ts _ hq1) (C.g_ts _ hq2) (C.g_ts _ hq3) (by rw [C.g_F]; exact hF) (by rw [C.g_N]; exact hN) C.g_c C.g_o hdg (kk H locs ls hP hS h)
end XRows
/-! contracts -/
def XB (G : XG) (S : Mem) (U : State) : Prop := va_P G.1 vwCl (wW G S) U.heap ∧ va_K G.1 vwCl (xT G) U ∧ XN U
def XMi (l : Launch) (G : XG) (y : MethodName) (b : ByteArray) (nl : Nat) (ty : FieldType) (F N : Nat) (av : List Value) (S : Mem) (K : Int32 → Mem → Prop) : Prop := Met l y (.code y b nl (some ty) :: TB) { frames := F, cells := 0, slots := 0, locals := N } (va_Pc av (XB G S)) (va_Qi K (XB G) (XA G)) 0 0 (XA G)
def XMv (l : Launch) (G : XG) (y : MethodName) (b : ByteArray) (nl : Nat) (F N : Nat) (av : List Value) (S : Mem) (K : Mem → Prop) : Prop := Met l y (.code y b nl none :: TB) { frames := F, cells := 0, slots := 0, locals := N } (va_Pc av (XB G S)) (va_Qv K (XB G) (XA G)) 0 0 (XA G)
def XMe (l : Launch) (G : XG) (y : MethodName) (b : ByteArray) (nl : Nat) (ty : FieldType) (F N : Nat) (av : List Value) (S : Mem) (K : Option Nat → Mem → Prop) : Prop := Met l y (.code y b nl (some ty) :: TB) { frames := F, cells := 0, slots := 0, locals := N } (va_Pc av (XB G S)) (va_Qe (xad G) K (XB G) (XA G)) 0 0 (XA G)
def XRet (κ : Kx) (rt : Option FieldType) (Qc : Array Value → State → Outcome → State → Prop) : Prop :=
  (kM κ).sig.returnType = rt ∧ (kM κ).locks = false ∧ kA κ = XA (kG κ) ∧ kc κ = 0 ∧ ko κ = 0 ∧ kQ κ = MQ (kb κ) Qc (ka κ) (ks κ) 0 0 (XA (kG κ))
theorem tbl_goodIn {w : Cond} (h : w ∈ TB) : GoodIn TB (w :: TB) := fun v hv => by
  have hm : v ∈ TB := (List.mem_cons.mp hv).elim (fun e => e ▸ h) id
  exact ⟨hm, good_of_word (List.mem_filter.mp hm).2⟩
theorem XB_blind {G : XG} {S : Mem} (av : List Value) : FrameBlind (va_Pc av (XB G S)) := fun a U g mk q => by
  obtain ⟨q0, qP, qK, qN⟩ := q
  exact ⟨q0, qP, va_K.moved (u := U) (U := U.calling g mk a) (Vm.Alike.refl U.vm) qK, XN.same (u := U) (U := U.calling g mk a) rfl qN⟩
theorem XB_pre {κ : Kx} {own : String} {cc : ByteArray} {nl F N : Nat} (C : XC κ own cc nl F N) {S : Mem} {H : Heap} (hP : va_P (kG κ).1 vwCl (wW (kG κ) S) H) (av : List Value) : ∀ U : State, U.heap = H → (ks κ).WarmedH U.vm → va_Pc av (XB (kG κ) S) av.toArray U := fun U hU hW => ⟨rfl, by rw [hU]; exact hP, va_K.moved hW.alike C.g_K, C.g_X.warm hW⟩
/-- a method's facts in the tables: its code, that it is an object's, which it selects -/
def XE (y : MethodName) (b : ByteArray) (nl : Nat) (ret : Option FieldType) (n : Nat) : Prop := Cond.code y b nl ret ∈ TB ∧ Cond.instanceMethod y ∈ TB ∧ Cond.selects y.cls y y ∈ TB ∧ Cond.initialized y.cls ∈ TB ∧ (y.cls ≠ "java/lang/invoke/MethodHandle" ∧ y.cls ≠ "java/lang/invoke/VarHandle" ∧ (parseMethodDescriptor y.desc).map (fun d => d.parameters.length) = some n)
def XEs (y : MethodName) (b : ByteArray) (nl : Nat) (ret : Option FieldType) (n : Nat) : Prop := Cond.code y b nl ret ∈ TB ∧ Cond.static y ∈ TB ∧ Cond.initialized y.cls ∈ TB ∧ (y.cls ≠ "java/lang/invoke/MethodHandle" ∧ y.cls ≠ "java/lang/invoke/VarHandle" ∧ (parseMethodDescriptor y.desc).map (fun d => d.parameters.length) = some n)
section XCalls
variable {κ : Kx} {own : String} {cc : ByteArray} {nl F N : Nat} {S : Mem} {pc : Nat} {lv : List (Nat × Value)} {st : List Value}
theorem X_runV (C : XC κ own cc nl F N) {y : MethodName} {b : ByteArray} {nc f n k index : Nat} {ret : Option FieldType} {Qc : Array Value → State → Outcome → State → Prop} (E : XE y b nc ret k) (As rest : List Value) {i ci : Nat} {fs : List Value} {T : u_T} {Nf : Nat} (hM : Met (kl κ) y (.code y b nc ret :: TB) { frames := f, cells := 0, slots := 0, locals := n } (va_Pc (.ref (xad (kG κ) i) :: As) (XB (kG κ) S)) Qc 0 0 (XA (kG κ))) (hi : i ∈ xL (kG κ)) (hc : wcell (kG κ) i (S i) = .inr (ci, fs)) (hcl : vwCl[ci]? = some (y.cls, T, Nf)) (hq : Cond.methodLink own index y ∈ TB) (hn : As.length = k) (hR : f + 1 ≤ F ∧ 8 + (nc + 11) + n ≤ N) (hst : st = As.reverse ++ .ref (xad (kG κ) i) :: rest) (hW : (rest.map fun v => v.category).sum ≤ 8) (hdg : decode cc pc = .ok (.invokevirtual index, 3)) {H : Heap} {locs : List Loc} {ls : Array Slot} (hP : va_P (kG κ).1 vwCl (wW (kG κ) S) H) (h : lv_has ls (kN κ) lv) :
    va_Run (kp κ) (kl κ) (ke κ) (kR κ) (ks κ) (km κ) (ka κ) (kb κ) (kM κ) (kC κ) H locs (kc κ) (ko κ) 0 0 (F0 (km κ) pc ls st) rest (Qc (Value.ref (xad (kG κ) i) :: As).toArray) (XA (kG κ)) := by
  obtain ⟨q0, -, hq0⟩ := wW_get (kG κ) S hi
  exact va_runV (nL := nl) (n := k) (C := y.cls) (own := own) (As := As) (Ts := TB) ⟨C.1, C.2.1, C.g_ml, C.g_own, C.g_ts⟩ hM
    ⟨callB_of k C.g_ts (tbl_goodIn E.1) rfl rfl rfl (C.g_ts _ E.2.2.2.1) (C.g_ts _ hq) E.2.2.2.2 (by rw [C.g_F, C.g_N]; exact hR), C.g_ts _ E.2.1, C.g_ts _ E.2.2.1⟩
    ⟨XB_blind _, va_recv C.g_K hP hcl (hq0.trans (by rw [hc])), XB_pre C hP _⟩ rfl hn (h.1.trans C.g_nl) hst (lv_room hW) hdg ⟨C.g_c, C.g_o⟩
theorem X_runS (C : XC κ own cc nl F N) {y : MethodName} {b : ByteArray} {nc f n k index : Nat} {ret : Option FieldType} {Qc : Array Value → State → Outcome → State → Prop} (E : XEs y b nc ret k) (As rest : List Value) (hM : Met (kl κ) y (.code y b nc ret :: TB) { frames := f, cells := 0, slots := 0, locals := n } (va_Pc As (XB (kG κ) S)) Qc 0 0 (XA (kG κ))) (hq : Cond.methodLink own index y ∈ TB) (hn : As.length = k) (hR : f + 1 ≤ F ∧ 8 + (nc + 11) + n ≤ N) (hst : st = As.reverse ++ rest) (hW : (rest.map fun v => v.category).sum ≤ 8) (hdg : decode cc pc = .ok (.invokestatic index, 3)) {H : Heap} {locs : List Loc} {ls : Array Slot} (hP : va_P (kG κ).1 vwCl (wW (kG κ) S) H) (h : lv_has ls (kN κ) lv) :
    va_Run (kp κ) (kl κ) (ke κ) (kR κ) (ks κ) (km κ) (ka κ) (kb κ) (kM κ) (kC κ) H locs (kc κ) (ko κ) 0 0 (F0 (km κ) pc ls st) rest (Qc As.toArray) (XA (kG κ)) :=
  va_runS (nL := nl) (n := k) (own := own) (As := As) (Ts := TB) ⟨C.1, C.2.1, C.g_ml, C.g_own, C.g_ts⟩ hM
    ⟨callB_of k C.g_ts (tbl_goodIn E.1) rfl rfl rfl (C.g_ts _ E.2.2.1) (C.g_ts _ hq) E.2.2.2 (by rw [C.g_F, C.g_N]; exact hR), C.g_ts _ E.2.1⟩
    ⟨XB_blind _, XB_pre C hP _⟩ rfl hn (h.1.trans C.g_nl) hst (lv_room hW) hdg ⟨C.g_c, C.g_o⟩
theorem X_runSN (C : XC κ own cc nl F N) {y : MethodName} {b : ByteArray} {nc f n k index : Nat} {host : String} {ret : Option FieldType} {Qc : Array Value → State → Outcome → State → Prop} (E : XEs y b nc ret k) (As rest : List Value) (hM : Met (kl κ) y (.code y b nc ret :: TB) { frames := f, cells := 0, slots := 0, locals := n } (va_Pc As (XB (kG κ) S)) Qc 0 0 (XA (kG κ))) (hq : Cond.methodLinkNest own index y host ∈ xnest) (hn : As.length = k) (hR : f + 1 ≤ F ∧ 8 + (nc + 11) + n ≤ N) (hst : st = As.reverse ++ rest) (hW : (rest.map fun v => v.category).sum ≤ 8) (hdg : decode cc pc = .ok (.invokestatic index, 3)) {H : Heap} {locs : List Loc} {ls : Array Slot} (hP : va_P (kG κ).1 vwCl (wW (kG κ) S) H) (h : lv_has ls (kN κ) lv) :
    va_Run (kp κ) (kl κ) (ke κ) (kR κ) (ks κ) (km κ) (ka κ) (kb κ) (kM κ) (kC κ) H locs (kc κ) (ko κ) 0 0 (F0 (km κ) pc ls st) rest (Qc As.toArray) (XA (kG κ)) :=
  va_runSN (nL := nl) (n := k) (own := own) (host := host) (As := As) (Ts := TB) ⟨C.1, C.2.1, C.g_ml, C.g_own, C.g_ts⟩ hM
    ⟨va_cnB k C.g_ts (tbl_goodIn E.1) rfl rfl rfl (C.g_X _ hq) (C.g_ts _ E.2.2.1) E.2.2.2 (by rw [C.g_F, C.g_N]; exact hR), C.g_ts _ E.2.1, trivial⟩
    ⟨XB_blind _, XB_pre C hP _⟩ rfl hn (h.1.trans C.g_nl) hst (lv_room hW) hdg ⟨C.g_c, C.g_o⟩
theorem XC.g_sub (C : XC κ own cc nl F N) : ∀ q, XA (kG κ) q → kA κ q := fun q ⟨i, hi, e⟩ => e ▸ C.g_A i hi
theorem X_endi (C : XC κ own cc nl F N) {K : Int32 → Mem → Prop} {rest : List Value} {a : Array Value} (hr : ∀ (H : Heap) (locs : List Loc) (ls : Array Slot), va_P (kG κ).1 vwCl (wW (kG κ) S) H → lv_has ls (kN κ) lv → va_Run (kp κ) (kl κ) (ke κ) (kR κ) (ks κ) (km κ) (ka κ) (kb κ) (kM κ) (kC κ) H locs (kc κ) (ko κ) 0 0 (F0 (km κ) pc ls st) rest (va_Qi K (XB (kG κ)) (XA (kG κ)) a) (XA (kG κ))) (kk : ∀ (r : Int32) (S1 : Mem), K r S1 → XW κ S1 (pc + 3) lv (.int r :: rest)) : XW κ S pc lv st := by
  intro H locs ls hP hS h
  refine va_calli (hr H locs ls hP h) hS (fun q _ hq => C.g_sub q hq) C.g_sub (fun r u t H1 locs1 ht hvm hw hB _ _ hS1 => ?_)
  exact kk r u hw H1 locs1 ls (by rw [← ht]; exact hB.1) hS1 h
theorem X_endv (C : XC κ own cc nl F N) {K : Mem → Prop} {rest : List Value} {a : Array Value} (hr : ∀ (H : Heap) (locs : List Loc) (ls : Array Slot), va_P (kG κ).1 vwCl (wW (kG κ) S) H → lv_has ls (kN κ) lv → va_Run (kp κ) (kl κ) (ke κ) (kR κ) (ks κ) (km κ) (ka κ) (kb κ) (kM κ) (kC κ) H locs (kc κ) (ko κ) 0 0 (F0 (km κ) pc ls st) rest (va_Qv K (XB (kG κ)) (XA (kG κ)) a) (XA (kG κ))) (kk : ∀ (S1 : Mem), K S1 → XW κ S1 (pc + 3) lv rest) : XW κ S pc lv st := by
  intro H locs ls hP hS h
  refine va_callv (hr H locs ls hP h) hS (fun q _ hq => C.g_sub q hq) C.g_sub (fun u t H1 locs1 ht hvm hw hB _ _ hS1 => ?_)
  exact kk u hw H1 locs1 ls (by rw [← ht]; exact hB.1) hS1 h
theorem X_ende (C : XC κ own cc nl F N) {K : Option Nat → Mem → Prop} {rest : List Value} {a : Array Value} (hr : ∀ (H : Heap) (locs : List Loc) (ls : Array Slot), va_P (kG κ).1 vwCl (wW (kG κ) S) H → lv_has ls (kN κ) lv → va_Run (kp κ) (kl κ) (ke κ) (kR κ) (ks κ) (km κ) (ka κ) (kb κ) (kM κ) (kC κ) H locs (kc κ) (ko κ) 0 0 (F0 (km κ) pc ls st) rest (va_Qe (xad (kG κ)) K (XB (kG κ)) (XA (kG κ)) a) (XA (kG κ))) (kk : ∀ (r : Option Nat) (S1 : Mem), K r S1 → XW κ S1 (pc + 3) lv (va_re (xad (kG κ)) r :: rest)) : XW κ S pc lv st := by
  intro H locs ls hP hS h
  refine va_calle (hr H locs ls hP h) hS (fun q _ hq => C.g_sub q hq) C.g_sub (fun r u t H1 locs1 ht hvm hw hB _ _ hS1 => ?_)
  exact kk r u hw H1 locs1 ls (by rw [← ht]; exact hB.1) hS1 h
theorem X_callVi (C : XC κ own cc nl F N) {y : MethodName} {b : ByteArray} {nc f n k index : Nat} {ty : FieldType} {K : Int32 → Mem → Prop} (E : XE y b nc (some ty) k) (As rest : List Value) {i ci : Nat} {fs : List Value} {T : u_T} {Nf : Nat} (hM : XMi (kl κ) (kG κ) y b nc ty f n (.ref (xad (kG κ) i) :: As) S K) (hi : i ∈ xL (kG κ)) (hc : wcell (kG κ) i (S i) = .inr (ci, fs)) (hcl : vwCl[ci]? = some (y.cls, T, Nf)) (hq : Cond.methodLink own index y ∈ TB) (hn : As.length = k) (hR : f + 1 ≤ F ∧ 8 + (nc + 11) + n ≤ N) (hst : st = As.reverse ++ .ref (xad (kG κ) i) :: rest) (hW : (rest.map fun v => v.category).sum ≤ 8) (hdg : decode cc pc = .ok (.invokevirtual index, 3)) (kk : ∀ (r : Int32) (S1 : Mem), K r S1 → XW κ S1 (pc + 3) lv (.int r :: rest)) : XW κ S pc lv st := X_endi C (fun _ _ _ hP h => X_runV C E As rest hM hi hc hcl hq hn hR hst hW hdg hP h) kk
theorem X_callVv (C : XC κ own cc nl F N) {y : MethodName} {b : ByteArray} {nc f n k index : Nat} {K : Mem → Prop} (E : XE y b nc none k) (As rest : List Value) {i ci : Nat} {fs : List Value} {T : u_T} {Nf : Nat} (hM : XMv (kl κ) (kG κ) y b nc f n (.ref (xad (kG κ) i) :: As) S K) (hi : i ∈ xL (kG κ)) (hc : wcell (kG κ) i (S i) = .inr (ci, fs)) (hcl : vwCl[ci]? = some (y.cls, T, Nf)) (hq : Cond.methodLink own index y ∈ TB) (hn : As.length = k) (hR : f + 1 ≤ F ∧ 8 + (nc + 11) + n ≤ N) (hst : st = As.reverse ++ .ref (xad (kG κ) i) :: rest) (hW : (rest.map fun v => v.category).sum ≤ 8) (hdg : decode cc pc = .ok (.invokevirtual index, 3)) (kk : ∀ (S1 : Mem), K S1 → XW κ S1 (pc + 3) lv rest) : XW κ S pc lv st := X_endv C (fun _ _ _ hP h => X_runV C E As rest hM hi hc hcl hq hn hR hst hW hdg hP h) kk
theorem X_callVe (C : XC κ own cc nl F N) {y : MethodName} {b : ByteArray} {nc f n k index : Nat} {ty : FieldType} {K : Option Nat → Mem → Prop} (E : XE y b nc (some ty) k) (As rest : List Value) {i ci : Nat} {fs : List Value} {T : u_T} {Nf : Nat} (hM : XMe (kl κ) (kG κ) y b nc ty f n (.ref (xad (kG κ) i) :: As) S K) (hi : i ∈ xL (kG κ)) (hc : wcell (kG κ) i (S i) = .inr (ci, fs)) (hcl : vwCl[ci]? = some (y.cls, T, Nf)) (hq : Cond.methodLink own index y ∈ TB) (hn : As.length = k) (hR : f + 1 ≤ F ∧ 8 + (nc + 11) + n ≤ N) (hst : st = As.reverse ++ .ref (xad (kG κ) i) :: rest) (hW : (rest.map fun v => v.category).sum ≤ 8) (hdg : decode cc pc = .ok (.invokevirtual index, 3)) (kk : ∀ (r : Option Nat) (S1 : Mem), K r S1 → XW κ S1 (pc + 3) lv (va_re (xad (kG κ)) r :: rest)) : XW κ S pc lv st := X_ende C (fun _ _ _ hP h => X_runV C E As rest hM hi hc hcl hq hn hR hst hW hdg hP h) kk
theorem X_callSi (C : XC κ own cc nl F N) {y : MethodName} {b : ByteArray} {nc f n k index : Nat} {ty : FieldType} {K : Int32 → Mem → Prop} (E : XEs y b nc (some ty) k) (As rest : List Value) (hM : XMi (kl κ) (kG κ) y b nc ty f n As S K) (hq : Cond.methodLink own index y ∈ TB) (hn : As.length = k) (hR : f + 1 ≤ F ∧ 8 + (nc + 11) + n ≤ N) (hst : st = As.reverse ++ rest) (hW : (rest.map fun v => v.category).sum ≤ 8) (hdg : decode cc pc = .ok (.invokestatic index, 3)) (kk : ∀ (r : Int32) (S1 : Mem), K r S1 → XW κ S1 (pc + 3) lv (.int r :: rest)) : XW κ S pc lv st := X_endi C (fun _ _ _ hP h => X_runS C E As rest hM hq hn hR hst hW hdg hP h) kk
theorem X_callSv (C : XC κ own cc nl F N) {y : MethodName} {b : ByteArray} {nc f n k index : Nat} {K : Mem → Prop} (E : XEs y b nc none k) (As rest : List Value) (hM : XMv (kl κ) (kG κ) y b nc f n As S K) (hq : Cond.methodLink own index y ∈ TB) (hn : As.length = k) (hR : f + 1 ≤ F ∧ 8 + (nc + 11) + n ≤ N) (hst : st = As.reverse ++ rest) (hW : (rest.map fun v => v.category).sum ≤ 8) (hdg : decode cc pc = .ok (.invokestatic index, 3)) (kk : ∀ (S1 : Mem), K S1 → XW κ S1 (pc + 3) lv rest) : XW κ S pc lv st := X_endv C (fun _ _ _ hP h => X_runS C E As rest hM hq hn hR hst hW hdg hP h) kk
theorem X_callSNi (C : XC κ own cc nl F N) {y : MethodName} {b : ByteArray} {nc f n k index : Nat} {host : String} {ty : FieldType} {K : Int32 → Mem → Prop} (E : XEs y b nc (some ty) k) (As rest : List Value) (hM : XMi (kl κ) (kG κ) y b nc ty f n As S K) (hq : Cond.methodLinkNest own index y host ∈ xnest) (hn : As.length = k) (hR : f + 1 ≤ F ∧ 8 + (nc + 11) + n ≤ N) (hst : st = As.reverse ++ rest) (hW : (rest.map fun v => v.category).sum ≤ 8) (hdg : decode cc pc = .ok (.invokestatic index, 3)) (kk : ∀ (r : Int32) (S1 : Mem), K r S1 → XW κ S1 (pc + 3) lv (.int r :: rest)) : XW κ S pc lv st := X_endi C (fun _ _ _ hP h => X_runSN C E As rest hM hq hn hR hst hW hdg hP h) kk
/-! ends -/
theorem X_iret (C : XC κ own cc nl F N) {ty : FieldType} {K : Int32 → Mem → Prop} (E : XRet κ (some ty) (va_Qi K (XB (kG κ)) (XA (kG κ)))) {v : Int32} (hn : narrow ty (.int v) = .int v) (h : K v S) (hdg : decode cc pc = .ok (.ireturn, 1)) : XW κ S pc lv [.int v] := by
  obtain ⟨hr, hlocks, hA, e1, e2, eQ⟩ := E
  intro H locs ls hP hS hl
  rw [eQ, e1, e2]
  rw [hA] at hS
  exact W.zret C.1 C.2.1 hr hn (fun t ht hW => ⟨⟨v, S, rfl, h, by rw [ht]; exact hP, va_K.moved hW.alike C.g_K, C.g_X.warm hW⟩, hS.F ht⟩) hS.2.2 hdg hlocks
theorem X_vret (C : XC κ own cc nl F N) {K : Mem → Prop} (E : XRet κ none (va_Qv K (XB (kG κ)) (XA (kG κ)))) (h : K S) (hdg : decode cc pc = .ok (.return_, 1)) : XW κ S pc lv [] := by
  obtain ⟨hr, hlocks, hA, e1, e2, eQ⟩ := E
  intro H locs ls hP hS hl
  rw [eQ, e1, e2]
  rw [hA] at hS
  exact W.vret C.1 C.2.1 hr (fun t ht hW => ⟨⟨S, rfl, h, by rw [ht]; exact hP, va_K.moved hW.alike C.g_K, C.g_X.warm hW⟩, hS.F ht⟩) hS.2.2 hdg hlocks
theorem X_aret (C : XC κ own cc nl F N) {cn : String} {K : Option Nat → Mem → Prop} (E : XRet κ (some (.object cn)) (va_Qe (xad (kG κ)) K (XB (kG κ)) (XA (kG κ)))) (r : Option Nat) {v : Value} (hv : v = va_re (xad (kG κ)) r) (h : K r S) (hdg : decode cc pc = .ok (.areturn, 1)) : XW κ S pc lv [v] := by
  obtain ⟨hr, hlocks, hA, e1, e2, eQ⟩ := E
  intro H locs ls hP hS hl
  rw [eQ, e1, e2]
  rw [hA] at hS
  subst hv
  exact W.aret C.1 C.2.1 hr (Or.inl ⟨_, rfl⟩) (va_re_or _ _) (fun t ht hW => ⟨⟨r, S, rfl, h, by rw [ht]; exact hP, va_K.moved hW.alike C.g_K, C.g_X.warm hW⟩, hS.F ht⟩) hS.2.2 hdg hlocks
end XCalls
section XMeth
variable {l : Launch} {G : XG} {y : MethodName} {b : ByteArray} {nl F N : Nat} {av : List Value} {S : Mem}
theorem X_meth {ret : Option FieldType} {Qc : Array Value → State → Outcome → State → Prop} (own : String) (hown : y.cls = own) (hy : plainName y.cls = true) (hJ : XJ G) (hsz : (lg_sl av).length ≤ nl) (body : ∀ κ : Kx, kl κ = l → kG κ = G → XC κ own b nl F N → XRet κ ret Qc → XW κ S 0 (lv_args 0 av) []) : Met l y (.code y b nl ret :: TB) { frames := F, cells := 0, slots := 0, locals := N } (va_Pc av (XB G S)) Qc 0 0 (XA G) := by
  refine Met.ofW (cc := b) (maxL := nl) (ret := ret) hy rfl ?_
  intro p e s m args below meth c s₁ B hml hv
  obtain ⟨rfl, hP, hK, hN⟩ := hv
  have hts := atoms_spec (ws := .code y b nl ret :: TB) B.pre
  have ho : s.vm.findClass y.cls = some m.cls := findClass_of_methodNamed B.named
  rw [lg_entry_eq]
  subst hown
  exact body (p, l, e, _, s, m, av.toArray, below, meth, c, G, XA G, nl, 0, 0, MQ below Qc av.toArray s 0 0 (XA G)) rfl rfl ⟨B.exec, B.bytes, hml, rfl, ho, fun w hw => hts w (List.mem_cons_of_mem _ hw), hK, hJ, fun i hi => ⟨i, hi, rfl⟩, rfl, rfl, Nat.le_refl 0, Nat.le_refl 0, hN⟩ ⟨B.returns, B.notSynchronized, rfl, rfl, rfl, rfl⟩ s.heap [] _ hP va_S.rf (lv_entry av hsz)
end XMeth

theorem X_iadd {κ : Kx} {own : String} {cc : ByteArray} {nl F N : Nat} {S : Mem} {pc : Nat} {lv : List (Nat × Value)} {st : List Value} (C : XC κ own cc nl F N) {x y : Int32} (hdg : decode cc pc = .ok (.iadd, 1)) (kk : XW κ S (pc + 1) lv (.int (x + y) :: st)) : XW κ S pc lv (.int y :: .int x :: st) := fun H locs ls hP hS hl => lv_iadd C.1 C.2.1 hdg (kk H locs ls hP hS hl)
theorem X_isub {κ : Kx} {own : String} {cc : ByteArray} {nl F N : Nat} {S : Mem} {pc : Nat} {lv : List (Nat × Value)} {st : List Value} (C : XC κ own cc nl F N) {x y : Int32} (hdg : decode cc pc = .ok (.isub, 1)) (kk : XW κ S (pc + 1) lv (.int (x - y) :: st)) : XW κ S pc lv (.int y :: .int x :: st) := fun H locs ls hP hS hl => lv_isub C.1 C.2.1 hdg (kk H locs ls hP hS hl)
theorem X_imul {κ : Kx} {own : String} {cc : ByteArray} {nl F N : Nat} {S : Mem} {pc : Nat} {lv : List (Nat × Value)} {st : List Value} (C : XC κ own cc nl F N) {x y : Int32} (hdg : decode cc pc = .ok (.imul, 1)) (kk : XW κ S (pc + 1) lv (.int (x * y) :: st)) : XW κ S pc lv (.int y :: .int x :: st) := fun H locs ls hP hS hl => lv_imul C.1 C.2.1 hdg (kk H locs ls hP hS hl)
theorem X_iand {κ : Kx} {own : String} {cc : ByteArray} {nl F N : Nat} {S : Mem} {pc : Nat} {lv : List (Nat × Value)} {st : List Value} (C : XC κ own cc nl F N) {x y : Int32} (hdg : decode cc pc = .ok (.iand, 1)) (kk : XW κ S (pc + 1) lv (.int (x &&& y) :: st)) : XW κ S pc lv (.int y :: .int x :: st) := fun H locs ls hP hS hl => lv_iand C.1 C.2.1 hdg (kk H locs ls hP hS hl)
theorem X_ior {κ : Kx} {own : String} {cc : ByteArray} {nl F N : Nat} {S : Mem} {pc : Nat} {lv : List (Nat × Value)} {st : List Value} (C : XC κ own cc nl F N) {x y : Int32} (hdg : decode cc pc = .ok (.ior, 1)) (kk : XW κ S (pc + 1) lv (.int (x ||| y) :: st)) : XW κ S pc lv (.int y :: .int x :: st) := fun H locs ls hP hS hl => lv_ior C.1 C.2.1 hdg (kk H locs ls hP hS hl)
theorem X_ishl {κ : Kx} {own : String} {cc : ByteArray} {nl F N : Nat} {S : Mem} {pc : Nat} {lv : List (Nat × Value)} {st : List Value} (C : XC κ own cc nl F N) {x y : Int32} (hdg : decode cc pc = .ok (.ishl, 1)) (kk : XW κ S (pc + 1) lv (.int (x <<< (y &&& 31)) :: st)) : XW κ S pc lv (.int y :: .int x :: st) := fun H locs ls hP hS hl => lv_ishl C.1 C.2.1 hdg (kk H locs ls hP hS hl)
theorem X_ishr {κ : Kx} {own : String} {cc : ByteArray} {nl F N : Nat} {S : Mem} {pc : Nat} {lv : List (Nat × Value)} {st : List Value} (C : XC κ own cc nl F N) {x y : Int32} (hdg : decode cc pc = .ok (.ishr, 1)) (kk : XW κ S (pc + 1) lv (.int (x >>> (y &&& 31)) :: st)) : XW κ S pc lv (.int y :: .int x :: st) := fun H locs ls hP hS hl => lv_ishr C.1 C.2.1 hdg (kk H locs ls hP hS hl)
theorem X_idiv {κ : Kx} {own : String} {cc : ByteArray} {nl F N : Nat} {S : Mem} {pc : Nat} {lv : List (Nat × Value)} {st : List Value} (C : XC κ own cc nl F N) {x y : Int32} (hdg : decode cc pc = .ok (.idiv, 1)) (hne : ¬ y = 0) (kk : XW κ S (pc + 1) lv (.int (x / y) :: st)) : XW κ S pc lv (.int y :: .int x :: st) := fun H locs ls hP hS hl => lv_idiv C.1 C.2.1 hdg hne (kk H locs ls hP hS hl)
theorem X_irem {κ : Kx} {own : String} {cc : ByteArray} {nl F N : Nat} {S : Mem} {pc : Nat} {lv : List (Nat × Value)} {st : List Value} (C : XC κ own cc nl F N) {x y : Int32} (hdg : decode cc pc = .ok (.irem, 1)) (hne : ¬ y = 0) (kk : XW κ S (pc + 1) lv (.int (x - x / y * y) :: st)) : XW κ S pc lv (.int y :: .int x :: st) := fun H locs ls hP hS hl => lv_irem C.1 C.2.1 hdg hne (kk H locs ls hP hS hl)
theorem X_ineg {κ : Kx} {own : String} {cc : ByteArray} {nl F N : Nat} {S : Mem} {pc : Nat} {lv : List (Nat × Value)} {st : List Value} (C : XC κ own cc nl F N) {x : Int32} (hdg : decode cc pc = .ok (.ineg, 1)) (kk : XW κ S (pc + 1) lv (.int (-x) :: st)) : XW κ S pc lv (.int x :: st) := fun H locs ls hP hS hl => lv_ineg C.1 C.2.1 hdg (kk H locs ls hP hS hl)
theorem X_if_eq {κ : Kx} {own : String} {cc : ByteArray} {nl F N : Nat} {S : Mem} {pc : Nat} {lv : List (Nat × Value)} {st : List Value} (C : XC κ own cc nl F N) {x : Int32} {off : Int} (tgt : Nat) (hdg : decode cc pc = .ok (.ifCond .eq off, 3)) (ht : (pc : Int) + off = (tgt : Int)) (kt : x = 0 → XW κ S tgt lv st) (kf : ¬ x = 0 → XW κ S (pc + 3) lv st) : XW κ S pc lv (.int x :: st) := fun H locs ls hP hS hl => lv_if_eq C.1 C.2.1 hdg ht (fun h => kt h H locs ls hP hS hl) (fun h => kf h H locs ls hP hS hl)
theorem X_if_ne {κ : Kx} {own : String} {cc : ByteArray} {nl F N : Nat} {S : Mem} {pc : Nat} {lv : List (Nat × Value)} {st : List Value} (C : XC κ own cc nl F N) {x : Int32} {off : Int} (tgt : Nat) (hdg : decode cc pc = .ok (.ifCond .ne off, 3)) (ht : (pc : Int) + off = (tgt : Int)) (kt : ¬ x = 0 → XW κ S tgt lv st) (kf : x = 0 → XW κ S (pc + 3) lv st) : XW κ S pc lv (.int x :: st) := fun H locs ls hP hS hl => lv_if_ne C.1 C.2.1 hdg ht (fun h => kt h H locs ls hP hS hl) (fun h => kf h H locs ls hP hS hl)
theorem X_if_lt {κ : Kx} {own : String} {cc : ByteArray} {nl F N : Nat} {S : Mem} {pc : Nat} {lv : List (Nat × Value)} {st : List Value} (C : XC κ own cc nl F N) {x : Int32} {off : Int} (tgt : Nat) (hdg : decode cc pc = .ok (.ifCond .lt off, 3)) (ht : (pc : Int) + off = (tgt : Int)) (kt : x < 0 → XW κ S tgt lv st) (kf : ¬ x < 0 → XW κ S (pc + 3) lv st) : XW κ S pc lv (.int x :: st) := fun H locs ls hP hS hl => lv_if_lt C.1 C.2.1 hdg ht (fun h => kt h H locs ls hP hS hl) (fun h => kf h H locs ls hP hS hl)
theorem X_if_ge {κ : Kx} {own : String} {cc : ByteArray} {nl F N : Nat} {S : Mem} {pc : Nat} {lv : List (Nat × Value)} {st : List Value} (C : XC κ own cc nl F N) {x : Int32} {off : Int} (tgt : Nat) (hdg : decode cc pc = .ok (.ifCond .ge off, 3)) (ht : (pc : Int) + off = (tgt : Int)) (kt : 0 ≤ x → XW κ S tgt lv st) (kf : ¬ 0 ≤ x → XW κ S (pc + 3) lv st) : XW κ S pc lv (.int x :: st) := fun H locs ls hP hS hl => lv_if_ge C.1 C.2.1 hdg ht (fun h => kt h H locs ls hP hS hl) (fun h => kf h H locs ls hP hS hl)
theorem X_if_gt {κ : Kx} {own : String} {cc : ByteArray} {nl F N : Nat} {S : Mem} {pc : Nat} {lv : List (Nat × Value)} {st : List Value} (C : XC κ own cc nl F N) {x : Int32} {off : Int} (tgt : Nat) (hdg : decode cc pc = .ok (.ifCond .gt off, 3)) (ht : (pc : Int) + off = (tgt : Int)) (kt : 0 < x → XW κ S tgt lv st) (kf : ¬ 0 < x → XW κ S (pc + 3) lv st) : XW κ S pc lv (.int x :: st) := fun H locs ls hP hS hl => lv_if_gt C.1 C.2.1 hdg ht (fun h => kt h H locs ls hP hS hl) (fun h => kf h H locs ls hP hS hl)
theorem X_if_le {κ : Kx} {own : String} {cc : ByteArray} {nl F N : Nat} {S : Mem} {pc : Nat} {lv : List (Nat × Value)} {st : List Value} (C : XC κ own cc nl F N) {x : Int32} {off : Int} (tgt : Nat) (hdg : decode cc pc = .ok (.ifCond .le off, 3)) (ht : (pc : Int) + off = (tgt : Int)) (kt : x ≤ 0 → XW κ S tgt lv st) (kf : ¬ x ≤ 0 → XW κ S (pc + 3) lv st) : XW κ S pc lv (.int x :: st) := fun H locs ls hP hS hl => lv_if_le C.1 C.2.1 hdg ht (fun h => kt h H locs ls hP hS hl) (fun h => kf h H locs ls hP hS hl)
theorem X_icmp_eq {κ : Kx} {own : String} {cc : ByteArray} {nl F N : Nat} {S : Mem} {pc : Nat} {lv : List (Nat × Value)} {st : List Value} (C : XC κ own cc nl F N) {x y : Int32} {off : Int} (tgt : Nat) (hdg : decode cc pc = .ok (.if_icmp .eq off, 3)) (ht : (pc : Int) + off = (tgt : Int)) (kt : x = y → XW κ S tgt lv st) (kf : ¬ x = y → XW κ S (pc + 3) lv st) : XW κ S pc lv (.int y :: .int x :: st) := fun H locs ls hP hS hl => lv_icmp_eq C.1 C.2.1 hdg ht (fun h => kt h H locs ls hP hS hl) (fun h => kf h H locs ls hP hS hl)
theorem X_icmp_ne {κ : Kx} {own : String} {cc : ByteArray} {nl F N : Nat} {S : Mem} {pc : Nat} {lv : List (Nat × Value)} {st : List Value} (C : XC κ own cc nl F N) {x y : Int32} {off : Int} (tgt : Nat) (hdg : decode cc pc = .ok (.if_icmp .ne off, 3)) (ht : (pc : Int) + off = (tgt : Int)) (kt : ¬ x = y → XW κ S tgt lv st) (kf : x = y → XW κ S (pc + 3) lv st) : XW κ S pc lv (.int y :: .int x :: st) := fun H locs ls hP hS hl => lv_icmp_ne C.1 C.2.1 hdg ht (fun h => kt h H locs ls hP hS hl) (fun h => kf h H locs ls hP hS hl)
theorem X_icmp_lt {κ : Kx} {own : String} {cc : ByteArray} {nl F N : Nat} {S : Mem} {pc : Nat} {lv : List (Nat × Value)} {st : List Value} (C : XC κ own cc nl F N) {x y : Int32} {off : Int} (tgt : Nat) (hdg : decode cc pc = .ok (.if_icmp .lt off, 3)) (ht : (pc : Int) + off = (tgt : Int)) (kt : x < y → XW κ S tgt lv st) (kf : ¬ x < y → XW κ S (pc + 3) lv st) : XW κ S pc lv (.int y :: .int x :: st) := fun H locs ls hP hS hl => lv_icmp_lt C.1 C.2.1 hdg ht (fun h => kt h H locs ls hP hS hl) (fun h => kf h H locs ls hP hS hl)
theorem X_icmp_ge {κ : Kx} {own : String} {cc : ByteArray} {nl F N : Nat} {S : Mem} {pc : Nat} {lv : List (Nat × Value)} {st : List Value} (C : XC κ own cc nl F N) {x y : Int32} {off : Int} (tgt : Nat) (hdg : decode cc pc = .ok (.if_icmp .ge off, 3)) (ht : (pc : Int) + off = (tgt : Int)) (kt : y ≤ x → XW κ S tgt lv st) (kf : ¬ y ≤ x → XW κ S (pc + 3) lv st) : XW κ S pc lv (.int y :: .int x :: st) := fun H locs ls hP hS hl => lv_icmp_ge C.1 C.2.1 hdg ht (fun h => kt h H locs ls hP hS hl) (fun h => kf h H locs ls hP hS hl)
theorem X_icmp_gt {κ : Kx} {own : String} {cc : ByteArray} {nl F N : Nat} {S : Mem} {pc : Nat} {lv : List (Nat × Value)} {st : List Value} (C : XC κ own cc nl F N) {x y : Int32} {off : Int} (tgt : Nat) (hdg : decode cc pc = .ok (.if_icmp .gt off, 3)) (ht : (pc : Int) + off = (tgt : Int)) (kt : y < x → XW κ S tgt lv st) (kf : ¬ y < x → XW κ S (pc + 3) lv st) : XW κ S pc lv (.int y :: .int x :: st) := fun H locs ls hP hS hl => lv_icmp_gt C.1 C.2.1 hdg ht (fun h => kt h H locs ls hP hS hl) (fun h => kf h H locs ls hP hS hl)
theorem X_icmp_le {κ : Kx} {own : String} {cc : ByteArray} {nl F N : Nat} {S : Mem} {pc : Nat} {lv : List (Nat × Value)} {st : List Value} (C : XC κ own cc nl F N) {x y : Int32} {off : Int} (tgt : Nat) (hdg : decode cc pc = .ok (.if_icmp .le off, 3)) (ht : (pc : Int) + off = (tgt : Int)) (kt : x ≤ y → XW κ S tgt lv st) (kf : ¬ x ≤ y → XW κ S (pc + 3) lv st) : XW κ S pc lv (.int y :: .int x :: st) := fun H locs ls hP hS hl => lv_icmp_le C.1 C.2.1 hdg ht (fun h => kt h H locs ls hP hS hl) (fun h => kf h H locs ls hP hS hl)
