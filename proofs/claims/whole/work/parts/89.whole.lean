/-! all together -/
theorem law_step : LStep Inv := ⟨s_row, s_drop, s_clear, s_set, s_rowOf, s_groupOf, s_finished, s_passOf, s_spillOf, s_total, s_written, s_bestBits, s_enough, s_skewed, s_count, s_undo, s_type, s_clearText, s_fault, s_play⟩
theorem whole_start {p} {e} {s} {m} {below} {meth} {c} (l : Launch) (hflags : l.flags = flags0) {b L : Nat} {xs} (hL : L ≤ 2048) (C0 : lw_At p s m meth c b L xs) : W p l e room_1 s m #[Value.ref b] below meth c s.heap [] 0 0 (lw_Z below #[Value.ref b] s) (entryFrame m ([Value.ref b] : List Value).toArray 4) := start_of law_step init_inv l hL C0
