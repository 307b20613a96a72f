/-! H: copyCells, once for each pair of arrays (written by wip/whole/gen05.py) -/
section
variable {f_width f_historyCap f_ringCap f_length f_cursor f_historyCount f_nav f_draftLength f_ringCount f_yankIndex f_undoDepth f_mode f_last f_accepted f_queryLength f_match f_matchStart f_displayLength f_displayCursor f_terminalRow f_terminalCol : Int32} {a_buffer a_history a_historyLengths a_draft a_ring a_ringLengths a_undoTexts a_undoLengths a_undoCursors a_query a_display a_screen : Nat → Int32}
theorem xc_query_display_l {post : SX → Prop} {a b c : Nat} (ha : a + c ≤ 16) (hb : b + c ≤ 51) (h : post (f_width, f_historyCap, f_ringCap, f_length, f_cursor, f_historyCount, f_nav, f_draftLength, f_ringCount, f_yankIndex, f_undoDepth, f_mode, f_last, f_accepted, f_queryLength, f_match, f_matchStart, f_displayLength, f_displayCursor, f_terminalRow, f_terminalCol, a_buffer, a_history, a_historyLengths, a_draft, a_ring, a_ringLengths, a_undoTexts, a_undoLengths, a_undoCursors, a_query, ec_cp a_query a a_display b c, a_screen)) : ∀ d i, i + d = c → wX_copyCells__query_display_3 post (nI a) (nI b) (nI c) f_width f_historyCap f_ringCap f_length f_cursor f_historyCount f_nav f_draftLength f_ringCount f_yankIndex f_undoDepth f_mode f_last f_accepted f_queryLength f_match f_matchStart f_displayLength f_displayCursor f_terminalRow f_terminalCol (d + 1) (nI i) a_buffer a_history a_historyLengths a_draft a_ring a_ringLengths a_undoTexts a_undoLengths a_undoCursors a_query (ec_cp a_query a a_display b i) a_screen := by
  intro d
  induction d with
  | zero =>
    intro i hi
    obtain rfl : i = c := by omega
    exact ey_le i i (Nat.le_refl _) h
  | succ d ih =>
    intro i hi
    exact en_le c i (by omega) ⟨en_in (a + i) (by omega), en_in (b + i) (by omega), nm_r ((en_u (b + i) (en_g (a + i))).trans (ec_s a_query a a_display b i)) (nm_r (nI_1 i) (ih (i + 1) (by omega)))⟩
theorem xc_query_display {post : SX → Prop} {x1 x3 x4 : Int32} (a b c : Nat) (ha : a + c ≤ 16) (hb : b + c ≤ 51) (h : post (f_width, f_historyCap, f_ringCap, f_length, f_cursor, f_historyCount, f_nav, f_draftLength, f_ringCount, f_yankIndex, f_undoDepth, f_mode, f_last, f_accepted, f_queryLength, f_match, f_matchStart, f_displayLength, f_displayCursor, f_terminalRow, f_terminalCol, a_buffer, a_history, a_historyLengths, a_draft, a_ring, a_ringLengths, a_undoTexts, a_undoLengths, a_undoCursors, a_query, ec_cp a_query a a_display b c, a_screen)) (h1 : x1 = nI a := by first | with_reducible rfl | (simp (disch := omega) only [nI_add, nI_1, en_m1, en_s1, pk_sub, pk_mul, en_32, en_a2, en_a3] <;> exact congrArg nI (by omega)) | exact congrArg nI (by omega) | rfl) (h3 : x3 = nI b := by first | with_reducible rfl | (simp (disch := omega) only [nI_add, nI_1, en_m1, en_s1, pk_sub, pk_mul, en_32, en_a2, en_a3] <;> exact congrArg nI (by omega)) | exact congrArg nI (by omega) | rfl) (h4 : x4 = nI c := by first | with_reducible rfl | (simp (disch := omega) only [nI_add, nI_1, en_m1, en_s1, pk_sub, pk_mul, en_32, en_a2, en_a3] <;> exact congrArg nI (by omega)) | exact congrArg nI (by omega) | rfl) : wpX_copyCells__query_display post (f_width, f_historyCap, f_ringCap, f_length, f_cursor, f_historyCount, f_nav, f_draftLength, f_ringCount, f_yankIndex, f_undoDepth, f_mode, f_last, f_accepted, f_queryLength, f_match, f_matchStart, f_displayLength, f_displayCursor, f_terminalRow, f_terminalCol, a_buffer, a_history, a_historyLengths, a_draft, a_ring, a_ringLengths, a_undoTexts, a_undoLengths, a_undoCursors, a_query, a_display, a_screen) x1 x3 x4 := by
  subst h1 h3 h4
  refine ⟨c + 1, ?_⟩
  have := xc_query_display_l ha hb h c 0 (by omega)
  rw [ec_0] at this
  exact this
theorem xc_buffer_display_l {post : SX → Prop} {a b c : Nat} (ha : a + c ≤ 32) (hb : b + c ≤ 51) (h : post (f_width, f_historyCap, f_ringCap, f_length, f_cursor, f_historyCount, f_nav, f_draftLength, f_ringCount, f_yankIndex, f_undoDepth, f_mode, f_last, f_accepted, f_queryLength, f_match, f_matchStart, f_displayLength, f_displayCursor, f_terminalRow, f_terminalCol, a_buffer, a_history, a_historyLengths, a_draft, a_ring, a_ringLengths, a_undoTexts, a_undoLengths, a_undoCursors, a_query, ec_cp a_buffer a a_display b c, a_screen)) : ∀ d i, i + d = c → wX_copyCells__buffer_display_3 post (nI a) (nI b) (nI c) f_width f_historyCap f_ringCap f_length f_cursor f_historyCount f_nav f_draftLength f_ringCount f_yankIndex f_undoDepth f_mode f_last f_accepted f_queryLength f_match f_matchStart f_displayLength f_displayCursor f_terminalRow f_terminalCol (d + 1) (nI i) a_buffer a_history a_historyLengths a_draft a_ring a_ringLengths a_undoTexts a_undoLengths a_undoCursors a_query (ec_cp a_buffer a a_display b i) a_screen := by
  intro d
  induction d with
  | zero =>
    intro i hi
    obtain rfl : i = c := by omega
    exact ey_le i i (Nat.le_refl _) h
  | succ d ih =>
    intro i hi
    exact en_le c i (by omega) ⟨en_in (a + i) (by omega), en_in (b + i) (by omega), nm_r ((en_u (b + i) (en_g (a + i))).trans (ec_s a_buffer a a_display b i)) (nm_r (nI_1 i) (ih (i + 1) (by omega)))⟩
theorem xc_buffer_display {post : SX → Prop} {x1 x3 x4 : Int32} (a b c : Nat) (ha : a + c ≤ 32) (hb : b + c ≤ 51) (h : post (f_width, f_historyCap, f_ringCap, f_length, f_cursor, f_historyCount, f_nav, f_draftLength, f_ringCount, f_yankIndex, f_undoDepth, f_mode, f_last, f_accepted, f_queryLength, f_match, f_matchStart, f_displayLength, f_displayCursor, f_terminalRow, f_terminalCol, a_buffer, a_history, a_historyLengths, a_draft, a_ring, a_ringLengths, a_undoTexts, a_undoLengths, a_undoCursors, a_query, ec_cp a_buffer a a_display b c, a_screen)) (h1 : x1 = nI a := by first | with_reducible rfl | (simp (disch := omega) only [nI_add, nI_1, en_m1, en_s1, pk_sub, pk_mul, en_32, en_a2, en_a3] <;> exact congrArg nI (by omega)) | exact congrArg nI (by omega) | rfl) (h3 : x3 = nI b := by first | with_reducible rfl | (simp (disch := omega) only [nI_add, nI_1, en_m1, en_s1, pk_sub, pk_mul, en_32, en_a2, en_a3] <;> exact congrArg nI (by omega)) | exact congrArg nI (by omega) | rfl) (h4 : x4 = nI c := by first | with_reducible rfl | (simp (disch := omega) only [nI_add, nI_1, en_m1, en_s1, pk_sub, pk_mul, en_32, en_a2, en_a3] <;> exact congrArg nI (by omega)) | exact congrArg nI (by omega) | rfl) : wpX_copyCells__buffer_display post (f_width, f_historyCap, f_ringCap, f_length, f_cursor, f_historyCount, f_nav, f_draftLength, f_ringCount, f_yankIndex, f_undoDepth, f_mode, f_last, f_accepted, f_queryLength, f_match, f_matchStart, f_displayLength, f_displayCursor, f_terminalRow, f_terminalCol, a_buffer, a_history, a_historyLengths, a_draft, a_ring, a_ringLengths, a_undoTexts, a_undoLengths, a_undoCursors, a_query, a_display, a_screen) x1 x3 x4 := by
  subst h1 h3 h4
  refine ⟨c + 1, ?_⟩
  have := xc_buffer_display_l ha hb h c 0 (by omega)
  rw [ec_0] at this
  exact this
theorem xc_history_display_l {post : SX → Prop} {a b c : Nat} (ha : a + c ≤ 256) (hb : b + c ≤ 51) (h : post (f_width, f_historyCap, f_ringCap, f_length, f_cursor, f_historyCount, f_nav, f_draftLength, f_ringCount, f_yankIndex, f_undoDepth, f_mode, f_last, f_accepted, f_queryLength, f_match, f_matchStart, f_displayLength, f_displayCursor, f_terminalRow, f_terminalCol, a_buffer, a_history, a_historyLengths, a_draft, a_ring, a_ringLengths, a_undoTexts, a_undoLengths, a_undoCursors, a_query, ec_cp a_history a a_display b c, a_screen)) : ∀ d i, i + d = c → wX_copyCells__history_display_3 post (nI a) (nI b) (nI c) f_width f_historyCap f_ringCap f_length f_cursor f_historyCount f_nav f_draftLength f_ringCount f_yankIndex f_undoDepth f_mode f_last f_accepted f_queryLength f_match f_matchStart f_displayLength f_displayCursor f_terminalRow f_terminalCol (d + 1) (nI i) a_buffer a_history a_historyLengths a_draft a_ring a_ringLengths a_undoTexts a_undoLengths a_undoCursors a_query (ec_cp a_history a a_display b i) a_screen := by
  intro d
  induction d with
  | zero =>
    intro i hi
    obtain rfl : i = c := by omega
    exact ey_le i i (Nat.le_refl _) h
  | succ d ih =>
    intro i hi
    exact en_le c i (by omega) ⟨en_in (a + i) (by omega), en_in (b + i) (by omega), nm_r ((en_u (b + i) (en_g (a + i))).trans (ec_s a_history a a_display b i)) (nm_r (nI_1 i) (ih (i + 1) (by omega)))⟩
theorem xc_history_display {post : SX → Prop} {x1 x3 x4 : Int32} (a b c : Nat) (ha : a + c ≤ 256) (hb : b + c ≤ 51) (h : post (f_width, f_historyCap, f_ringCap, f_length, f_cursor, f_historyCount, f_nav, f_draftLength, f_ringCount, f_yankIndex, f_undoDepth, f_mode, f_last, f_accepted, f_queryLength, f_match, f_matchStart, f_displayLength, f_displayCursor, f_terminalRow, f_terminalCol, a_buffer, a_history, a_historyLengths, a_draft, a_ring, a_ringLengths, a_undoTexts, a_undoLengths, a_undoCursors, a_query, ec_cp a_history a a_display b c, a_screen)) (h1 : x1 = nI a := by first | with_reducible rfl | (simp (disch := omega) only [nI_add, nI_1, en_m1, en_s1, pk_sub, pk_mul, en_32, en_a2, en_a3] <;> exact congrArg nI (by omega)) | exact congrArg nI (by omega) | rfl) (h3 : x3 = nI b := by first | with_reducible rfl | (simp (disch := omega) only [nI_add, nI_1, en_m1, en_s1, pk_sub, pk_mul, en_32, en_a2, en_a3] <;> exact congrArg nI (by omega)) | exact congrArg nI (by omega) | rfl) (h4 : x4 = nI c := by first | with_reducible rfl | (simp (disch := omega) only [nI_add, nI_1, en_m1, en_s1, pk_sub, pk_mul, en_32, en_a2, en_a3] <;> exact congrArg nI (by omega)) | exact congrArg nI (by omega) | rfl) : wpX_copyCells__history_display post (f_width, f_historyCap, f_ringCap, f_length, f_cursor, f_historyCount, f_nav, f_draftLength, f_ringCount, f_yankIndex, f_undoDepth, f_mode, f_last, f_accepted, f_queryLength, f_match, f_matchStart, f_displayLength, f_displayCursor, f_terminalRow, f_terminalCol, a_buffer, a_history, a_historyLengths, a_draft, a_ring, a_ringLengths, a_undoTexts, a_undoLengths, a_undoCursors, a_query, a_display, a_screen) x1 x3 x4 := by
  subst h1 h3 h4
  refine ⟨c + 1, ?_⟩
  have := xc_history_display_l ha hb h c 0 (by omega)
  rw [ec_0] at this
  exact this
theorem xc_history_buffer_l {post : SX → Prop} {a b c : Nat} (ha : a + c ≤ 256) (hb : b + c ≤ 32) (h : post (f_width, f_historyCap, f_ringCap, f_length, f_cursor, f_historyCount, f_nav, f_draftLength, f_ringCount, f_yankIndex, f_undoDepth, f_mode, f_last, f_accepted, f_queryLength, f_match, f_matchStart, f_displayLength, f_displayCursor, f_terminalRow, f_terminalCol, ec_cp a_history a a_buffer b c, a_history, a_historyLengths, a_draft, a_ring, a_ringLengths, a_undoTexts, a_undoLengths, a_undoCursors, a_query, a_display, a_screen)) : ∀ d i, i + d = c → wX_copyCells__history_buffer_3 post (nI a) (nI b) (nI c) f_width f_historyCap f_ringCap f_length f_cursor f_historyCount f_nav f_draftLength f_ringCount f_yankIndex f_undoDepth f_mode f_last f_accepted f_queryLength f_match f_matchStart f_displayLength f_displayCursor f_terminalRow f_terminalCol (d + 1) (nI i) (ec_cp a_history a a_buffer b i) a_history a_historyLengths a_draft a_ring a_ringLengths a_undoTexts a_undoLengths a_undoCursors a_query a_display a_screen := by
  intro d
  induction d with
  | zero =>
    intro i hi
    obtain rfl : i = c := by omega
    exact ey_le i i (Nat.le_refl _) h
  | succ d ih =>
    intro i hi
    exact en_le c i (by omega) ⟨en_in (a + i) (by omega), en_in (b + i) (by omega), nm_r ((en_u (b + i) (en_g (a + i))).trans (ec_s a_history a a_buffer b i)) (nm_r (nI_1 i) (ih (i + 1) (by omega)))⟩
theorem xc_history_buffer {post : SX → Prop} {x1 x3 x4 : Int32} (a b c : Nat) (ha : a + c ≤ 256) (hb : b + c ≤ 32) (h : post (f_width, f_historyCap, f_ringCap, f_length, f_cursor, f_historyCount, f_nav, f_draftLength, f_ringCount, f_yankIndex, f_undoDepth, f_mode, f_last, f_accepted, f_queryLength, f_match, f_matchStart, f_displayLength, f_displayCursor, f_terminalRow, f_terminalCol, ec_cp a_history a a_buffer b c, a_history, a_historyLengths, a_draft, a_ring, a_ringLengths, a_undoTexts, a_undoLengths, a_undoCursors, a_query, a_display, a_screen)) (h1 : x1 = nI a := by first | with_reducible rfl | (simp (disch := omega) only [nI_add, nI_1, en_m1, en_s1, pk_sub, pk_mul, en_32, en_a2, en_a3] <;> exact congrArg nI (by omega)) | exact congrArg nI (by omega) | rfl) (h3 : x3 = nI b := by first | with_reducible rfl | (simp (disch := omega) only [nI_add, nI_1, en_m1, en_s1, pk_sub, pk_mul, en_32, en_a2, en_a3] <;> exact congrArg nI (by omega)) | exact congrArg nI (by omega) | rfl) (h4 : x4 = nI c := by first | with_reducible rfl | (simp (disch := omega) only [nI_add, nI_1, en_m1, en_s1, pk_sub, pk_mul, en_32, en_a2, en_a3] <;> exact congrArg nI (by omega)) | exact congrArg nI (by omega) | rfl) : wpX_copyCells__history_buffer post (f_width, f_historyCap, f_ringCap, f_length, f_cursor, f_historyCount, f_nav, f_draftLength, f_ringCount, f_yankIndex, f_undoDepth, f_mode, f_last, f_accepted, f_queryLength, f_match, f_matchStart, f_displayLength, f_displayCursor, f_terminalRow, f_terminalCol, a_buffer, a_history, a_historyLengths, a_draft, a_ring, a_ringLengths, a_undoTexts, a_undoLengths, a_undoCursors, a_query, a_display, a_screen) x1 x3 x4 := by
  subst h1 h3 h4
  refine ⟨c + 1, ?_⟩
  have := xc_history_buffer_l ha hb h c 0 (by omega)
  rw [ec_0] at this
  exact this
theorem xc_buffer_undoTexts_l {post : SX → Prop} {a b c : Nat} (ha : a + c ≤ 32) (hb : b + c ≤ 256) (h : post (f_width, f_historyCap, f_ringCap, f_length, f_cursor, f_historyCount, f_nav, f_draftLength, f_ringCount, f_yankIndex, f_undoDepth, f_mode, f_last, f_accepted, f_queryLength, f_match, f_matchStart, f_displayLength, f_displayCursor, f_terminalRow, f_terminalCol, a_buffer, a_history, a_historyLengths, a_draft, a_ring, a_ringLengths, ec_cp a_buffer a a_undoTexts b c, a_undoLengths, a_undoCursors, a_query, a_display, a_screen)) : ∀ d i, i + d = c → wX_copyCells__buffer_undoTexts_3 post (nI a) (nI b) (nI c) f_width f_historyCap f_ringCap f_length f_cursor f_historyCount f_nav f_draftLength f_ringCount f_yankIndex f_undoDepth f_mode f_last f_accepted f_queryLength f_match f_matchStart f_displayLength f_displayCursor f_terminalRow f_terminalCol (d + 1) (nI i) a_buffer a_history a_historyLengths a_draft a_ring a_ringLengths (ec_cp a_buffer a a_undoTexts b i) a_undoLengths a_undoCursors a_query a_display a_screen := by
  intro d
  induction d with
  | zero =>
    intro i hi
    obtain rfl : i = c := by omega
    exact ey_le i i (Nat.le_refl _) h
  | succ d ih =>
    intro i hi
    exact en_le c i (by omega) ⟨en_in (a + i) (by omega), en_in (b + i) (by omega), nm_r ((en_u (b + i) (en_g (a + i))).trans (ec_s a_buffer a a_undoTexts b i)) (nm_r (nI_1 i) (ih (i + 1) (by omega)))⟩
theorem xc_buffer_undoTexts {post : SX → Prop} {x1 x3 x4 : Int32} (a b c : Nat) (ha : a + c ≤ 32) (hb : b + c ≤ 256) (h : post (f_width, f_historyCap, f_ringCap, f_length, f_cursor, f_historyCount, f_nav, f_draftLength, f_ringCount, f_yankIndex, f_undoDepth, f_mode, f_last, f_accepted, f_queryLength, f_match, f_matchStart, f_displayLength, f_displayCursor, f_terminalRow, f_terminalCol, a_buffer, a_history, a_historyLengths, a_draft, a_ring, a_ringLengths, ec_cp a_buffer a a_undoTexts b c, a_undoLengths, a_undoCursors, a_query, a_display, a_screen)) (h1 : x1 = nI a := by first | with_reducible rfl | (simp (disch := omega) only [nI_add, nI_1, en_m1, en_s1, pk_sub, pk_mul, en_32, en_a2, en_a3] <;> exact congrArg nI (by omega)) | exact congrArg nI (by omega) | rfl) (h3 : x3 = nI b := by first | with_reducible rfl | (simp (disch := omega) only [nI_add, nI_1, en_m1, en_s1, pk_sub, pk_mul, en_32, en_a2, en_a3] <;> exact congrArg nI (by omega)) | exact congrArg nI (by omega) | rfl) (h4 : x4 = nI c := by first | with_reducible rfl | (simp (disch := omega) only [nI_add, nI_1, en_m1, en_s1, pk_sub, pk_mul, en_32, en_a2, en_a3] <;> exact congrArg nI (by omega)) | exact congrArg nI (by omega) | rfl) : wpX_copyCells__buffer_undoTexts post (f_width, f_historyCap, f_ringCap, f_length, f_cursor, f_historyCount, f_nav, f_draftLength, f_ringCount, f_yankIndex, f_undoDepth, f_mode, f_last, f_accepted, f_queryLength, f_match, f_matchStart, f_displayLength, f_displayCursor, f_terminalRow, f_terminalCol, a_buffer, a_history, a_historyLengths, a_draft, a_ring, a_ringLengths, a_undoTexts, a_undoLengths, a_undoCursors, a_query, a_display, a_screen) x1 x3 x4 := by
  subst h1 h3 h4
  refine ⟨c + 1, ?_⟩
  have := xc_buffer_undoTexts_l ha hb h c 0 (by omega)
  rw [ec_0] at this
  exact this
theorem xc_undoTexts_undoTexts_l {post : SX → Prop} {a b c : Nat} (ha : a + c ≤ 256) (hb : b + c ≤ 256) (hba : b ≤ a) (h : post (f_width, f_historyCap, f_ringCap, f_length, f_cursor, f_historyCount, f_nav, f_draftLength, f_ringCount, f_yankIndex, f_undoDepth, f_mode, f_last, f_accepted, f_queryLength, f_match, f_matchStart, f_displayLength, f_displayCursor, f_terminalRow, f_terminalCol, a_buffer, a_history, a_historyLengths, a_draft, a_ring, a_ringLengths, ec_cp a_undoTexts a a_undoTexts b c, a_undoLengths, a_undoCursors, a_query, a_display, a_screen)) : ∀ d i, i + d = c → wX_copyCells__undoTexts_undoTexts_3 post (nI a) (nI b) (nI c) f_width f_historyCap f_ringCap f_length f_cursor f_historyCount f_nav f_draftLength f_ringCount f_yankIndex f_undoDepth f_mode f_last f_accepted f_queryLength f_match f_matchStart f_displayLength f_displayCursor f_terminalRow f_terminalCol (d + 1) (nI i) a_buffer a_history a_historyLengths a_draft a_ring a_ringLengths (ec_cp a_undoTexts a a_undoTexts b i) a_undoLengths a_undoCursors a_query a_display a_screen := by
  intro d
  induction d with
  | zero =>
    intro i hi
    obtain rfl : i = c := by omega
    exact ey_le i i (Nat.le_refl _) h
  | succ d ih =>
    intro i hi
    exact en_le c i (by omega) ⟨en_in (a + i) (by omega), en_in (b + i) (by omega), nm_r ((en_u (b + i) (en_g (a + i))).trans (ec_up hba i)) (nm_r (nI_1 i) (ih (i + 1) (by omega)))⟩
theorem xc_undoTexts_undoTexts {post : SX → Prop} {x1 x3 x4 : Int32} (a b c : Nat) (ha : a + c ≤ 256) (hb : b + c ≤ 256) (hba : b ≤ a) (h : post (f_width, f_historyCap, f_ringCap, f_length, f_cursor, f_historyCount, f_nav, f_draftLength, f_ringCount, f_yankIndex, f_undoDepth, f_mode, f_last, f_accepted, f_queryLength, f_match, f_matchStart, f_displayLength, f_displayCursor, f_terminalRow, f_terminalCol, a_buffer, a_history, a_historyLengths, a_draft, a_ring, a_ringLengths, ec_cp a_undoTexts a a_undoTexts b c, a_undoLengths, a_undoCursors, a_query, a_display, a_screen)) (h1 : x1 = nI a := by first | with_reducible rfl | (simp (disch := omega) only [nI_add, nI_1, en_m1, en_s1, pk_sub, pk_mul, en_32, en_a2, en_a3] <;> exact congrArg nI (by omega)) | exact congrArg nI (by omega) | rfl) (h3 : x3 = nI b := by first | with_reducible rfl | (simp (disch := omega) only [nI_add, nI_1, en_m1, en_s1, pk_sub, pk_mul, en_32, en_a2, en_a3] <;> exact congrArg nI (by omega)) | exact congrArg nI (by omega) | rfl) (h4 : x4 = nI c := by first | with_reducible rfl | (simp (disch := omega) only [nI_add, nI_1, en_m1, en_s1, pk_sub, pk_mul, en_32, en_a2, en_a3] <;> exact congrArg nI (by omega)) | exact congrArg nI (by omega) | rfl) : wpX_copyCells__undoTexts_undoTexts post (f_width, f_historyCap, f_ringCap, f_length, f_cursor, f_historyCount, f_nav, f_draftLength, f_ringCount, f_yankIndex, f_undoDepth, f_mode, f_last, f_accepted, f_queryLength, f_match, f_matchStart, f_displayLength, f_displayCursor, f_terminalRow, f_terminalCol, a_buffer, a_history, a_historyLengths, a_draft, a_ring, a_ringLengths, a_undoTexts, a_undoLengths, a_undoCursors, a_query, a_display, a_screen) x1 x3 x4 := by
  subst h1 h3 h4
  refine ⟨c + 1, ?_⟩
  have := xc_undoTexts_undoTexts_l ha hb hba h c 0 (by omega)
  rw [ec_0] at this
  exact this
theorem xc_undoLengths_undoLengths_l {post : SX → Prop} {a b c : Nat} (ha : a + c ≤ 8) (hb : b + c ≤ 8) (hba : b ≤ a) (h : post (f_width, f_historyCap, f_ringCap, f_length, f_cursor, f_historyCount, f_nav, f_draftLength, f_ringCount, f_yankIndex, f_undoDepth, f_mode, f_last, f_accepted, f_queryLength, f_match, f_matchStart, f_displayLength, f_displayCursor, f_terminalRow, f_terminalCol, a_buffer, a_history, a_historyLengths, a_draft, a_ring, a_ringLengths, a_undoTexts, ec_cp a_undoLengths a a_undoLengths b c, a_undoCursors, a_query, a_display, a_screen)) : ∀ d i, i + d = c → wX_copyCells__undoLengths_undoLengths_3 post (nI a) (nI b) (nI c) f_width f_historyCap f_ringCap f_length f_cursor f_historyCount f_nav f_draftLength f_ringCount f_yankIndex f_undoDepth f_mode f_last f_accepted f_queryLength f_match f_matchStart f_displayLength f_displayCursor f_terminalRow f_terminalCol (d + 1) (nI i) a_buffer a_history a_historyLengths a_draft a_ring a_ringLengths a_undoTexts (ec_cp a_undoLengths a a_undoLengths b i) a_undoCursors a_query a_display a_screen := by
  intro d
  induction d with
  | zero =>
    intro i hi
    obtain rfl : i = c := by omega
    exact ey_le i i (Nat.le_refl _) h
  | succ d ih =>
    intro i hi
    exact en_le c i (by omega) ⟨en_in (a + i) (by omega), en_in (b + i) (by omega), nm_r ((en_u (b + i) (en_g (a + i))).trans (ec_up hba i)) (nm_r (nI_1 i) (ih (i + 1) (by omega)))⟩
theorem xc_undoLengths_undoLengths {post : SX → Prop} {x1 x3 x4 : Int32} (a b c : Nat) (ha : a + c ≤ 8) (hb : b + c ≤ 8) (hba : b ≤ a) (h : post (f_width, f_historyCap, f_ringCap, f_length, f_cursor, f_historyCount, f_nav, f_draftLength, f_ringCount, f_yankIndex, f_undoDepth, f_mode, f_last, f_accepted, f_queryLength, f_match, f_matchStart, f_displayLength, f_displayCursor, f_terminalRow, f_terminalCol, a_buffer, a_history, a_historyLengths, a_draft, a_ring, a_ringLengths, a_undoTexts, ec_cp a_undoLengths a a_undoLengths b c, a_undoCursors, a_query, a_display, a_screen)) (h1 : x1 = nI a := by first | with_reducible rfl | (simp (disch := omega) only [nI_add, nI_1, en_m1, en_s1, pk_sub, pk_mul, en_32, en_a2, en_a3] <;> exact congrArg nI (by omega)) | exact congrArg nI (by omega) | rfl) (h3 : x3 = nI b := by first | with_reducible rfl | (simp (disch := omega) only [nI_add, nI_1, en_m1, en_s1, pk_sub, pk_mul, en_32, en_a2, en_a3] <;> exact congrArg nI (by omega)) | exact congrArg nI (by omega) | rfl) (h4 : x4 = nI c := by first | with_reducible rfl | (simp (disch := omega) only [nI_add, nI_1, en_m1, en_s1, pk_sub, pk_mul, en_32, en_a2, en_a3] <;> exact congrArg nI (by omega)) | exact congrArg nI (by omega) | rfl) : wpX_copyCells__undoLengths_undoLengths post (f_width, f_historyCap, f_ringCap, f_length, f_cursor, f_historyCount, f_nav, f_draftLength, f_ringCount, f_yankIndex, f_undoDepth, f_mode, f_last, f_accepted, f_queryLength, f_match, f_matchStart, f_displayLength, f_displayCursor, f_terminalRow, f_terminalCol, a_buffer, a_history, a_historyLengths, a_draft, a_ring, a_ringLengths, a_undoTexts, a_undoLengths, a_undoCursors, a_query, a_display, a_screen) x1 x3 x4 := by
  subst h1 h3 h4
  refine ⟨c + 1, ?_⟩
  have := xc_undoLengths_undoLengths_l ha hb hba h c 0 (by omega)
  rw [ec_0] at this
  exact this
theorem xc_undoCursors_undoCursors_l {post : SX → Prop} {a b c : Nat} (ha : a + c ≤ 8) (hb : b + c ≤ 8) (hba : b ≤ a) (h : post (f_width, f_historyCap, f_ringCap, f_length, f_cursor, f_historyCount, f_nav, f_draftLength, f_ringCount, f_yankIndex, f_undoDepth, f_mode, f_last, f_accepted, f_queryLength, f_match, f_matchStart, f_displayLength, f_displayCursor, f_terminalRow, f_terminalCol, a_buffer, a_history, a_historyLengths, a_draft, a_ring, a_ringLengths, a_undoTexts, a_undoLengths, ec_cp a_undoCursors a a_undoCursors b c, a_query, a_display, a_screen)) : ∀ d i, i + d = c → wX_copyCells__undoCursors_undoCursors_3 post (nI a) (nI b) (nI c) f_width f_historyCap f_ringCap f_length f_cursor f_historyCount f_nav f_draftLength f_ringCount f_yankIndex f_undoDepth f_mode f_last f_accepted f_queryLength f_match f_matchStart f_displayLength f_displayCursor f_terminalRow f_terminalCol (d + 1) (nI i) a_buffer a_history a_historyLengths a_draft a_ring a_ringLengths a_undoTexts a_undoLengths (ec_cp a_undoCursors a a_undoCursors b i) a_query a_display a_screen := by
  intro d
  induction d with
  | zero =>
    intro i hi
    obtain rfl : i = c := by omega
    exact ey_le i i (Nat.le_refl _) h
  | succ d ih =>
    intro i hi
    exact en_le c i (by omega) ⟨en_in (a + i) (by omega), en_in (b + i) (by omega), nm_r ((en_u (b + i) (en_g (a + i))).trans (ec_up hba i)) (nm_r (nI_1 i) (ih (i + 1) (by omega)))⟩
theorem xc_undoCursors_undoCursors {post : SX → Prop} {x1 x3 x4 : Int32} (a b c : Nat) (ha : a + c ≤ 8) (hb : b + c ≤ 8) (hba : b ≤ a) (h : post (f_width, f_historyCap, f_ringCap, f_length, f_cursor, f_historyCount, f_nav, f_draftLength, f_ringCount, f_yankIndex, f_undoDepth, f_mode, f_last, f_accepted, f_queryLength, f_match, f_matchStart, f_displayLength, f_displayCursor, f_terminalRow, f_terminalCol, a_buffer, a_history, a_historyLengths, a_draft, a_ring, a_ringLengths, a_undoTexts, a_undoLengths, ec_cp a_undoCursors a a_undoCursors b c, a_query, a_display, a_screen)) (h1 : x1 = nI a := by first | with_reducible rfl | (simp (disch := omega) only [nI_add, nI_1, en_m1, en_s1, pk_sub, pk_mul, en_32, en_a2, en_a3] <;> exact congrArg nI (by omega)) | exact congrArg nI (by omega) | rfl) (h3 : x3 = nI b := by first | with_reducible rfl | (simp (disch := omega) only [nI_add, nI_1, en_m1, en_s1, pk_sub, pk_mul, en_32, en_a2, en_a3] <;> exact congrArg nI (by omega)) | exact congrArg nI (by omega) | rfl) (h4 : x4 = nI c := by first | with_reducible rfl | (simp (disch := omega) only [nI_add, nI_1, en_m1, en_s1, pk_sub, pk_mul, en_32, en_a2, en_a3] <;> exact congrArg nI (by omega)) | exact congrArg nI (by omega) | rfl) : wpX_copyCells__undoCursors_undoCursors post (f_width, f_historyCap, f_ringCap, f_length, f_cursor, f_historyCount, f_nav, f_draftLength, f_ringCount, f_yankIndex, f_undoDepth, f_mode, f_last, f_accepted, f_queryLength, f_match, f_matchStart, f_displayLength, f_displayCursor, f_terminalRow, f_terminalCol, a_buffer, a_history, a_historyLengths, a_draft, a_ring, a_ringLengths, a_undoTexts, a_undoLengths, a_undoCursors, a_query, a_display, a_screen) x1 x3 x4 := by
  subst h1 h3 h4
  refine ⟨c + 1, ?_⟩
  have := xc_undoCursors_undoCursors_l ha hb hba h c 0 (by omega)
  rw [ec_0] at this
  exact this
theorem xc_ring_buffer_l {post : SX → Prop} {a b c : Nat} (ha : a + c ≤ 128) (hb : b + c ≤ 32) (h : post (f_width, f_historyCap, f_ringCap, f_length, f_cursor, f_historyCount, f_nav, f_draftLength, f_ringCount, f_yankIndex, f_undoDepth, f_mode, f_last, f_accepted, f_queryLength, f_match, f_matchStart, f_displayLength, f_displayCursor, f_terminalRow, f_terminalCol, ec_cp a_ring a a_buffer b c, a_history, a_historyLengths, a_draft, a_ring, a_ringLengths, a_undoTexts, a_undoLengths, a_undoCursors, a_query, a_display, a_screen)) : ∀ d i, i + d = c → wX_copyCells__ring_buffer_3 post (nI a) (nI b) (nI c) f_width f_historyCap f_ringCap f_length f_cursor f_historyCount f_nav f_draftLength f_ringCount f_yankIndex f_undoDepth f_mode f_last f_accepted f_queryLength f_match f_matchStart f_displayLength f_displayCursor f_terminalRow f_terminalCol (d + 1) (nI i) (ec_cp a_ring a a_buffer b i) a_history a_historyLengths a_draft a_ring a_ringLengths a_undoTexts a_undoLengths a_undoCursors a_query a_display a_screen := by
  intro d
  induction d with
  | zero =>
    intro i hi
    obtain rfl : i = c := by omega
    exact ey_le i i (Nat.le_refl _) h
  | succ d ih =>
    intro i hi
    exact en_le c i (by omega) ⟨en_in (a + i) (by omega), en_in (b + i) (by omega), nm_r ((en_u (b + i) (en_g (a + i))).trans (ec_s a_ring a a_buffer b i)) (nm_r (nI_1 i) (ih (i + 1) (by omega)))⟩
theorem xc_ring_buffer {post : SX → Prop} {x1 x3 x4 : Int32} (a b c : Nat) (ha : a + c ≤ 128) (hb : b + c ≤ 32) (h : post (f_width, f_historyCap, f_ringCap, f_length, f_cursor, f_historyCount, f_nav, f_draftLength, f_ringCount, f_yankIndex, f_undoDepth, f_mode, f_last, f_accepted, f_queryLength, f_match, f_matchStart, f_displayLength, f_displayCursor, f_terminalRow, f_terminalCol, ec_cp a_ring a a_buffer b c, a_history, a_historyLengths, a_draft, a_ring, a_ringLengths, a_undoTexts, a_undoLengths, a_undoCursors, a_query, a_display, a_screen)) (h1 : x1 = nI a := by first | with_reducible rfl | (simp (disch := omega) only [nI_add, nI_1, en_m1, en_s1, pk_sub, pk_mul, en_32, en_a2, en_a3] <;> exact congrArg nI (by omega)) | exact congrArg nI (by omega) | rfl) (h3 : x3 = nI b := by first | with_reducible rfl | (simp (disch := omega) only [nI_add, nI_1, en_m1, en_s1, pk_sub, pk_mul, en_32, en_a2, en_a3] <;> exact congrArg nI (by omega)) | exact congrArg nI (by omega) | rfl) (h4 : x4 = nI c := by first | with_reducible rfl | (simp (disch := omega) only [nI_add, nI_1, en_m1, en_s1, pk_sub, pk_mul, en_32, en_a2, en_a3] <;> exact congrArg nI (by omega)) | exact congrArg nI (by omega) | rfl) : wpX_copyCells__ring_buffer post (f_width, f_historyCap, f_ringCap, f_length, f_cursor, f_historyCount, f_nav, f_draftLength, f_ringCount, f_yankIndex, f_undoDepth, f_mode, f_last, f_accepted, f_queryLength, f_match, f_matchStart, f_displayLength, f_displayCursor, f_terminalRow, f_terminalCol, a_buffer, a_history, a_historyLengths, a_draft, a_ring, a_ringLengths, a_undoTexts, a_undoLengths, a_undoCursors, a_query, a_display, a_screen) x1 x3 x4 := by
  subst h1 h3 h4
  refine ⟨c + 1, ?_⟩
  have := xc_ring_buffer_l ha hb h c 0 (by omega)
  rw [ec_0] at this
  exact this
theorem xc_undoTexts_buffer_l {post : SX → Prop} {a b c : Nat} (ha : a + c ≤ 256) (hb : b + c ≤ 32) (h : post (f_width, f_historyCap, f_ringCap, f_length, f_cursor, f_historyCount, f_nav, f_draftLength, f_ringCount, f_yankIndex, f_undoDepth, f_mode, f_last, f_accepted, f_queryLength, f_match, f_matchStart, f_displayLength, f_displayCursor, f_terminalRow, f_terminalCol, ec_cp a_undoTexts a a_buffer b c, a_history, a_historyLengths, a_draft, a_ring, a_ringLengths, a_undoTexts, a_undoLengths, a_undoCursors, a_query, a_display, a_screen)) : ∀ d i, i + d = c → wX_copyCells__undoTexts_buffer_3 post (nI a) (nI b) (nI c) f_width f_historyCap f_ringCap f_length f_cursor f_historyCount f_nav f_draftLength f_ringCount f_yankIndex f_undoDepth f_mode f_last f_accepted f_queryLength f_match f_matchStart f_displayLength f_displayCursor f_terminalRow f_terminalCol (d + 1) (nI i) (ec_cp a_undoTexts a a_buffer b i) a_history a_historyLengths a_draft a_ring a_ringLengths a_undoTexts a_undoLengths a_undoCursors a_query a_display a_screen := by
  intro d
  induction d with
  | zero =>
    intro i hi
    obtain rfl : i = c := by omega
    exact ey_le i i (Nat.le_refl _) h
  | succ d ih =>
    intro i hi
    exact en_le c i (by omega) ⟨en_in (a + i) (by omega), en_in (b + i) (by omega), nm_r ((en_u (b + i) (en_g (a + i))).trans (ec_s a_undoTexts a a_buffer b i)) (nm_r (nI_1 i) (ih (i + 1) (by omega)))⟩
theorem xc_undoTexts_buffer {post : SX → Prop} {x1 x3 x4 : Int32} (a b c : Nat) (ha : a + c ≤ 256) (hb : b + c ≤ 32) (h : post (f_width, f_historyCap, f_ringCap, f_length, f_cursor, f_historyCount, f_nav, f_draftLength, f_ringCount, f_yankIndex, f_undoDepth, f_mode, f_last, f_accepted, f_queryLength, f_match, f_matchStart, f_displayLength, f_displayCursor, f_terminalRow, f_terminalCol, ec_cp a_undoTexts a a_buffer b c, a_history, a_historyLengths, a_draft, a_ring, a_ringLengths, a_undoTexts, a_undoLengths, a_undoCursors, a_query, a_display, a_screen)) (h1 : x1 = nI a := by first | with_reducible rfl | (simp (disch := omega) only [nI_add, nI_1, en_m1, en_s1, pk_sub, pk_mul, en_32, en_a2, en_a3] <;> exact congrArg nI (by omega)) | exact congrArg nI (by omega) | rfl) (h3 : x3 = nI b := by first | with_reducible rfl | (simp (disch := omega) only [nI_add, nI_1, en_m1, en_s1, pk_sub, pk_mul, en_32, en_a2, en_a3] <;> exact congrArg nI (by omega)) | exact congrArg nI (by omega) | rfl) (h4 : x4 = nI c := by first | with_reducible rfl | (simp (disch := omega) only [nI_add, nI_1, en_m1, en_s1, pk_sub, pk_mul, en_32, en_a2, en_a3] <;> exact congrArg nI (by omega)) | exact congrArg nI (by omega) | rfl) : wpX_copyCells__undoTexts_buffer post (f_width, f_historyCap, f_ringCap, f_length, f_cursor, f_historyCount, f_nav, f_draftLength, f_ringCount, f_yankIndex, f_undoDepth, f_mode, f_last, f_accepted, f_queryLength, f_match, f_matchStart, f_displayLength, f_displayCursor, f_terminalRow, f_terminalCol, a_buffer, a_history, a_historyLengths, a_draft, a_ring, a_ringLengths, a_undoTexts, a_undoLengths, a_undoCursors, a_query, a_display, a_screen) x1 x3 x4 := by
  subst h1 h3 h4
  refine ⟨c + 1, ?_⟩
  have := xc_undoTexts_buffer_l ha hb h c 0 (by omega)
  rw [ec_0] at this
  exact this
theorem xc_buffer_draft_l {post : SX → Prop} {a b c : Nat} (ha : a + c ≤ 32) (hb : b + c ≤ 32) (h : post (f_width, f_historyCap, f_ringCap, f_length, f_cursor, f_historyCount, f_nav, f_draftLength, f_ringCount, f_yankIndex, f_undoDepth, f_mode, f_last, f_accepted, f_queryLength, f_match, f_matchStart, f_displayLength, f_displayCursor, f_terminalRow, f_terminalCol, a_buffer, a_history, a_historyLengths, ec_cp a_buffer a a_draft b c, a_ring, a_ringLengths, a_undoTexts, a_undoLengths, a_undoCursors, a_query, a_display, a_screen)) : ∀ d i, i + d = c → wX_copyCells__buffer_draft_3 post (nI a) (nI b) (nI c) f_width f_historyCap f_ringCap f_length f_cursor f_historyCount f_nav f_draftLength f_ringCount f_yankIndex f_undoDepth f_mode f_last f_accepted f_queryLength f_match f_matchStart f_displayLength f_displayCursor f_terminalRow f_terminalCol (d + 1) (nI i) a_buffer a_history a_historyLengths (ec_cp a_buffer a a_draft b i) a_ring a_ringLengths a_undoTexts a_undoLengths a_undoCursors a_query a_display a_screen := by
  intro d
  induction d with
  | zero =>
    intro i hi
    obtain rfl : i = c := by omega
    exact ey_le i i (Nat.le_refl _) h
  | succ d ih =>
    intro i hi
    exact en_le c i (by omega) ⟨en_in (a + i) (by omega), en_in (b + i) (by omega), nm_r ((en_u (b + i) (en_g (a + i))).trans (ec_s a_buffer a a_draft b i)) (nm_r (nI_1 i) (ih (i + 1) (by omega)))⟩
theorem xc_buffer_draft {post : SX → Prop} {x1 x3 x4 : Int32} (a b c : Nat) (ha : a + c ≤ 32) (hb : b + c ≤ 32) (h : post (f_width, f_historyCap, f_ringCap, f_length, f_cursor, f_historyCount, f_nav, f_draftLength, f_ringCount, f_yankIndex, f_undoDepth, f_mode, f_last, f_accepted, f_queryLength, f_match, f_matchStart, f_displayLength, f_displayCursor, f_terminalRow, f_terminalCol, a_buffer, a_history, a_historyLengths, ec_cp a_buffer a a_draft b c, a_ring, a_ringLengths, a_undoTexts, a_undoLengths, a_undoCursors, a_query, a_display, a_screen)) (h1 : x1 = nI a := by first | with_reducible rfl | (simp (disch := omega) only [nI_add, nI_1, en_m1, en_s1, pk_sub, pk_mul, en_32, en_a2, en_a3] <;> exact congrArg nI (by omega)) | exact congrArg nI (by omega) | rfl) (h3 : x3 = nI b := by first | with_reducible rfl | (simp (disch := omega) only [nI_add, nI_1, en_m1, en_s1, pk_sub, pk_mul, en_32, en_a2, en_a3] <;> exact congrArg nI (by omega)) | exact congrArg nI (by omega) | rfl) (h4 : x4 = nI c := by first | with_reducible rfl | (simp (disch := omega) only [nI_add, nI_1, en_m1, en_s1, pk_sub, pk_mul, en_32, en_a2, en_a3] <;> exact congrArg nI (by omega)) | exact congrArg nI (by omega) | rfl) : wpX_copyCells__buffer_draft post (f_width, f_historyCap, f_ringCap, f_length, f_cursor, f_historyCount, f_nav, f_draftLength, f_ringCount, f_yankIndex, f_undoDepth, f_mode, f_last, f_accepted, f_queryLength, f_match, f_matchStart, f_displayLength, f_displayCursor, f_terminalRow, f_terminalCol, a_buffer, a_history, a_historyLengths, a_draft, a_ring, a_ringLengths, a_undoTexts, a_undoLengths, a_undoCursors, a_query, a_display, a_screen) x1 x3 x4 := by
  subst h1 h3 h4
  refine ⟨c + 1, ?_⟩
  have := xc_buffer_draft_l ha hb h c 0 (by omega)
  rw [ec_0] at this
  exact this
theorem xc_draft_buffer_l {post : SX → Prop} {a b c : Nat} (ha : a + c ≤ 32) (hb : b + c ≤ 32) (h : post (f_width, f_historyCap, f_ringCap, f_length, f_cursor, f_historyCount, f_nav, f_draftLength, f_ringCount, f_yankIndex, f_undoDepth, f_mode, f_last, f_accepted, f_queryLength, f_match, f_matchStart, f_displayLength, f_displayCursor, f_terminalRow, f_terminalCol, ec_cp a_draft a a_buffer b c, a_history, a_historyLengths, a_draft, a_ring, a_ringLengths, a_undoTexts, a_undoLengths, a_undoCursors, a_query, a_display, a_screen)) : ∀ d i, i + d = c → wX_copyCells__draft_buffer_3 post (nI a) (nI b) (nI c) f_width f_historyCap f_ringCap f_length f_cursor f_historyCount f_nav f_draftLength f_ringCount f_yankIndex f_undoDepth f_mode f_last f_accepted f_queryLength f_match f_matchStart f_displayLength f_displayCursor f_terminalRow f_terminalCol (d + 1) (nI i) (ec_cp a_draft a a_buffer b i) a_history a_historyLengths a_draft a_ring a_ringLengths a_undoTexts a_undoLengths a_undoCursors a_query a_display a_screen := by
  intro d
  induction d with
  | zero =>
    intro i hi
    obtain rfl : i = c := by omega
    exact ey_le i i (Nat.le_refl _) h
  | succ d ih =>
    intro i hi
    exact en_le c i (by omega) ⟨en_in (a + i) (by omega), en_in (b + i) (by omega), nm_r ((en_u (b + i) (en_g (a + i))).trans (ec_s a_draft a a_buffer b i)) (nm_r (nI_1 i) (ih (i + 1) (by omega)))⟩
theorem xc_draft_buffer {post : SX → Prop} {x1 x3 x4 : Int32} (a b c : Nat) (ha : a + c ≤ 32) (hb : b + c ≤ 32) (h : post (f_width, f_historyCap, f_ringCap, f_length, f_cursor, f_historyCount, f_nav, f_draftLength, f_ringCount, f_yankIndex, f_undoDepth, f_mode, f_last, f_accepted, f_queryLength, f_match, f_matchStart, f_displayLength, f_displayCursor, f_terminalRow, f_terminalCol, ec_cp a_draft a a_buffer b c, a_history, a_historyLengths, a_draft, a_ring, a_ringLengths, a_undoTexts, a_undoLengths, a_undoCursors, a_query, a_display, a_screen)) (h1 : x1 = nI a := by first | with_reducible rfl | (simp (disch := omega) only [nI_add, nI_1, en_m1, en_s1, pk_sub, pk_mul, en_32, en_a2, en_a3] <;> exact congrArg nI (by omega)) | exact congrArg nI (by omega) | rfl) (h3 : x3 = nI b := by first | with_reducible rfl | (simp (disch := omega) only [nI_add, nI_1, en_m1, en_s1, pk_sub, pk_mul, en_32, en_a2, en_a3] <;> exact congrArg nI (by omega)) | exact congrArg nI (by omega) | rfl) (h4 : x4 = nI c := by first | with_reducible rfl | (simp (disch := omega) only [nI_add, nI_1, en_m1, en_s1, pk_sub, pk_mul, en_32, en_a2, en_a3] <;> exact congrArg nI (by omega)) | exact congrArg nI (by omega) | rfl) : wpX_copyCells__draft_buffer post (f_width, f_historyCap, f_ringCap, f_length, f_cursor, f_historyCount, f_nav, f_draftLength, f_ringCount, f_yankIndex, f_undoDepth, f_mode, f_last, f_accepted, f_queryLength, f_match, f_matchStart, f_displayLength, f_displayCursor, f_terminalRow, f_terminalCol, a_buffer, a_history, a_historyLengths, a_draft, a_ring, a_ringLengths, a_undoTexts, a_undoLengths, a_undoCursors, a_query, a_display, a_screen) x1 x3 x4 := by
  subst h1 h3 h4
  refine ⟨c + 1, ?_⟩
  have := xc_draft_buffer_l ha hb h c 0 (by omega)
  rw [ec_0] at this
  exact this
theorem xc_buffer_history_l {post : SX → Prop} {a b c : Nat} (ha : a + c ≤ 32) (hb : b + c ≤ 256) (h : post (f_width, f_historyCap, f_ringCap, f_length, f_cursor, f_historyCount, f_nav, f_draftLength, f_ringCount, f_yankIndex, f_undoDepth, f_mode, f_last, f_accepted, f_queryLength, f_match, f_matchStart, f_displayLength, f_displayCursor, f_terminalRow, f_terminalCol, a_buffer, ec_cp a_buffer a a_history b c, a_historyLengths, a_draft, a_ring, a_ringLengths, a_undoTexts, a_undoLengths, a_undoCursors, a_query, a_display, a_screen)) : ∀ d i, i + d = c → wX_copyCells__buffer_history_3 post (nI a) (nI b) (nI c) f_width f_historyCap f_ringCap f_length f_cursor f_historyCount f_nav f_draftLength f_ringCount f_yankIndex f_undoDepth f_mode f_last f_accepted f_queryLength f_match f_matchStart f_displayLength f_displayCursor f_terminalRow f_terminalCol (d + 1) (nI i) a_buffer (ec_cp a_buffer a a_history b i) a_historyLengths a_draft a_ring a_ringLengths a_undoTexts a_undoLengths a_undoCursors a_query a_display a_screen := by
  intro d
  induction d with
  | zero =>
    intro i hi
    obtain rfl : i = c := by omega
    exact ey_le i i (Nat.le_refl _) h
  | succ d ih =>
    intro i hi
    exact en_le c i (by omega) ⟨en_in (a + i) (by omega), en_in (b + i) (by omega), nm_r ((en_u (b + i) (en_g (a + i))).trans (ec_s a_buffer a a_history b i)) (nm_r (nI_1 i) (ih (i + 1) (by omega)))⟩
theorem xc_buffer_history {post : SX → Prop} {x1 x3 x4 : Int32} (a b c : Nat) (ha : a + c ≤ 32) (hb : b + c ≤ 256) (h : post (f_width, f_historyCap, f_ringCap, f_length, f_cursor, f_historyCount, f_nav, f_draftLength, f_ringCount, f_yankIndex, f_undoDepth, f_mode, f_last, f_accepted, f_queryLength, f_match, f_matchStart, f_displayLength, f_displayCursor, f_terminalRow, f_terminalCol, a_buffer, ec_cp a_buffer a a_history b c, a_historyLengths, a_draft, a_ring, a_ringLengths, a_undoTexts, a_undoLengths, a_undoCursors, a_query, a_display, a_screen)) (h1 : x1 = nI a := by first | with_reducible rfl | (simp (disch := omega) only [nI_add, nI_1, en_m1, en_s1, pk_sub, pk_mul, en_32, en_a2, en_a3] <;> exact congrArg nI (by omega)) | exact congrArg nI (by omega) | rfl) (h3 : x3 = nI b := by first | with_reducible rfl | (simp (disch := omega) only [nI_add, nI_1, en_m1, en_s1, pk_sub, pk_mul, en_32, en_a2, en_a3] <;> exact congrArg nI (by omega)) | exact congrArg nI (by omega) | rfl) (h4 : x4 = nI c := by first | with_reducible rfl | (simp (disch := omega) only [nI_add, nI_1, en_m1, en_s1, pk_sub, pk_mul, en_32, en_a2, en_a3] <;> exact congrArg nI (by omega)) | exact congrArg nI (by omega) | rfl) : wpX_copyCells__buffer_history post (f_width, f_historyCap, f_ringCap, f_length, f_cursor, f_historyCount, f_nav, f_draftLength, f_ringCount, f_yankIndex, f_undoDepth, f_mode, f_last, f_accepted, f_queryLength, f_match, f_matchStart, f_displayLength, f_displayCursor, f_terminalRow, f_terminalCol, a_buffer, a_history, a_historyLengths, a_draft, a_ring, a_ringLengths, a_undoTexts, a_undoLengths, a_undoCursors, a_query, a_display, a_screen) x1 x3 x4 := by
  subst h1 h3 h4
  refine ⟨c + 1, ?_⟩
  have := xc_buffer_history_l ha hb h c 0 (by omega)
  rw [ec_0] at this
  exact this
theorem xc_history_history_l {post : SX → Prop} {a b c : Nat} (ha : a + c ≤ 256) (hb : b + c ≤ 256) (hba : b ≤ a) (h : post (f_width, f_historyCap, f_ringCap, f_length, f_cursor, f_historyCount, f_nav, f_draftLength, f_ringCount, f_yankIndex, f_undoDepth, f_mode, f_last, f_accepted, f_queryLength, f_match, f_matchStart, f_displayLength, f_displayCursor, f_terminalRow, f_terminalCol, a_buffer, ec_cp a_history a a_history b c, a_historyLengths, a_draft, a_ring, a_ringLengths, a_undoTexts, a_undoLengths, a_undoCursors, a_query, a_display, a_screen)) : ∀ d i, i + d = c → wX_copyCells__history_history_3 post (nI a) (nI b) (nI c) f_width f_historyCap f_ringCap f_length f_cursor f_historyCount f_nav f_draftLength f_ringCount f_yankIndex f_undoDepth f_mode f_last f_accepted f_queryLength f_match f_matchStart f_displayLength f_displayCursor f_terminalRow f_terminalCol (d + 1) (nI i) a_buffer (ec_cp a_history a a_history b i) a_historyLengths a_draft a_ring a_ringLengths a_undoTexts a_undoLengths a_undoCursors a_query a_display a_screen := by
  intro d
  induction d with
  | zero =>
    intro i hi
    obtain rfl : i = c := by omega
    exact ey_le i i (Nat.le_refl _) h
  | succ d ih =>
    intro i hi
    exact en_le c i (by omega) ⟨en_in (a + i) (by omega), en_in (b + i) (by omega), nm_r ((en_u (b + i) (en_g (a + i))).trans (ec_up hba i)) (nm_r (nI_1 i) (ih (i + 1) (by omega)))⟩
theorem xc_history_history {post : SX → Prop} {x1 x3 x4 : Int32} (a b c : Nat) (ha : a + c ≤ 256) (hb : b + c ≤ 256) (hba : b ≤ a) (h : post (f_width, f_historyCap, f_ringCap, f_length, f_cursor, f_historyCount, f_nav, f_draftLength, f_ringCount, f_yankIndex, f_undoDepth, f_mode, f_last, f_accepted, f_queryLength, f_match, f_matchStart, f_displayLength, f_displayCursor, f_terminalRow, f_terminalCol, a_buffer, ec_cp a_history a a_history b c, a_historyLengths, a_draft, a_ring, a_ringLengths, a_undoTexts, a_undoLengths, a_undoCursors, a_query, a_display, a_screen)) (h1 : x1 = nI a := by first | with_reducible rfl | (simp (disch := omega) only [nI_add, nI_1, en_m1, en_s1, pk_sub, pk_mul, en_32, en_a2, en_a3] <;> exact congrArg nI (by omega)) | exact congrArg nI (by omega) | rfl) (h3 : x3 = nI b := by first | with_reducible rfl | (simp (disch := omega) only [nI_add, nI_1, en_m1, en_s1, pk_sub, pk_mul, en_32, en_a2, en_a3] <;> exact congrArg nI (by omega)) | exact congrArg nI (by omega) | rfl) (h4 : x4 = nI c := by first | with_reducible rfl | (simp (disch := omega) only [nI_add, nI_1, en_m1, en_s1, pk_sub, pk_mul, en_32, en_a2, en_a3] <;> exact congrArg nI (by omega)) | exact congrArg nI (by omega) | rfl) : wpX_copyCells__history_history post (f_width, f_historyCap, f_ringCap, f_length, f_cursor, f_historyCount, f_nav, f_draftLength, f_ringCount, f_yankIndex, f_undoDepth, f_mode, f_last, f_accepted, f_queryLength, f_match, f_matchStart, f_displayLength, f_displayCursor, f_terminalRow, f_terminalCol, a_buffer, a_history, a_historyLengths, a_draft, a_ring, a_ringLengths, a_undoTexts, a_undoLengths, a_undoCursors, a_query, a_display, a_screen) x1 x3 x4 := by
  subst h1 h3 h4
  refine ⟨c + 1, ?_⟩
  have := xc_history_history_l ha hb hba h c 0 (by omega)
  rw [ec_0] at this
  exact this
theorem xc_historyLengths_historyLengths_l {post : SX → Prop} {a b c : Nat} (ha : a + c ≤ 8) (hb : b + c ≤ 8) (hba : b ≤ a) (h : post (f_width, f_historyCap, f_ringCap, f_length, f_cursor, f_historyCount, f_nav, f_draftLength, f_ringCount, f_yankIndex, f_undoDepth, f_mode, f_last, f_accepted, f_queryLength, f_match, f_matchStart, f_displayLength, f_displayCursor, f_terminalRow, f_terminalCol, a_buffer, a_history, ec_cp a_historyLengths a a_historyLengths b c, a_draft, a_ring, a_ringLengths, a_undoTexts, a_undoLengths, a_undoCursors, a_query, a_display, a_screen)) : ∀ d i, i + d = c → wX_copyCells__historyLengths_historyLengths_3 post (nI a) (nI b) (nI c) f_width f_historyCap f_ringCap f_length f_cursor f_historyCount f_nav f_draftLength f_ringCount f_yankIndex f_undoDepth f_mode f_last f_accepted f_queryLength f_match f_matchStart f_displayLength f_displayCursor f_terminalRow f_terminalCol (d + 1) (nI i) a_buffer a_history (ec_cp a_historyLengths a a_historyLengths b i) a_draft a_ring a_ringLengths a_undoTexts a_undoLengths a_undoCursors a_query a_display a_screen := by
  intro d
  induction d with
  | zero =>
    intro i hi
    obtain rfl : i = c := by omega
    exact ey_le i i (Nat.le_refl _) h
  | succ d ih =>
    intro i hi
    exact en_le c i (by omega) ⟨en_in (a + i) (by omega), en_in (b + i) (by omega), nm_r ((en_u (b + i) (en_g (a + i))).trans (ec_up hba i)) (nm_r (nI_1 i) (ih (i + 1) (by omega)))⟩
theorem xc_historyLengths_historyLengths {post : SX → Prop} {x1 x3 x4 : Int32} (a b c : Nat) (ha : a + c ≤ 8) (hb : b + c ≤ 8) (hba : b ≤ a) (h : post (f_width, f_historyCap, f_ringCap, f_length, f_cursor, f_historyCount, f_nav, f_draftLength, f_ringCount, f_yankIndex, f_undoDepth, f_mode, f_last, f_accepted, f_queryLength, f_match, f_matchStart, f_displayLength, f_displayCursor, f_terminalRow, f_terminalCol, a_buffer, a_history, ec_cp a_historyLengths a a_historyLengths b c, a_draft, a_ring, a_ringLengths, a_undoTexts, a_undoLengths, a_undoCursors, a_query, a_display, a_screen)) (h1 : x1 = nI a := by first | with_reducible rfl | (simp (disch := omega) only [nI_add, nI_1, en_m1, en_s1, pk_sub, pk_mul, en_32, en_a2, en_a3] <;> exact congrArg nI (by omega)) | exact congrArg nI (by omega) | rfl) (h3 : x3 = nI b := by first | with_reducible rfl | (simp (disch := omega) only [nI_add, nI_1, en_m1, en_s1, pk_sub, pk_mul, en_32, en_a2, en_a3] <;> exact congrArg nI (by omega)) | exact congrArg nI (by omega) | rfl) (h4 : x4 = nI c := by first | with_reducible rfl | (simp (disch := omega) only [nI_add, nI_1, en_m1, en_s1, pk_sub, pk_mul, en_32, en_a2, en_a3] <;> exact congrArg nI (by omega)) | exact congrArg nI (by omega) | rfl) : wpX_copyCells__historyLengths_historyLengths post (f_width, f_historyCap, f_ringCap, f_length, f_cursor, f_historyCount, f_nav, f_draftLength, f_ringCount, f_yankIndex, f_undoDepth, f_mode, f_last, f_accepted, f_queryLength, f_match, f_matchStart, f_displayLength, f_displayCursor, f_terminalRow, f_terminalCol, a_buffer, a_history, a_historyLengths, a_draft, a_ring, a_ringLengths, a_undoTexts, a_undoLengths, a_undoCursors, a_query, a_display, a_screen) x1 x3 x4 := by
  subst h1 h3 h4
  refine ⟨c + 1, ?_⟩
  have := xc_historyLengths_historyLengths_l ha hb hba h c 0 (by omega)
  rw [ec_0] at this
  exact this
theorem xc_ring_ring_l {post : SX → Prop} {a b c : Nat} (ha : a + c ≤ 128) (hb : b + c ≤ 128) (hba : b ≤ a) (h : post (f_width, f_historyCap, f_ringCap, f_length, f_cursor, f_historyCount, f_nav, f_draftLength, f_ringCount, f_yankIndex, f_undoDepth, f_mode, f_last, f_accepted, f_queryLength, f_match, f_matchStart, f_displayLength, f_displayCursor, f_terminalRow, f_terminalCol, a_buffer, a_history, a_historyLengths, a_draft, ec_cp a_ring a a_ring b c, a_ringLengths, a_undoTexts, a_undoLengths, a_undoCursors, a_query, a_display, a_screen)) : ∀ d i, i + d = c → wX_copyCells__ring_ring_3 post (nI a) (nI b) (nI c) f_width f_historyCap f_ringCap f_length f_cursor f_historyCount f_nav f_draftLength f_ringCount f_yankIndex f_undoDepth f_mode f_last f_accepted f_queryLength f_match f_matchStart f_displayLength f_displayCursor f_terminalRow f_terminalCol (d + 1) (nI i) a_buffer a_history a_historyLengths a_draft (ec_cp a_ring a a_ring b i) a_ringLengths a_undoTexts a_undoLengths a_undoCursors a_query a_display a_screen := by
  intro d
  induction d with
  | zero =>
    intro i hi
    obtain rfl : i = c := by omega
    exact ey_le i i (Nat.le_refl _) h
  | succ d ih =>
    intro i hi
    exact en_le c i (by omega) ⟨en_in (a + i) (by omega), en_in (b + i) (by omega), nm_r ((en_u (b + i) (en_g (a + i))).trans (ec_up hba i)) (nm_r (nI_1 i) (ih (i + 1) (by omega)))⟩
theorem xc_ring_ring {post : SX → Prop} {x1 x3 x4 : Int32} (a b c : Nat) (ha : a + c ≤ 128) (hb : b + c ≤ 128) (hba : b ≤ a) (h : post (f_width, f_historyCap, f_ringCap, f_length, f_cursor, f_historyCount, f_nav, f_draftLength, f_ringCount, f_yankIndex, f_undoDepth, f_mode, f_last, f_accepted, f_queryLength, f_match, f_matchStart, f_displayLength, f_displayCursor, f_terminalRow, f_terminalCol, a_buffer, a_history, a_historyLengths, a_draft, ec_cp a_ring a a_ring b c, a_ringLengths, a_undoTexts, a_undoLengths, a_undoCursors, a_query, a_display, a_screen)) (h1 : x1 = nI a := by first | with_reducible rfl | (simp (disch := omega) only [nI_add, nI_1, en_m1, en_s1, pk_sub, pk_mul, en_32, en_a2, en_a3] <;> exact congrArg nI (by omega)) | exact congrArg nI (by omega) | rfl) (h3 : x3 = nI b := by first | with_reducible rfl | (simp (disch := omega) only [nI_add, nI_1, en_m1, en_s1, pk_sub, pk_mul, en_32, en_a2, en_a3] <;> exact congrArg nI (by omega)) | exact congrArg nI (by omega) | rfl) (h4 : x4 = nI c := by first | with_reducible rfl | (simp (disch := omega) only [nI_add, nI_1, en_m1, en_s1, pk_sub, pk_mul, en_32, en_a2, en_a3] <;> exact congrArg nI (by omega)) | exact congrArg nI (by omega) | rfl) : wpX_copyCells__ring_ring post (f_width, f_historyCap, f_ringCap, f_length, f_cursor, f_historyCount, f_nav, f_draftLength, f_ringCount, f_yankIndex, f_undoDepth, f_mode, f_last, f_accepted, f_queryLength, f_match, f_matchStart, f_displayLength, f_displayCursor, f_terminalRow, f_terminalCol, a_buffer, a_history, a_historyLengths, a_draft, a_ring, a_ringLengths, a_undoTexts, a_undoLengths, a_undoCursors, a_query, a_display, a_screen) x1 x3 x4 := by
  subst h1 h3 h4
  refine ⟨c + 1, ?_⟩
  have := xc_ring_ring_l ha hb hba h c 0 (by omega)
  rw [ec_0] at this
  exact this
theorem xc_ringLengths_ringLengths_l {post : SX → Prop} {a b c : Nat} (ha : a + c ≤ 4) (hb : b + c ≤ 4) (hba : b ≤ a) (h : post (f_width, f_historyCap, f_ringCap, f_length, f_cursor, f_historyCount, f_nav, f_draftLength, f_ringCount, f_yankIndex, f_undoDepth, f_mode, f_last, f_accepted, f_queryLength, f_match, f_matchStart, f_displayLength, f_displayCursor, f_terminalRow, f_terminalCol, a_buffer, a_history, a_historyLengths, a_draft, a_ring, ec_cp a_ringLengths a a_ringLengths b c, a_undoTexts, a_undoLengths, a_undoCursors, a_query, a_display, a_screen)) : ∀ d i, i + d = c → wX_copyCells__ringLengths_ringLengths_3 post (nI a) (nI b) (nI c) f_width f_historyCap f_ringCap f_length f_cursor f_historyCount f_nav f_draftLength f_ringCount f_yankIndex f_undoDepth f_mode f_last f_accepted f_queryLength f_match f_matchStart f_displayLength f_displayCursor f_terminalRow f_terminalCol (d + 1) (nI i) a_buffer a_history a_historyLengths a_draft a_ring (ec_cp a_ringLengths a a_ringLengths b i) a_undoTexts a_undoLengths a_undoCursors a_query a_display a_screen := by
  intro d
  induction d with
  | zero =>
    intro i hi
    obtain rfl : i = c := by omega
    exact ey_le i i (Nat.le_refl _) h
  | succ d ih =>
    intro i hi
    exact en_le c i (by omega) ⟨en_in (a + i) (by omega), en_in (b + i) (by omega), nm_r ((en_u (b + i) (en_g (a + i))).trans (ec_up hba i)) (nm_r (nI_1 i) (ih (i + 1) (by omega)))⟩
theorem xc_ringLengths_ringLengths {post : SX → Prop} {x1 x3 x4 : Int32} (a b c : Nat) (ha : a + c ≤ 4) (hb : b + c ≤ 4) (hba : b ≤ a) (h : post (f_width, f_historyCap, f_ringCap, f_length, f_cursor, f_historyCount, f_nav, f_draftLength, f_ringCount, f_yankIndex, f_undoDepth, f_mode, f_last, f_accepted, f_queryLength, f_match, f_matchStart, f_displayLength, f_displayCursor, f_terminalRow, f_terminalCol, a_buffer, a_history, a_historyLengths, a_draft, a_ring, ec_cp a_ringLengths a a_ringLengths b c, a_undoTexts, a_undoLengths, a_undoCursors, a_query, a_display, a_screen)) (h1 : x1 = nI a := by first | with_reducible rfl | (simp (disch := omega) only [nI_add, nI_1, en_m1, en_s1, pk_sub, pk_mul, en_32, en_a2, en_a3] <;> exact congrArg nI (by omega)) | exact congrArg nI (by omega) | rfl) (h3 : x3 = nI b := by first | with_reducible rfl | (simp (disch := omega) only [nI_add, nI_1, en_m1, en_s1, pk_sub, pk_mul, en_32, en_a2, en_a3] <;> exact congrArg nI (by omega)) | exact congrArg nI (by omega) | rfl) (h4 : x4 = nI c := by first | with_reducible rfl | (simp (disch := omega) only [nI_add, nI_1, en_m1, en_s1, pk_sub, pk_mul, en_32, en_a2, en_a3] <;> exact congrArg nI (by omega)) | exact congrArg nI (by omega) | rfl) : wpX_copyCells__ringLengths_ringLengths post (f_width, f_historyCap, f_ringCap, f_length, f_cursor, f_historyCount, f_nav, f_draftLength, f_ringCount, f_yankIndex, f_undoDepth, f_mode, f_last, f_accepted, f_queryLength, f_match, f_matchStart, f_displayLength, f_displayCursor, f_terminalRow, f_terminalCol, a_buffer, a_history, a_historyLengths, a_draft, a_ring, a_ringLengths, a_undoTexts, a_undoLengths, a_undoCursors, a_query, a_display, a_screen) x1 x3 x4 := by
  subst h1 h3 h4
  refine ⟨c + 1, ?_⟩
  have := xc_ringLengths_ringLengths_l ha hb hba h c 0 (by omega)
  rw [ec_0] at this
  exact this
theorem xc_buffer_ring_l {post : SX → Prop} {a b c : Nat} (ha : a + c ≤ 32) (hb : b + c ≤ 128) (h : post (f_width, f_historyCap, f_ringCap, f_length, f_cursor, f_historyCount, f_nav, f_draftLength, f_ringCount, f_yankIndex, f_undoDepth, f_mode, f_last, f_accepted, f_queryLength, f_match, f_matchStart, f_displayLength, f_displayCursor, f_terminalRow, f_terminalCol, a_buffer, a_history, a_historyLengths, a_draft, ec_cp a_buffer a a_ring b c, a_ringLengths, a_undoTexts, a_undoLengths, a_undoCursors, a_query, a_display, a_screen)) : ∀ d i, i + d = c → wX_copyCells__buffer_ring_3 post (nI a) (nI b) (nI c) f_width f_historyCap f_ringCap f_length f_cursor f_historyCount f_nav f_draftLength f_ringCount f_yankIndex f_undoDepth f_mode f_last f_accepted f_queryLength f_match f_matchStart f_displayLength f_displayCursor f_terminalRow f_terminalCol (d + 1) (nI i) a_buffer a_history a_historyLengths a_draft (ec_cp a_buffer a a_ring b i) a_ringLengths a_undoTexts a_undoLengths a_undoCursors a_query a_display a_screen := by
  intro d
  induction d with
  | zero =>
    intro i hi
    obtain rfl : i = c := by omega
    exact ey_le i i (Nat.le_refl _) h
  | succ d ih =>
    intro i hi
    exact en_le c i (by omega) ⟨en_in (a + i) (by omega), en_in (b + i) (by omega), nm_r ((en_u (b + i) (en_g (a + i))).trans (ec_s a_buffer a a_ring b i)) (nm_r (nI_1 i) (ih (i + 1) (by omega)))⟩
theorem xc_buffer_ring {post : SX → Prop} {x1 x3 x4 : Int32} (a b c : Nat) (ha : a + c ≤ 32) (hb : b + c ≤ 128) (h : post (f_width, f_historyCap, f_ringCap, f_length, f_cursor, f_historyCount, f_nav, f_draftLength, f_ringCount, f_yankIndex, f_undoDepth, f_mode, f_last, f_accepted, f_queryLength, f_match, f_matchStart, f_displayLength, f_displayCursor, f_terminalRow, f_terminalCol, a_buffer, a_history, a_historyLengths, a_draft, ec_cp a_buffer a a_ring b c, a_ringLengths, a_undoTexts, a_undoLengths, a_undoCursors, a_query, a_display, a_screen)) (h1 : x1 = nI a := by first | with_reducible rfl | (simp (disch := omega) only [nI_add, nI_1, en_m1, en_s1, pk_sub, pk_mul, en_32, en_a2, en_a3] <;> exact congrArg nI (by omega)) | exact congrArg nI (by omega) | rfl) (h3 : x3 = nI b := by first | with_reducible rfl | (simp (disch := omega) only [nI_add, nI_1, en_m1, en_s1, pk_sub, pk_mul, en_32, en_a2, en_a3] <;> exact congrArg nI (by omega)) | exact congrArg nI (by omega) | rfl) (h4 : x4 = nI c := by first | with_reducible rfl | (simp (disch := omega) only [nI_add, nI_1, en_m1, en_s1, pk_sub, pk_mul, en_32, en_a2, en_a3] <;> exact congrArg nI (by omega)) | exact congrArg nI (by omega) | rfl) : wpX_copyCells__buffer_ring post (f_width, f_historyCap, f_ringCap, f_length, f_cursor, f_historyCount, f_nav, f_draftLength, f_ringCount, f_yankIndex, f_undoDepth, f_mode, f_last, f_accepted, f_queryLength, f_match, f_matchStart, f_displayLength, f_displayCursor, f_terminalRow, f_terminalCol, a_buffer, a_history, a_historyLengths, a_draft, a_ring, a_ringLengths, a_undoTexts, a_undoLengths, a_undoCursors, a_query, a_display, a_screen) x1 x3 x4 := by
  subst h1 h3 h4
  refine ⟨c + 1, ?_⟩
  have := xc_buffer_ring_l ha hb h c 0 (by omega)
  rw [ec_0] at this
  exact this
end
