/-! M: the component's picture -/
def ed_S (D S : Nat → Int32) (dl c : Nat) : Nat → Int32 := fun j => if j < c then (if j < dl then D j else 32) else S j
theorem ed_0 (D S : Nat → Int32) (dl : Nat) : ed_S D S dl 0 = S := by
  funext j
  exact if_neg (by omega)
theorem ed_1 {D S : Nat → Int32} {dl c : Nat} {x : Int32} (h : (if c < dl then D c else 32) = x) : upd (ed_S D S dl c) c x = ed_S D S dl (c + 1) := by
  funext j
  by_cases e : j = c
  · subst e
    rw [ec_us]
    unfold ed_S
    rw [if_pos (show j < j + 1 by omega), h]
  · rw [ec_un e]
    unfold ed_S
    by_cases e2 : j < c
    · rw [if_pos e2, if_pos (show j < c + 1 by omega)]
    · rw [if_neg e2, if_neg (show ¬ j < c + 1 by omega)]
theorem ed_e {B D : Nat → Int32} {n : Nat} : ec_cp B 0 (upd (upd D 0 62) 1 32) 2 n 0 = 62 ∧ ec_cp B 0 (upd (upd D 0 62) 1 32) 2 n 1 = 32 ∧ ∀ j, j < n → ec_cp B 0 (upd (upd D 0 62) 1 32) 2 n (2 + j) = B j := by
  refine ⟨?_, ?_, fun j hj => ?_⟩
  · rw [ec_o (by omega), ec_un (by omega), ec_us]
  · rw [ec_o (by omega), ec_us]
  · rw [ec_k hj, Nat.zero_add]
theorem ed_f {T Q D : Nat → Int32} {a q l : Nat} {F : Nat → Int32} (hF : F = ec_cp T a (upd (upd (ec_cp Q 0 (upd D 0 63) 1 q) (1 + q) 58) (1 + q + 1) 32) (1 + q + 1 + 1) l) :
    F 0 = 63 ∧ (∀ j, j < q → F (1 + j) = Q j) ∧ F (1 + q) = 58 ∧ F (2 + q) = 32 ∧ ∀ j, j < l → F (3 + q + j) = T (a + j) := by
  subst hF
  refine ⟨?_, fun j hj => ?_, ?_, ?_, fun j hj => ?_⟩
  · rw [ec_o (by omega), ec_un (by omega), ec_un (by omega), ec_o (by omega), ec_us]
  · rw [ec_o (by omega), ec_un (by omega), ec_un (by omega), ec_k hj, Nat.zero_add]
  · rw [ec_o (by omega), ec_un (by omega), ec_us]
  · rw [show 2 + q = 1 + q + 1 by omega, ec_o (by omega), ec_us]
  · rw [show 3 + q + j = 1 + q + 1 + 1 + j by omega, ec_k hj]
section
variable {f_width f_historyCap f_ringCap f_length f_cursor f_historyCount f_nav f_draftLength f_ringCount f_yankIndex f_undoDepth f_mode f_last f_accepted f_queryLength f_match f_matchStart f_displayLength f_displayCursor f_terminalRow f_terminalCol : Int32} {a_buffer a_history a_historyLengths a_draft a_ring a_ringLengths a_undoTexts a_undoLengths a_undoCursors a_query a_display a_screen : Nat → Int32}
theorem xsc {post : St2 → Prop} {c : Int32} (L : Nat) (hL : L < 51) (h : post (f_width, f_historyCap, f_ringCap, f_length, f_cursor, f_historyCount, f_nav, f_draftLength, f_ringCount, f_yankIndex, f_undoDepth, f_mode, f_last, f_accepted, f_queryLength, f_match, f_matchStart, nI (L + 1), f_displayCursor, f_terminalRow, f_terminalCol, a_buffer, a_history, a_historyLengths, a_draft, a_ring, a_ringLengths, a_undoTexts, a_undoLengths, a_undoCursors, a_query, upd a_display L c, a_screen)) : wpX_showChar post (f_width, f_historyCap, f_ringCap, f_length, f_cursor, f_historyCount, f_nav, f_draftLength, f_ringCount, f_yankIndex, f_undoDepth, f_mode, f_last, f_accepted, f_queryLength, f_match, f_matchStart, nI L, f_displayCursor, f_terminalRow, f_terminalCol, a_buffer, a_history, a_historyLengths, a_draft, a_ring, a_ringLengths, a_undoTexts, a_undoLengths, a_undoCursors, a_query, a_display, a_screen) c :=
  ⟨en_in L hL, nm_r (en_u L) (nm_r (nI_1 L) h)⟩
theorem xst_b {post : St2 → Prop} {x1 x2 : Int32} (a c L : Nat) (h1 : a + c ≤ 32) (h2 : L + c ≤ 51) (h : post (f_width, f_historyCap, f_ringCap, f_length, f_cursor, f_historyCount, f_nav, f_draftLength, f_ringCount, f_yankIndex, f_undoDepth, f_mode, f_last, f_accepted, f_queryLength, f_match, f_matchStart, nI (L + c), f_displayCursor, f_terminalRow, f_terminalCol, a_buffer, a_history, a_historyLengths, a_draft, a_ring, a_ringLengths, a_undoTexts, a_undoLengths, a_undoCursors, a_query, ec_cp a_buffer a a_display L c, a_screen)) (e1 : x1 = nI a := by first | with_reducible rfl | (simp (disch := omega) only [nI_add, nI_1, en_m1, en_s1, pk_sub, pk_mul, en_32, en_a2, en_a3, en_p32, en_s32, en_p2, en_s2, en_s3] <;> exact congrArg nI (by omega)) | exact congrArg nI (by omega) | rfl) (e2 : x2 = nI c := by first | with_reducible rfl | (simp (disch := omega) only [nI_add, nI_1, en_m1, en_s1, pk_sub, pk_mul, en_32, en_a2, en_a3, en_p32, en_s32, en_p2, en_s2, en_s3] <;> exact congrArg nI (by omega)) | exact congrArg nI (by omega) | rfl) : wpX_showText post (f_width, f_historyCap, f_ringCap, f_length, f_cursor, f_historyCount, f_nav, f_draftLength, f_ringCount, f_yankIndex, f_undoDepth, f_mode, f_last, f_accepted, f_queryLength, f_match, f_matchStart, nI L, f_displayCursor, f_terminalRow, f_terminalCol, a_buffer, a_history, a_historyLengths, a_draft, a_ring, a_ringLengths, a_undoTexts, a_undoLengths, a_undoCursors, a_query, a_display, a_screen) x1 x2 := by
  subst e1 e2
  exact xc_1 a L c h1 h2 (nm_r (nI_add L c) h)
theorem xst_q {post : St2 → Prop} {x1 x2 : Int32} (a c L : Nat) (h1 : a + c ≤ 16) (h2 : L + c ≤ 51) (h : post (f_width, f_historyCap, f_ringCap, f_length, f_cursor, f_historyCount, f_nav, f_draftLength, f_ringCount, f_yankIndex, f_undoDepth, f_mode, f_last, f_accepted, f_queryLength, f_match, f_matchStart, nI (L + c), f_displayCursor, f_terminalRow, f_terminalCol, a_buffer, a_history, a_historyLengths, a_draft, a_ring, a_ringLengths, a_undoTexts, a_undoLengths, a_undoCursors, a_query, ec_cp a_query a a_display L c, a_screen)) (e1 : x1 = nI a := by first | with_reducible rfl | (simp (disch := omega) only [nI_add, nI_1, en_m1, en_s1, pk_sub, pk_mul, en_32, en_a2, en_a3, en_p32, en_s32, en_p2, en_s2, en_s3] <;> exact congrArg nI (by omega)) | exact congrArg nI (by omega) | rfl) (e2 : x2 = nI c := by first | with_reducible rfl | (simp (disch := omega) only [nI_add, nI_1, en_m1, en_s1, pk_sub, pk_mul, en_32, en_a2, en_a3, en_p32, en_s32, en_p2, en_s2, en_s3] <;> exact congrArg nI (by omega)) | exact congrArg nI (by omega) | rfl) : wpX_showText_2 post (f_width, f_historyCap, f_ringCap, f_length, f_cursor, f_historyCount, f_nav, f_draftLength, f_ringCount, f_yankIndex, f_undoDepth, f_mode, f_last, f_accepted, f_queryLength, f_match, f_matchStart, nI L, f_displayCursor, f_terminalRow, f_terminalCol, a_buffer, a_history, a_historyLengths, a_draft, a_ring, a_ringLengths, a_undoTexts, a_undoLengths, a_undoCursors, a_query, a_display, a_screen) x1 x2 := by
  subst e1 e2
  exact xc_2 a L c h1 h2 (nm_r (nI_add L c) h)
theorem xst_h {post : St2 → Prop} {x1 x2 : Int32} (a c L : Nat) (h1 : a + c ≤ 256) (h2 : L + c ≤ 51) (h : post (f_width, f_historyCap, f_ringCap, f_length, f_cursor, f_historyCount, f_nav, f_draftLength, f_ringCount, f_yankIndex, f_undoDepth, f_mode, f_last, f_accepted, f_queryLength, f_match, f_matchStart, nI (L + c), f_displayCursor, f_terminalRow, f_terminalCol, a_buffer, a_history, a_historyLengths, a_draft, a_ring, a_ringLengths, a_undoTexts, a_undoLengths, a_undoCursors, a_query, ec_cp a_history a a_display L c, a_screen)) (e1 : x1 = nI a := by first | with_reducible rfl | (simp (disch := omega) only [nI_add, nI_1, en_m1, en_s1, pk_sub, pk_mul, en_32, en_a2, en_a3, en_p32, en_s32, en_p2, en_s2, en_s3] <;> exact congrArg nI (by omega)) | exact congrArg nI (by omega) | rfl) (e2 : x2 = nI c := by first | with_reducible rfl | (simp (disch := omega) only [nI_add, nI_1, en_m1, en_s1, pk_sub, pk_mul, en_32, en_a2, en_a3, en_p32, en_s32, en_p2, en_s2, en_s3] <;> exact congrArg nI (by omega)) | exact congrArg nI (by omega) | rfl) : wpX_showText_3 post (f_width, f_historyCap, f_ringCap, f_length, f_cursor, f_historyCount, f_nav, f_draftLength, f_ringCount, f_yankIndex, f_undoDepth, f_mode, f_last, f_accepted, f_queryLength, f_match, f_matchStart, nI L, f_displayCursor, f_terminalRow, f_terminalCol, a_buffer, a_history, a_historyLengths, a_draft, a_ring, a_ringLengths, a_undoTexts, a_undoLengths, a_undoCursors, a_query, a_display, a_screen) x1 x2 := by
  subst e1 e2
  exact xc_3 a L c h1 h2 (nm_r (nI_add L c) h)
theorem xce {post : St2 → Prop} {n k : Nat} (hn : n ≤ 32) (h : post (f_width, f_historyCap, f_ringCap, nI n, nI k, f_historyCount, f_nav, f_draftLength, f_ringCount, f_yankIndex, f_undoDepth, f_mode, f_last, f_accepted, f_queryLength, f_match, f_matchStart, nI (2 + n), nI (2 + k), f_terminalRow, f_terminalCol, a_buffer, a_history, a_historyLengths, a_draft, a_ring, a_ringLengths, a_undoTexts, a_undoLengths, a_undoCursors, a_query, ec_cp a_buffer 0 (upd (upd a_display 0 62) 1 32) 2 n, a_screen)) : wpX_composeEdit post (f_width, f_historyCap, f_ringCap, nI n, nI k, f_historyCount, f_nav, f_draftLength, f_ringCount, f_yankIndex, f_undoDepth, f_mode, f_last, f_accepted, f_queryLength, f_match, f_matchStart, 0, f_displayCursor, f_terminalRow, f_terminalCol, a_buffer, a_history, a_historyLengths, a_draft, a_ring, a_ringLengths, a_undoTexts, a_undoLengths, a_undoCursors, a_query, a_display, a_screen) := by
  unfold wpX_composeEdit
  exact xsc 0 (by omega) (xsc 1 (by omega) (nm_r (nI_add 2 k) (xst_b 0 n 2 (by omega) (by omega) h)))
theorem xcs_b {post : St2 → Prop} {n k q : Nat} (hn : n ≤ 32) (hq : q ≤ 16) (h : post (f_width, f_historyCap, f_ringCap, nI n, nI k, f_historyCount, f_nav, f_draftLength, f_ringCount, f_yankIndex, f_undoDepth, f_mode, f_last, f_accepted, nI q, (-1), f_matchStart, nI (1 + q + 1 + 1 + n), nI (1 + q + 1 + 1 + k), f_terminalRow, f_terminalCol, a_buffer, a_history, a_historyLengths, a_draft, a_ring, a_ringLengths, a_undoTexts, a_undoLengths, a_undoCursors, a_query, ec_cp a_buffer 0 (upd (upd (ec_cp a_query 0 (upd a_display 0 63) 1 q) (1 + q) 58) (1 + q + 1) 32) (1 + q + 1 + 1) n, a_screen)) : wpX_composeSearch post (f_width, f_historyCap, f_ringCap, nI n, nI k, f_historyCount, f_nav, f_draftLength, f_ringCount, f_yankIndex, f_undoDepth, f_mode, f_last, f_accepted, nI q, (-1), f_matchStart, 0, f_displayCursor, f_terminalRow, f_terminalCol, a_buffer, a_history, a_historyLengths, a_draft, a_ring, a_ringLengths, a_undoTexts, a_undoLengths, a_undoCursors, a_query, a_display, a_screen) := by
  unfold wpX_composeSearch
  exact xsc 0 (by omega) (xst_q 0 q 1 (by omega) (by omega) (xsc (1 + q) (by omega) (xsc (1 + q + 1) (by omega) (br_t (by decide) (nm_r (nI_add (1 + q + 1 + 1) k) (xst_b 0 n (1 + q + 1 + 1) (by omega) (by omega) h))))))
theorem xcs_h {post : St2 → Prop} {i l p q : Nat} (hi : i < 8) (hl : l ≤ 32) (hq : q ≤ 16) (e : a_historyLengths i = nI l) (h : post (f_width, f_historyCap, f_ringCap, f_length, f_cursor, f_historyCount, f_nav, f_draftLength, f_ringCount, f_yankIndex, f_undoDepth, f_mode, f_last, f_accepted, nI q, nI i, nI p, nI (1 + q + 1 + 1 + l), nI (1 + q + 1 + 1 + p), f_terminalRow, f_terminalCol, a_buffer, a_history, a_historyLengths, a_draft, a_ring, a_ringLengths, a_undoTexts, a_undoLengths, a_undoCursors, a_query, ec_cp a_history (i * 32) (upd (upd (ec_cp a_query 0 (upd a_display 0 63) 1 q) (1 + q) 58) (1 + q + 1) 32) (1 + q + 1 + 1) l, a_screen)) : wpX_composeSearch post (f_width, f_historyCap, f_ringCap, f_length, f_cursor, f_historyCount, f_nav, f_draftLength, f_ringCount, f_yankIndex, f_undoDepth, f_mode, f_last, f_accepted, nI q, nI i, nI p, 0, f_displayCursor, f_terminalRow, f_terminalCol, a_buffer, a_history, a_historyLengths, a_draft, a_ring, a_ringLengths, a_undoTexts, a_undoLengths, a_undoCursors, a_query, a_display, a_screen) := by
  unfold wpX_composeSearch
  exact xsc 0 (by omega) (xst_q 0 q 1 (by omega) (by omega) (xsc (1 + q) (by omega) (xsc (1 + q + 1) (by omega) (br_f (nI_pos (by omega)) (nm_r (nI_add (1 + q + 1 + 1) p) ⟨en_in i hi, xst_h (i * 32) l (1 + q + 1 + 1) (by omega) (by omega) h (en_32 i) ((en_g i).trans e)⟩)))))
theorem xds_10 {post : St2 → Prop} {w dl dc : Nat} (hw : 4 ≤ w) (hw2 : w ≤ 16) (hdl : dl ≤ 51) (hdc : dc ≤ 51) (h : post (nI w, f_historyCap, f_ringCap, f_length, f_cursor, f_historyCount, f_nav, f_draftLength, f_ringCount, f_yankIndex, f_undoDepth, f_mode, f_last, f_accepted, f_queryLength, f_match, f_matchStart, nI dl, nI dc, nI (dc / w), nI (dc % w), a_buffer, a_history, a_historyLengths, a_draft, a_ring, a_ringLengths, a_undoTexts, a_undoLengths, a_undoCursors, a_query, a_display, ed_S a_display a_screen dl (16 * w))) : ∀ d i, i + d = 16 * w → wX_drawScreen_10 post (nI (16 * w)) (nI w) f_historyCap f_ringCap f_length f_cursor f_historyCount f_nav f_draftLength f_ringCount f_yankIndex f_undoDepth f_mode f_last f_accepted f_queryLength f_match f_matchStart (nI dl) (nI dc) f_terminalRow f_terminalCol (d + 1) (nI i) a_buffer a_history a_historyLengths a_draft a_ring a_ringLengths a_undoTexts a_undoLengths a_undoCursors a_query a_display (ed_S a_display a_screen dl i) := by
  intro d
  induction d with
  | zero =>
    intro i hi
    obtain rfl : i = 16 * w := by omega
    have w0 : ¬ nI w = 0 := nI_ne0 (by omega) (by omega)
    exact ey_le (16 * w) (16 * w) (Nat.le_refl _) ⟨w0, nm_r (pk_div (by omega) (by omega) (by omega)) ⟨w0, nm_r (pk_rem (by omega) (by omega) (by omega)) h⟩⟩
  | succ d ih =>
    intro i hi
    refine en_le (16 * w) i (by omega) ?_
    by_cases c : i < dl
    · exact en_le dl i c ⟨en_in i (by omega), en_in i (by omega), nm_r ((en_u i (en_g i)).trans (ed_1 (if_pos c))) (nm_r (nI_1 i) (ih (i + 1) (by omega)))⟩
    · exact ey_le dl i (by omega) ⟨en_in i (by omega), nm_r ((en_u i).trans (ed_1 (if_neg c))) (nm_r (nI_1 i) (ih (i + 1) (by omega)))⟩
theorem xdr {post : St2 → Prop} {w dl dc : Nat} (hw : 4 ≤ w) (hw2 : w ≤ 16) (hdl : dl ≤ 51) (hdc : dc ≤ 51) (h : post (nI w, f_historyCap, f_ringCap, f_length, f_cursor, f_historyCount, f_nav, f_draftLength, f_ringCount, f_yankIndex, f_undoDepth, f_mode, f_last, f_accepted, f_queryLength, f_match, f_matchStart, nI dl, nI dc, nI (dc / w), nI (dc % w), a_buffer, a_history, a_historyLengths, a_draft, a_ring, a_ringLengths, a_undoTexts, a_undoLengths, a_undoCursors, a_query, a_display, ed_S a_display a_screen dl (16 * w))) : wpX_drawScreen post (nI w, f_historyCap, f_ringCap, f_length, f_cursor, f_historyCount, f_nav, f_draftLength, f_ringCount, f_yankIndex, f_undoDepth, f_mode, f_last, f_accepted, f_queryLength, f_match, f_matchStart, nI dl, nI dc, f_terminalRow, f_terminalCol, a_buffer, a_history, a_historyLengths, a_draft, a_ring, a_ringLengths, a_undoTexts, a_undoLengths, a_undoCursors, a_query, a_display, a_screen) := by
  have := xds_10 (f_terminalRow := f_terminalRow) (f_terminalCol := f_terminalCol) hw hw2 hdl hdc h (16 * w) 0 (by omega)
  rw [ed_0] at this
  exact nm_r (en_16 w) ⟨16 * w + 1, this⟩
/-- the picture, made anew -/
theorem xrf {w n k mo ql p : Nat} {m : Int32} (hw : 4 ≤ w) (hw2 : w ≤ 16) (hn : n ≤ 32) (hk : k ≤ n) (hq : ql ≤ 16)
    (hm : mo = 0 ∨ (mo = 1 ∧ (m = -1 ∨ ∃ i l, m = nI i ∧ i < 8 ∧ l ≤ 32 ∧ a_historyLengths i = nI l ∧ p ≤ l))) :
    ∃ (dl dc : Nat) (DS SC : Nat → Int32), eP w n k mo ql p m a_buffer a_history a_historyLengths a_query dl dc DS SC ∧
      ∀ post : St2 → Prop, post (nI w, f_historyCap, f_ringCap, nI n, nI k, f_historyCount, f_nav, f_draftLength, f_ringCount, f_yankIndex, f_undoDepth, nI mo, f_last, f_accepted, nI ql, m, nI p, nI dl, nI dc, nI (dc / w), nI (dc % w), a_buffer, a_history, a_historyLengths, a_draft, a_ring, a_ringLengths, a_undoTexts, a_undoLengths, a_undoCursors, a_query, DS, SC) → wpX_refresh post (nI w, f_historyCap, f_ringCap, nI n, nI k, f_historyCount, f_nav, f_draftLength, f_ringCount, f_yankIndex, f_undoDepth, nI mo, f_last, f_accepted, nI ql, m, nI p, f_displayLength, f_displayCursor, f_terminalRow, f_terminalCol, a_buffer, a_history, a_historyLengths, a_draft, a_ring, a_ringLengths, a_undoTexts, a_undoLengths, a_undoCursors, a_query, a_display, a_screen) := by
  rcases hm with rfl | ⟨rfl, rfl | ⟨i, l, rfl, hi, hl, e, hp⟩⟩
  · refine ⟨2 + n, 2 + k, ec_cp a_buffer 0 (upd (upd a_display 0 62) 1 32) 2 n, ed_S (ec_cp a_buffer 0 (upd (upd a_display 0 62) 1 32) 2 n) a_screen (2 + n) (16 * w), ⟨by omega, by omega, fun j hj => if_pos hj, Or.inl ⟨rfl, rfl, rfl, ed_e.1, ed_e.2.1, ed_e.2.2⟩⟩, fun post hp => ?_⟩
    exact en_eq 0 1 (by omega) (xce hn (xdr hw hw2 (by omega) (by omega) hp))
  · have F := ed_f (T := a_buffer) (Q := a_query) (D := a_display) (a := 0) (q := ql) (l := n) rfl
    refine ⟨1 + ql + 1 + 1 + n, 1 + ql + 1 + 1 + k, ec_cp a_buffer 0 (upd (upd (ec_cp a_query 0 (upd a_display 0 63) 1 ql) (1 + ql) 58) (1 + ql + 1) 32) (1 + ql + 1 + 1) n, ed_S (ec_cp a_buffer 0 (upd (upd (ec_cp a_query 0 (upd a_display 0 63) 1 ql) (1 + ql) 58) (1 + ql + 1) 32) (1 + ql + 1 + 1) n) a_screen (1 + ql + 1 + 1 + n) (16 * w), ⟨by omega, by omega, fun j hj => if_pos hj, Or.inr ⟨rfl, F.1, F.2.1, F.2.2.1, F.2.2.2.1, Or.inl ⟨rfl, by omega, by omega, fun j hj => (F.2.2.2.2 j hj).trans (congrArg a_buffer (Nat.zero_add j))⟩⟩⟩, fun post hp => ?_⟩
    exact ey_eq 1 1 rfl (xcs_b hn hq (xdr hw hw2 (by omega) (by omega) hp))
  · have F := ed_f (T := a_history) (Q := a_query) (D := a_display) (a := i * 32) (q := ql) (l := l) rfl
    refine ⟨1 + ql + 1 + 1 + l, 1 + ql + 1 + 1 + p, ec_cp a_history (i * 32) (upd (upd (ec_cp a_query 0 (upd a_display 0 63) 1 ql) (1 + ql) 58) (1 + ql + 1) 32) (1 + ql + 1 + 1) l, ed_S (ec_cp a_history (i * 32) (upd (upd (ec_cp a_query 0 (upd a_display 0 63) 1 ql) (1 + ql) 58) (1 + ql + 1) 32) (1 + ql + 1 + 1) l) a_screen (1 + ql + 1 + 1 + l) (16 * w), ⟨by omega, by omega, fun j hj => if_pos hj, Or.inr ⟨rfl, F.1, F.2.1, F.2.2.1, F.2.2.2.1, Or.inr ⟨i, l, rfl, hi, hl, e, by omega, by omega, F.2.2.2.2⟩⟩⟩, fun post hp => ?_⟩
    exact ey_eq 1 1 rfl (xcs_h hi hl hq e (xdr hw hw2 (by omega) (by omega) hp))
end
