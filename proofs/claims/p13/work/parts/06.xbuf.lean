/-! I: the component's small methods and its buffer -/
theorem en_q (x : Int32) : x + (-1) = x - 1 := (Int32.sub_eq_add_neg x 1).symm
theorem en_pl {a b : Nat} (h : a ≤ b) (hb : b < 2 ^ 31) : nI a - 1 < nI b := by
  cases a with
  | zero =>
    rw [Int32.lt_iff_toInt_lt, nI_toInt hb, show (nI 0 - 1).toInt = -1 from by decide]
    omega
  | succ a =>
    rw [nI_pred]
    exact nI_lt (by omega) hb
theorem en_16 (a : Nat) : 16 * nI a = nI (16 * a) := pk_mul 16 a
theorem xw_t {post : Int32 → Prop} {x y : Int32} (i c : Nat) (h : i < c) (p : post 1) (hx : x = nI i := by first | with_reducible rfl | (simp (disch := omega) only [nI_add, nI_1, en_m1, en_s1, pk_sub, pk_mul, en_32, en_a2, en_a3, en_p32, en_s32, en_p2, en_s2, en_s3] <;> exact congrArg nI (by omega)) | exact congrArg nI (by omega) | rfl) (hy : y = nI c := by first | with_reducible rfl | (simp (disch := omega) only [nI_add, nI_1, en_m1, en_s1, pk_sub, pk_mul, en_32, en_a2, en_a3, en_p32, en_s32, en_p2, en_s2, en_s3] <;> exact congrArg nI (by omega)) | exact congrArg nI (by omega) | rfl) (hc : c < 2 ^ 31 := by omega) : wpX_isWithin post () x y := by
  subst hx hy
  exact br_f (nI_pos (by omega)) (br_f (nI_ge h hc) p)
theorem xw_f {post : Int32 → Prop} {x y : Int32} (h : x < 0 ∨ y ≤ x) (p : post 0) : wpX_isWithin post () x y := by
  by_cases c : x < 0
  · exact br_t c p
  · exact br_f c (br_t (h.resolve_left c) p)
theorem xp_t {post : Int32 → Prop} {c : Int32} (h1 : ¬ c < 32) (h2 : ¬ 126 < c) (p : post 1) : wpX_isPrintable post () c := br_f h1 (br_f h2 p)
theorem xp_f {post : Int32 → Prop} {c : Int32} (h : c < 32 ∨ 126 < c) (p : post 0) : wpX_isPrintable post () c := by
  by_cases d : c < 32
  · exact br_t d p
  · exact br_f d (br_t (h.resolve_left d) p)
/-- what a push leaves: texts, lengths or cursors, depth -/
def ep_U (B U : Nat → Int32) (n ud : Nat) : Nat → Int32 := if ud = 8 then ec_cp B 0 (ec_cp U 32 U 0 (7 * 32)) (7 * 32) n else ec_cp B 0 U (ud * 32) n
def ep_L (L : Nat → Int32) (v : Int32) (ud : Nat) : Nat → Int32 := if ud = 8 then upd (ec_cp L 1 L 0 7) 7 v else upd L ud v
def ep_n (ud : Nat) : Nat := if ud = 8 then 8 else ud + 1
theorem ep_le {ud : Nat} (h : ud ≤ 8) : ep_n ud ≤ 8 := by
  unfold ep_n
  split <;> omega
theorem ep_eu {F L K G M P f g : Nat → Int32} {c n k : Nat} (h : eu F L K G M P c) (hc : c ≤ 8) (hn : n ≤ 32) (hk : k ≤ n) (hb : eg f g 0 0 n) :
    eu (ep_U f F n c) (ep_L L (nI n) c) (ep_L K (nI k) c) (ep_U g G 32 c) (ep_L M (nI n) c) (ep_L P (nI k) c) (ep_n c) := by
  unfold ep_U ep_L ep_n
  by_cases e : c = 8
  · subst e
    simp only [if_pos]
    exact eu_add (c := 7) (eu_drop h) hn hk hb
  · simp only [if_neg e]
    exact eu_add h hn hk hb
/-- what an appended line leaves of the history -/
def ea_H (B H : Nat → Int32) (n hc hh : Nat) : Nat → Int32 := if hc = hh then ec_cp B 0 (ec_cp H 32 H 0 ((hc - 1) * 32)) ((hc - 1) * 32) n else ec_cp B 0 H (hc * 32) n
def ea_L (L : Nat → Int32) (v : Int32) (hc hh : Nat) : Nat → Int32 := if hc = hh then upd (ec_cp L 1 L 0 (hc - 1)) (hc - 1) v else upd L hc v
def ea_n (hc hh : Nat) : Nat := if hc = hh then hc else hc + 1
theorem ea_le {hc hh : Nat} (h : hc ≤ hh) : ea_n hc hh ≤ hh := by
  unfold ea_n
  split <;> omega
theorem ea_eh {F L G M f g : Nat → Int32} {c n hh : Nat} (h : eh F L G M c) (hc : 1 ≤ hh) (hn : n ≤ 32) (hb : eg f g 0 0 n) :
    eh (ea_H f F n c hh) (ea_L L (nI n) c hh) (ea_H g G 32 c hh) (ea_L M (nI n) c hh) (ea_n c hh) := by
  unfold ea_H ea_L ea_n
  by_cases e : c = hh
  · simp only [if_pos e]
    obtain ⟨d, rfl⟩ : ∃ d, c = d + 1 := ⟨c - 1, by omega⟩
    rw [Nat.add_sub_cancel]
    exact eh_add (eh_drop h) hn hb
  · simp only [if_neg e]
    exact eh_add h hn hb
section
variable {f_width f_historyCap f_ringCap f_length f_cursor f_historyCount f_nav f_draftLength f_ringCount f_yankIndex f_undoDepth f_mode f_last f_accepted f_queryLength f_match f_matchStart f_displayLength f_displayCursor f_terminalRow f_terminalCol : Int32} {a_buffer a_history a_historyLengths a_draft a_ring a_ringLengths a_undoTexts a_undoLengths a_undoCursors a_query a_display a_screen : Nat → Int32}
theorem xog_l {post : St2 → Prop} {a c n : Nat} (hn : n + c ≤ 32) (h : post (f_width, f_historyCap, f_ringCap, nI (n + c), f_cursor, f_historyCount, f_nav, f_draftLength, f_ringCount, f_yankIndex, f_undoDepth, f_mode, f_last, f_accepted, f_queryLength, f_match, f_matchStart, f_displayLength, f_displayCursor, f_terminalRow, f_terminalCol, ec_cp a_buffer a a_buffer (a + c) (n - a), a_history, a_historyLengths, a_draft, a_ring, a_ringLengths, a_undoTexts, a_undoLengths, a_undoCursors, a_query, a_display, a_screen)) : ∀ d e, a + d + e = n → wX_openGap_7 post (nI a) (nI c) f_width f_historyCap f_ringCap (nI n) f_cursor f_historyCount f_nav f_draftLength f_ringCount f_yankIndex f_undoDepth f_mode f_last f_accepted f_queryLength f_match f_matchStart f_displayLength f_displayCursor f_terminalRow f_terminalCol (d + 1) (nI (a + d) - 1) (ec_cp a_buffer (a + d) a_buffer (a + c + d) e) a_history a_historyLengths a_draft a_ring a_ringLengths a_undoTexts a_undoLengths a_undoCursors a_query a_display a_screen := by
  intro d
  induction d with
  | zero =>
    intro e he
    obtain rfl : e = n - a := by omega
    exact br_t (en_pl (by omega) (by omega)) (nm_r (nI_add n c) h)
  | succ d ih =>
    intro e he
    rw [show nI (a + (d + 1)) - 1 = nI (a + d) from nI_pred (a + d)]
    exact en_lt (a + d) a (by omega) ⟨en_in (a + d) (by omega), en_in (a + c + d) (by omega), nm_r ((en_u (a + c + d) (en_g (a + d))).trans (ec_dn (a := a + d) (b := a + c + d) (by omega) e)) (nm_r (en_q _) (ih (e + 1) (by omega)))⟩
theorem xog {post : St2 → Prop} {x1 x2 : Int32} (a c n : Nat) (hn : n + c ≤ 32) (ha : a ≤ n) (h : post (f_width, f_historyCap, f_ringCap, nI (n + c), f_cursor, f_historyCount, f_nav, f_draftLength, f_ringCount, f_yankIndex, f_undoDepth, f_mode, f_last, f_accepted, f_queryLength, f_match, f_matchStart, f_displayLength, f_displayCursor, f_terminalRow, f_terminalCol, ec_cp a_buffer a a_buffer (a + c) (n - a), a_history, a_historyLengths, a_draft, a_ring, a_ringLengths, a_undoTexts, a_undoLengths, a_undoCursors, a_query, a_display, a_screen)) (h1 : x1 = nI a := by first | with_reducible rfl | (simp (disch := omega) only [nI_add, nI_1, en_m1, en_s1, pk_sub, pk_mul, en_32, en_a2, en_a3, en_p32, en_s32, en_p2, en_s2, en_s3] <;> exact congrArg nI (by omega)) | exact congrArg nI (by omega) | rfl) (h2 : x2 = nI c := by first | with_reducible rfl | (simp (disch := omega) only [nI_add, nI_1, en_m1, en_s1, pk_sub, pk_mul, en_32, en_a2, en_a3, en_p32, en_s32, en_p2, en_s2, en_s3] <;> exact congrArg nI (by omega)) | exact congrArg nI (by omega) | rfl) : wpX_openGap post (f_width, f_historyCap, f_ringCap, nI n, f_cursor, f_historyCount, f_nav, f_draftLength, f_ringCount, f_yankIndex, f_undoDepth, f_mode, f_last, f_accepted, f_queryLength, f_match, f_matchStart, f_displayLength, f_displayCursor, f_terminalRow, f_terminalCol, a_buffer, a_history, a_historyLengths, a_draft, a_ring, a_ringLengths, a_undoTexts, a_undoLengths, a_undoCursors, a_query, a_display, a_screen) x1 x2 := by
  subst h1 h2
  have := xog_l hn h (n - a) 0 (by omega)
  rw [ec_0, show a + (n - a) = n by omega] at this
  exact nm_e ⟨n - a + 1, this⟩
theorem xcg_l {post : St2 → Prop} {a c n : Nat} (hn : n ≤ 32) (hc : a + c ≤ n) (h : post (f_width, f_historyCap, f_ringCap, nI (n - c), f_cursor, f_historyCount, f_nav, f_draftLength, f_ringCount, f_yankIndex, f_undoDepth, f_mode, f_last, f_accepted, f_queryLength, f_match, f_matchStart, f_displayLength, f_displayCursor, f_terminalRow, f_terminalCol, ec_cp a_buffer (a + c) a_buffer a (n - a - c), a_history, a_historyLengths, a_draft, a_ring, a_ringLengths, a_undoTexts, a_undoLengths, a_undoCursors, a_query, a_display, a_screen)) : ∀ d i, a + c + i + d = n → wX_closeGap_4 post (nI c) f_width f_historyCap f_ringCap (nI n) f_cursor f_historyCount f_nav f_draftLength f_ringCount f_yankIndex f_undoDepth f_mode f_last f_accepted f_queryLength f_match f_matchStart f_displayLength f_displayCursor f_terminalRow f_terminalCol (d + 1) (nI (a + c + i)) (ec_cp a_buffer (a + c) a_buffer a i) a_history a_historyLengths a_draft a_ring a_ringLengths a_undoTexts a_undoLengths a_undoCursors a_query a_display a_screen := by
  intro d
  induction d with
  | zero =>
    intro i hi
    obtain rfl : i = n - a - c := by omega
    exact ey_le n (a + c + (n - a - c)) (by omega) (nm_r (pk_sub (by omega)) h)
  | succ d ih =>
    intro i hi
    exact en_le n (a + c + i) (by omega) ⟨en_in (a + c + i) (by omega), en_in (a + i) (by omega), nm_r ((en_u (a + i) (en_g (a + c + i))).trans (ec_up (by omega) i)) (nm_r (nI_1 _) (ih (i + 1) (by omega)))⟩
theorem xcg {post : St2 → Prop} {x1 x2 : Int32} (a c n : Nat) (hn : n ≤ 32) (hc : a + c ≤ n) (h : post (f_width, f_historyCap, f_ringCap, nI (n - c), f_cursor, f_historyCount, f_nav, f_draftLength, f_ringCount, f_yankIndex, f_undoDepth, f_mode, f_last, f_accepted, f_queryLength, f_match, f_matchStart, f_displayLength, f_displayCursor, f_terminalRow, f_terminalCol, ec_cp a_buffer (a + c) a_buffer a (n - a - c), a_history, a_historyLengths, a_draft, a_ring, a_ringLengths, a_undoTexts, a_undoLengths, a_undoCursors, a_query, a_display, a_screen)) (h1 : x1 = nI a := by first | with_reducible rfl | (simp (disch := omega) only [nI_add, nI_1, en_m1, en_s1, pk_sub, pk_mul, en_32, en_a2, en_a3, en_p32, en_s32, en_p2, en_s2, en_s3] <;> exact congrArg nI (by omega)) | exact congrArg nI (by omega) | rfl) (h2 : x2 = nI c := by first | with_reducible rfl | (simp (disch := omega) only [nI_add, nI_1, en_m1, en_s1, pk_sub, pk_mul, en_32, en_a2, en_a3, en_p32, en_s32, en_p2, en_s2, en_s3] <;> exact congrArg nI (by omega)) | exact congrArg nI (by omega) | rfl) : wpX_closeGap post (f_width, f_historyCap, f_ringCap, nI n, f_cursor, f_historyCount, f_nav, f_draftLength, f_ringCount, f_yankIndex, f_undoDepth, f_mode, f_last, f_accepted, f_queryLength, f_match, f_matchStart, f_displayLength, f_displayCursor, f_terminalRow, f_terminalCol, a_buffer, a_history, a_historyLengths, a_draft, a_ring, a_ringLengths, a_undoTexts, a_undoLengths, a_undoCursors, a_query, a_display, a_screen) x1 x2 := by
  subst h1 h2
  have := xcg_l hn hc h (n - a - c) 0 (by omega)
  rw [ec_0] at this
  exact nm_r (nI_add a c) ⟨n - a - c + 1, this⟩
theorem xpu_53 {post : St2 → Prop} (n k ud : Nat) (hn : n ≤ 32) (h8 : ud < 8) (h : post (f_width, f_historyCap, f_ringCap, nI n, nI k, f_historyCount, f_nav, f_draftLength, f_ringCount, f_yankIndex, nI (ud + 1), f_mode, f_last, f_accepted, f_queryLength, f_match, f_matchStart, f_displayLength, f_displayCursor, f_terminalRow, f_terminalCol, a_buffer, a_history, a_historyLengths, a_draft, a_ring, a_ringLengths, ec_cp a_buffer 0 a_undoTexts (ud * 32) n, upd a_undoLengths ud (nI n), upd a_undoCursors ud (nI k), a_query, a_display, a_screen)) : wX_pushUndo_53 post f_width f_historyCap f_ringCap (nI n) (nI k) f_historyCount f_nav f_draftLength f_ringCount f_yankIndex (nI ud) f_mode f_last f_accepted f_queryLength f_match f_matchStart f_displayLength f_displayCursor f_terminalRow f_terminalCol a_buffer a_history a_historyLengths a_draft a_ring a_ringLengths a_undoTexts a_undoLengths a_undoCursors a_query a_display a_screen :=
  xc_4 0 (ud * 32) n (by omega) (by omega) ⟨en_in ud h8, nm_r (en_u ud) ⟨en_in ud h8, nm_r (en_u ud) (nm_r (nI_1 ud) h)⟩⟩
theorem xpu {post : St2 → Prop} {n k ud : Nat} (hn : n ≤ 32) (h8 : ud ≤ 8) (h : post (f_width, f_historyCap, f_ringCap, nI n, nI k, f_historyCount, f_nav, f_draftLength, f_ringCount, f_yankIndex, nI (ep_n ud), f_mode, f_last, f_accepted, f_queryLength, f_match, f_matchStart, f_displayLength, f_displayCursor, f_terminalRow, f_terminalCol, a_buffer, a_history, a_historyLengths, a_draft, a_ring, a_ringLengths, ep_U a_buffer a_undoTexts n ud, ep_L a_undoLengths (nI n) ud, ep_L a_undoCursors (nI k) ud, a_query, a_display, a_screen)) : wpX_pushUndo post (f_width, f_historyCap, f_ringCap, nI n, nI k, f_historyCount, f_nav, f_draftLength, f_ringCount, f_yankIndex, nI ud, f_mode, f_last, f_accepted, f_queryLength, f_match, f_matchStart, f_displayLength, f_displayCursor, f_terminalRow, f_terminalCol, a_buffer, a_history, a_historyLengths, a_draft, a_ring, a_ringLengths, a_undoTexts, a_undoLengths, a_undoCursors, a_query, a_display, a_screen) := by
  unfold ep_n ep_U ep_L at h
  by_cases e : ud = 8
  · subst e
    simp only [if_pos] at h
    exact ey_eq 8 8 rfl (xc_5 32 0 (7 * 32) (by omega) (by omega) (by omega) (xc_6 1 0 7 (by omega) (by omega) (by omega) (xc_6 1 0 7 (by omega) (by omega) (by omega) (nm_r (e' := nI 7) rfl (xpu_53 n k 7 hn (by omega) h)))))
  · simp only [if_neg e] at h
    exact en_eq ud 8 e (xpu_53 n k ud hn (by omega) h)
theorem xah_36 {post : St2 → Prop} (n hc : Nat) (hn : n ≤ 32) (h8 : hc < 8) (h : post (f_width, f_historyCap, f_ringCap, nI n, f_cursor, nI (hc + 1), f_nav, f_draftLength, f_ringCount, f_yankIndex, f_undoDepth, f_mode, f_last, f_accepted, f_queryLength, f_match, f_matchStart, f_displayLength, f_displayCursor, f_terminalRow, f_terminalCol, a_buffer, ec_cp a_buffer 0 a_history (hc * 32) n, upd a_historyLengths hc (nI n), a_draft, a_ring, a_ringLengths, a_undoTexts, a_undoLengths, a_undoCursors, a_query, a_display, a_screen)) : wX_addHistory_36 post f_width f_historyCap f_ringCap (nI n) f_cursor (nI hc) f_nav f_draftLength f_ringCount f_yankIndex f_undoDepth f_mode f_last f_accepted f_queryLength f_match f_matchStart f_displayLength f_displayCursor f_terminalRow f_terminalCol a_buffer a_history a_historyLengths a_draft a_ring a_ringLengths a_undoTexts a_undoLengths a_undoCursors a_query a_display a_screen :=
  xc_4 0 (hc * 32) n (by omega) (by omega) ⟨en_in hc h8, nm_r (en_u hc) (nm_r (nI_1 hc) h)⟩
theorem xah {post : St2 → Prop} {n hc hh : Nat} (hn : n ≤ 32) (h1 : 1 ≤ hh) (h8 : hh ≤ 8) (hc8 : hc ≤ hh) (h : post (f_width, nI hh, f_ringCap, nI n, f_cursor, nI (ea_n hc hh), f_nav, f_draftLength, f_ringCount, f_yankIndex, f_undoDepth, f_mode, f_last, f_accepted, f_queryLength, f_match, f_matchStart, f_displayLength, f_displayCursor, f_terminalRow, f_terminalCol, a_buffer, ea_H a_buffer a_history n hc hh, ea_L a_historyLengths (nI n) hc hh, a_draft, a_ring, a_ringLengths, a_undoTexts, a_undoLengths, a_undoCursors, a_query, a_display, a_screen)) : wpX_addHistory post (f_width, nI hh, f_ringCap, nI n, f_cursor, nI hc, f_nav, f_draftLength, f_ringCount, f_yankIndex, f_undoDepth, f_mode, f_last, f_accepted, f_queryLength, f_match, f_matchStart, f_displayLength, f_displayCursor, f_terminalRow, f_terminalCol, a_buffer, a_history, a_historyLengths, a_draft, a_ring, a_ringLengths, a_undoTexts, a_undoLengths, a_undoCursors, a_query, a_display, a_screen) := by
  unfold ea_n ea_H ea_L at h
  by_cases e : hc = hh
  · subst e
    obtain ⟨c, rfl⟩ : ∃ c, hc = c + 1 := ⟨hc - 1, by omega⟩
    simp only [if_pos, Nat.add_sub_cancel] at h
    exact ey_eq (c + 1) (c + 1) rfl (xc_5 32 0 (c * 32) (by omega) (by omega) (by omega) (xc_6 1 0 c (by omega) (by omega) (by omega) (nm_r (nI_pred c) (xah_36 n c hn (by omega) h))))
  · simp only [if_neg e] at h
    exact en_eq hc hh e (xah_36 n hc hn (by omega) h)
/-- the typed char -/
theorem xty_23 {post : Int32 → St2 → Prop} {c : Int32} (n k : Nat) (hn : n < 32) (hk : k ≤ n) (h : post 1 (f_width, f_historyCap, f_ringCap, nI (n + 1), nI (k + 1), f_historyCount, f_nav, f_draftLength, f_ringCount, f_yankIndex, f_undoDepth, f_mode, 1, f_accepted, f_queryLength, f_match, f_matchStart, f_displayLength, f_displayCursor, f_terminalRow, f_terminalCol, upd (ec_cp a_buffer k a_buffer (k + 1) (n - k)) k c, a_history, a_historyLengths, a_draft, a_ring, a_ringLengths, a_undoTexts, a_undoLengths, a_undoCursors, a_query, a_display, a_screen)) : wX_typeChar_23 post c f_width f_historyCap f_ringCap (nI n) (nI k) f_historyCount f_nav f_draftLength f_ringCount f_yankIndex f_undoDepth f_mode f_last f_accepted f_queryLength f_match f_matchStart f_displayLength f_displayCursor f_terminalRow f_terminalCol a_buffer a_history a_historyLengths a_draft a_ring a_ringLengths a_undoTexts a_undoLengths a_undoCursors a_query a_display a_screen :=
  xog k 1 n (by omega) hk ⟨en_in k (by omega), nm_r (en_u k) (nm_r (nI_1 k) h)⟩
/-- a line loaded from the history -/
theorem xlh {post : St2 → Prop} {x : Int32} (i l : Nat) (hi : i < 8) (hl : l ≤ 32) (e : a_historyLengths i = nI l) (h : post (f_width, f_historyCap, f_ringCap, nI l, nI l, f_historyCount, f_nav, f_draftLength, f_ringCount, f_yankIndex, 0, f_mode, f_last, f_accepted, f_queryLength, f_match, f_matchStart, f_displayLength, f_displayCursor, f_terminalRow, f_terminalCol, ec_cp a_history (i * 32) a_buffer 0 l, a_history, a_historyLengths, a_draft, a_ring, a_ringLengths, a_undoTexts, a_undoLengths, a_undoCursors, a_query, a_display, a_screen)) (hx : x = nI i := by first | with_reducible rfl | (simp (disch := omega) only [nI_add, nI_1, en_m1, en_s1, pk_sub, pk_mul, en_32, en_a2, en_a3, en_p32, en_s32, en_p2, en_s2, en_s3] <;> exact congrArg nI (by omega)) | exact congrArg nI (by omega) | rfl) : wpX_loadHistory post (f_width, f_historyCap, f_ringCap, f_length, f_cursor, f_historyCount, f_nav, f_draftLength, f_ringCount, f_yankIndex, f_undoDepth, f_mode, f_last, f_accepted, f_queryLength, f_match, f_matchStart, f_displayLength, f_displayCursor, f_terminalRow, f_terminalCol, a_buffer, a_history, a_historyLengths, a_draft, a_ring, a_ringLengths, a_undoTexts, a_undoLengths, a_undoCursors, a_query, a_display, a_screen) x := by
  subst hx
  exact ⟨en_in i hi, nm_r ((en_g i).trans e) (xc_10 (i * 32) 0 l (by omega) (by omega) h)⟩
theorem xld {post : St2 → Prop} {d : Nat} (hd : d ≤ 32) (h : post (f_width, f_historyCap, f_ringCap, nI d, nI d, f_historyCount, f_nav, 0, f_ringCount, f_yankIndex, 0, f_mode, f_last, f_accepted, f_queryLength, f_match, f_matchStart, f_displayLength, f_displayCursor, f_terminalRow, f_terminalCol, ec_cp a_draft 0 a_buffer 0 d, a_history, a_historyLengths, a_draft, a_ring, a_ringLengths, a_undoTexts, a_undoLengths, a_undoCursors, a_query, a_display, a_screen)) : wpX_loadDraft post (f_width, f_historyCap, f_ringCap, f_length, f_cursor, f_historyCount, f_nav, nI d, f_ringCount, f_yankIndex, f_undoDepth, f_mode, f_last, f_accepted, f_queryLength, f_match, f_matchStart, f_displayLength, f_displayCursor, f_terminalRow, f_terminalCol, a_buffer, a_history, a_historyLengths, a_draft, a_ring, a_ringLengths, a_undoTexts, a_undoLengths, a_undoCursors, a_query, a_display, a_screen) :=
  xc_11 0 0 d (by omega) (by omega) h
end
