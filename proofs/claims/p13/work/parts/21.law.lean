/-! X: key, the picture's check, the law -/
theorem en_ix {r c w : Nat} (hr : r < 16) (hc : c < w) : r * w + c < 16 * w := by
  have h := Nat.mul_le_mul_right w (show r + 1 ≤ 16 by omega)
  rw [Nat.succ_mul] at h
  omega
section
variable {w hh rr n k hc nav dn kc y ud mo la ql p dl dc : Nat} {m ac xdl xdc xtr xtc : Int32} {B H HL D R RL U UL UK Q DS SC B' H' HL' D' R' RL' U' UL' UK' Q' : Nat → Int32}
theorem e_ref {u : St2} (h : eK u) : ∃ u' : St2, eI u' ∧ ∀ post : St2 → Prop, post u' → wpX_refresh post u := by
  obtain ⟨w, hh, rr, n, k, hc, nav, dn, kc, y, ud, mo, la, ql, p, m, ac, xdl, xdc, xtr, xtc, B, H, HL, D, R, RL, U, UL, UK, Q, DS0, SC0, B', H', HL', D', R', RL', U', UL', UK', Q', rfl, C⟩ := h
  obtain ⟨⟨⟨hw1, hw2⟩, ⟨hh1, hh2⟩, ⟨hr1, hr2⟩, ⟨hn, hk⟩, ⟨hhc, hnav⟩, hdn, hkc, hud, hql⟩, hB, hH, hD, hR, hU, hQ, hL, hS⟩ := id C
  have hm : mo = 0 ∨ (mo = 1 ∧ (m = -1 ∨ ∃ i l, m = nI i ∧ i < 8 ∧ l ≤ 32 ∧ HL i = nI l ∧ p ≤ l)) := by
    rcases hS with ⟨h0, _, _⟩ | ⟨h0, _, ⟨h1, _⟩ | ⟨i, l, h1, hi, a, hl, hpl, _⟩⟩
    · exact Or.inl h0
    · exact Or.inr ⟨h0, Or.inl h1⟩
    · obtain ⟨l2, hl2, a1, a2, _⟩ := hH i hi
      obtain rfl : l2 = l := (nI_eq (by omega) (by omega)).mp (a2.symm.trans a)
      exact Or.inr ⟨h0, Or.inr ⟨i, l2, h1, by omega, hl2, a1, by omega⟩⟩
  obtain ⟨dl, dc, DS, SC, P, hx⟩ := xrf (f_historyCap := nI hh) (f_ringCap := nI rr) (f_historyCount := nI hc) (f_nav := nI nav) (f_draftLength := nI dn) (f_ringCount := nI kc) (f_yankIndex := nI y) (f_undoDepth := nI ud) (f_last := nI la) (f_accepted := ac) (f_displayLength := xdl) (f_displayCursor := xdc) (f_terminalRow := xtr) (f_terminalCol := xtc) (a_buffer := B) (a_history := H) (a_historyLengths := HL) (a_draft := D) (a_ring := R) (a_ringLengths := RL) (a_undoTexts := U) (a_undoLengths := UL) (a_undoCursors := UK) (a_query := Q) (a_display := DS0) (a_screen := SC0) hw1 hw2 hn hk hql hm
  exact ⟨(nI w, nI hh, nI rr, nI n, nI k, nI hc, nI nav, nI dn, nI kc, nI y, nI ud, nI mo, nI la, ac, nI ql, m, nI p, nI dl, nI dc, nI (dc / w), nI (dc % w), B, H, HL, D, R, RL, U, UL, UK, Q, DS, SC), e_I C P, hx⟩
theorem e_key {u : St2} (I : eI u) (c : Int32) : ∃ (r : Int32) (u' : St2), eI u' ∧ ∀ post : Int32 → St2 → Prop, post r u' → wpX_key post u c := by
  obtain ⟨w, hh, rr, n, k, hc, nav, dn, kc, y, ud, mo, la, ql, p, dl, dc, m, ac, B, H, HL, D, R, RL, U, UL, UK, Q, DS, SC, B', H', HL', D', R', RL', U', UL', UK', Q', rfl, C, P⟩ := I
  rcases C.2.2.2.2.2.2.2.2 with S | S
  · obtain ⟨r, u2, g, hx⟩ := e_edit (ac := ac) C P S c
    obtain ⟨f_width, f_historyCap, f_ringCap, f_length, f_cursor, f_historyCount, f_nav, f_draftLength, f_ringCount, f_yankIndex, f_undoDepth, f_mode, f_last, f_accepted, f_queryLength, f_match, f_matchStart, f_displayLength, f_displayCursor, f_terminalRow, f_terminalCol, a_buffer, a_history, a_historyLengths, a_draft, a_ring, a_ringLengths, a_undoTexts, a_undoLengths, a_undoCursors, a_query, a_display, a_screen⟩ := u2
    have hm : mo ≠ 1 := by omega
    have hm0 : mo < 2 := by omega
    rcases g with ⟨rfl, gK⟩ | ⟨rfl, gI⟩
    · obtain ⟨u3, gI, hr⟩ := e_ref gK
      obtain ⟨f_width, f_historyCap, f_ringCap, f_length, f_cursor, f_historyCount, f_nav, f_draftLength, f_ringCount, f_yankIndex, f_undoDepth, f_mode, f_last, f_accepted, f_queryLength, f_match, f_matchStart, f_displayLength, f_displayCursor, f_terminalRow, f_terminalCol, a_buffer, a_history, a_historyLengths, a_draft, a_ring, a_ringLengths, a_undoTexts, a_undoLengths, a_undoCursors, a_query, a_display, a_screen⟩ := u3
      exact ⟨1, _, gI, fun post hp => en_eq mo 1 hm (hx _ (br_t rfl (hr _ hp)))⟩
    · exact ⟨0, _, gI, fun post hp => en_eq mo 1 hm (hx _ (br_f (by decide) hp))⟩
  · obtain ⟨r, u2, g, hx⟩ := e_srch (ac := ac) C P S c
    obtain ⟨f_width, f_historyCap, f_ringCap, f_length, f_cursor, f_historyCount, f_nav, f_draftLength, f_ringCount, f_yankIndex, f_undoDepth, f_mode, f_last, f_accepted, f_queryLength, f_match, f_matchStart, f_displayLength, f_displayCursor, f_terminalRow, f_terminalCol, a_buffer, a_history, a_historyLengths, a_draft, a_ring, a_ringLengths, a_undoTexts, a_undoLengths, a_undoCursors, a_query, a_display, a_screen⟩ := u2
    have hm : mo = 1 := S.1
    rcases g with ⟨rfl, gK⟩ | ⟨rfl, gI⟩
    · obtain ⟨u3, gI, hr⟩ := e_ref gK
      obtain ⟨f_width, f_historyCap, f_ringCap, f_length, f_cursor, f_historyCount, f_nav, f_draftLength, f_ringCount, f_yankIndex, f_undoDepth, f_mode, f_last, f_accepted, f_queryLength, f_match, f_matchStart, f_displayLength, f_displayCursor, f_terminalRow, f_terminalCol, a_buffer, a_history, a_historyLengths, a_draft, a_ring, a_ringLengths, a_undoTexts, a_undoLengths, a_undoCursors, a_query, a_display, a_screen⟩ := u3
      exact ⟨1, _, gI, fun post hp => ey_eq mo 1 hm (hx _ (br_t rfl (hr _ hp)))⟩
    · exact ⟨0, _, gI, fun post hp => ey_eq mo 1 hm (hx _ (br_f (by decide) hp))⟩
end
section
variable {f_width f_historyCap f_ringCap f_length f_cursor f_historyCount f_nav f_draftLength f_ringCount f_yankIndex f_undoDepth f_mode f_last f_accepted f_queryLength f_match f_matchStart f_displayLength f_displayCursor f_terminalRow f_terminalCol : Int32} {a_buffer a_history a_historyLengths a_draft a_ring a_ringLengths a_undoTexts a_undoLengths a_undoCursors a_query a_display a_screen : Nat → Int32}
theorem xq_i12 {post : Int32 → Prop} (h : post f_displayLength) : wpX_info post (f_width, f_historyCap, f_ringCap, f_length, f_cursor, f_historyCount, f_nav, f_draftLength, f_ringCount, f_yankIndex, f_undoDepth, f_mode, f_last, f_accepted, f_queryLength, f_match, f_matchStart, f_displayLength, f_displayCursor, f_terminalRow, f_terminalCol, a_buffer, a_history, a_historyLengths, a_draft, a_ring, a_ringLengths, a_undoTexts, a_undoLengths, a_undoCursors, a_query, a_display, a_screen) 12 := br_f (by decide) (br_f (by decide) (br_f (by decide) (br_f (by decide) (br_f (by decide) (br_f (by decide) (br_f (by decide) (br_f (by decide) (br_f (by decide) (br_f (by decide) (br_f (by decide) (br_f (by decide) (br_f (by decide) (br_f (by decide) (br_t rfl h))))))))))))))
theorem xq_i13 {post : Int32 → Prop} (h : post f_displayCursor) : wpX_info post (f_width, f_historyCap, f_ringCap, f_length, f_cursor, f_historyCount, f_nav, f_draftLength, f_ringCount, f_yankIndex, f_undoDepth, f_mode, f_last, f_accepted, f_queryLength, f_match, f_matchStart, f_displayLength, f_displayCursor, f_terminalRow, f_terminalCol, a_buffer, a_history, a_historyLengths, a_draft, a_ring, a_ringLengths, a_undoTexts, a_undoLengths, a_undoCursors, a_query, a_display, a_screen) 13 := br_f (by decide) (br_f (by decide) (br_f (by decide) (br_f (by decide) (br_f (by decide) (br_f (by decide) (br_f (by decide) (br_f (by decide) (br_f (by decide) (br_f (by decide) (br_f (by decide) (br_f (by decide) (br_f (by decide) (br_f (by decide) (br_f (by decide) (br_t rfl h)))))))))))))))
theorem xq_i14 {post : Int32 → Prop} (h : post f_width) : wpX_info post (f_width, f_historyCap, f_ringCap, f_length, f_cursor, f_historyCount, f_nav, f_draftLength, f_ringCount, f_yankIndex, f_undoDepth, f_mode, f_last, f_accepted, f_queryLength, f_match, f_matchStart, f_displayLength, f_displayCursor, f_terminalRow, f_terminalCol, a_buffer, a_history, a_historyLengths, a_draft, a_ring, a_ringLengths, a_undoTexts, a_undoLengths, a_undoCursors, a_query, a_display, a_screen) 14 := br_f (by decide) (br_f (by decide) (br_f (by decide) (br_f (by decide) (br_f (by decide) (br_f (by decide) (br_f (by decide) (br_f (by decide) (br_f (by decide) (br_f (by decide) (br_f (by decide) (br_f (by decide) (br_f (by decide) (br_f (by decide) (br_f (by decide) (br_f (by decide) (br_t rfl h))))))))))))))))
theorem xq_dch {post : Int32 → Prop} {x dl : Nat} (hx : x < dl) (hd : dl ≤ 51) (h : post (a_display x)) : wpX_displayChar post (f_width, f_historyCap, f_ringCap, f_length, f_cursor, f_historyCount, f_nav, f_draftLength, f_ringCount, f_yankIndex, f_undoDepth, f_mode, f_last, f_accepted, f_queryLength, f_match, f_matchStart, nI dl, f_displayCursor, f_terminalRow, f_terminalCol, a_buffer, a_history, a_historyLengths, a_draft, a_ring, a_ringLengths, a_undoTexts, a_undoLengths, a_undoCursors, a_query, a_display, a_screen) (nI x) := by
  have q : post (a_display (nI x).toNatClampNeg) := by rw [nI_clamp (by omega)]; exact h
  unfold wpX_displayChar
  exact xw_t x dl hx (br_f (by decide) ⟨en_in x (by omega), q⟩)
theorem xq_sch {post : Int32 → Prop} {r s w x : Nat} (hr : r < 16) (hs : s < w) (hw : w ≤ 16) (hx : r * w + s = x) (h : post (a_screen x)) : wpX_screenChar post (nI w, f_historyCap, f_ringCap, f_length, f_cursor, f_historyCount, f_nav, f_draftLength, f_ringCount, f_yankIndex, f_undoDepth, f_mode, f_last, f_accepted, f_queryLength, f_match, f_matchStart, f_displayLength, f_displayCursor, f_terminalRow, f_terminalCol, a_buffer, a_history, a_historyLengths, a_draft, a_ring, a_ringLengths, a_undoTexts, a_undoLengths, a_undoCursors, a_query, a_display, a_screen) (nI r) (nI s) := by
  have hlt := en_ix hr hs
  have e : nI r * nI w + nI s = nI x := by rw [pk_mul, nI_add, hx]
  rw [hx] at hlt
  have q : post (a_screen (nI r * nI w + nI s).toNatClampNeg) := by rw [e, nI_clamp (by omega)]; exact h
  unfold wpX_screenChar
  exact xw_t r 16 hr (br_f (by decide) (xw_t s w hs (br_f (by decide) ⟨en_in x (by omega) e, q⟩)))
theorem lq_47 {post : Int32 → Prop} {J : Int32 → Prop} {w dl dc r : Nat} {x3 : Int32} (hw : w ≤ 16) (hd : dl ≤ 51) (hr : r < 16) (hS : ∀ i, i < 16 * w → a_screen i = if i < dl then a_display i else 32) (hJ : J (nI (r + 1))) : ∀ d s, s + d = w → wL_screenOk_47 post J (nI w) (nI dl) x3 (nI r) (nI w) f_historyCap f_ringCap f_length f_cursor f_historyCount f_nav f_draftLength f_ringCount f_yankIndex f_undoDepth f_mode f_last f_accepted f_queryLength f_match f_matchStart (nI dl) f_displayCursor f_terminalRow f_terminalCol a_buffer a_history a_historyLengths a_draft a_ring a_ringLengths a_undoTexts a_undoLengths a_undoCursors a_query a_display a_screen (d + 1) (nI s) := by
  intro d
  induction d with
  | zero => intro s hs; exact ey_le w s (by omega) (nm_r (nI_1 r) hJ)
  | succ d ih =>
    intro s hs
    obtain ⟨x, hx⟩ : ∃ x, r * w + s = x := ⟨_, rfl⟩
    have hlt := en_ix (c := s) (w := w) hr (by omega)
    rw [hx] at hlt
    have e : nI r * nI w + nI s = nI x := by rw [pk_mul, nI_add, hx]
    have hs2 := hS x hlt
    by_cases c : x < dl
    · rw [if_pos c] at hs2
      exact en_le w s (by omega) (nm_r e (en_le dl x c (xq_dch c hd (xq_sch hr (by omega) hw hx (br_t hs2 (nm_r (nI_1 s) (ih (s + 1) (by omega))))))))
    · rw [if_neg c] at hs2
      exact en_le w s (by omega) (nm_r e (ey_le dl x (by omega) (xq_sch hr (by omega) hw hx (br_t hs2 (nm_r (nI_1 s) (ih (s + 1) (by omega)))))))
theorem lq_37 {post : Int32 → Prop} {w dl dc : Nat} (hw1 : 4 ≤ w) (hw : w ≤ 16) (hd : dl ≤ 51) (hdc : dc ≤ dl) (hS : ∀ i, i < 16 * w → a_screen i = if i < dl then a_display i else 32) (h : post 1) : ∀ d r, r + d = 16 → wL_screenOk_37 post (nI w) (nI dl) (nI dc) (nI w) f_historyCap f_ringCap f_length f_cursor f_historyCount f_nav f_draftLength f_ringCount f_yankIndex f_undoDepth f_mode f_last f_accepted f_queryLength f_match f_matchStart (nI dl) (nI dc) (nI (dc / w)) (nI (dc % w)) a_buffer a_history a_historyLengths a_draft a_ring a_ringLengths a_undoTexts a_undoLengths a_undoCursors a_query a_display a_screen (d + 1) (nI r) := by
  intro d
  induction d with
  | zero =>
    intro r hr
    obtain rfl : r = 16 := by omega
    have m1 := Nat.mod_lt dc (show 0 < w by omega)
    have m2 : dc / w < 16 := Nat.div_lt_of_lt_mul (by omega)
    have m3 := Nat.div_add_mod' dc w
    have e : nI (dc / w) * nI w + nI (dc % w) = nI dc := by rw [pk_mul, nI_add, m3]
    exact ey_le 16 16 (Nat.le_refl _) (br_f (nI_pos (by omega)) (br_t (nI_lt m1 (by omega)) (br_f (nI_pos (by omega)) (br_t (nI_lt (b := 16) m2 (by omega)) (br_t e h)))))
  | succ d ih =>
    intro r hr
    exact en_le 16 r (by omega) ⟨w + 1, lq_47 (dc := dc) hw hd (by omega) hS (ih (r + 1) (by omega)) w 0 (by omega)⟩
end
theorem lq_ok {u : St2} {post : Int32 → Prop} (I : eI u) (h : post 1) : wpL_screenOk post u := by
  obtain ⟨w, hh, rr, n, k, hc, nav, dn, kc, y, ud, mo, la, ql, p, dl, dc, m, ac, B, H, HL, D, R, RL, U, UL, UK, Q, DS, SC, B', H', HL', D', R', RL', U', UL', UK', Q', rfl, C, P⟩ := I
  have hN := C.1
  have hw1 : 4 ≤ w := hN.1.1
  have hw2 : w ≤ 16 := hN.1.2
  unfold wpL_screenOk
  exact xq_i14 (xq_i12 (xq_i13 (en_lt w 4 hw1 (ey_le w 16 hw2 ⟨17, lq_37 hw1 hw2 P.1 P.2.1 P.2.2.1 h 16 0 (by omega)⟩))))
theorem lq_small (x : Int32) : ∃ c : Int32, ∀ post : Int32 → Prop, post c → wpL_small post () x := by
  by_cases a : x < 0
  · exact ⟨46, fun post h => br_t a h⟩
  by_cases b : 4 < x
  · exact ⟨46, fun post h => br_f a (br_t b h)⟩
  by_cases n0 : x = 0
  · exact ⟨97, fun post h => br_f a (br_f b (br_t n0 h))⟩
  by_cases n1 : x = 1
  · exact ⟨98, fun post h => br_f a (br_f b (br_f n0 (br_t n1 h)))⟩
  by_cases n2 : x = 2
  · exact ⟨99, fun post h => br_f a (br_f b (br_f n0 (br_f n1 (br_t n2 h))))⟩
  by_cases n3 : x = 3
  · exact ⟨32, fun post h => br_f a (br_f b (br_f n0 (br_f n1 (br_f n2 (br_t n3 h)))))⟩
  by_cases n4 : x = 4
  · exact ⟨97, fun post h => br_f a (br_f b (br_f n0 (br_f n1 (br_f n2 (br_f n3 (br_t n4 h))))))⟩
  exact ⟨0, fun post h => br_f a (br_f b (br_f n0 (br_f n1 (br_f n2 (br_f n3 (br_f n4 (trivial)))))))⟩
theorem lq_spec (x : Int32) : ∃ c : Int32, ∀ post : Int32 → Prop, post c → wpL_special post () x := by
  by_cases a : x < 0
  · exact ⟨203, fun post h => br_t a h⟩
  by_cases b : 18 < x
  · exact ⟨203, fun post h => br_f a (br_t b h)⟩
  by_cases n0 : x = 0
  · exact ⟨1, fun post h => br_f a (br_f b (br_t n0 h))⟩
  by_cases n1 : x = 1
  · exact ⟨2, fun post h => br_f a (br_f b (br_f n0 (br_t n1 h)))⟩
  by_cases n2 : x = 2
  · exact ⟨4, fun post h => br_f a (br_f b (br_f n0 (br_f n1 (br_t n2 h))))⟩
  by_cases n3 : x = 3
  · exact ⟨5, fun post h => br_f a (br_f b (br_f n0 (br_f n1 (br_f n2 (br_t n3 h)))))⟩
  by_cases n4 : x = 4
  · exact ⟨6, fun post h => br_f a (br_f b (br_f n0 (br_f n1 (br_f n2 (br_f n3 (br_t n4 h))))))⟩
  by_cases n5 : x = 5
  · exact ⟨7, fun post h => br_f a (br_f b (br_f n0 (br_f n1 (br_f n2 (br_f n3 (br_f n4 (br_t n5 h)))))))⟩
  by_cases n6 : x = 6
  · exact ⟨8, fun post h => br_f a (br_f b (br_f n0 (br_f n1 (br_f n2 (br_f n3 (br_f n4 (br_f n5 (br_t n6 h))))))))⟩
  by_cases n7 : x = 7
  · exact ⟨11, fun post h => br_f a (br_f b (br_f n0 (br_f n1 (br_f n2 (br_f n3 (br_f n4 (br_f n5 (br_f n6 (br_t n7 h)))))))))⟩
  by_cases n8 : x = 8
  · exact ⟨13, fun post h => br_f a (br_f b (br_f n0 (br_f n1 (br_f n2 (br_f n3 (br_f n4 (br_f n5 (br_f n6 (br_f n7 (br_t n8 h))))))))))⟩
  by_cases n9 : x = 9
  · exact ⟨14, fun post h => br_f a (br_f b (br_f n0 (br_f n1 (br_f n2 (br_f n3 (br_f n4 (br_f n5 (br_f n6 (br_f n7 (br_f n8 (br_t n9 h)))))))))))⟩
  by_cases n10 : x = 10
  · exact ⟨16, fun post h => br_f a (br_f b (br_f n0 (br_f n1 (br_f n2 (br_f n3 (br_f n4 (br_f n5 (br_f n6 (br_f n7 (br_f n8 (br_f n9 (br_t n10 h))))))))))))⟩
  by_cases n11 : x = 11
  · exact ⟨18, fun post h => br_f a (br_f b (br_f n0 (br_f n1 (br_f n2 (br_f n3 (br_f n4 (br_f n5 (br_f n6 (br_f n7 (br_f n8 (br_f n9 (br_f n10 (br_t n11 h)))))))))))))⟩
  by_cases n12 : x = 12
  · exact ⟨21, fun post h => br_f a (br_f b (br_f n0 (br_f n1 (br_f n2 (br_f n3 (br_f n4 (br_f n5 (br_f n6 (br_f n7 (br_f n8 (br_f n9 (br_f n10 (br_f n11 (br_t n12 h))))))))))))))⟩
  by_cases n13 : x = 13
  · exact ⟨23, fun post h => br_f a (br_f b (br_f n0 (br_f n1 (br_f n2 (br_f n3 (br_f n4 (br_f n5 (br_f n6 (br_f n7 (br_f n8 (br_f n9 (br_f n10 (br_f n11 (br_f n12 (br_t n13 h)))))))))))))))⟩
  by_cases n14 : x = 14
  · exact ⟨25, fun post h => br_f a (br_f b (br_f n0 (br_f n1 (br_f n2 (br_f n3 (br_f n4 (br_f n5 (br_f n6 (br_f n7 (br_f n8 (br_f n9 (br_f n10 (br_f n11 (br_f n12 (br_f n13 (br_t n14 h))))))))))))))))⟩
  by_cases n15 : x = 15
  · exact ⟨31, fun post h => br_f a (br_f b (br_f n0 (br_f n1 (br_f n2 (br_f n3 (br_f n4 (br_f n5 (br_f n6 (br_f n7 (br_f n8 (br_f n9 (br_f n10 (br_f n11 (br_f n12 (br_f n13 (br_f n14 (br_t n15 h)))))))))))))))))⟩
  by_cases n16 : x = 16
  · exact ⟨200, fun post h => br_f a (br_f b (br_f n0 (br_f n1 (br_f n2 (br_f n3 (br_f n4 (br_f n5 (br_f n6 (br_f n7 (br_f n8 (br_f n9 (br_f n10 (br_f n11 (br_f n12 (br_f n13 (br_f n14 (br_f n15 (br_t n16 h))))))))))))))))))⟩
  by_cases n17 : x = 17
  · exact ⟨201, fun post h => br_f a (br_f b (br_f n0 (br_f n1 (br_f n2 (br_f n3 (br_f n4 (br_f n5 (br_f n6 (br_f n7 (br_f n8 (br_f n9 (br_f n10 (br_f n11 (br_f n12 (br_f n13 (br_f n14 (br_f n15 (br_f n16 (br_t n17 h)))))))))))))))))))⟩
  by_cases n18 : x = 18
  · exact ⟨202, fun post h => br_f a (br_f b (br_f n0 (br_f n1 (br_f n2 (br_f n3 (br_f n4 (br_f n5 (br_f n6 (br_f n7 (br_f n8 (br_f n9 (br_f n10 (br_f n11 (br_f n12 (br_f n13 (br_f n14 (br_f n15 (br_f n16 (br_f n17 (br_t n18 h))))))))))))))))))))⟩
  exact ⟨0, fun post h => br_f a (br_f b (br_f n0 (br_f n1 (br_f n2 (br_f n3 (br_f n4 (br_f n5 (br_f n6 (br_f n7 (br_f n8 (br_f n9 (br_f n10 (br_f n11 (br_f n12 (br_f n13 (br_f n14 (br_f n15 (br_f n16 (br_f n17 (br_f n18 (trivial)))))))))))))))))))))⟩
theorem lq_key (v : Int32) : ∃ c : Int32, ∀ post : Int32 → Prop, post c → wpL_keyOf post () v := by
  obtain ⟨j, hj, e⟩ := pk_andE v (m := 63) 6 (by decide)
  have hj2 : j < 64 := hj
  by_cases c22 : j < 22
  · obtain ⟨c, hc⟩ := lq_small (((v.toUInt32 >>> ((6 : Int32).toUInt32 &&& Int32.toUInt32 31)).toInt32) - ((v.toUInt32 >>> ((6 : Int32).toUInt32 &&& Int32.toUInt32 31)).toInt32) / 6 * 6)
    exact ⟨c, fun post h => nm_r e (nm_e (en_le 22 j c22 ⟨by decide, hc _ h⟩))⟩
  by_cases c28 : j < 28
  · exact ⟨_, fun post h => nm_r e (nm_e (ey_le 22 j (by omega) (en_le 28 j c28 ⟨by decide, h⟩)))⟩
  by_cases c48 : j < 48
  · obtain ⟨c, hc⟩ := lq_spec (nI j - 28)
    exact ⟨c, fun post h => nm_r e (nm_e (ey_le 22 j (by omega) (ey_le 28 j (by omega) (en_le 48 j c48 (hc _ h)))))⟩
  by_cases c56 : j < 56
  · exact ⟨13, fun post h => nm_r e (nm_e (ey_le 22 j (by omega) (ey_le 28 j (by omega) (ey_le 48 j (by omega) (en_le 56 j c56 h)))))⟩
  by_cases c59 : j < 59
  · exact ⟨18, fun post h => nm_r e (nm_e (ey_le 22 j (by omega) (ey_le 28 j (by omega) (ey_le 48 j (by omega) (ey_le 56 j (by omega) (en_le 59 j c59 h))))))⟩
  by_cases c63 : j < 63
  · exact ⟨16, fun post h => nm_r e (nm_e (ey_le 22 j (by omega) (ey_le 28 j (by omega) (ey_le 48 j (by omega) (ey_le 56 j (by omega) (ey_le 59 j (by omega) (en_le 63 j c63 h)))))))⟩
  · exact ⟨v, fun post h => nm_r e (nm_e (ey_le 22 j (by omega) (ey_le 28 j (by omega) (ey_le 48 j (by omega) (ey_le 56 j (by omega) (ey_le 59 j (by omega) (ey_le 63 j (by omega) h)))))))⟩
theorem lq_cell (xs : Nat → Int32) {L : Nat} (hL : L ≤ 260) (i : Nat) (hi : i ≤ 3) : ∃ v : Int32, ∀ post : Int32 → Prop, post v → wpL_cell post L xs () (nI i) := by
  by_cases c : L ≤ i
  · exact ⟨0, fun post h => ey_le L i c h⟩
  · exact ⟨_, fun post h => en_le L i (by omega) ⟨en_in i (by omega), h⟩⟩
section
variable {f_width f_historyCap f_ringCap f_length f_cursor f_historyCount f_nav f_draftLength f_ringCount f_yankIndex f_undoDepth f_mode f_last f_accepted f_queryLength f_match f_matchStart f_displayLength f_displayCursor f_terminalRow f_terminalCol : Int32} {a_buffer a_history a_historyLengths a_draft a_ring a_ringLengths a_undoTexts a_undoLengths a_undoCursors a_query a_display a_screen : Nat → Int32}
theorem lq_58 {post : Int32 → Prop} (xs : Nat → Int32) {L kc ks : Nat} (hL : L ≤ 260) (h : post 1) : ∀ d i (u : St2), L ≤ i + d → i ≤ 300 → eI u → (match u with | (f_width, f_historyCap, f_ringCap, f_length, f_cursor, f_historyCount, f_nav, f_draftLength, f_ringCount, f_yankIndex, f_undoDepth, f_mode, f_last, f_accepted, f_queryLength, f_match, f_matchStart, f_displayLength, f_displayCursor, f_terminalRow, f_terminalCol, a_buffer, a_history, a_historyLengths, a_draft, a_ring, a_ringLengths, a_undoTexts, a_undoLengths, a_undoCursors, a_query, a_display, a_screen) => wL_law_58 post L xs kc ks (d + 1) (nI i) f_width f_historyCap f_ringCap f_length f_cursor f_historyCount f_nav f_draftLength f_ringCount f_yankIndex f_undoDepth f_mode f_last f_accepted f_queryLength f_match f_matchStart f_displayLength f_displayCursor f_terminalRow f_terminalCol a_buffer a_history a_historyLengths a_draft a_ring a_ringLengths a_undoTexts a_undoLengths a_undoCursors a_query a_display a_screen) := by
  intro d
  induction d with
  | zero =>
    intro i u h1 h2 I
    obtain ⟨f_width, f_historyCap, f_ringCap, f_length, f_cursor, f_historyCount, f_nav, f_draftLength, f_ringCount, f_yankIndex, f_undoDepth, f_mode, f_last, f_accepted, f_queryLength, f_match, f_matchStart, f_displayLength, f_displayCursor, f_terminalRow, f_terminalCol, a_buffer, a_history, a_historyLengths, a_draft, a_ring, a_ringLengths, a_undoTexts, a_undoLengths, a_undoCursors, a_query, a_display, a_screen⟩ := u
    exact ey_le L i (by omega) h
  | succ d ih =>
    intro i u h1 h2 I
    by_cases c : L ≤ i
    · obtain ⟨f_width, f_historyCap, f_ringCap, f_length, f_cursor, f_historyCount, f_nav, f_draftLength, f_ringCount, f_yankIndex, f_undoDepth, f_mode, f_last, f_accepted, f_queryLength, f_match, f_matchStart, f_displayLength, f_displayCursor, f_terminalRow, f_terminalCol, a_buffer, a_history, a_historyLengths, a_draft, a_ring, a_ringLengths, a_undoTexts, a_undoLengths, a_undoCursors, a_query, a_display, a_screen⟩ := u
      exact ey_le L i c h
    · obtain ⟨v, hv⟩ := lq_key (xs (nI i).toNatClampNeg)
      obtain ⟨r, u2, I2, hx⟩ := e_key I v
      have ih2 := ih (i + 1) u2 (by omega) (by omega) I2
      obtain ⟨f_width, f_historyCap, f_ringCap, f_length, f_cursor, f_historyCount, f_nav, f_draftLength, f_ringCount, f_yankIndex, f_undoDepth, f_mode, f_last, f_accepted, f_queryLength, f_match, f_matchStart, f_displayLength, f_displayCursor, f_terminalRow, f_terminalCol, a_buffer, a_history, a_historyLengths, a_draft, a_ring, a_ringLengths, a_undoTexts, a_undoLengths, a_undoCursors, a_query, a_display, a_screen⟩ := u
      obtain ⟨f_width, f_historyCap, f_ringCap, f_length, f_cursor, f_historyCount, f_nav, f_draftLength, f_ringCount, f_yankIndex, f_undoDepth, f_mode, f_last, f_accepted, f_queryLength, f_match, f_matchStart, f_displayLength, f_displayCursor, f_terminalRow, f_terminalCol, a_buffer, a_history, a_historyLengths, a_draft, a_ring, a_ringLengths, a_undoTexts, a_undoLengths, a_undoCursors, a_query, a_display, a_screen⟩ := u2
      exact en_le L i (by omega) ⟨en_in i (by omega), hv _ (hx _ (lq_ok I2 (br_f (by decide) (nm_r (nI_1 i) ih2))))⟩
end
theorem e_cl (lo hi : Nat) (h : lo ≤ hi) (hb : hi < 2 ^ 31) (x : Int32) : ∃ j, lo ≤ j ∧ j ≤ hi ∧ ∀ A : Int32 → Prop, A (nI j) → ((nI lo ≤ x → ((x ≤ nI hi → A x) ∧ (¬ x ≤ nI hi → A (nI hi)))) ∧ (¬ nI lo ≤ x → A (nI lo))) := by
  by_cases c : nI lo ≤ x
  · by_cases c2 : x ≤ nI hi
    · obtain ⟨j, hj, rfl⟩ := nI_of (x := x) (en_ge c (nI_pos' (by omega)))
      exact ⟨j, (nI_leI (by omega) hj).mp c, (nI_leI hj hb).mp c2, fun A hA => br_t c (br_t c2 hA)⟩
    · exact ⟨hi, h, Nat.le_refl _, fun A hA => br_t c (br_f c2 hA)⟩
  · exact ⟨lo, Nat.le_refl _, h, fun A hA => br_f c hA⟩
theorem i_vc (xs : Nat → Int32) (L : Nat) (hL : L ≤ 260) : wpL_law (fun r => r = 1) L xs := by
  obtain ⟨v0, q0⟩ := lq_cell xs hL 0 (by omega)
  obtain ⟨v1, q1⟩ := lq_cell xs hL 1 (by omega)
  obtain ⟨v2, q2⟩ := lq_cell xs hL 2 (by omega)
  obtain ⟨w, w1, w2, hw⟩ := e_cl 4 16 (by omega) (by omega) ((v0 &&& 15) + 2)
  obtain ⟨hh, h1, h2, hhh⟩ := e_cl 1 8 (by omega) (by omega) ((v1 &&& 15) - 2)
  obtain ⟨rr, r1, r2, hrr⟩ := e_cl 1 4 (by omega) (by omega) ((v2 &&& 7) - 1)
  obtain ⟨u, gI, hr⟩ := e_ref (e_K (w := w) (hh := hh) (rr := rr) (n := 0) (k := 0) (hc := 0) (nav := 0) (dn := 0) (kc := 0) (y := 0) (ud := 0) (mo := 0) (la := 0) (ql := 0) (p := 0) (m := -1) (ac := 0) (xdl := 0) (xdc := 0) (xtr := 0) (xtc := 0) (B := fun _ => 0) (H := fun _ => 0) (HL := fun _ => 0) (D := fun _ => 0) (R := fun _ => 0) (RL := fun _ => 0) (U := fun _ => 0) (UL := fun _ => 0) (UK := fun _ => 0) (Q := fun _ => 0) (DS := fun _ => 0) (SC := fun _ => 0) (B' := fun _ => 0) (H' := fun _ => 0) (HL' := fun _ => 0) (D' := fun _ => 0) (R' := fun _ => 0) (RL' := fun _ => 0) (U' := fun _ => 0) (UL' := fun _ => 0) (UK' := fun _ => 0) (Q' := fun _ => 0) ⟨⟨⟨w1, w2⟩, ⟨h1, h2⟩, ⟨r1, r2⟩, ⟨by omega, by omega⟩, ⟨by omega, by omega⟩, by omega, by omega, by omega, by omega⟩, eg_0, eh_0, eg_0, ej_0, eu_0, eg_0, eL_0, Or.inl ⟨rfl, rfl, rfl⟩⟩)
  have l58 := lq_58 (post := fun r => r = 1) (kc := 13) (ks := 1088) xs hL rfl L 3 u (by omega) (by omega) gI
  obtain ⟨f_width, f_historyCap, f_ringCap, f_length, f_cursor, f_historyCount, f_nav, f_draftLength, f_ringCount, f_yankIndex, f_undoDepth, f_mode, f_last, f_accepted, f_queryLength, f_match, f_matchStart, f_displayLength, f_displayCursor, f_terminalRow, f_terminalCol, a_buffer, a_history, a_historyLengths, a_draft, a_ring, a_ringLengths, a_undoTexts, a_undoLengths, a_undoCursors, a_query, a_display, a_screen⟩ := u
  have cw : ∀ A : Int32 → Prop, A (nI w) → wpX_clamp A () ((v0 &&& 15) + 2) 4 16 := hw
  have ch : ∀ A : Int32 → Prop, A (nI hh) → wpX_clamp A () ((v1 &&& 15) - 2) 1 8 := hhh
  have cr : ∀ A : Int32 → Prop, A (nI rr) → wpX_clamp A () ((v2 &&& 7) - 1) 1 4 := hrr
  have ok : wpL_screenOk (fun r_70 => (r_70 = 0 → (0 : Int32) = 1) ∧ (¬ r_70 = 0 → ∃ z, wL_law_58 (fun r => r = 1) L xs 13 1088 z 3 f_width f_historyCap f_ringCap f_length f_cursor f_historyCount f_nav f_draftLength f_ringCount f_yankIndex f_undoDepth f_mode f_last f_accepted f_queryLength f_match f_matchStart f_displayLength f_displayCursor f_terminalRow f_terminalCol a_buffer a_history a_historyLengths a_draft a_ring a_ringLengths a_undoTexts a_undoLengths a_undoCursors a_query a_display a_screen)) (f_width, f_historyCap, f_ringCap, f_length, f_cursor, f_historyCount, f_nav, f_draftLength, f_ringCount, f_yankIndex, f_undoDepth, f_mode, f_last, f_accepted, f_queryLength, f_match, f_matchStart, f_displayLength, f_displayCursor, f_terminalRow, f_terminalCol, a_buffer, a_history, a_historyLengths, a_draft, a_ring, a_ringLengths, a_undoTexts, a_undoLengths, a_undoCursors, a_query, a_display, a_screen) := lq_ok gI (br_f (by decide) ⟨_, l58⟩)
  unfold wpL_law
  refine q0 _ (nm_e (q1 _ (nm_e (q2 _ (nm_e ⟨12, 1055, by omega, by omega, ?_⟩)))))
  refine ⟨by omega, by omega, by omega, by omega, by omega, by omega, by omega, by omega, by omega, by omega, by omega, by omega, by omega, by omega, by omega, by omega, by omega, by omega, by omega, by omega, by omega, by omega, by omega, by omega, ?_⟩
  refine cw _ ?_
  refine ch _ ?_
  refine cr _ ?_
  exact hr _ ok
