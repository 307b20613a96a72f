/-! X: key and the constructor -/
section
variable {w hh rr n k hc nav dn kc y ud mo la ql p dl dc : Nat} {m ac xdl xdc xtr xtc : Int32} {B H HL D R RL U UL UK Q DS SC B' H' HL' D' R' RL' U' UL' UK' Q' : Nat → Int32}
theorem e_ref {u : SX} {v : SY} (h : eK u v) : ∃ u' : SX, i_Rel 0 u' v ∧ ∀ post : SX → Prop, post u' → wpX_refresh post u := by
  obtain ⟨w, hh, rr, n, k, hc, nav, dn, kc, y, ud, mo, la, ql, p, m, ac, xdl, xdc, xtr, xtc, B, H, HL, D, R, RL, U, UL, UK, Q, DS0, SC0, B', H', HL', D', R', RL', U', UL', UK', Q', rfl, rfl, C⟩ := h
  obtain ⟨⟨⟨hw1, hw2⟩, ⟨hh1, hh2⟩, ⟨hr1, hr2⟩, ⟨hn, hk⟩, ⟨hhc, hnav⟩, hdn, hkc, hud, hql⟩, hB, hH, hD, hR, hU, hQ, hL, hS⟩ := id C
  have hm : mo = 0 ∨ (mo = 1 ∧ (m = -1 ∨ ∃ i l, m = nI i ∧ i < 8 ∧ l ≤ 32 ∧ HL i = nI l ∧ p ≤ l)) := by
    rcases hS with ⟨h0, _, _⟩ | ⟨h0, _, ⟨h1, _⟩ | ⟨i, l, h1, hi, a, hl, hpl, _⟩⟩
    · exact Or.inl h0
    · exact Or.inr ⟨h0, Or.inl h1⟩
    · obtain ⟨l2, hl2, a1, a2, _⟩ := hH i hi
      obtain rfl : l2 = l := (nI_eq (by omega) (by omega)).mp (a2.symm.trans a)
      exact Or.inr ⟨h0, Or.inr ⟨i, l2, h1, by omega, hl2, a1, by omega⟩⟩
  obtain ⟨dl, dc, DS, SC, P, hx⟩ := xrf (f_historyCap := nI hh) (f_ringCap := nI rr) (f_historyCount := nI hc) (f_nav := nI nav) (f_draftLength := nI dn) (f_ringCount := nI kc) (f_yankIndex := nI y) (f_undoDepth := nI ud) (f_last := nI la) (f_accepted := ac) (f_displayLength := xdl) (f_displayCursor := xdc) (f_terminalRow := xtr) (f_terminalCol := xtc) (a_buffer := B) (a_history := H) (a_historyLengths := HL) (a_draft := D) (a_ring := R) (a_ringLengths := RL) (a_undoTexts := U) (a_undoLengths := UL) (a_undoCursors := UK) (a_query := Q) (a_display := DS0) (a_screen := SC0) hw1 hw2 hn hk hql hm
  exact ⟨(nI w, nI hh, nI rr, nI n, nI k, nI hc, nI nav, nI dn, nI kc, nI y, nI ud, nI mo, nI la, ac, nI ql, m, nI p, nI dl, nI dc, nI (dc / w), nI (dc % w), B, H, HL, D, R, RL, U, UL, UK, Q, DS, SC), e_I C P, hx⟩
end
theorem i_vc_key {k : Nat} {u : SX} {v : SY} (I : i_Rel k u v) (hk : k + 3 ≤ 1539) (v1 : Int32) : wpX_key (fun r u' => wpY_key (fun r' v' => r' = r ∧ i_Rel (k + 3) u' v') v v1) u v1 := by
  obtain ⟨w, hh, rr, n, k9, hc, nav, dn, kc, y, ud, mo, la, ql, p, dl, dc, m, ac, B, H, HL, D, R, RL, U, UL, UK, Q, DS, SC, B', H', HL', D', R', RL', U', UL', UK', Q', rfl, rfl, C, P⟩ := I
  rcases C.2.2.2.2.2.2.2.2 with S | S
  · obtain ⟨r, u2, v2, g, hx, hy⟩ := e_edit (ac := ac) C P S v1
    obtain ⟨f_width, f_historyCap, f_ringCap, f_length, f_cursor, f_historyCount, f_nav, f_draftLength, f_ringCount, f_yankIndex, f_undoDepth, f_mode, f_last, f_accepted, f_queryLength, f_match, f_matchStart, f_displayLength, f_displayCursor, f_terminalRow, f_terminalCol, a_buffer, a_history, a_historyLengths, a_draft, a_ring, a_ringLengths, a_undoTexts, a_undoLengths, a_undoCursors, a_query, a_display, a_screen⟩ := u2
    obtain ⟨g_w, g_hh, g_rr, g_n, g_k, g_hc, g_nav, g_dn, g_kc, g_ud, g_last, g_y, g_mode, g_ql, g_p, g_accepted, g_m, b_buf, b_hist, b_histL, b_draft, b_ring, b_ringL, b_und, b_undL, b_undK, b_q⟩ := v2
    have hm : mo ≠ 1 := by omega
    have hm0 : mo < 2 := by omega
    refine en_eq mo 1 hm (hx _ ?_)
    rcases g with ⟨rfl, gK⟩ | ⟨rfl, gI⟩
    · obtain ⟨u3, gI, hr⟩ := e_ref gK
      refine br_t rfl (hr _ ?_)
      obtain ⟨f_width, f_historyCap, f_ringCap, f_length, f_cursor, f_historyCount, f_nav, f_draftLength, f_ringCount, f_yankIndex, f_undoDepth, f_mode, f_last, f_accepted, f_queryLength, f_match, f_matchStart, f_displayLength, f_displayCursor, f_terminalRow, f_terminalCol, a_buffer, a_history, a_historyLengths, a_draft, a_ring, a_ringLengths, a_undoTexts, a_undoLengths, a_undoCursors, a_query, a_display, a_screen⟩ := u3
      exact en_eq mo 1 hm (hy _ ⟨rfl, gI⟩)
    · exact br_f (by decide) (en_eq mo 1 hm (hy _ ⟨rfl, gI⟩))
  · obtain ⟨r, u2, v2, g, hx, hy⟩ := e_srch (ac := ac) C P S v1
    obtain ⟨f_width, f_historyCap, f_ringCap, f_length, f_cursor, f_historyCount, f_nav, f_draftLength, f_ringCount, f_yankIndex, f_undoDepth, f_mode, f_last, f_accepted, f_queryLength, f_match, f_matchStart, f_displayLength, f_displayCursor, f_terminalRow, f_terminalCol, a_buffer, a_history, a_historyLengths, a_draft, a_ring, a_ringLengths, a_undoTexts, a_undoLengths, a_undoCursors, a_query, a_display, a_screen⟩ := u2
    obtain ⟨g_w, g_hh, g_rr, g_n, g_k, g_hc, g_nav, g_dn, g_kc, g_ud, g_last, g_y, g_mode, g_ql, g_p, g_accepted, g_m, b_buf, b_hist, b_histL, b_draft, b_ring, b_ringL, b_und, b_undL, b_undK, b_q⟩ := v2
    have hm : mo = 1 := S.1
    refine ey_eq mo 1 hm (hx _ ?_)
    rcases g with ⟨rfl, gK⟩ | ⟨rfl, gI⟩
    · obtain ⟨u3, gI, hr⟩ := e_ref gK
      refine br_t rfl (hr _ ?_)
      obtain ⟨f_width, f_historyCap, f_ringCap, f_length, f_cursor, f_historyCount, f_nav, f_draftLength, f_ringCount, f_yankIndex, f_undoDepth, f_mode, f_last, f_accepted, f_queryLength, f_match, f_matchStart, f_displayLength, f_displayCursor, f_terminalRow, f_terminalCol, a_buffer, a_history, a_historyLengths, a_draft, a_ring, a_ringLengths, a_undoTexts, a_undoLengths, a_undoCursors, a_query, a_display, a_screen⟩ := u3
      exact ey_eq mo 1 hm (hy _ ⟨rfl, gI⟩)
    · exact br_f (by decide) (ey_eq mo 1 hm (hy _ ⟨rfl, gI⟩))
theorem e_cl (lo hi : Nat) (h : lo ≤ hi) (hb : hi < 2 ^ 31) (x : Int32) : ∃ j, lo ≤ j ∧ j ≤ hi ∧ ∀ A : Int32 → Prop, A (nI j) → ((nI lo ≤ x → ((x ≤ nI hi → A x) ∧ (¬ x ≤ nI hi → A (nI hi)))) ∧ (¬ nI lo ≤ x → A (nI lo))) := by
  by_cases c : nI lo ≤ x
  · by_cases c2 : x ≤ nI hi
    · obtain ⟨j, hj, rfl⟩ := nI_of (x := x) (en_ge c (nI_pos' (by omega)))
      exact ⟨j, (nI_leI (by omega) hj).mp c, (nI_leI hj hb).mp c2, fun A hA => br_t c (br_t c2 hA)⟩
    · exact ⟨hi, h, Nat.le_refl _, fun A hA => br_t c (br_f c2 hA)⟩
  · exact ⟨lo, Nat.le_refl _, h, fun A hA => br_f c hA⟩
theorem i_vc0 (k0 : Int32) (k1 : Int32) (k2 : Int32) : wpX_init (fun u => wpY_init (fun v => i_Rel 3 u v) k0 k1 k2) k0 k1 k2 := by
  obtain ⟨w, w1, w2, hw⟩ := e_cl 4 16 (by omega) (by omega) k0
  obtain ⟨hh, h1, h2, hhh⟩ := e_cl 1 8 (by omega) (by omega) k1
  obtain ⟨rr, r1, r2, hrr⟩ := e_cl 1 4 (by omega) (by omega) k2
  obtain ⟨u, gI, hr⟩ := e_ref (e_K (w := w) (hh := hh) (rr := rr) (n := 0) (k := 0) (hc := 0) (nav := 0) (dn := 0) (kc := 0) (y := 0) (ud := 0) (mo := 0) (la := 0) (ql := 0) (p := 0) (m := -1) (ac := 0) (xdl := 0) (xdc := 0) (xtr := 0) (xtc := 0) (B := fun _ => 0) (H := fun _ => 0) (HL := fun _ => 0) (D := fun _ => 0) (R := fun _ => 0) (RL := fun _ => 0) (U := fun _ => 0) (UL := fun _ => 0) (UK := fun _ => 0) (Q := fun _ => 0) (DS := fun _ => 0) (SC := fun _ => 0) (B' := fun _ => 0) (H' := fun _ => 0) (HL' := fun _ => 0) (D' := fun _ => 0) (R' := fun _ => 0) (RL' := fun _ => 0) (U' := fun _ => 0) (UL' := fun _ => 0) (UK' := fun _ => 0) (Q' := fun _ => 0) ⟨⟨⟨w1, w2⟩, ⟨h1, h2⟩, ⟨r1, r2⟩, ⟨by omega, by omega⟩, ⟨by omega, by omega⟩, by omega, by omega, by omega, by omega⟩, eg_0, eh_0, eg_0, ej_0, eu_0, eg_0, eL_0, Or.inl ⟨rfl, rfl, rfl⟩⟩)
  obtain ⟨f_width, f_historyCap, f_ringCap, f_length, f_cursor, f_historyCount, f_nav, f_draftLength, f_ringCount, f_yankIndex, f_undoDepth, f_mode, f_last, f_accepted, f_queryLength, f_match, f_matchStart, f_displayLength, f_displayCursor, f_terminalRow, f_terminalCol, a_buffer, a_history, a_historyLengths, a_draft, a_ring, a_ringLengths, a_undoTexts, a_undoLengths, a_undoCursors, a_query, a_display, a_screen⟩ := u
  have cw : ∀ A : Int32 → Prop, A (nI w) → wpX_clamp A k0 4 16 := hw
  have ch : ∀ A : Int32 → Prop, A (nI hh) → wpX_clamp A k1 1 8 := hhh
  have cr : ∀ A : Int32 → Prop, A (nI rr) → wpX_clamp A k2 1 4 := hrr
  have yy : wpY_init (fun v => i_Rel 3 (f_width, f_historyCap, f_ringCap, f_length, f_cursor, f_historyCount, f_nav, f_draftLength, f_ringCount, f_yankIndex, f_undoDepth, f_mode, f_last, f_accepted, f_queryLength, f_match, f_matchStart, f_displayLength, f_displayCursor, f_terminalRow, f_terminalCol, a_buffer, a_history, a_historyLengths, a_draft, a_ring, a_ringLengths, a_undoTexts, a_undoLengths, a_undoCursors, a_query, a_display, a_screen) v) k0 k1 k2 := by
    refine hw (fun z => wY_init_113 (fun v => i_Rel 3 (f_width, f_historyCap, f_ringCap, f_length, f_cursor, f_historyCount, f_nav, f_draftLength, f_ringCount, f_yankIndex, f_undoDepth, f_mode, f_last, f_accepted, f_queryLength, f_match, f_matchStart, f_displayLength, f_displayCursor, f_terminalRow, f_terminalCol, a_buffer, a_history, a_historyLengths, a_draft, a_ring, a_ringLengths, a_undoTexts, a_undoLengths, a_undoCursors, a_query, a_display, a_screen) v) k1 k2 z 0 0 0 0 0 0 0 0 0 0 0 0 0 0 0 0 (-1) (fun _ => 0) (fun _ => 0) (fun _ => 0) (fun _ => 0) (fun _ => 0) (fun _ => 0) (fun _ => 0) (fun _ => 0) (fun _ => 0) (fun _ => 0)) ?_
    refine hhh (fun z => wY_init_138 (fun v => i_Rel 3 (f_width, f_historyCap, f_ringCap, f_length, f_cursor, f_historyCount, f_nav, f_draftLength, f_ringCount, f_yankIndex, f_undoDepth, f_mode, f_last, f_accepted, f_queryLength, f_match, f_matchStart, f_displayLength, f_displayCursor, f_terminalRow, f_terminalCol, a_buffer, a_history, a_historyLengths, a_draft, a_ring, a_ringLengths, a_undoTexts, a_undoLengths, a_undoCursors, a_query, a_display, a_screen) v) k2 z (nI w) 0 0 0 0 0 0 0 0 0 0 0 0 0 0 0 (-1) (fun _ => 0) (fun _ => 0) (fun _ => 0) (fun _ => 0) (fun _ => 0) (fun _ => 0) (fun _ => 0) (fun _ => 0) (fun _ => 0) (fun _ => 0)) ?_
    exact hrr (fun z => i_Rel 3 (f_width, f_historyCap, f_ringCap, f_length, f_cursor, f_historyCount, f_nav, f_draftLength, f_ringCount, f_yankIndex, f_undoDepth, f_mode, f_last, f_accepted, f_queryLength, f_match, f_matchStart, f_displayLength, f_displayCursor, f_terminalRow, f_terminalCol, a_buffer, a_history, a_historyLengths, a_draft, a_ring, a_ringLengths, a_undoTexts, a_undoLengths, a_undoCursors, a_query, a_display, a_screen) (nI w, nI hh, z, 0, 0, 0, 0, 0, 0, 0, 0, 0, 0, 0, 0, 0, (-1), (fun _ => 0), (fun _ => 0), (fun _ => 0), (fun _ => 0), (fun _ => 0), (fun _ => 0), (fun _ => 0), (fun _ => 0), (fun _ => 0), (fun _ => 0))) gI
  unfold wpX_init
  refine cw _ ?_
  refine ch _ ?_
  refine cr _ ?_
  exact hr _ yy
