/-! U: the keys that kill and yank -/
section
variable {w hh rr n k hc nav dn kc y ud mo la ql p dl dc : Nat} {m ac xdl xdc xtr xtc : Int32} {B H HL D R RL U UL UK Q DS SC B' H' HL' D' R' RL' U' UL' UK' Q' : Nat → Int32}
theorem e_kf {e : Nat} (C : eC w hh rr n k hc nav dn kc y ud mo la ql p m B H HL D R RL U UL UK Q B' H' HL' D' R' RL' U' UL' UK' Q') (he : 1 ≤ e) (h1 : k + e ≤ n) (S0 : mo = 0 ∧ m = -1 ∧ ql = 0) : eO (fun post => wX_killKey_83 post (nI k) (nI (k + e)) (nI w) (nI hh) (nI rr) (nI n) (nI k) (nI hc) (nI nav) (nI dn) (nI kc) (nI y) (nI ud) (nI mo) (nI la) ac (nI ql) m (nI p) (nI dl) (nI dc) (nI (dc / w)) (nI (dc % w)) B H HL D R RL U UL UK Q DS SC) := by
  obtain ⟨⟨⟨hw1, hw2⟩, ⟨hh1, hh2⟩, ⟨hr1, hr2⟩, ⟨hn, hk⟩, ⟨hhc, hnav⟩, hdn, hkc, hud, hql⟩, hB, hH, hD, hR, hU, hQ, hL, hS⟩ := id C
  by_cases c2 : la = 2
  · subst c2
    obtain ⟨hc1, _⟩ := hL.2.1 rfl
    obtain ⟨c, rfl⟩ : ∃ c, kc = c + 1 := ⟨kc - 1, by omega⟩
    exact e_kf_2 (st := 0) C he h1 S0
  · by_cases c3 : kc = rr
    · subst c3
      obtain ⟨c, rfl⟩ : ∃ c, kc = c + 1 := ⟨kc - 1, by omega⟩
      exact e_kf_f (st := 0) C he h1 S0 c2
    · exact e_kf_n (st := 0) C he h1 S0 c2 (by omega)
theorem e_kb {st e : Nat} (C : eC w hh rr n (st + e) hc nav dn kc y ud mo la ql p m B H HL D R RL U UL UK Q B' H' HL' D' R' RL' U' UL' UK' Q') (he : 1 ≤ e) (h1 : st + e ≤ n) (S0 : mo = 0 ∧ m = -1 ∧ ql = 0) : eO (fun post => wX_killKey_83 post (nI st) (nI (st + e)) (nI w) (nI hh) (nI rr) (nI n) (nI (st + e)) (nI hc) (nI nav) (nI dn) (nI kc) (nI y) (nI ud) (nI mo) (nI la) ac (nI ql) m (nI p) (nI dl) (nI dc) (nI (dc / w)) (nI (dc % w)) B H HL D R RL U UL UK Q DS SC) := by
  obtain ⟨⟨⟨hw1, hw2⟩, ⟨hh1, hh2⟩, ⟨hr1, hr2⟩, ⟨hn, hk⟩, ⟨hhc, hnav⟩, hdn, hkc, hud, hql⟩, hB, hH, hD, hR, hU, hQ, hL, hS⟩ := id C
  by_cases c2 : la = 2
  · subst c2
    obtain ⟨hc1, _⟩ := hL.2.1 rfl
    obtain ⟨c, rfl⟩ : ∃ c, kc = c + 1 := ⟨kc - 1, by omega⟩
    exact e_kb_2 C he h1 S0
  · by_cases c3 : kc = rr
    · subst c3
      obtain ⟨c, rfl⟩ : ∃ c, kc = c + 1 := ⟨kc - 1, by omega⟩
      exact e_kb_f C he h1 S0 c2
    · exact e_kb_n C he h1 S0 c2 (by omega)
theorem e_kend (C : eC w hh rr n k hc nav dn kc y ud mo la ql p m B H HL D R RL U UL UK Q B' H' HL' D' R' RL' U' UL' UK' Q') (P : eP w n k mo ql p m B H HL Q dl dc DS SC) (S0 : mo = 0 ∧ m = -1 ∧ ql = 0) : eO (fun post => wpX_editKey post (nI w, nI hh, nI rr, nI n, nI k, nI hc, nI nav, nI dn, nI kc, nI y, nI ud, nI mo, nI la, ac, nI ql, m, nI p, nI dl, nI dc, nI (dc / w), nI (dc % w), B, H, HL, D, R, RL, U, UL, UK, Q, DS, SC) 11) := by
  obtain ⟨⟨⟨hw1, hw2⟩, ⟨hh1, hh2⟩, ⟨hr1, hr2⟩, ⟨hn, hk⟩, ⟨hhc, hnav⟩, hdn, hkc, hud, hql⟩, hB, hH, hD, hR, hU, hQ, hL, hS⟩ := id C
  by_cases c : k = n
  · subst c
    exact eO_0 (nI w, nI hh, nI rr, nI k, nI k, nI hc, nI nav, nI dn, nI kc, nI y, nI ud, nI mo, nI la, ac, nI ql, m, nI p, nI dl, nI dc, nI (dc / w), nI (dc % w), B, H, HL, D, R, RL, U, UL, UK, Q, DS, SC) (e_I C P) (fun post hp => by unfold wpX_editKey; exact xp_f (Or.inl (by decide)) (br_t rfl (br_f (by decide) (br_f (by decide) (br_t rfl (br_t rfl ( en_lt k k (by omega) hp )))))))
  · obtain ⟨e, rfl⟩ : ∃ e, n = k + e := ⟨n - k, by omega⟩
    refine eO_n (e_kf (e := e) (dl := dl) (dc := dc) (DS := DS) (SC := SC) (ac := ac) C (by omega) (by omega) S0) (fun post r u hq hp => ?_)
    · obtain ⟨f_width, f_historyCap, f_ringCap, f_length, f_cursor, f_historyCount, f_nav, f_draftLength, f_ringCount, f_yankIndex, f_undoDepth, f_mode, f_last, f_accepted, f_queryLength, f_match, f_matchStart, f_displayLength, f_displayCursor, f_terminalRow, f_terminalCol, a_buffer, a_history, a_historyLengths, a_draft, a_ring, a_ringLengths, a_undoTexts, a_undoLengths, a_undoCursors, a_query, a_display, a_screen⟩ := u
      unfold wpX_editKey
      exact xp_f (Or.inl (by decide)) (br_t rfl (br_f (by decide) (br_f (by decide) (br_t rfl (br_t rfl ( hq _ hp ))))))
theorem e_kwf (C : eC w hh rr n k hc nav dn kc y ud mo la ql p m B H HL D R RL U UL UK Q B' H' HL' D' R' RL' U' UL' UK' Q') (P : eP w n k mo ql p m B H HL Q dl dc DS SC) (S0 : mo = 0 ∧ m = -1 ∧ ql = 0) : eO (fun post => wpX_editKey post (nI w, nI hh, nI rr, nI n, nI k, nI hc, nI nav, nI dn, nI kc, nI y, nI ud, nI mo, nI la, ac, nI ql, m, nI p, nI dl, nI dc, nI (dc / w), nI (dc % w), B, H, HL, D, R, RL, U, UL, UK, Q, DS, SC) 202) := by
  obtain ⟨⟨⟨hw1, hw2⟩, ⟨hh1, hh2⟩, ⟨hr1, hr2⟩, ⟨hn, hk⟩, ⟨hhc, hnav⟩, hdn, hkc, hud, hql⟩, hB, hH, hD, hR, hU, hQ, hL, hS⟩ := id C
  have ec : ewr B' n k = ewr B n k := (ewr_c hk (fun j hj => (eg_at hB (by omega)).1)).symm
  have hle := ewr_le (f := B) hk
  obtain ⟨e, he⟩ : ∃ e, ewr B n k = k + e := ⟨ewr B n k - k, by omega⟩
  rw [he] at ec hle
  by_cases c : e = 0
  · subst c
    exact eO_0 (nI w, nI hh, nI rr, nI n, nI k, nI hc, nI nav, nI dn, nI kc, nI y, nI ud, nI mo, nI la, ac, nI ql, m, nI p, nI dl, nI dc, nI (dc / w), nI (dc % w), B, H, HL, D, R, RL, U, UL, UK, Q, DS, SC) (e_I C P) (fun post hp => by unfold wpX_editKey; exact xp_f (Or.inr (by decide)) (br_t rfl (br_f (by decide) (br_f (by decide) (br_f (by decide) (br_f (by decide) (br_f (by decide) (br_f (by decide) (br_f (by decide) (br_f (by decide) (br_f (by decide) (br_f (by decide) (br_f (by decide) (br_t rfl (br_f (by decide) (br_f (by decide) (br_f (by decide) (br_t rfl ( xwr hn hk (by rw [he]; exact en_lt k k (by omega) hp) )))))))))))))))))))
  · refine eO_n (e_kf (e := e) (dl := dl) (dc := dc) (DS := DS) (SC := SC) (ac := ac) C (by omega) (by omega) S0) (fun post r u hq hp => ?_)
    · obtain ⟨f_width, f_historyCap, f_ringCap, f_length, f_cursor, f_historyCount, f_nav, f_draftLength, f_ringCount, f_yankIndex, f_undoDepth, f_mode, f_last, f_accepted, f_queryLength, f_match, f_matchStart, f_displayLength, f_displayCursor, f_terminalRow, f_terminalCol, a_buffer, a_history, a_historyLengths, a_draft, a_ring, a_ringLengths, a_undoTexts, a_undoLengths, a_undoCursors, a_query, a_display, a_screen⟩ := u
      unfold wpX_editKey
      exact xp_f (Or.inr (by decide)) (br_t rfl (br_f (by decide) (br_f (by decide) (br_f (by decide) (br_f (by decide) (br_f (by decide) (br_f (by decide) (br_f (by decide) (br_f (by decide) (br_f (by decide) (br_f (by decide) (br_f (by decide) (br_t rfl (br_f (by decide) (br_f (by decide) (br_f (by decide) (br_t rfl ( xwr hn hk (by rw [he]; exact hq _ hp) ))))))))))))))))))
theorem e_kst (C : eC w hh rr n k hc nav dn kc y ud mo la ql p m B H HL D R RL U UL UK Q B' H' HL' D' R' RL' U' UL' UK' Q') (P : eP w n k mo ql p m B H HL Q dl dc DS SC) (S0 : mo = 0 ∧ m = -1 ∧ ql = 0) : eO (fun post => wpX_editKey post (nI w, nI hh, nI rr, nI n, nI k, nI hc, nI nav, nI dn, nI kc, nI y, nI ud, nI mo, nI la, ac, nI ql, m, nI p, nI dl, nI dc, nI (dc / w), nI (dc % w), B, H, HL, D, R, RL, U, UL, UK, Q, DS, SC) 21) := by
  obtain ⟨⟨⟨hw1, hw2⟩, ⟨hh1, hh2⟩, ⟨hr1, hr2⟩, ⟨hn, hk⟩, ⟨hhc, hnav⟩, hdn, hkc, hud, hql⟩, hB, hH, hD, hR, hU, hQ, hL, hS⟩ := id C
  by_cases c : k = 0
  · subst c
    exact eO_0 (nI w, nI hh, nI rr, nI n, nI 0, nI hc, nI nav, nI dn, nI kc, nI y, nI ud, nI mo, nI la, ac, nI ql, m, nI p, nI dl, nI dc, nI (dc / w), nI (dc % w), B, H, HL, D, R, RL, U, UL, UK, Q, DS, SC) (e_I C P) (fun post hp => by unfold wpX_editKey; exact xp_f (Or.inl (by decide)) (br_t rfl (br_f (by decide) (br_f (by decide) (br_f (by decide) (br_f (by decide) (br_f (by decide) (br_f (by decide) (br_f (by decide) (br_t rfl (br_f (by decide) (br_t rfl ( en_lt 0 0 (by omega) hp )))))))))))))
  · obtain ⟨e, rfl⟩ : ∃ e, k = 0 + e := ⟨k, by omega⟩
    refine eO_n (e_kb (st := 0) (e := e) (dl := dl) (dc := dc) (DS := DS) (SC := SC) (ac := ac) C (by omega) (by omega) S0) (fun post r u hq hp => ?_)
    · obtain ⟨f_width, f_historyCap, f_ringCap, f_length, f_cursor, f_historyCount, f_nav, f_draftLength, f_ringCount, f_yankIndex, f_undoDepth, f_mode, f_last, f_accepted, f_queryLength, f_match, f_matchStart, f_displayLength, f_displayCursor, f_terminalRow, f_terminalCol, a_buffer, a_history, a_historyLengths, a_draft, a_ring, a_ringLengths, a_undoTexts, a_undoLengths, a_undoCursors, a_query, a_display, a_screen⟩ := u
      unfold wpX_editKey
      exact xp_f (Or.inl (by decide)) (br_t rfl (br_f (by decide) (br_f (by decide) (br_f (by decide) (br_f (by decide) (br_f (by decide) (br_f (by decide) (br_f (by decide) (br_t rfl (br_f (by decide) (br_t rfl ( hq _ hp ))))))))))))
theorem e_kwb (C : eC w hh rr n k hc nav dn kc y ud mo la ql p m B H HL D R RL U UL UK Q B' H' HL' D' R' RL' U' UL' UK' Q') (P : eP w n k mo ql p m B H HL Q dl dc DS SC) (S0 : mo = 0 ∧ m = -1 ∧ ql = 0) : eO (fun post => wpX_editKey post (nI w, nI hh, nI rr, nI n, nI k, nI hc, nI nav, nI dn, nI kc, nI y, nI ud, nI mo, nI la, ac, nI ql, m, nI p, nI dl, nI dc, nI (dc / w), nI (dc % w), B, H, HL, D, R, RL, U, UL, UK, Q, DS, SC) 23) := by
  obtain ⟨⟨⟨hw1, hw2⟩, ⟨hh1, hh2⟩, ⟨hr1, hr2⟩, ⟨hn, hk⟩, ⟨hhc, hnav⟩, hdn, hkc, hud, hql⟩, hB, hH, hD, hR, hU, hQ, hL, hS⟩ := id C
  have ec : ewl B' k = ewl B k := (ewl_c (fun j hj => (eg_at hB (by omega)).1)).symm
  have hle := ewl_le B k
  obtain ⟨st, hst⟩ : ∃ st, ewl B k = st := ⟨_, rfl⟩
  rw [hst] at ec hle
  obtain ⟨e, rfl⟩ : ∃ e, k = st + e := ⟨k - st, by omega⟩
  by_cases c : e = 0
  · subst c
    exact eO_0 (nI w, nI hh, nI rr, nI n, nI (st + 0), nI hc, nI nav, nI dn, nI kc, nI y, nI ud, nI mo, nI la, ac, nI ql, m, nI p, nI dl, nI dc, nI (dc / w), nI (dc % w), B, H, HL, D, R, RL, U, UL, UK, Q, DS, SC) (e_I C P) (fun post hp => by unfold wpX_editKey; exact xp_f (Or.inl (by decide)) (br_t rfl (br_f (by decide) (br_f (by decide) (br_f (by decide) (br_f (by decide) (br_f (by decide) (br_f (by decide) (br_f (by decide) (br_f (by decide) (br_t rfl (br_f (by decide) (br_f (by decide) (br_t rfl ( xwl (by omega) (by rw [hst]; exact en_lt st st (by omega) hp) )))))))))))))))
  · refine eO_n (e_kb (st := st) (e := e) (dl := dl) (dc := dc) (DS := DS) (SC := SC) (ac := ac) C (by omega) (by omega) S0) (fun post r u hq hp => ?_)
    · obtain ⟨f_width, f_historyCap, f_ringCap, f_length, f_cursor, f_historyCount, f_nav, f_draftLength, f_ringCount, f_yankIndex, f_undoDepth, f_mode, f_last, f_accepted, f_queryLength, f_match, f_matchStart, f_displayLength, f_displayCursor, f_terminalRow, f_terminalCol, a_buffer, a_history, a_historyLengths, a_draft, a_ring, a_ringLengths, a_undoTexts, a_undoLengths, a_undoCursors, a_query, a_display, a_screen⟩ := u
      unfold wpX_editKey
      exact xp_f (Or.inl (by decide)) (br_t rfl (br_f (by decide) (br_f (by decide) (br_f (by decide) (br_f (by decide) (br_f (by decide) (br_f (by decide) (br_f (by decide) (br_f (by decide) (br_t rfl (br_f (by decide) (br_f (by decide) (br_t rfl ( xwl (by omega) (by rw [hst]; exact hq _ hp) ))))))))))))))
theorem e_yank (C : eC w hh rr n k hc nav dn kc y ud mo la ql p m B H HL D R RL U UL UK Q B' H' HL' D' R' RL' U' UL' UK' Q') (P : eP w n k mo ql p m B H HL Q dl dc DS SC) (S0 : mo = 0 ∧ m = -1 ∧ ql = 0) : eO (fun post => wpX_editKey post (nI w, nI hh, nI rr, nI n, nI k, nI hc, nI nav, nI dn, nI kc, nI y, nI ud, nI mo, nI la, ac, nI ql, m, nI p, nI dl, nI dc, nI (dc / w), nI (dc % w), B, H, HL, D, R, RL, U, UL, UK, Q, DS, SC) 25) := by
  obtain ⟨⟨⟨hw1, hw2⟩, ⟨hh1, hh2⟩, ⟨hr1, hr2⟩, ⟨hn, hk⟩, ⟨hhc, hnav⟩, hdn, hkc, hud, hql⟩, hB, hH, hD, hR, hU, hQ, hL, hS⟩ := id C
  by_cases c : kc = 0
  · subst c
    exact eO_0 (nI w, nI hh, nI rr, nI n, nI k, nI hc, nI nav, nI dn, nI 0, nI y, nI ud, nI mo, nI la, ac, nI ql, m, nI p, nI dl, nI dc, nI (dc / w), nI (dc % w), B, H, HL, D, R, RL, U, UL, UK, Q, DS, SC) (e_I C P) (fun post hp => by unfold wpX_editKey; exact xp_f (Or.inl (by decide)) (br_t rfl (br_f (by decide) (br_f (by decide) (br_f (by decide) (br_f (by decide) (br_f (by decide) (br_f (by decide) (br_f (by decide) (br_f (by decide) (br_f (by decide) (br_t rfl ( ey_eq 0 0 rfl hp )))))))))))))
  · obtain ⟨l, hl, hlx, hly, hg⟩ := hR 0 (by omega)
    rw [Nat.zero_mul] at hg
    have hx : nI n + RL' 0 = nI (n + l) := by rw [hly]; exact nI_add n l
    by_cases c2 : n + l ≤ 32
    · have hud2 := ep_le hud
      exact eO_1 (nI w, nI hh, nI rr, nI (n + l), nI (k + l), nI hc, nI nav, nI dn, nI kc, nI 0, nI (ep_n ud), nI mo, 3, ac, nI ql, m, nI p, nI dl, nI dc, nI (dc / w), nI (dc % w), ec_cp R ((kc - 1 - 0) * 32) (ec_cp B k B (k + l) (n - k)) k l, H, HL, D, R, RL, ep_U B U n ud, ep_L UL (nI n) ud, ep_L UK (nI k) ud, Q, DS, SC) (e_K (B' := ec_cp R' 0 (ec_cp B' k B' (k + l) (n - k)) k l) (H' := H') (HL' := HL') (D' := D') (R' := R') (RL' := RL') (U' := ep_U B' U' 32 ud) (UL' := ep_L UL' (nI n) ud) (UK' := ep_L UK' (nI k) ud) (Q' := Q') (la := 3) (y := 0) ⟨⟨⟨hw1, hw2⟩, ⟨hh1, hh2⟩, ⟨hr1, hr2⟩, ⟨by omega, by omega⟩, ⟨by omega, by omega⟩, by omega, by omega, by omega, by omega⟩, eg_ins hB hk hg, hH, hD, hR, ep_eu hU hud hn hk hB, hQ, eL_3 (by omega) hly (by omega), Or.inl S0⟩) (fun post hp => by unfold wpX_editKey; exact xp_f (Or.inl (by decide)) (br_t rfl (br_f (by decide) (br_f (by decide) (br_f (by decide) (br_f (by decide) (br_f (by decide) (br_f (by decide) (br_f (by decide) (br_f (by decide) (br_f (by decide) (br_t rfl ( en_eq kc 0 c (xkl kc 0 l (by omega) (by omega) hlx (ey_le (n + l) 32 c2 (xpu hn hud (xik kc 0 l n k (by omega) (by omega) c2 hk hlx hp)))) )))))))))))))
    · exact eO_0 (nI w, nI hh, nI rr, nI n, nI k, nI hc, nI nav, nI dn, nI kc, nI y, nI ud, nI mo, nI la, ac, nI ql, m, nI p, nI dl, nI dc, nI (dc / w), nI (dc % w), B, H, HL, D, R, RL, U, UL, UK, Q, DS, SC) (e_I C P) (fun post hp => by unfold wpX_editKey; exact xp_f (Or.inl (by decide)) (br_t rfl (br_f (by decide) (br_f (by decide) (br_f (by decide) (br_f (by decide) (br_f (by decide) (br_f (by decide) (br_f (by decide) (br_f (by decide) (br_f (by decide) (br_t rfl ( en_eq kc 0 c (xkl kc 0 l (by omega) (by omega) hlx (en_le (n + l) 32 (by omega) hp)) )))))))))))))
theorem e_pop (C : eC w hh rr n k hc nav dn kc y ud mo la ql p m B H HL D R RL U UL UK Q B' H' HL' D' R' RL' U' UL' UK' Q') (P : eP w n k mo ql p m B H HL Q dl dc DS SC) (S0 : mo = 0 ∧ m = -1 ∧ ql = 0) : eO (fun post => wpX_editKey post (nI w, nI hh, nI rr, nI n, nI k, nI hc, nI nav, nI dn, nI kc, nI y, nI ud, nI mo, nI la, ac, nI ql, m, nI p, nI dl, nI dc, nI (dc / w), nI (dc % w), B, H, HL, D, R, RL, U, UL, UK, Q, DS, SC) 203) := by
  obtain ⟨⟨⟨hw1, hw2⟩, ⟨hh1, hh2⟩, ⟨hr1, hr2⟩, ⟨hn, hk⟩, ⟨hhc, hnav⟩, hdn, hkc, hud, hql⟩, hB, hH, hD, hR, hU, hQ, hL, hS⟩ := id C
  have hla := hL.1
  by_cases c : la = 3
  · subst c
    obtain ⟨hy, l, hly, hlk⟩ := hL.2.2 rfl
    obtain ⟨a, rfl⟩ : ∃ a, k = a + l := ⟨k - l, by omega⟩
    obtain ⟨l2, hl, hlx, hly2, _⟩ := hR y hy
    obtain rfl : l2 = l := (nI_eq (by omega) (by omega)).mp (hly2.symm.trans hly)
    obtain ⟨z, hz⟩ : ∃ z, (y + 1) % kc = z := ⟨_, rfl⟩
    have hzc : z < kc := by rw [← hz]; exact Nat.mod_lt _ (by omega)
    have hrem : (nI y + 1) - (nI y + 1) / nI kc * nI kc = nI z := by rw [nI_1, pk_rem (by omega) (by omega) (by omega), hz]
    obtain ⟨s, hs, hsx, hsy, hg⟩ := hR z hzc
    have hne : ¬ nI kc = 0 := nI_ne0 (by omega) (by omega)
    have hdel : eg (ec_cp B (a + l2) B a (n - a - l2)) (ez B' n a l2) 0 0 (n - l2) := eg_del hB hk (ez_p l2 hk)
    have e1 : nI (a + l2) - nI l2 = nI a := by rw [pk_sub (by omega)]; exact congrArg nI (by omega)
    by_cases c2 : n - l2 + s ≤ 32
    · exact eO_1 (nI w, nI hh, nI rr, nI (n - l2 + s), nI (a + s), nI hc, nI nav, nI dn, nI kc, nI z, nI ud, nI mo, 3, ac, nI ql, m, nI p, nI dl, nI dc, nI (dc / w), nI (dc % w), ec_cp R ((kc - 1 - z) * 32) (ec_cp (ec_cp B (a + l2) B a (n - a - l2)) a (ec_cp B (a + l2) B a (n - a - l2)) (a + s) (n - l2 - a)) a s, H, HL, D, R, RL, U, UL, UK, Q, DS, SC) (e_K (B' := ec_cp R' (z * 32) (ec_cp (ez B' n a l2) a (ez B' n a l2) (a + s) (n - l2 - a)) a s) (H' := H') (HL' := HL') (D' := D') (R' := R') (RL' := RL') (U' := U') (UL' := UL') (UK' := UK') (Q' := Q') (la := 3) (y := z) ⟨⟨⟨hw1, hw2⟩, ⟨hh1, hh2⟩, ⟨hr1, hr2⟩, ⟨by omega, by omega⟩, ⟨by omega, by omega⟩, by omega, by omega, by omega, by omega⟩, eg_ins hdel (by omega) hg, hH, hD, hR, hU, hQ, eL_3 hzc hsy (by omega), Or.inl S0⟩) (fun post hp => by unfold wpX_editKey; exact xp_f (Or.inr (by decide)) (br_t rfl (br_f (by decide) (br_f (by decide) (br_f (by decide) (br_f (by decide) (br_f (by decide) (br_f (by decide) (br_f (by decide) (br_f (by decide) (br_f (by decide) (br_f (by decide) (br_f (by decide) (br_f (by decide) (br_t rfl ( br_t rfl (en_eq kc 0 (by omega) ⟨hne, nm_r hrem (xkl kc y l2 hy (by omega) hlx (xkl kc z s hzc (by omega) hsx (ey_le (n - l2 + s) 32 c2 (nm_r e1 (xcg a l2 n hn hk (xik kc z s (n - l2) a hzc (by omega) c2 (by omega) hsx hp))))))⟩) ))))))))))))))))
    · exact eO_0 (nI w, nI hh, nI rr, nI n, nI (a + l2), nI hc, nI nav, nI dn, nI kc, nI y, nI ud, nI mo, nI 3, ac, nI ql, m, nI p, nI dl, nI dc, nI (dc / w), nI (dc % w), B, H, HL, D, R, RL, U, UL, UK, Q, DS, SC) (e_I C P) (fun post hp => by unfold wpX_editKey; exact xp_f (Or.inr (by decide)) (br_t rfl (br_f (by decide) (br_f (by decide) (br_f (by decide) (br_f (by decide) (br_f (by decide) (br_f (by decide) (br_f (by decide) (br_f (by decide) (br_f (by decide) (br_f (by decide) (br_f (by decide) (br_f (by decide) (br_t rfl ( br_t rfl (en_eq kc 0 (by omega) ⟨hne, nm_r hrem (xkl kc y l2 hy (by omega) hlx (xkl kc z s hzc (by omega) hsx (en_le (n - l2 + s) 32 (by omega) hp)))⟩) ))))))))))))))))
  · exact eO_0 (nI w, nI hh, nI rr, nI n, nI k, nI hc, nI nav, nI dn, nI kc, nI y, nI ud, nI mo, nI la, ac, nI ql, m, nI p, nI dl, nI dc, nI (dc / w), nI (dc % w), B, H, HL, D, R, RL, U, UL, UK, Q, DS, SC) (e_I C P) (fun post hp => by unfold wpX_editKey; exact xp_f (Or.inr (by decide)) (br_t rfl (br_f (by decide) (br_f (by decide) (br_f (by decide) (br_f (by decide) (br_f (by decide) (br_f (by decide) (br_f (by decide) (br_f (by decide) (br_f (by decide) (br_f (by decide) (br_f (by decide) (br_f (by decide) (br_t rfl ( en_eq la 3 c hp ))))))))))))))))
end
