/-! W: search mode -/
theorem eh_L {F L G M : Nat → Int32} {c : Nat} (h : eh F L G M c) : ∀ i, i < c → ∃ l, l ≤ 32 ∧ L i = nI l := fun i hi => by
  obtain ⟨l, hl, a, _, _⟩ := h i hi
  exact ⟨l, hl, a⟩
theorem eh_M {F L G M : Nat → Int32} {c : Nat} (h : eh F L G M c) : ∀ i, i < c → ∃ l, l ≤ 32 ∧ M i = nI l := fun i hi => by
  obtain ⟨l, hl, _, a, _⟩ := h i hi
  exact ⟨l, hl, a⟩
theorem eg_q {Q P : Nat → Int32} {q : Nat} {c : Int32} (h : eg Q P 0 0 q) (hc : ¬ c < 0) : eg (upd Q q c) (upd P q c) 0 0 (q + 1) := by
  have h1 : eg (upd Q q c) (upd P q c) 0 0 q := eg_u h (by omega) (by omega)
  have h2 : eg (upd Q q c) (upd P q c) (0 + q) (0 + q) 1 := by
    rw [Nat.zero_add]
    exact eg_1 hc
  exact eg_app h1 h2
section
variable {w hh rr n k hc nav dn kc y ud mo la ql p dl dc : Nat} {m ac xdl xdc xtr xtc : Int32} {B H HL D R RL U UL UK Q DS SC B' H' HL' D' R' RL' U' UL' UK' Q' : Nat → Int32}
theorem s_cancel (C : eC w hh rr n k hc nav dn kc y ud mo la ql p m B H HL D R RL U UL UK Q B' H' HL' D' R' RL' U' UL' UK' Q') (P : eP w n k mo ql p m B H HL Q dl dc DS SC) (S1 : mo = 1 ∧ la = 0 ∧ ((m = -1 ∧ ql = 0) ∨ ∃ i l, m = nI i ∧ i < hc ∧ HL' i = nI l ∧ l ≤ 32 ∧ p + ql ≤ l ∧ ex H' Q' (i * 32 + p) ql)) : eO (fun post => wpX_searchKey post (nI w, nI hh, nI rr, nI n, nI k, nI hc, nI nav, nI dn, nI kc, nI y, nI ud, nI mo, nI la, ac, nI ql, m, nI p, nI dl, nI dc, nI (dc / w), nI (dc % w), B, H, HL, D, R, RL, U, UL, UK, Q, DS, SC) 7) := by
  obtain ⟨⟨⟨hw1, hw2⟩, ⟨hh1, hh2⟩, ⟨hr1, hr2⟩, ⟨hn, hk⟩, ⟨hhc, hnav⟩, hdn, hkc, hud, hql⟩, hB, hH, hD, hR, hU, hQ, hL, hS⟩ := id C
  exact eO_1 (nI w, nI hh, nI rr, nI n, nI k, nI hc, nI nav, nI dn, nI kc, nI y, nI ud, 0, nI la, ac, 0, (-1), nI p, nI dl, nI dc, nI (dc / w), nI (dc % w), B, H, HL, D, R, RL, U, UL, UK, Q, DS, SC) (e_K (B' := B') (H' := H') (HL' := HL') (D' := D') (R' := R') (RL' := RL') (U' := U') (UL' := UL') (UK' := UK') (Q' := Q') (mo := 0) (ql := 0) (m := -1) ⟨⟨⟨hw1, hw2⟩, ⟨hh1, hh2⟩, ⟨hr1, hr2⟩, ⟨by omega, by omega⟩, ⟨by omega, by omega⟩, by omega, by omega, by omega, by omega⟩, hB, hH, hD, hR, hU, eg_0, hL, Or.inl ⟨rfl, rfl, rfl⟩⟩) (fun post hp => by unfold wpX_searchKey; exact xp_f (Or.inl (by decide)) (br_t rfl (br_t rfl hp)))
theorem s_enter (C : eC w hh rr n k hc nav dn kc y ud mo la ql p m B H HL D R RL U UL UK Q B' H' HL' D' R' RL' U' UL' UK' Q') (P : eP w n k mo ql p m B H HL Q dl dc DS SC) (S1 : mo = 1 ∧ la = 0 ∧ ((m = -1 ∧ ql = 0) ∨ ∃ i l, m = nI i ∧ i < hc ∧ HL' i = nI l ∧ l ≤ 32 ∧ p + ql ≤ l ∧ ex H' Q' (i * 32 + p) ql)) : eO (fun post => wpX_searchKey post (nI w, nI hh, nI rr, nI n, nI k, nI hc, nI nav, nI dn, nI kc, nI y, nI ud, nI mo, nI la, ac, nI ql, m, nI p, nI dl, nI dc, nI (dc / w), nI (dc % w), B, H, HL, D, R, RL, U, UL, UK, Q, DS, SC) 13) := by
  obtain ⟨⟨⟨hw1, hw2⟩, ⟨hh1, hh2⟩, ⟨hr1, hr2⟩, ⟨hn, hk⟩, ⟨hhc, hnav⟩, hdn, hkc, hud, hql⟩, hB, hH, hD, hR, hU, hQ, hL, hS⟩ := id C
  obtain ⟨rfl, rfl, ⟨rfl, rfl⟩ | ⟨i, l, rfl, hi, hly, hl, hpl, hx⟩⟩ := S1
  · exact eO_1 (nI w, nI hh, nI rr, nI n, nI k, nI hc, nI nav, nI dn, nI kc, nI y, nI ud, 0, nI 0, ac, 0, (-1), nI p, nI dl, nI dc, nI (dc / w), nI (dc % w), B, H, HL, D, R, RL, U, UL, UK, Q, DS, SC) (e_K (B' := B') (H' := H') (HL' := HL') (D' := D') (R' := R') (RL' := RL') (U' := U') (UL' := UL') (UK' := UK') (Q' := Q') (mo := 0) (ql := 0) (m := -1) ⟨⟨⟨hw1, hw2⟩, ⟨hh1, hh2⟩, ⟨hr1, hr2⟩, ⟨by omega, by omega⟩, ⟨by omega, by omega⟩, by omega, by omega, by omega, by omega⟩, hB, hH, hD, hR, hU, eg_0, hL, Or.inl ⟨rfl, rfl, rfl⟩⟩) (fun post hp => by unfold wpX_searchKey; exact xp_f (Or.inl (by decide)) (br_t rfl (br_f (by decide) (br_f (by decide) (br_t rfl (br_t (by decide) hp))))))
  · obtain ⟨l2, _, a1, a2, hg⟩ := hH i hi
    obtain rfl : l2 = l := (nI_eq (by omega) (by omega)).mp (a2.symm.trans hly)
    exact eO_1 (nI w, nI hh, nI rr, nI l2, nI p, nI hc, nI nav, nI dn, nI kc, nI y, 0, 0, nI 0, ac, 0, (-1), nI p, nI dl, nI dc, nI (dc / w), nI (dc % w), ec_cp H (i * 32) B 0 l2, H, HL, D, R, RL, U, UL, UK, Q, DS, SC) (e_K (B' := ec_cp H' (i * 32) B' 0 32) (H' := H') (HL' := HL') (D' := D') (R' := R') (RL' := RL') (U' := U') (UL' := UL') (UK' := UK') (Q' := Q') (mo := 0) (ql := 0) (m := -1) (ud := 0) (la := 0) ⟨⟨⟨hw1, hw2⟩, ⟨hh1, hh2⟩, ⟨hr1, hr2⟩, ⟨by omega, by omega⟩, ⟨by omega, by omega⟩, by omega, by omega, by omega, by omega⟩, eg_cp hg (Nat.le_refl _) hl, hH, hD, hR, eu_0, eg_0, eL_0, Or.inl ⟨rfl, rfl, rfl⟩⟩) (fun post hp => by unfold wpX_searchKey; exact xp_f (Or.inl (by decide)) (br_t rfl (br_f (by decide) (br_f (by decide) (br_t rfl (br_f (nI_pos (by omega)) (xlh i l2 (by omega) hl a1 hp)))))))
theorem s_back (C : eC w hh rr n k hc nav dn kc y ud mo la ql p m B H HL D R RL U UL UK Q B' H' HL' D' R' RL' U' UL' UK' Q') (P : eP w n k mo ql p m B H HL Q dl dc DS SC) (S1 : mo = 1 ∧ la = 0 ∧ ((m = -1 ∧ ql = 0) ∨ ∃ i l, m = nI i ∧ i < hc ∧ HL' i = nI l ∧ l ≤ 32 ∧ p + ql ≤ l ∧ ex H' Q' (i * 32 + p) ql)) : eO (fun post => wpX_searchKey post (nI w, nI hh, nI rr, nI n, nI k, nI hc, nI nav, nI dn, nI kc, nI y, nI ud, nI mo, nI la, ac, nI ql, m, nI p, nI dl, nI dc, nI (dc / w), nI (dc % w), B, H, HL, D, R, RL, U, UL, UK, Q, DS, SC) 8) := by
  obtain ⟨⟨⟨hw1, hw2⟩, ⟨hh1, hh2⟩, ⟨hr1, hr2⟩, ⟨hn, hk⟩, ⟨hhc, hnav⟩, hdn, hkc, hud, hql⟩, hB, hH, hD, hR, hU, hQ, hL, hS⟩ := id C
  by_cases c : ql = 0
  · subst c
    exact eO_0 (nI w, nI hh, nI rr, nI n, nI k, nI hc, nI nav, nI dn, nI kc, nI y, nI ud, nI mo, nI la, ac, nI 0, m, nI p, nI dl, nI dc, nI (dc / w), nI (dc % w), B, H, HL, D, R, RL, U, UL, UK, Q, DS, SC) (e_I C P) (fun post hp => by unfold wpX_searchKey; exact xp_f (Or.inl (by decide)) (br_t rfl (br_f (by decide) (br_t rfl (ey_eq 0 0 rfl hp)))))
  · obtain ⟨rfl, rfl, ⟨rfl, h0⟩ | ⟨i, l, rfl, hi, hly, hl, hpl, hx⟩⟩ := S1
    · exact absurd h0 c
    · obtain ⟨l2, _, a1, a2, hg⟩ := hH i hi
      obtain rfl : l2 = l := (nI_eq (by omega) (by omega)).mp (a2.symm.trans hly)
      obtain ⟨t, ht⟩ := ei_less (y := ql - 1) hl a2 hpl hx (by omega)
      have hX : ei H HL Q (ql - 1) i = some t := (ei_c hH hi (fun j hj => (eg_at hQ (by omega)).1)).trans ht
      have hf := ei_some hl a2 ht
      exact eO_1 (nI w, nI hh, nI rr, nI n, nI k, nI hc, nI nav, nI dn, nI kc, nI y, nI ud, nI 1, nI 0, ac, nI (ql - 1), nI i, nI t, nI dl, nI dc, nI (dc / w), nI (dc % w), B, H, HL, D, R, RL, U, UL, UK, Q, DS, SC) (e_K (B' := B') (H' := H') (HL' := HL') (D' := D') (R' := R') (RL' := RL') (U' := U') (UL' := UL') (UK' := UK') (Q' := Q') (mo := 1) (la := 0) ⟨⟨⟨hw1, hw2⟩, ⟨hh1, hh2⟩, ⟨hr1, hr2⟩, ⟨by omega, by omega⟩, ⟨by omega, by omega⟩, by omega, by omega, by omega, by omega⟩, hB, hH, hD, hR, hU, eg_le hQ (by omega), eL_0, Or.inr ⟨rfl, rfl, Or.inr ⟨i, l2, rfl, hi, a2, hl, hf.1, hf.2⟩⟩⟩) (fun post hp => by unfold wpX_searchKey; exact xp_f (Or.inl (by decide)) (br_t rfl (br_f (by decide) (br_t rfl (en_eq ql 0 c (br_t (nI_pos' (by omega)) (nm_r (en_s1 (by omega)) (xsi i (ql - 1) l2 (by omega) hl (by omega) a1 (by rw [hX]; exact hp)))))))))
/-- the next older entry, from below f -/
theorem s_22 (C : eC w hh rr n k hc nav dn kc y ud mo la ql p m B H HL D R RL U UL UK Q B' H' HL' D' R' RL' U' UL' UK' Q') (P : eP w n k mo ql p m B H HL Q dl dc DS SC) (hmo : mo = 1) (hla : la = 0) {f : Nat} (hf : f ≤ hc) : eO (fun post => wX_searchOlder_22 post (nI f - 1) (nI w) (nI hh) (nI rr) (nI n) (nI k) (nI hc) (nI nav) (nI dn) (nI kc) (nI y) (nI ud) (nI mo) (nI la) ac (nI ql) m (nI p) (nI dl) (nI dc) (nI (dc / w)) (nI (dc % w)) B H HL D R RL U UL UK Q DS SC) := by
  obtain ⟨⟨⟨hw1, hw2⟩, ⟨hh1, hh2⟩, ⟨hr1, hr2⟩, ⟨hn, hk⟩, ⟨hhc, hnav⟩, hdn, hkc, hud, hql⟩, hB, hH, hD, hR, hU, hQ, hL, hS⟩ := id C
  have hef : ef H HL Q ql f = ef H' HL' Q' ql f := ef_c hH (fun j hj => (eg_at hQ hj).1) f hf
  cases hs : ef H' HL' Q' ql f with
  | none =>
    rw [hs] at hef
    exact eO_0 (nI w, nI hh, nI rr, nI n, nI k, nI hc, nI nav, nI dn, nI kc, nI y, nI ud, nI mo, nI la, ac, nI ql, m, nI p, nI dl, nI dc, nI (dc / w), nI (dc % w), B, H, HL, D, R, RL, U, UL, UK, Q, DS, SC) (e_I C P) (fun post hp => xsk f ql hc (by omega) hql (eh_L hH) hf (fun _ => hp) (fun m s h => absurd (h.symm.trans hef) (by simp)) rfl)
  | some q =>
    obtain ⟨j, s⟩ := q
    rw [hs] at hef
    have hj := ef_some f hs
    obtain ⟨l, hl, a1, a2, hg⟩ := hH j (by omega)
    have hi := ei_some hl a2 hj.2
    exact eO_1 (nI w, nI hh, nI rr, nI n, nI k, nI hc, nI nav, nI dn, nI kc, nI y, nI ud, nI mo, nI la, ac, nI ql, nI j, nI s, nI dl, nI dc, nI (dc / w), nI (dc % w), B, H, HL, D, R, RL, U, UL, UK, Q, DS, SC) (e_K (B' := B') (H' := H') (HL' := HL') (D' := D') (R' := R') (RL' := RL') (U' := U') (UL' := UL') (UK' := UK') (Q' := Q') ⟨⟨⟨hw1, hw2⟩, ⟨hh1, hh2⟩, ⟨hr1, hr2⟩, ⟨by omega, by omega⟩, ⟨by omega, by omega⟩, by omega, by omega, by omega, by omega⟩, hB, hH, hD, hR, hU, hQ, hL, Or.inr ⟨hmo, hla, Or.inr ⟨j, l, rfl, by omega, a2, hl, hi.1, hi.2⟩⟩⟩) (fun post hp => xsk f ql hc (by omega) hql (eh_L hH) hf (fun h => absurd (h.symm.trans hef) (by simp)) (fun m' s' h => by
        obtain ⟨rfl, rfl⟩ := Prod.mk.inj (Option.some.inj (hef.symm.trans h))
        exact hp) rfl)
theorem s_older (C : eC w hh rr n k hc nav dn kc y ud mo la ql p m B H HL D R RL U UL UK Q B' H' HL' D' R' RL' U' UL' UK' Q') (P : eP w n k mo ql p m B H HL Q dl dc DS SC) (S1 : mo = 1 ∧ la = 0 ∧ ((m = -1 ∧ ql = 0) ∨ ∃ i l, m = nI i ∧ i < hc ∧ HL' i = nI l ∧ l ≤ 32 ∧ p + ql ≤ l ∧ ex H' Q' (i * 32 + p) ql)) : eO (fun post => wpX_searchKey post (nI w, nI hh, nI rr, nI n, nI k, nI hc, nI nav, nI dn, nI kc, nI y, nI ud, nI mo, nI la, ac, nI ql, m, nI p, nI dl, nI dc, nI (dc / w), nI (dc % w), B, H, HL, D, R, RL, U, UL, UK, Q, DS, SC) 18) := by
  obtain ⟨⟨⟨hw1, hw2⟩, ⟨hh1, hh2⟩, ⟨hr1, hr2⟩, ⟨hn, hk⟩, ⟨hhc, hnav⟩, hdn, hkc, hud, hql⟩, hB, hH, hD, hR, hU, hQ, hL, hS⟩ := id C
  obtain ⟨hmo, hla, ⟨rfl, rfl⟩ | ⟨i, l, rfl, hi, hly, hl, hpl, hx⟩⟩ := S1
  · refine eO_n (s_22 (ac := ac) C P hmo hla (f := hc) (Nat.le_refl _)) (fun post r u hq hp => ?_)
    · obtain ⟨f_width, f_historyCap, f_ringCap, f_length, f_cursor, f_historyCount, f_nav, f_draftLength, f_ringCount, f_yankIndex, f_undoDepth, f_mode, f_last, f_accepted, f_queryLength, f_match, f_matchStart, f_displayLength, f_displayCursor, f_terminalRow, f_terminalCol, a_buffer, a_history, a_historyLengths, a_draft, a_ring, a_ringLengths, a_undoTexts, a_undoLengths, a_undoCursors, a_query, a_display, a_screen⟩ := u
      unfold wpX_searchKey
      exact xp_f (Or.inl (by decide)) (br_t rfl (br_f (by decide) (br_f (by decide) (br_f (by decide) (br_t rfl (br_t (by decide) (hq _ hp)))))))
  · refine eO_n (s_22 (ac := ac) C P hmo hla (f := i) (by omega)) (fun post r u hq hp => ?_)
    · obtain ⟨f_width, f_historyCap, f_ringCap, f_length, f_cursor, f_historyCount, f_nav, f_draftLength, f_ringCount, f_yankIndex, f_undoDepth, f_mode, f_last, f_accepted, f_queryLength, f_match, f_matchStart, f_displayLength, f_displayCursor, f_terminalRow, f_terminalCol, a_buffer, a_history, a_historyLengths, a_draft, a_ring, a_ringLengths, a_undoTexts, a_undoLengths, a_undoCursors, a_query, a_display, a_screen⟩ := u
      unfold wpX_searchKey
      exact xp_f (Or.inl (by decide)) (br_t rfl (br_f (by decide) (br_f (by decide) (br_f (by decide) (br_t rfl (br_f (nI_pos (by omega)) (hq _ hp)))))))
/-- one char more -/
theorem s_41 (C : eC w hh rr n k hc nav dn kc y ud mo la ql p m B H HL D R RL U UL UK Q B' H' HL' D' R' RL' U' UL' UK' Q') (P : eP w n k mo ql p m B H HL Q dl dc DS SC) (S1 : mo = 1 ∧ la = 0 ∧ ((m = -1 ∧ ql = 0) ∨ ∃ i l, m = nI i ∧ i < hc ∧ HL' i = nI l ∧ l ≤ 32 ∧ p + ql ≤ l ∧ ex H' Q' (i * 32 + p) ql)) {f : Nat} {c : Int32} (hc0 : ¬ c < 0) (hq16 : ql < 16) (hf : f ≤ hc) : eO (fun post => wX_growQuery_41 post (nI f - 1) (nI w) (nI hh) (nI rr) (nI n) (nI k) (nI hc) (nI nav) (nI dn) (nI kc) (nI y) (nI ud) (nI mo) (nI la) ac (nI ql) m (nI p) (nI dl) (nI dc) (nI (dc / w)) (nI (dc % w)) B H HL D R RL U UL UK (upd Q ql c) DS SC) := by
  obtain ⟨⟨⟨hw1, hw2⟩, ⟨hh1, hh2⟩, ⟨hr1, hr2⟩, ⟨hn, hk⟩, ⟨hhc, hnav⟩, hdn, hkc, hud, hql⟩, hB, hH, hD, hR, hU, hQ, hL, hS⟩ := id C
  have hQ1 := eg_q hQ hc0
  have hef : ef H HL (upd Q ql c) (ql + 1) f = ef H' HL' (upd Q' ql c) (ql + 1) f := ef_c hH (fun j hj => (eg_at hQ1 hj).1) f hf
  cases hs : ef H' HL' (upd Q' ql c) (ql + 1) f with
  | none =>
    rw [hs] at hef
    have C1 : eC w hh rr n k hc nav dn kc y ud mo la ql p m B H HL D R RL U UL UK (upd Q ql c) B' H' HL' D' R' RL' U' UL' UK' (upd Q' ql c) := by
      refine ⟨⟨⟨hw1, hw2⟩, ⟨hh1, hh2⟩, ⟨hr1, hr2⟩, ⟨by omega, by omega⟩, ⟨by omega, by omega⟩, by omega, by omega, by omega, by omega⟩, hB, hH, hD, hR, hU, eg_le hQ1 (by omega), hL, Or.inr ⟨S1.1, S1.2.1, ?_⟩⟩
      rcases S1.2.2 with h | ⟨i, l, e, hi, hly, hl, hpl, hx⟩
      · exact Or.inl h
      · exact Or.inr ⟨i, l, e, hi, hly, hl, hpl, fun j hj => (hx j hj).trans (ec_un (by omega)).symm⟩
    have P1 : eP w n k mo ql p m B H HL (upd Q ql c) dl dc DS SC := by
      obtain ⟨p1, p2, p3, h | ⟨e, p4, p5, p6⟩⟩ := P
      · exact ⟨p1, p2, p3, Or.inl h⟩
      · exact ⟨p1, p2, p3, Or.inr ⟨e, p4, fun j hj => (p5 j hj).trans (ec_un (by omega)).symm, p6⟩⟩
    exact eO_0 (nI w, nI hh, nI rr, nI n, nI k, nI hc, nI nav, nI dn, nI kc, nI y, nI ud, nI mo, nI la, ac, nI ql, m, nI p, nI dl, nI dc, nI (dc / w), nI (dc % w), B, H, HL, D, R, RL, U, UL, UK, upd Q ql c, DS, SC) (e_I C1 P1) (fun post hp => xsk f (ql + 1) hc (by omega) (by omega) (eh_L hH) hf (fun _ => hp) (fun m s h => absurd (h.symm.trans hef) (by simp)) rfl)
  | some q =>
    obtain ⟨j, s⟩ := q
    rw [hs] at hef
    have hj := ef_some f hs
    obtain ⟨l, hl, a1, a2, hg⟩ := hH j (by omega)
    have hi := ei_some hl a2 hj.2
    exact eO_1 (nI w, nI hh, nI rr, nI n, nI k, nI hc, nI nav, nI dn, nI kc, nI y, nI ud, nI mo, nI la, ac, nI (ql + 1), nI j, nI s, nI dl, nI dc, nI (dc / w), nI (dc % w), B, H, HL, D, R, RL, U, UL, UK, upd Q ql c, DS, SC) (e_K (B' := B') (H' := H') (HL' := HL') (D' := D') (R' := R') (RL' := RL') (U' := U') (UL' := UL') (UK' := UK') (Q' := upd Q' ql c) ⟨⟨⟨hw1, hw2⟩, ⟨hh1, hh2⟩, ⟨hr1, hr2⟩, ⟨by omega, by omega⟩, ⟨by omega, by omega⟩, by omega, by omega, by omega, by omega⟩, hB, hH, hD, hR, hU, hQ1, hL, Or.inr ⟨S1.1, S1.2.1, Or.inr ⟨j, l, rfl, by omega, a2, hl, hi.1, hi.2⟩⟩⟩) (fun post hp => xsk f (ql + 1) hc (by omega) (by omega) (eh_L hH) hf (fun h => absurd (h.symm.trans hef) (by simp)) (fun m' s' h => by
        obtain ⟨rfl, rfl⟩ := Prod.mk.inj (Option.some.inj (hef.symm.trans h))
        exact hp) rfl)
theorem s_grow (C : eC w hh rr n k hc nav dn kc y ud mo la ql p m B H HL D R RL U UL UK Q B' H' HL' D' R' RL' U' UL' UK' Q') (P : eP w n k mo ql p m B H HL Q dl dc DS SC) (S1 : mo = 1 ∧ la = 0 ∧ ((m = -1 ∧ ql = 0) ∨ ∃ i l, m = nI i ∧ i < hc ∧ HL' i = nI l ∧ l ≤ 32 ∧ p + ql ≤ l ∧ ex H' Q' (i * 32 + p) ql)) {c : Int32} (c1 : ¬ c < 32) (c2 : ¬ 126 < c) : eO (fun post => wpX_searchKey post (nI w, nI hh, nI rr, nI n, nI k, nI hc, nI nav, nI dn, nI kc, nI y, nI ud, nI mo, nI la, ac, nI ql, m, nI p, nI dl, nI dc, nI (dc / w), nI (dc % w), B, H, HL, D, R, RL, U, UL, UK, Q, DS, SC) c) := by
  obtain ⟨⟨⟨hw1, hw2⟩, ⟨hh1, hh2⟩, ⟨hr1, hr2⟩, ⟨hn, hk⟩, ⟨hhc, hnav⟩, hdn, hkc, hud, hql⟩, hB, hH, hD, hR, hU, hQ, hL, hS⟩ := id C
  have cp : ¬ c < 0 := en_ge (Int32.not_lt.mp c1) (by decide)
  by_cases c3 : ql = 16
  · subst c3
    exact eO_0 (nI w, nI hh, nI rr, nI n, nI k, nI hc, nI nav, nI dn, nI kc, nI y, nI ud, nI mo, nI la, ac, nI 16, m, nI p, nI dl, nI dc, nI (dc / w), nI (dc % w), B, H, HL, D, R, RL, U, UL, UK, Q, DS, SC) (e_I C P) (fun post hp => by unfold wpX_searchKey; exact xp_t c1 c2 (br_f (by decide) (en_lt 16 16 (by omega) hp)))
  · rcases S1.2.2 with ⟨rfl, h0⟩ | ⟨i, l, rfl, hi, hly, hl, hpl, hx⟩
    · refine eO_n (s_41 (ac := ac) C P S1 cp (by omega) (f := hc) (Nat.le_refl _)) (fun post r u hq hp => ?_)
      · obtain ⟨f_width, f_historyCap, f_ringCap, f_length, f_cursor, f_historyCount, f_nav, f_draftLength, f_ringCount, f_yankIndex, f_undoDepth, f_mode, f_last, f_accepted, f_queryLength, f_match, f_matchStart, f_displayLength, f_displayCursor, f_terminalRow, f_terminalCol, a_buffer, a_history, a_historyLengths, a_draft, a_ring, a_ringLengths, a_undoTexts, a_undoLengths, a_undoCursors, a_query, a_display, a_screen⟩ := u
        unfold wpX_searchKey
        exact xp_t c1 c2 (br_f (by decide) (ey_lt ql 16 (by omega) ⟨en_in ql (by omega), nm_r (en_u ql) (br_t (by decide) (hq _ hp))⟩))
    · have h41 := s_41 (ac := ac) C P S1 cp (by omega) (f := i + 1) (by omega)
      rw [nI_pred] at h41
      refine eO_n h41 (fun post r u hq hp => ?_)
      · obtain ⟨f_width, f_historyCap, f_ringCap, f_length, f_cursor, f_historyCount, f_nav, f_draftLength, f_ringCount, f_yankIndex, f_undoDepth, f_mode, f_last, f_accepted, f_queryLength, f_match, f_matchStart, f_displayLength, f_displayCursor, f_terminalRow, f_terminalCol, a_buffer, a_history, a_historyLengths, a_draft, a_ring, a_ringLengths, a_undoTexts, a_undoLengths, a_undoCursors, a_query, a_display, a_screen⟩ := u
        unfold wpX_searchKey
        exact xp_t c1 c2 (br_f (by decide) (ey_lt ql 16 (by omega) ⟨en_in ql (by omega), nm_r (en_u ql) (br_f (nI_pos (by omega)) (hq _ hp))⟩))
theorem e_srch (C : eC w hh rr n k hc nav dn kc y ud mo la ql p m B H HL D R RL U UL UK Q B' H' HL' D' R' RL' U' UL' UK' Q') (P : eP w n k mo ql p m B H HL Q dl dc DS SC) (S1 : mo = 1 ∧ la = 0 ∧ ((m = -1 ∧ ql = 0) ∨ ∃ i l, m = nI i ∧ i < hc ∧ HL' i = nI l ∧ l ≤ 32 ∧ p + ql ≤ l ∧ ex H' Q' (i * 32 + p) ql)) (c : Int32) : eO (fun post => wpX_searchKey post (nI w, nI hh, nI rr, nI n, nI k, nI hc, nI nav, nI dn, nI kc, nI y, nI ud, nI mo, nI la, ac, nI ql, m, nI p, nI dl, nI dc, nI (dc / w), nI (dc % w), B, H, HL, D, R, RL, U, UL, UK, Q, DS, SC) c) := by
  by_cases c0 : c < 32 ∨ 126 < c
  · by_cases n7 : c = 7
    · subst n7; exact s_cancel C P S1
    by_cases n8 : c = 8
    · subst n8; exact s_back C P S1
    by_cases n13 : c = 13
    · subst n13; exact s_enter C P S1
    by_cases n18 : c = 18
    · subst n18; exact s_older C P S1
    refine eO_0 (nI w, nI hh, nI rr, nI n, nI k, nI hc, nI nav, nI dn, nI kc, nI y, nI ud, nI mo, nI la, ac, nI ql, m, nI p, nI dl, nI dc, nI (dc / w), nI (dc % w), B, H, HL, D, R, RL, U, UL, UK, Q, DS, SC) (e_I C P) (fun post hp => ?_)
    · unfold wpX_searchKey
      exact xp_f c0 (br_t rfl (br_f n7 (br_f n8 (br_f n13 (br_f n18 hp)))))
  · exact s_grow C P S1 (fun z => c0 (Or.inl z)) (fun z => c0 (Or.inr z))
end
