/-! Z: the other answers -/
theorem i_vc_historyChar {k : Nat} {u : SX} {v : SY} (I : i_Rel k u v) (hk : k + 3 ≤ 1539) (v1 : Int32) (v2 : Int32) : wpX_historyChar (fun r => wpY_historyChar (fun r' => r' = r ∧ i_Rel (k + 3) u v) v v1 v2) u v1 v2 := by
  have I0 : i_Rel (k + 3) u v := I
  revert I0
  obtain ⟨w, hh, rr, n, k9, hc, nav, dn, kc, y, ud, mo, la, ql, p, dl, dc, m, ac, B, H, HL, D, R, RL, U, UL, UK, Q, DS, SC, B', H', HL', D', R', RL', U', UL', UK', Q', rfl, rfl, C, P⟩ := I
  intro I0
  obtain ⟨⟨⟨hw1, hw2⟩, ⟨hh1, hh2⟩, ⟨hr1, hr2⟩, ⟨hn, hk9⟩, ⟨hhc, hnav⟩, hdn, hkc, hud, hql⟩, hB, hH, hD, hR, hU, hQ, hL, hS⟩ := id C
  unfold wpX_historyChar
  rcases pk_ix v1 (n := hc) (by omega) with c | c | ⟨i, hi, rfl⟩
  · exact xw_f (Or.inl c) (br_t rfl (br_t c ⟨rfl, I0⟩))
  · have c0 : ¬ v1 < 0 := en_ge c (nI_pos' (by omega))
    exact xw_f (Or.inr c) (br_t rfl (br_f c0 (br_t c ⟨rfl, I0⟩)))
  · obtain ⟨l, hl, a1, a2, hg⟩ := hH i hi
    have e1 : HL (nI i).toNatClampNeg = nI l := (en_g i).trans a1
    have e2 : HL' (nI i).toNatClampNeg = nI l := (en_g i).trans a2
    refine xw_t i hc hi (br_f (by decide) ⟨en_in i (by omega), ?_⟩)
    rcases pk_ix v2 (n := l) (by omega) with c | c | ⟨j, hj, rfl⟩
    · exact xw_f (Or.inl c) (br_t rfl (br_f (nI_pos (by omega)) (en_le hc i hi (br_t c ⟨rfl, I0⟩))))
    · have c0 : ¬ v2 < 0 := en_ge c (nI_pos' (by omega))
      exact xw_f (Or.inr (by rw [e1]; exact c)) (br_t rfl (br_f (nI_pos (by omega)) (en_le hc i hi (br_f c0 ⟨en_in i (by omega), br_t (by rw [e2]; exact c) ⟨rfl, I0⟩⟩))))
    · have e5 : nI i * 32 + nI j = nI (i * 32 + j) := by rw [en_32, nI_add]
      exact xw_t j l hj (br_f (by decide) ⟨en_in (i * 32 + j) (by omega) e5, br_f (nI_pos (by omega)) (en_le hc i hi (br_f (nI_pos (by omega)) ⟨en_in i (by omega), en_le l j hj ⟨en_in (i * 32 + j) (by omega) e5, ⟨by rw [e5, nI_clamp (by omega)]; exact (hg j hj).1.symm, I0⟩⟩ e2⟩))⟩) rfl e1
theorem i_vc_killChar {k : Nat} {u : SX} {v : SY} (I : i_Rel k u v) (hk : k + 3 ≤ 1539) (v1 : Int32) (v2 : Int32) : wpX_killChar (fun r => wpY_killChar (fun r' => r' = r ∧ i_Rel (k + 3) u v) v v1 v2) u v1 v2 := by
  have I0 : i_Rel (k + 3) u v := I
  revert I0
  obtain ⟨w, hh, rr, n, k9, hc, nav, dn, kc, y, ud, mo, la, ql, p, dl, dc, m, ac, B, H, HL, D, R, RL, U, UL, UK, Q, DS, SC, B', H', HL', D', R', RL', U', UL', UK', Q', rfl, rfl, C, P⟩ := I
  intro I0
  obtain ⟨⟨⟨hw1, hw2⟩, ⟨hh1, hh2⟩, ⟨hr1, hr2⟩, ⟨hn, hk9⟩, ⟨hhc, hnav⟩, hdn, hkc, hud, hql⟩, hB, hH, hD, hR, hU, hQ, hL, hS⟩ := id C
  unfold wpX_killChar
  rcases pk_ix v1 (n := kc) (by omega) with c | c | ⟨i, hi, rfl⟩
  · exact xw_f (Or.inl c) (br_t rfl (br_t c ⟨rfl, I0⟩))
  · have c0 : ¬ v1 < 0 := en_ge c (nI_pos' (by omega))
    exact xw_f (Or.inr c) (br_t rfl (br_f c0 (br_t c ⟨rfl, I0⟩)))
  · obtain ⟨l, hl, a1, a2, hg⟩ := hR i hi
    have e1 : RL (nI (kc - 1 - i)).toNatClampNeg = nI l := (en_g (kc - 1 - i)).trans a1
    have e2 : RL' (nI i).toNatClampNeg = nI l := (en_g i).trans a2
    refine xw_t i kc hi (br_f (by decide) (xrs kc i hi ⟨en_in (kc - 1 - i) (by omega), ?_⟩))
    rcases pk_ix v2 (n := l) (by omega) with c | c | ⟨j, hj, rfl⟩
    · exact xw_f (Or.inl c) (br_t rfl (br_f (nI_pos (by omega)) (en_le kc i hi (br_t c ⟨rfl, I0⟩))))
    · have c0 : ¬ v2 < 0 := en_ge c (nI_pos' (by omega))
      exact xw_f (Or.inr (by rw [e1]; exact c)) (br_t rfl (br_f (nI_pos (by omega)) (en_le kc i hi (br_f c0 ⟨en_in i (by omega), br_t (by rw [e2]; exact c) ⟨rfl, I0⟩⟩))))
    · have e5 : nI i * 32 + nI j = nI (i * 32 + j) := by rw [en_32, nI_add]
      have e6 : nI (kc - 1 - i) * 32 + nI j = nI ((kc - 1 - i) * 32 + j) := by rw [en_32, nI_add]
      exact xw_t j l hj (br_f (by decide) ⟨en_in ((kc - 1 - i) * 32 + j) (by omega) e6, br_f (nI_pos (by omega)) (en_le kc i hi (br_f (nI_pos (by omega)) ⟨en_in i (by omega), en_le l j hj ⟨en_in (i * 32 + j) (by omega) e5, ⟨by rw [e5, e6, nI_clamp (by omega), nI_clamp (by omega)]; exact (hg j hj).1.symm, I0⟩⟩ e2⟩))⟩) rfl e1
theorem i_vc_undoChar {k : Nat} {u : SX} {v : SY} (I : i_Rel k u v) (hk : k + 3 ≤ 1539) (v1 : Int32) (v2 : Int32) : wpX_undoChar (fun r => wpY_undoChar (fun r' => r' = r ∧ i_Rel (k + 3) u v) v v1 v2) u v1 v2 := by
  have I0 : i_Rel (k + 3) u v := I
  revert I0
  obtain ⟨w, hh, rr, n, k9, hc, nav, dn, kc, y, ud, mo, la, ql, p, dl, dc, m, ac, B, H, HL, D, R, RL, U, UL, UK, Q, DS, SC, B', H', HL', D', R', RL', U', UL', UK', Q', rfl, rfl, C, P⟩ := I
  intro I0
  obtain ⟨⟨⟨hw1, hw2⟩, ⟨hh1, hh2⟩, ⟨hr1, hr2⟩, ⟨hn, hk9⟩, ⟨hhc, hnav⟩, hdn, hkc, hud, hql⟩, hB, hH, hD, hR, hU, hQ, hL, hS⟩ := id C
  unfold wpX_undoChar
  rcases pk_ix v1 (n := ud) (by omega) with c | c | ⟨i, hi, rfl⟩
  · exact xw_f (Or.inl c) (br_t rfl (br_t c ⟨rfl, I0⟩))
  · have c0 : ¬ v1 < 0 := en_ge c (nI_pos' (by omega))
    exact xw_f (Or.inr c) (br_t rfl (br_f c0 (br_f (Int32.not_lt.mpr c) ⟨rfl, I0⟩)))
  · obtain ⟨l, t, hl, ht, a1, a2, a3, a4, hg⟩ := hU (ud - 1 - i) (by omega)
    have e0 : (nI ud - 1) - nI i = nI (ud - 1 - i) := by rw [en_s1 (by omega), pk_sub (by omega)]
    have e1 : UL (nI (ud - 1 - i)).toNatClampNeg = nI l := (en_g (ud - 1 - i)).trans a1
    have e2 : UL' (nI (ud - 1 - i)).toNatClampNeg = nI l := (en_g (ud - 1 - i)).trans a2
    refine xw_t i ud hi (br_f (by decide) (xus ud i hi ⟨en_in (ud - 1 - i) (by omega), ?_⟩))
    rcases pk_ix v2 (n := l) (by omega) with c | c | ⟨j, hj, rfl⟩
    · exact xw_f (Or.inl c) (br_t rfl (br_f (nI_pos (by omega)) (ey_lt i ud hi (nm_r e0 (br_t c ⟨rfl, I0⟩)))))
    · have c0 : ¬ v2 < 0 := en_ge c (nI_pos' (by omega))
      exact xw_f (Or.inr (by rw [e1]; exact c)) (br_t rfl (br_f (nI_pos (by omega)) (ey_lt i ud hi (nm_r e0 (br_f c0 ⟨en_in (ud - 1 - i) (by omega), br_t (by rw [e2]; exact c) ⟨rfl, I0⟩⟩)))))
    · have e6 : nI (ud - 1 - i) * 32 + nI j = nI ((ud - 1 - i) * 32 + j) := by rw [en_32, nI_add]
      exact xw_t j l hj (br_f (by decide) ⟨en_in ((ud - 1 - i) * 32 + j) (by omega) e6, br_f (nI_pos (by omega)) (ey_lt i ud hi (nm_r e0 (br_f (nI_pos (by omega)) ⟨en_in (ud - 1 - i) (by omega), en_le l j hj ⟨en_in ((ud - 1 - i) * 32 + j) (by omega) e6, ⟨by rw [e6, nI_clamp (by omega)]; exact (hg j hj).1.symm, I0⟩⟩ e2⟩)))⟩) rfl e1
theorem i_vc_undoCursor {k : Nat} {u : SX} {v : SY} (I : i_Rel k u v) (hk : k + 3 ≤ 1539) (v1 : Int32) : wpX_undoCursor (fun r => wpY_undoCursor (fun r' => r' = r ∧ i_Rel (k + 3) u v) v v1) u v1 := by
  have I0 : i_Rel (k + 3) u v := I
  revert I0
  obtain ⟨w, hh, rr, n, k9, hc, nav, dn, kc, y, ud, mo, la, ql, p, dl, dc, m, ac, B, H, HL, D, R, RL, U, UL, UK, Q, DS, SC, B', H', HL', D', R', RL', U', UL', UK', Q', rfl, rfl, C, P⟩ := I
  intro I0
  obtain ⟨⟨⟨hw1, hw2⟩, ⟨hh1, hh2⟩, ⟨hr1, hr2⟩, ⟨hn, hk9⟩, ⟨hhc, hnav⟩, hdn, hkc, hud, hql⟩, hB, hH, hD, hR, hU, hQ, hL, hS⟩ := id C
  unfold wpX_undoCursor
  rcases pk_ix v1 (n := ud) (by omega) with c | c | ⟨i, hi, rfl⟩
  · exact xw_f (Or.inl c) (br_t rfl (br_t c ⟨rfl, I0⟩))
  · have c0 : ¬ v1 < 0 := en_ge c (nI_pos' (by omega))
    exact xw_f (Or.inr c) (br_t rfl (br_f c0 (br_t c ⟨rfl, I0⟩)))
  · obtain ⟨l, t, hl, ht, a1, a2, a3, a4, hg⟩ := hU (ud - 1 - i) (by omega)
    have e0 : (nI ud - 1) - nI i = nI (ud - 1 - i) := by rw [en_s1 (by omega), pk_sub (by omega)]
    exact xw_t i ud hi (br_f (by decide) (xus ud i hi ⟨en_in (ud - 1 - i) (by omega), br_f (nI_pos (by omega)) (en_le ud i hi ⟨en_in (ud - 1 - i) (by omega) e0, ⟨by rw [e0, nI_clamp (by omega), a3, a4], I0⟩⟩)⟩))
theorem i_vc_displayChar {k : Nat} {u : SX} {v : SY} (I : i_Rel k u v) (hk : k + 3 ≤ 1539) (v1 : Int32) : wpX_displayChar (fun r => wpY_displayChar (fun r' => r' = r ∧ i_Rel (k + 3) u v) v v1) u v1 := by
  have I0 : i_Rel (k + 3) u v := I
  revert I0
  obtain ⟨w, hh, rr, n, k9, hc, nav, dn, kc, y, ud, mo, la, ql, p, dl, dc, m, ac, B, H, HL, D, R, RL, U, UL, UK, Q, DS, SC, B', H', HL', D', R', RL', U', UL', UK', Q', rfl, rfl, C, P⟩ := I
  intro I0
  obtain ⟨⟨⟨hw1, hw2⟩, ⟨hh1, hh2⟩, ⟨hr1, hr2⟩, ⟨hn, hk9⟩, ⟨hhc, hnav⟩, hdn, hkc, hud, hql⟩, hB, hH, hD, hR, hU, hQ, hL, hS⟩ := id C
  unfold wpX_displayChar
  have hdl : dl ≤ 51 := P.1
  rcases pk_ix v1 (n := dl) (by omega) with c | c | ⟨i, hi, rfl⟩
  · exact xw_f (Or.inl c) (br_t rfl (y_dno C P (Or.inl c) ⟨rfl, I0⟩))
  · exact xw_f (Or.inr c) (br_t rfl (y_dno C P (Or.inr c) ⟨rfl, I0⟩))
  · exact xw_t i dl hi (br_f (by decide) ⟨en_in i (by omega), (y_din C P hi).2 _ ⟨by rw [nI_clamp (by omega)], I0⟩⟩)
theorem i_vc_screenChar {k : Nat} {u : SX} {v : SY} (I : i_Rel k u v) (hk : k + 3 ≤ 1539) (v1 : Int32) (v2 : Int32) : wpX_screenChar (fun r => wpY_screenChar (fun r' => r' = r ∧ i_Rel (k + 3) u v) v v1 v2) u v1 v2 := by
  have I0 : i_Rel (k + 3) u v := I
  revert I0
  obtain ⟨w, hh, rr, n, k9, hc, nav, dn, kc, y, ud, mo, la, ql, p, dl, dc, m, ac, B, H, HL, D, R, RL, U, UL, UK, Q, DS, SC, B', H', HL', D', R', RL', U', UL', UK', Q', rfl, rfl, C, P⟩ := I
  intro I0
  obtain ⟨⟨⟨hw1, hw2⟩, ⟨hh1, hh2⟩, ⟨hr1, hr2⟩, ⟨hn, hk9⟩, ⟨hhc, hnav⟩, hdn, hkc, hud, hql⟩, hB, hH, hD, hR, hU, hQ, hL, hS⟩ := id C
  unfold wpX_screenChar
  have hdl : dl ≤ 51 := P.1
  rcases pk_ix v1 (n := 16) (by omega) with c | c | ⟨r, hr, rfl⟩
  · exact xw_f (Or.inl c) (br_t rfl (br_t c ⟨rfl, I0⟩))
  · have c0 : ¬ v1 < 0 := en_ge c (nI_pos' (by omega))
    exact xw_f (Or.inr c) (br_t rfl (br_f c0 (br_t c ⟨rfl, I0⟩)))
  · refine xw_t r 16 hr (br_f (by decide) ?_)
    rcases pk_ix v2 (n := w) (by omega) with c | c | ⟨s, hs, rfl⟩
    · exact xw_f (Or.inl c) (br_t rfl (br_f (nI_pos (by omega)) (en_le 16 r hr (br_t c ⟨rfl, I0⟩))))
    · have c0 : ¬ v2 < 0 := en_ge c (nI_pos' (by omega))
      exact xw_f (Or.inr c) (br_t rfl (br_f (nI_pos (by omega)) (en_le 16 r hr (br_f c0 (br_f (Int32.not_lt.mpr c) ⟨rfl, I0⟩)))))
    · have hx := en_ix hr hs
      have e : nI r * nI w + nI s = nI (r * w + s) := by rw [pk_mul, nI_add]
      obtain ⟨x, hxe⟩ : ∃ x, r * w + s = x := ⟨_, rfl⟩
      rw [hxe] at hx e
      have hsc := P.2.2.1 x hx
      refine xw_t s w hs (br_f (by decide) ⟨en_in x (by omega) e, br_f (nI_pos (by omega)) (en_le 16 r hr (br_f (nI_pos (by omega)) (ey_lt s w hs ?_)))⟩)
      rw [e, nI_clamp (by omega), hsc]
      by_cases c : x < dl
      · rw [if_pos c]
        have hd := y_din (ac := ac) C P c
        exact hd.2 _ (br_t (Int32.not_lt.mp hd.1) ⟨rfl, I0⟩)
      · rw [if_neg c]
        exact y_dno C P (Or.inr (nI_le (by omega) (by omega))) (br_f (by decide) ⟨rfl, I0⟩)
theorem i_vc_screenCursorRow {k : Nat} {u : SX} {v : SY} (I : i_Rel k u v) (hk : k + 3 ≤ 1539) : wpX_screenCursorRow (fun r => wpY_screenCursorRow (fun r' => r' = r ∧ i_Rel (k + 3) u v) v) u := by
  have I0 : i_Rel (k + 3) u v := I
  revert I0
  obtain ⟨w, hh, rr, n, k9, hc, nav, dn, kc, y, ud, mo, la, ql, p, dl, dc, m, ac, B, H, HL, D, R, RL, U, UL, UK, Q, DS, SC, B', H', HL', D', R', RL', U', UL', UK', Q', rfl, rfl, C, P⟩ := I
  intro I0
  obtain ⟨⟨⟨hw1, hw2⟩, ⟨hh1, hh2⟩, ⟨hr1, hr2⟩, ⟨hn, hk9⟩, ⟨hhc, hnav⟩, hdn, hkc, hud, hql⟩, hB, hH, hD, hR, hU, hQ, hL, hS⟩ := id C
  have hdl : dl ≤ 51 := P.1
  have hdc : dc ≤ dl := P.2.1
  unfold wpX_screenCursorRow wpY_screenCursorRow
  exact y_dc C P ⟨nI_ne0 (by omega) (by omega), ⟨pk_div (by omega) (by omega) (by omega), I0⟩⟩
theorem i_vc_screenCursorCol {k : Nat} {u : SX} {v : SY} (I : i_Rel k u v) (hk : k + 3 ≤ 1539) : wpX_screenCursorCol (fun r => wpY_screenCursorCol (fun r' => r' = r ∧ i_Rel (k + 3) u v) v) u := by
  have I0 : i_Rel (k + 3) u v := I
  revert I0
  obtain ⟨w, hh, rr, n, k9, hc, nav, dn, kc, y, ud, mo, la, ql, p, dl, dc, m, ac, B, H, HL, D, R, RL, U, UL, UK, Q, DS, SC, B', H', HL', D', R', RL', U', UL', UK', Q', rfl, rfl, C, P⟩ := I
  intro I0
  obtain ⟨⟨⟨hw1, hw2⟩, ⟨hh1, hh2⟩, ⟨hr1, hr2⟩, ⟨hn, hk9⟩, ⟨hhc, hnav⟩, hdn, hkc, hud, hql⟩, hB, hH, hD, hR, hU, hQ, hL, hS⟩ := id C
  have hdl : dl ≤ 51 := P.1
  have hdc : dc ≤ dl := P.2.1
  unfold wpX_screenCursorCol wpY_screenCursorCol
  exact y_dc C P ⟨nI_ne0 (by omega) (by omega), ⟨pk_rem (by omega) (by omega) (by omega), I0⟩⟩
