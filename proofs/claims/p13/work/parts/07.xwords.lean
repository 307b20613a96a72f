/-! J: the component's words, ring, search -/
theorem en_gt {a b c : Int32} (h : b ≤ c) (hab : a < b) : ¬ c ≤ a := by
  rw [Int32.le_iff_toInt_le] at *
  rw [Int32.lt_iff_toInt_lt] at hab
  omega
theorem en_ge {a b c : Int32} (h : b ≤ c) (hab : a ≤ b) : ¬ c < a := by
  rw [Int32.le_iff_toInt_le] at h hab
  rw [Int32.lt_iff_toInt_lt]
  omega
theorem xiw_t {post : Int32 → Prop} {c : Int32} (hw : ew c) (p : post 1) : wpX_isWordChar post () c := by
  rcases hw with h | h | h
  · exact br_f (en_ge h.1 (by decide)) (br_t h.2 p)
  · exact br_f (en_ge h.1 (by decide)) (br_f (en_gt h.1 (by decide)) (br_f (en_ge h.1 (by decide)) (br_t h.2 p)))
  · exact br_f (en_ge h.1 (by decide)) (br_f (en_gt h.1 (by decide)) (br_f (en_ge h.1 (by decide)) (br_f (en_gt h.1 (by decide)) (br_f (en_ge h.1 (by decide)) (br_f (Int32.not_lt.mpr h.2) p)))))
theorem xiw_24 {post : Int32 → Prop} {c : Int32} (hw : ¬ ew c) (p : post 0) : wX_isWordChar_24 post c := by
  by_cases h : c < 97
  · exact br_t h p
  · by_cases h2 : 122 < c
    · exact br_f h (br_t h2 p)
    · exact absurd (Or.inr (Or.inr ⟨Int32.not_lt.mp h, Int32.not_lt.mp h2⟩)) hw
theorem xiw_12 {post : Int32 → Prop} {c : Int32} (hw : ¬ ew c) (p : post 0) : wX_isWordChar_12 post c := by
  by_cases h : c < 65
  · exact br_t h (xiw_24 hw p)
  · exact br_f h (br_f (fun z => hw (Or.inr (Or.inl ⟨Int32.not_lt.mp h, z⟩))) (xiw_24 hw p))
theorem xiw_f {post : Int32 → Prop} {c : Int32} (hw : ¬ ew c) (p : post 0) : wpX_isWordChar post () c := by
  by_cases h : c < 48
  · exact br_t h (xiw_12 hw p)
  · exact br_f h (br_f (fun z => hw (Or.inl ⟨Int32.not_lt.mp h, z⟩)) (xiw_12 hw p))
section
variable {f_width f_historyCap f_ringCap f_length f_cursor f_historyCount f_nav f_draftLength f_ringCount f_yankIndex f_undoDepth f_mode f_last f_accepted f_queryLength f_match f_matchStart f_displayLength f_displayCursor f_terminalRow f_terminalCol : Int32} {a_buffer a_history a_historyLengths a_draft a_ring a_ringLengths a_undoTexts a_undoLengths a_undoCursors a_query a_display a_screen : Nat → Int32}
theorem xwl_29 {post : Int32 → Prop} : ∀ t, t ≤ 32 → post (nI (es a_buffer true t)) → wX_wordLeft_29 post f_width f_historyCap f_ringCap f_length f_cursor f_historyCount f_nav f_draftLength f_ringCount f_yankIndex f_undoDepth f_mode f_last f_accepted f_queryLength f_match f_matchStart f_displayLength f_displayCursor f_terminalRow f_terminalCol a_buffer a_history a_historyLengths a_draft a_ring a_ringLengths a_undoTexts a_undoLengths a_undoCursors a_query a_display a_screen (t + 1) (nI t) := by
  intro t
  induction t with
  | zero => intro _ h; exact br_t (by decide) h
  | succ t ih =>
    intro ht h
    have ec : a_buffer (nI (t + 1) - 1).toNatClampNeg = a_buffer t := en_g t (nI_pred t)
    have hi : vp_in (nI (t + 1) - 1) 32 := en_in t (by omega) (nI_pred t)
    by_cases hw : ew (a_buffer t)
    · rw [es_s, if_pos (decide_eq_true hw)] at h
      exact br_f (nI_nle (by omega) (by omega)) ⟨hi, xiw_t (by rw [ec]; exact hw) (br_f (by decide) (nm_r (pk_m1 t) (ih (by omega) h)))⟩
    · rw [es_s, if_neg (fun z => hw (of_decide_eq_true z))] at h
      exact br_f (nI_nle (by omega) (by omega)) ⟨hi, xiw_f (by rw [ec]; exact hw) (br_t rfl h)⟩
theorem xwl_5 {post : Int32 → Prop} : ∀ t, t ≤ 32 → post (nI (es a_buffer true (es a_buffer false t))) → wX_wordLeft_5 post f_width f_historyCap f_ringCap f_length f_cursor f_historyCount f_nav f_draftLength f_ringCount f_yankIndex f_undoDepth f_mode f_last f_accepted f_queryLength f_match f_matchStart f_displayLength f_displayCursor f_terminalRow f_terminalCol a_buffer a_history a_historyLengths a_draft a_ring a_ringLengths a_undoTexts a_undoLengths a_undoCursors a_query a_display a_screen (t + 1) (nI t) := by
  intro t
  induction t with
  | zero => intro _ h; exact br_t (by decide) ⟨1, xwl_29 0 (by omega) h⟩
  | succ t ih =>
    intro ht h
    have ec : a_buffer (nI (t + 1) - 1).toNatClampNeg = a_buffer t := en_g t (nI_pred t)
    have hi : vp_in (nI (t + 1) - 1) 32 := en_in t (by omega) (nI_pred t)
    by_cases hw : ew (a_buffer t)
    · rw [es_s a_buffer false, if_neg (fun z => of_decide_eq_false z hw)] at h
      exact br_f (nI_nle (by omega) (by omega)) ⟨hi, xiw_t (by rw [ec]; exact hw) (br_f (by decide) ⟨t + 2, xwl_29 (t + 1) (by omega) h⟩)⟩
    · rw [es_s a_buffer false, if_pos (decide_eq_false hw)] at h
      exact br_f (nI_nle (by omega) (by omega)) ⟨hi, xiw_f (by rw [ec]; exact hw) (br_t rfl (nm_r (pk_m1 t) (ih (by omega) h)))⟩
theorem xwl {post : Int32 → Prop} {k : Nat} (hk : k ≤ 32) (h : post (nI (ewl a_buffer k))) : wpX_wordLeft post (f_width, f_historyCap, f_ringCap, f_length, nI k, f_historyCount, f_nav, f_draftLength, f_ringCount, f_yankIndex, f_undoDepth, f_mode, f_last, f_accepted, f_queryLength, f_match, f_matchStart, f_displayLength, f_displayCursor, f_terminalRow, f_terminalCol, a_buffer, a_history, a_historyLengths, a_draft, a_ring, a_ringLengths, a_undoTexts, a_undoLengths, a_undoCursors, a_query, a_display, a_screen) := ⟨k + 1, xwl_5 k hk h⟩
theorem xwr_31 {post : Int32 → Prop} {n : Nat} (hn : n ≤ 32) : ∀ d t, t + d = n → post (nI (et a_buffer true d t)) → wX_wordRight_31 post f_width f_historyCap f_ringCap (nI n) f_cursor f_historyCount f_nav f_draftLength f_ringCount f_yankIndex f_undoDepth f_mode f_last f_accepted f_queryLength f_match f_matchStart f_displayLength f_displayCursor f_terminalRow f_terminalCol a_buffer a_history a_historyLengths a_draft a_ring a_ringLengths a_undoTexts a_undoLengths a_undoCursors a_query a_display a_screen (d + 1) (nI t) := by
  intro d
  induction d with
  | zero => intro t ht h; exact ey_le n t (by omega) h
  | succ d ih =>
    intro t ht h
    have ec : a_buffer (nI t).toNatClampNeg = a_buffer t := en_g t
    by_cases hw : ew (a_buffer t)
    · rw [et_s, if_pos (decide_eq_true hw)] at h
      exact en_le n t (by omega) ⟨en_in t (by omega), xiw_t (by rw [ec]; exact hw) (br_f (by decide) (nm_r (nI_1 t) (ih (t + 1) (by omega) h)))⟩
    · rw [et_s, if_neg (fun z => hw (of_decide_eq_true z))] at h
      exact en_le n t (by omega) ⟨en_in t (by omega), xiw_f (by rw [ec]; exact hw) (br_t rfl h)⟩
theorem xwr_5 {post : Int32 → Prop} {n : Nat} (hn : n ≤ 32) : ∀ d t, t + d = n → post (nI (et a_buffer true (n - et a_buffer false d t) (et a_buffer false d t))) → wX_wordRight_5 post f_width f_historyCap f_ringCap (nI n) f_cursor f_historyCount f_nav f_draftLength f_ringCount f_yankIndex f_undoDepth f_mode f_last f_accepted f_queryLength f_match f_matchStart f_displayLength f_displayCursor f_terminalRow f_terminalCol a_buffer a_history a_historyLengths a_draft a_ring a_ringLengths a_undoTexts a_undoLengths a_undoCursors a_query a_display a_screen (d + 1) (nI t) := by
  intro d
  induction d with
  | zero =>
    intro t ht h
    have e : n - t = 0 := by omega
    have h2 : post (nI (et a_buffer true (n - t) t)) := h
    rw [e] at h2
    exact ey_le n t (by omega) ⟨1, xwr_31 hn 0 t (by omega) h2⟩
  | succ d ih =>
    intro t ht h
    have ec : a_buffer (nI t).toNatClampNeg = a_buffer t := en_g t
    by_cases hw : ew (a_buffer t)
    · rw [et_s a_buffer false, if_neg (fun z => of_decide_eq_false z hw)] at h
      rw [show n - t = d + 1 by omega] at h
      exact en_le n t (by omega) ⟨en_in t (by omega), xiw_t (by rw [ec]; exact hw) (br_f (by decide) ⟨d + 2, xwr_31 hn (d + 1) t (by omega) h⟩)⟩
    · rw [et_s a_buffer false, if_pos (decide_eq_false hw)] at h
      exact en_le n t (by omega) ⟨en_in t (by omega), xiw_f (by rw [ec]; exact hw) (br_t rfl (nm_r (nI_1 t) (ih (t + 1) (by omega) h)))⟩
theorem xwr {post : Int32 → Prop} {n k : Nat} (hn : n ≤ 32) (hk : k ≤ n) (h : post (nI (ewr a_buffer n k))) : wpX_wordRight post (f_width, f_historyCap, f_ringCap, nI n, nI k, f_historyCount, f_nav, f_draftLength, f_ringCount, f_yankIndex, f_undoDepth, f_mode, f_last, f_accepted, f_queryLength, f_match, f_matchStart, f_displayLength, f_displayCursor, f_terminalRow, f_terminalCol, a_buffer, a_history, a_historyLengths, a_draft, a_ring, a_ringLengths, a_undoTexts, a_undoLengths, a_undoCursors, a_query, a_display, a_screen) := ⟨n - k + 1, xwr_5 hn (n - k) k (by omega) h⟩
end
