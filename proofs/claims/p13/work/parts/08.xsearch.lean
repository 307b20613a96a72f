/-! K: the component's search -/
theorem en_sl {l z s : Nat} (hl : l < 2 ^ 30) (hz : z < 2 ^ 30) (hs : s < 2 ^ 30) (h : l < s + z) : nI l - nI z < nI s := by
  rw [Int32.lt_iff_toInt_lt, pk_sub_toInt hl hz, nI_toInt (by omega)]
  omega
theorem en_sn {l z s : Nat} (hl : l < 2 ^ 30) (hz : z < 2 ^ 30) (hs : s < 2 ^ 30) (h : s + z ≤ l) : ¬ nI l - nI z < nI s := by
  rw [Int32.lt_iff_toInt_lt, pk_sub_toInt hl hz, nI_toInt (by omega)]
  omega
section
variable {f_width f_historyCap f_ringCap f_length f_cursor f_historyCount f_nav f_draftLength f_ringCount f_yankIndex f_undoDepth f_mode f_last f_accepted f_queryLength f_match f_matchStart f_displayLength f_displayCursor f_terminalRow f_terminalCol : Int32} {a_buffer a_history a_historyLengths a_draft a_ring a_ringLengths a_undoTexts a_undoLengths a_undoCursors a_query a_display a_screen : Nat → Int32}
theorem xqs_2 {post : Int32 → Prop} {a z : Nat} (ha : a + z ≤ 256) (hz : z ≤ 16) (p1 : ex a_history a_query a z → post 1) (p0 : ¬ ex a_history a_query a z → post 0) : ∀ d i, i + d = z → (∀ j, j < i → a_history (a + j) = a_query j) → wX_queryStandsAt_2 post (nI a) (nI z) f_width f_historyCap f_ringCap f_length f_cursor f_historyCount f_nav f_draftLength f_ringCount f_yankIndex f_undoDepth f_mode f_last f_accepted f_queryLength f_match f_matchStart f_displayLength f_displayCursor f_terminalRow f_terminalCol a_buffer a_history a_historyLengths a_draft a_ring a_ringLengths a_undoTexts a_undoLengths a_undoCursors a_query a_display a_screen (d + 1) (nI i) := by
  intro d
  induction d with
  | zero =>
    intro i hi H
    obtain rfl : i = z := by omega
    exact ey_le i i (Nat.le_refl _) (p1 H)
  | succ d ih =>
    intro i hi H
    refine en_le z i (by omega) ⟨en_in (a + i) (by omega), en_in i (by omega), ?_⟩
    by_cases c : a_history (a + i) = a_query i
    · exact br_t ((en_g (a + i)).trans (c.trans (en_g i).symm)) (nm_r (nI_1 i) (ih (i + 1) (by omega) (lt_s H c)))
    · exact br_f (fun w => c (((en_g (a + i)).symm.trans w).trans (en_g i))) (p0 (fun w => c (w i (by omega))))
theorem xqs {post : Int32 → Prop} {x1 x2 : Int32} (a z : Nat) (ha : a + z ≤ 256) (hz : z ≤ 16) (p1 : ex a_history a_query a z → post 1) (p0 : ¬ ex a_history a_query a z → post 0) (h1 : x1 = nI a := by first | with_reducible rfl | (simp (disch := omega) only [nI_add, nI_1, en_m1, en_s1, pk_sub, pk_mul, en_32, en_a2, en_a3, en_p32, en_s32, en_p2, en_s2, en_s3] <;> exact congrArg nI (by omega)) | exact congrArg nI (by omega) | rfl) (h2 : x2 = nI z := by first | with_reducible rfl | (simp (disch := omega) only [nI_add, nI_1, en_m1, en_s1, pk_sub, pk_mul, en_32, en_a2, en_a3, en_p32, en_s32, en_p2, en_s2, en_s3] <;> exact congrArg nI (by omega)) | exact congrArg nI (by omega) | rfl) : wpX_queryStandsAt post (f_width, f_historyCap, f_ringCap, f_length, f_cursor, f_historyCount, f_nav, f_draftLength, f_ringCount, f_yankIndex, f_undoDepth, f_mode, f_last, f_accepted, f_queryLength, f_match, f_matchStart, f_displayLength, f_displayCursor, f_terminalRow, f_terminalCol, a_buffer, a_history, a_historyLengths, a_draft, a_ring, a_ringLengths, a_undoTexts, a_undoLengths, a_undoCursors, a_query, a_display, a_screen) x1 x2 := by
  subst h1 h2
  exact ⟨z + 1, xqs_2 ha hz p1 p0 z 0 (by omega) lt_0⟩
theorem xsi_18 {post : Int32 → Prop} {i z l : Nat} (hi : i < 8) (hl : l ≤ 32) (hz : z ≤ 16) : ∀ d s, s ≤ 40 → d = l + 1 - z - s → post (er (eo a_history a_query (i * 32) z d s)) → wX_startInEntry_18 post (nI z) (nI (i * 32)) (nI l - nI z) f_width f_historyCap f_ringCap f_length f_cursor f_historyCount f_nav f_draftLength f_ringCount f_yankIndex f_undoDepth f_mode f_last f_accepted f_queryLength f_match f_matchStart f_displayLength f_displayCursor f_terminalRow f_terminalCol a_buffer a_history a_historyLengths a_draft a_ring a_ringLengths a_undoTexts a_undoLengths a_undoCursors a_query a_display a_screen (d + 1) (nI s) := by
  intro d
  induction d with
  | zero => intro s hs hd h; exact br_t (en_sl (by omega) (by omega) (by omega) (by omega)) h
  | succ d ih =>
    intro s hs hd h
    refine br_f (en_sn (by omega) (by omega) (by omega) (by omega)) (xqs (i * 32 + s) z (by omega) hz (fun e => ?_) (fun e => ?_))
    · rw [eo_s, if_pos e] at h
      exact br_f (by decide) h
    · rw [eo_s, if_neg e] at h
      exact br_t rfl (nm_r (nI_1 s) (ih (s + 1) (by omega) (by omega) h))
theorem xsi {post : Int32 → Prop} {x0 x1 : Int32} (i z l : Nat) (hi : i < 8) (hl : l ≤ 32) (hz : z ≤ 16) (e : a_historyLengths i = nI l) (h : post (er (ei a_history a_historyLengths a_query z i))) (h0 : x0 = nI i := by first | with_reducible rfl | (simp (disch := omega) only [nI_add, nI_1, en_m1, en_s1, pk_sub, pk_mul, en_32, en_a2, en_a3, en_p32, en_s32, en_p2, en_s2, en_s3] <;> exact congrArg nI (by omega)) | exact congrArg nI (by omega) | rfl) (h1 : x1 = nI z := by first | with_reducible rfl | (simp (disch := omega) only [nI_add, nI_1, en_m1, en_s1, pk_sub, pk_mul, en_32, en_a2, en_a3, en_p32, en_s32, en_p2, en_s2, en_s3] <;> exact congrArg nI (by omega)) | exact congrArg nI (by omega) | rfl) : wpX_startInEntry post (f_width, f_historyCap, f_ringCap, f_length, f_cursor, f_historyCount, f_nav, f_draftLength, f_ringCount, f_yankIndex, f_undoDepth, f_mode, f_last, f_accepted, f_queryLength, f_match, f_matchStart, f_displayLength, f_displayCursor, f_terminalRow, f_terminalCol, a_buffer, a_history, a_historyLengths, a_draft, a_ring, a_ringLengths, a_undoTexts, a_undoLengths, a_undoCursors, a_query, a_display, a_screen) x0 x1 := by
  subst h0 h1
  unfold ei at h
  rw [e, nI_clamp (by omega)] at h
  exact nm_r (en_32 i) ⟨en_in i hi, nm_r (congrArg (fun y => y - nI z) ((en_g i).trans e)) ⟨_, xsi_18 hi hl hz (l + 1 - z) 0 (by omega) (by omega) h⟩⟩
theorem xsk_2 {post : Int32 → St2 → Prop} {z c : Nat} (hc : c ≤ 8) (hz : z ≤ 16) (L : ∀ i, i < c → ∃ l, l ≤ 32 ∧ a_historyLengths i = nI l) : ∀ f, f ≤ c → (ef a_history a_historyLengths a_query z f = none → post 0 (f_width, f_historyCap, f_ringCap, f_length, f_cursor, f_historyCount, f_nav, f_draftLength, f_ringCount, f_yankIndex, f_undoDepth, f_mode, f_last, f_accepted, f_queryLength, f_match, f_matchStart, f_displayLength, f_displayCursor, f_terminalRow, f_terminalCol, a_buffer, a_history, a_historyLengths, a_draft, a_ring, a_ringLengths, a_undoTexts, a_undoLengths, a_undoCursors, a_query, a_display, a_screen)) → (∀ m s, ef a_history a_historyLengths a_query z f = some (m, s) → post 1 (f_width, f_historyCap, f_ringCap, f_length, f_cursor, f_historyCount, f_nav, f_draftLength, f_ringCount, f_yankIndex, f_undoDepth, f_mode, f_last, f_accepted, nI z, nI m, nI s, f_displayLength, f_displayCursor, f_terminalRow, f_terminalCol, a_buffer, a_history, a_historyLengths, a_draft, a_ring, a_ringLengths, a_undoTexts, a_undoLengths, a_undoCursors, a_query, a_display, a_screen)) → wX_seek_2 post (nI z) f_width f_historyCap f_ringCap f_length f_cursor f_historyCount f_nav f_draftLength f_ringCount f_yankIndex f_undoDepth f_mode f_last f_accepted f_queryLength f_match f_matchStart f_displayLength f_displayCursor f_terminalRow f_terminalCol a_buffer a_history a_historyLengths a_draft a_ring a_ringLengths a_undoTexts a_undoLengths a_undoCursors a_query a_display a_screen (f + 1) (nI f - 1) := by
  intro f
  induction f with
  | zero => intro _ p0 _; exact br_t (by decide) (p0 rfl)
  | succ f ih =>
    intro hf p0 p1
    obtain ⟨l, hl, e⟩ := L f (by omega)
    rw [nI_pred f]
    refine br_f (nI_pos (by omega)) (xsi f z l (by omega) hl hz e ?_)
    cases c2 : ei a_history a_historyLengths a_query z f with
    | none => exact br_t (by decide) (nm_r (en_q _) (ih (by omega) (fun h => p0 (by rw [ef_s, c2]; exact h)) (fun m s h => p1 m s (by rw [ef_s, c2]; exact h))))
    | some s =>
      have hs := ei_some hl e c2
      exact br_f (nI_pos (n := s) (by omega)) (p1 f s (by rw [ef_s, c2]))
theorem xsk {post : Int32 → St2 → Prop} {x0 x1 : Int32} (f z c : Nat) (hc : c ≤ 8) (hz : z ≤ 16) (L : ∀ i, i < c → ∃ l, l ≤ 32 ∧ a_historyLengths i = nI l) (hf : f ≤ c) (p0 : ef a_history a_historyLengths a_query z f = none → post 0 (f_width, f_historyCap, f_ringCap, f_length, f_cursor, f_historyCount, f_nav, f_draftLength, f_ringCount, f_yankIndex, f_undoDepth, f_mode, f_last, f_accepted, f_queryLength, f_match, f_matchStart, f_displayLength, f_displayCursor, f_terminalRow, f_terminalCol, a_buffer, a_history, a_historyLengths, a_draft, a_ring, a_ringLengths, a_undoTexts, a_undoLengths, a_undoCursors, a_query, a_display, a_screen)) (p1 : ∀ m s, ef a_history a_historyLengths a_query z f = some (m, s) → post 1 (f_width, f_historyCap, f_ringCap, f_length, f_cursor, f_historyCount, f_nav, f_draftLength, f_ringCount, f_yankIndex, f_undoDepth, f_mode, f_last, f_accepted, nI z, nI m, nI s, f_displayLength, f_displayCursor, f_terminalRow, f_terminalCol, a_buffer, a_history, a_historyLengths, a_draft, a_ring, a_ringLengths, a_undoTexts, a_undoLengths, a_undoCursors, a_query, a_display, a_screen)) (h0 : x0 = nI f - 1) (h1 : x1 = nI z := by first | with_reducible rfl | (simp (disch := omega) only [nI_add, nI_1, en_m1, en_s1, pk_sub, pk_mul, en_32, en_a2, en_a3, en_p32, en_s32, en_p2, en_s2, en_s3] <;> exact congrArg nI (by omega)) | exact congrArg nI (by omega) | rfl) : wpX_seek post (f_width, f_historyCap, f_ringCap, f_length, f_cursor, f_historyCount, f_nav, f_draftLength, f_ringCount, f_yankIndex, f_undoDepth, f_mode, f_last, f_accepted, f_queryLength, f_match, f_matchStart, f_displayLength, f_displayCursor, f_terminalRow, f_terminalCol, a_buffer, a_history, a_historyLengths, a_draft, a_ring, a_ringLengths, a_undoTexts, a_undoLengths, a_undoCursors, a_query, a_display, a_screen) x0 x1 := by
  subst h0 h1
  exact ⟨f + 1, xsk_2 hc hz L f hf p0 p1⟩
end
