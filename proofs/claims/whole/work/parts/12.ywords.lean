/-! O: the reference's words (written from 07 by a program) -/
section
variable {g_w g_hh g_rr g_n g_k g_hc g_nav g_dn g_kc g_ud g_last g_y g_mode g_ql g_p g_accepted g_m : Int32} {b_buf b_hist b_histL b_draft b_ring b_ringL b_und b_undL b_undK b_q : Nat → Int32}
theorem yiw_t {post : Int32 → Prop} {c : Int32} (hw : ew c) (p : post 1) : wpY_isW post (g_w, g_hh, g_rr, g_n, g_k, g_hc, g_nav, g_dn, g_kc, g_ud, g_last, g_y, g_mode, g_ql, g_p, g_accepted, g_m, b_buf, b_hist, b_histL, b_draft, b_ring, b_ringL, b_und, b_undL, b_undK, b_q) c := by
  rcases hw with h | h | h
  · exact br_f (en_ge h.1 (by decide)) (br_t h.2 p)
  · exact br_f (en_ge h.1 (by decide)) (br_f (en_gt h.1 (by decide)) (br_f (en_ge h.1 (by decide)) (br_t h.2 p)))
  · exact br_f (en_ge h.1 (by decide)) (br_f (en_gt h.1 (by decide)) (br_f (en_ge h.1 (by decide)) (br_f (en_gt h.1 (by decide)) (br_f (en_ge h.1 (by decide)) (br_f (Int32.not_lt.mpr h.2) p)))))
theorem yiw_24 {post : Int32 → Prop} {c : Int32} (hw : ¬ ew c) (p : post 0) : wY_isW_24 post c g_w g_hh g_rr g_n g_k g_hc g_nav g_dn g_kc g_ud g_last g_y g_mode g_ql g_p g_accepted g_m b_buf b_hist b_histL b_draft b_ring b_ringL b_und b_undL b_undK b_q := by
  by_cases h : c < 97
  · exact br_t h p
  · by_cases h2 : 122 < c
    · exact br_f h (br_t h2 p)
    · exact absurd (Or.inr (Or.inr ⟨Int32.not_lt.mp h, Int32.not_lt.mp h2⟩)) hw
theorem yiw_12 {post : Int32 → Prop} {c : Int32} (hw : ¬ ew c) (p : post 0) : wY_isW_12 post c g_w g_hh g_rr g_n g_k g_hc g_nav g_dn g_kc g_ud g_last g_y g_mode g_ql g_p g_accepted g_m b_buf b_hist b_histL b_draft b_ring b_ringL b_und b_undL b_undK b_q := by
  by_cases h : c < 65
  · exact br_t h (yiw_24 hw p)
  · exact br_f h (br_f (fun z => hw (Or.inr (Or.inl ⟨Int32.not_lt.mp h, z⟩))) (yiw_24 hw p))
theorem yiw_f {post : Int32 → Prop} {c : Int32} (hw : ¬ ew c) (p : post 0) : wpY_isW post (g_w, g_hh, g_rr, g_n, g_k, g_hc, g_nav, g_dn, g_kc, g_ud, g_last, g_y, g_mode, g_ql, g_p, g_accepted, g_m, b_buf, b_hist, b_histL, b_draft, b_ring, b_ringL, b_und, b_undL, b_undK, b_q) c := by
  by_cases h : c < 48
  · exact br_t h (yiw_12 hw p)
  · exact br_f h (br_f (fun z => hw (Or.inl ⟨Int32.not_lt.mp h, z⟩)) (yiw_12 hw p))
end
section
variable {g_w g_hh g_rr g_n g_k g_hc g_nav g_dn g_kc g_ud g_last g_y g_mode g_ql g_p g_accepted g_m : Int32} {b_buf b_hist b_histL b_draft b_ring b_ringL b_und b_undL b_undK b_q : Nat → Int32}
theorem ywl_29 {post : Int32 → Prop} : ∀ t, t ≤ 32 → post (nI (es b_buf true t)) → wY_wl_30 post g_w g_hh g_rr g_n g_k g_hc g_nav g_dn g_kc g_ud g_last g_y g_mode g_ql g_p g_accepted g_m b_buf b_hist b_histL b_draft b_ring b_ringL b_und b_undL b_undK b_q (t + 1) (nI t) := by
  intro t
  induction t with
  | zero => intro _ h; exact br_t (by decide) h
  | succ t ih =>
    intro ht h
    have ec : b_buf (nI (t + 1) - 1).toNatClampNeg = b_buf t := en_g t (nI_pred t)
    have hi : vp_in (nI (t + 1) - 1) 32 := en_in t (by omega) (nI_pred t)
    by_cases hw : ew (b_buf t)
    · rw [es_s, if_pos (decide_eq_true hw)] at h
      exact br_f (nI_nle (by omega) (by omega)) ⟨hi, yiw_t (by rw [ec]; exact hw) (br_f (by decide) (nm_r (pk_m1 t) (ih (by omega) h)))⟩
    · rw [es_s, if_neg (fun z => hw (of_decide_eq_true z))] at h
      exact br_f (nI_nle (by omega) (by omega)) ⟨hi, yiw_f (by rw [ec]; exact hw) (br_t rfl h)⟩
theorem ywl_5 {post : Int32 → Prop} : ∀ t, t ≤ 32 → post (nI (es b_buf true (es b_buf false t))) → wY_wl_5 post g_w g_hh g_rr g_n g_k g_hc g_nav g_dn g_kc g_ud g_last g_y g_mode g_ql g_p g_accepted g_m b_buf b_hist b_histL b_draft b_ring b_ringL b_und b_undL b_undK b_q (t + 1) (nI t) := by
  intro t
  induction t with
  | zero => intro _ h; exact br_t (by decide) ⟨1, ywl_29 0 (by omega) h⟩
  | succ t ih =>
    intro ht h
    have ec : b_buf (nI (t + 1) - 1).toNatClampNeg = b_buf t := en_g t (nI_pred t)
    have hi : vp_in (nI (t + 1) - 1) 32 := en_in t (by omega) (nI_pred t)
    by_cases hw : ew (b_buf t)
    · rw [es_s b_buf false, if_neg (fun z => of_decide_eq_false z hw)] at h
      exact br_f (nI_nle (by omega) (by omega)) ⟨hi, yiw_t (by rw [ec]; exact hw) (br_f (by decide) ⟨t + 2, ywl_29 (t + 1) (by omega) h⟩)⟩
    · rw [es_s b_buf false, if_pos (decide_eq_false hw)] at h
      exact br_f (nI_nle (by omega) (by omega)) ⟨hi, yiw_f (by rw [ec]; exact hw) (br_t rfl (nm_r (pk_m1 t) (ih (by omega) h)))⟩
theorem ywl {post : Int32 → Prop} {k : Nat} (hk : k ≤ 32) (h : post (nI (ewl b_buf k))) : wpY_wl post (g_w, g_hh, g_rr, g_n, nI k, g_hc, g_nav, g_dn, g_kc, g_ud, g_last, g_y, g_mode, g_ql, g_p, g_accepted, g_m, b_buf, b_hist, b_histL, b_draft, b_ring, b_ringL, b_und, b_undL, b_undK, b_q) := ⟨k + 1, ywl_5 k hk h⟩
theorem ywr_31 {post : Int32 → Prop} {n : Nat} (hn : n ≤ 32) : ∀ d t, t + d = n → post (nI (et b_buf true d t)) → wY_wr_32 post g_w g_hh g_rr (nI n) g_k g_hc g_nav g_dn g_kc g_ud g_last g_y g_mode g_ql g_p g_accepted g_m b_buf b_hist b_histL b_draft b_ring b_ringL b_und b_undL b_undK b_q (d + 1) (nI t) := by
  intro d
  induction d with
  | zero => intro t ht h; exact ey_le n t (by omega) h
  | succ d ih =>
    intro t ht h
    have ec : b_buf (nI t).toNatClampNeg = b_buf t := en_g t
    by_cases hw : ew (b_buf t)
    · rw [et_s, if_pos (decide_eq_true hw)] at h
      exact en_le n t (by omega) ⟨en_in t (by omega), yiw_t (by rw [ec]; exact hw) (br_f (by decide) (nm_r (nI_1 t) (ih (t + 1) (by omega) h)))⟩
    · rw [et_s, if_neg (fun z => hw (of_decide_eq_true z))] at h
      exact en_le n t (by omega) ⟨en_in t (by omega), yiw_f (by rw [ec]; exact hw) (br_t rfl h)⟩
theorem ywr_5 {post : Int32 → Prop} {n : Nat} (hn : n ≤ 32) : ∀ d t, t + d = n → post (nI (et b_buf true (n - et b_buf false d t) (et b_buf false d t))) → wY_wr_5 post g_w g_hh g_rr (nI n) g_k g_hc g_nav g_dn g_kc g_ud g_last g_y g_mode g_ql g_p g_accepted g_m b_buf b_hist b_histL b_draft b_ring b_ringL b_und b_undL b_undK b_q (d + 1) (nI t) := by
  intro d
  induction d with
  | zero =>
    intro t ht h
    have e : n - t = 0 := by omega
    have h2 : post (nI (et b_buf true (n - t) t)) := h
    rw [e] at h2
    exact ey_le n t (by omega) ⟨1, ywr_31 hn 0 t (by omega) h2⟩
  | succ d ih =>
    intro t ht h
    have ec : b_buf (nI t).toNatClampNeg = b_buf t := en_g t
    by_cases hw : ew (b_buf t)
    · rw [et_s b_buf false, if_neg (fun z => of_decide_eq_false z hw)] at h
      rw [show n - t = d + 1 by omega] at h
      exact en_le n t (by omega) ⟨en_in t (by omega), yiw_t (by rw [ec]; exact hw) (br_f (by decide) ⟨d + 2, ywr_31 hn (d + 1) t (by omega) h⟩)⟩
    · rw [et_s b_buf false, if_pos (decide_eq_false hw)] at h
      exact en_le n t (by omega) ⟨en_in t (by omega), yiw_f (by rw [ec]; exact hw) (br_t rfl (nm_r (nI_1 t) (ih (t + 1) (by omega) h)))⟩
theorem ywr {post : Int32 → Prop} {n k : Nat} (hn : n ≤ 32) (hk : k ≤ n) (h : post (nI (ewr b_buf n k))) : wpY_wr post (g_w, g_hh, g_rr, nI n, nI k, g_hc, g_nav, g_dn, g_kc, g_ud, g_last, g_y, g_mode, g_ql, g_p, g_accepted, g_m, b_buf, b_hist, b_histL, b_draft, b_ring, b_ringL, b_und, b_undL, b_undK, b_q) := ⟨n - k + 1, ywr_5 hn (n - k) k (by omega) h⟩
end
