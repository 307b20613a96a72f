/-! N: the reference's buffer and undo stack -/
section
variable {g_w g_hh g_rr g_n g_k g_hc g_nav g_dn g_kc g_ud g_last g_y g_mode g_ql g_p g_accepted g_m : Int32} {b_buf b_hist b_histL b_draft b_ring b_ringL b_und b_undL b_undK b_q : Nat → Int32}
theorem yin_27 {post : SY → Prop} {a n : Nat} {c : Int32} (hn : n < 32) (h : post (g_w, g_hh, g_rr, nI (n + 1), g_k, g_hc, g_nav, g_dn, g_kc, g_ud, g_last, g_y, g_mode, g_ql, g_p, g_accepted, g_m, upd (ec_cp b_buf a b_buf (a + 1) (n - a)) a c, b_hist, b_histL, b_draft, b_ring, b_ringL, b_und, b_undL, b_undK, b_q)) : ∀ d e, a + d + e = n → wY_insertChar_27 post (nI a) c g_w g_hh g_rr (nI n) g_k g_hc g_nav g_dn g_kc g_ud g_last g_y g_mode g_ql g_p g_accepted g_m (d + 1) (nI (a + d)) (ec_cp b_buf (a + d) b_buf (a + d + 1) e) b_hist b_histL b_draft b_ring b_ringL b_und b_undL b_undK b_q := by
  intro d
  induction d with
  | zero =>
    intro e he
    obtain rfl : e = n - a := by omega
    exact ey_le a a (Nat.le_refl _) ⟨en_in a (by omega), nm_r (en_u a) (nm_r (nI_1 n) h)⟩
  | succ d ih =>
    intro e he
    exact en_le (a + d + 1) a (by omega) ⟨en_in (a + d) (by omega) (nI_pred (a + d)), en_in (a + d + 1) (by omega), nm_r ((en_u (a + d + 1) (en_g (a + d) (nI_pred (a + d)))).trans (ec_dn (a := a + d) (b := a + d + 1) (by omega) e)) (nm_r (pk_m1 (a + d)) (ih (e + 1) (by omega)))⟩
theorem yin {post : SY → Prop} {x c : Int32} (a n : Nat) (hn : n < 32) (ha : a ≤ n) (h : post (g_w, g_hh, g_rr, nI (n + 1), g_k, g_hc, g_nav, g_dn, g_kc, g_ud, g_last, g_y, g_mode, g_ql, g_p, g_accepted, g_m, upd (ec_cp b_buf a b_buf (a + 1) (n - a)) a c, b_hist, b_histL, b_draft, b_ring, b_ringL, b_und, b_undL, b_undK, b_q)) (hx : x = nI a := by first | with_reducible rfl | (simp (disch := omega) only [nI_add, nI_1, en_m1, en_s1, pk_sub, pk_mul, en_32, en_a2, en_a3, en_p32, en_s32, en_p2, en_s2, en_s3] <;> exact congrArg nI (by omega)) | exact congrArg nI (by omega) | rfl) : wpY_insertChar post (g_w, g_hh, g_rr, nI n, g_k, g_hc, g_nav, g_dn, g_kc, g_ud, g_last, g_y, g_mode, g_ql, g_p, g_accepted, g_m, b_buf, b_hist, b_histL, b_draft, b_ring, b_ringL, b_und, b_undL, b_undK, b_q) x c := by
  subst hx
  have := yin_27 hn h (n - a) 0 (by omega)
  rw [ec_0, show a + (n - a) = n by omega] at this
  exact en_le 32 n (by omega) (br_f (nI_pos (by omega)) (ey_le a n ha ⟨n - a + 1, this⟩))
theorem yrm_15 {post : SY → Prop} {a n : Nat} (hn : n ≤ 32) (ha : a < n) (h : post (g_w, g_hh, g_rr, nI (n - 1), g_k, g_hc, g_nav, g_dn, g_kc, g_ud, g_last, g_y, g_mode, g_ql, g_p, g_accepted, g_m, ec_cp b_buf (a + 1) b_buf a (n - 1 - a), b_hist, b_histL, b_draft, b_ring, b_ringL, b_und, b_undL, b_undK, b_q)) : ∀ d i, a + i + d = n - 1 → wY_removeAt_15 post g_w g_hh g_rr (nI n) g_k g_hc g_nav g_dn g_kc g_ud g_last g_y g_mode g_ql g_p g_accepted g_m (d + 1) (nI (a + i)) (ec_cp b_buf (a + 1) b_buf a i) b_hist b_histL b_draft b_ring b_ringL b_und b_undL b_undK b_q := by
  intro d
  induction d with
  | zero =>
    intro i hi
    obtain rfl : i = n - 1 - a := by omega
    exact ey_le (n - 1) (a + (n - 1 - a)) (by omega) (nm_r (en_s1 (by omega)) h)
  | succ d ih =>
    intro i hi
    exact en_le (n - 1) (a + i) (by omega) ⟨en_in (a + 1 + i) (by omega), en_in (a + i) (by omega), nm_r ((en_u (a + i) (en_g (a + 1 + i))).trans (ec_up (by omega) i)) (nm_r (nI_1 _) (ih (i + 1) (by omega)))⟩
theorem yrm {post : SY → Prop} {x : Int32} (a n : Nat) (hn : n ≤ 32) (ha : a < n) (h : post (g_w, g_hh, g_rr, nI (n - 1), g_k, g_hc, g_nav, g_dn, g_kc, g_ud, g_last, g_y, g_mode, g_ql, g_p, g_accepted, g_m, ec_cp b_buf (a + 1) b_buf a (n - 1 - a), b_hist, b_histL, b_draft, b_ring, b_ringL, b_und, b_undL, b_undK, b_q)) (hx : x = nI a := by first | with_reducible rfl | (simp (disch := omega) only [nI_add, nI_1, en_m1, en_s1, pk_sub, pk_mul, en_32, en_a2, en_a3, en_p32, en_s32, en_p2, en_s2, en_s3] <;> exact congrArg nI (by omega)) | exact congrArg nI (by omega) | rfl) : wpY_removeAt post (g_w, g_hh, g_rr, nI n, g_k, g_hc, g_nav, g_dn, g_kc, g_ud, g_last, g_y, g_mode, g_ql, g_p, g_accepted, g_m, b_buf, b_hist, b_histL, b_draft, b_ring, b_ringL, b_und, b_undL, b_undK, b_q) x := by
  subst hx
  have := yrm_15 hn ha h (n - 1 - a) 0 (by omega)
  rw [ec_0] at this
  exact br_f (nI_pos (by omega)) (ey_lt a n ha ⟨n - 1 - a + 1, this⟩)
theorem ypu_98 {post : SY → Prop} {ud : Nat} (h8 : ud < 8) (h : post (g_w, g_hh, g_rr, g_n, g_k, g_hc, g_nav, g_dn, g_kc, nI (ud + 1), g_last, g_y, g_mode, g_ql, g_p, g_accepted, g_m, b_buf, b_hist, b_histL, b_draft, b_ring, b_ringL, ec_cp b_buf 0 b_und (ud * 32) 32, upd b_undL ud g_n, upd b_undK ud g_k, b_q)) : ∀ d i, i + d = 32 → wY_push_98 post g_w g_hh g_rr g_n g_k g_hc g_nav g_dn g_kc (nI ud) g_last g_y g_mode g_ql g_p g_accepted g_m (d + 1) (nI i) b_buf b_hist b_histL b_draft b_ring b_ringL (ec_cp b_buf 0 b_und (ud * 32) i) b_undL b_undK b_q := by
  intro d
  induction d with
  | zero =>
    intro i hi
    obtain rfl : i = 32 := by omega
    exact ey_le 32 32 (Nat.le_refl _) ⟨en_in ud h8, nm_r (en_u ud) ⟨en_in ud h8, nm_r (en_u ud) (nm_r (nI_1 ud) h)⟩⟩
  | succ d ih =>
    intro i hi
    exact en_le 32 i (by omega) ⟨en_in i (by omega), en_in (ud * 32 + i) (by omega), nm_r ((en_u (ud * 32 + i) (en_g (0 + i))).trans (ec_s b_buf 0 b_und (ud * 32) i)) (nm_r (nI_1 i) (ih (i + 1) (by omega)))⟩
theorem ypu_98' {post : SY → Prop} {ud : Nat} (h8 : ud < 8) (h : post (g_w, g_hh, g_rr, g_n, g_k, g_hc, g_nav, g_dn, g_kc, nI (ud + 1), g_last, g_y, g_mode, g_ql, g_p, g_accepted, g_m, b_buf, b_hist, b_histL, b_draft, b_ring, b_ringL, ec_cp b_buf 0 b_und (ud * 32) 32, upd b_undL ud g_n, upd b_undK ud g_k, b_q)) : wY_push_98 post g_w g_hh g_rr g_n g_k g_hc g_nav g_dn g_kc (nI ud) g_last g_y g_mode g_ql g_p g_accepted g_m 33 0 b_buf b_hist b_histL b_draft b_ring b_ringL b_und b_undL b_undK b_q := by
  have := ypu_98 h8 h 32 0 (by omega)
  rw [ec_0] at this
  exact this
theorem ypu_19 {post : SY → Prop} {J : Int32 → (Nat → Int32) → (Nat → Int32) → (Nat → Int32) → (Nat → Int32) → (Nat → Int32) → (Nat → Int32) → (Nat → Int32) → (Nat → Int32) → (Nat → Int32) → (Nat → Int32) → Prop} {s : Nat} (hs : s < 7) (h : J (nI (s + 1)) b_buf b_hist b_histL b_draft b_ring b_ringL (ec_cp b_und 32 b_und 0 (s * 32 + 32)) (ec_cp b_undL 1 b_undL 0 (s + 1)) (ec_cp b_undK 1 b_undK 0 (s + 1)) b_q) : ∀ d j, j + d = 32 → wY_push_19 post J (nI s) g_w g_hh g_rr g_n g_k g_hc g_nav g_dn g_kc g_ud g_last g_y g_mode g_ql g_p g_accepted g_m (d + 1) (nI j) b_buf b_hist b_histL b_draft b_ring b_ringL (ec_cp b_und 32 b_und 0 (s * 32 + j)) (ec_cp b_undL 1 b_undL 0 s) (ec_cp b_undK 1 b_undK 0 s) b_q := by
  intro d
  induction d with
  | zero =>
    intro j hj
    obtain rfl : j = 32 := by omega
    exact ey_le 32 32 (Nat.le_refl _) ⟨en_in (s + 1) (by omega), en_in s (by omega), nm_r ((en_u (0 + s) (en_g (1 + s))).trans (ec_up (by omega) s)) ⟨en_in (s + 1) (by omega), en_in s (by omega), nm_r ((en_u (0 + s) (en_g (1 + s))).trans (ec_up (by omega) s)) (nm_r (nI_1 s) h)⟩⟩
  | succ d ih =>
    intro j hj
    exact en_le 32 j (by omega) ⟨en_in (s * 32 + 32 + j) (by omega), en_in (s * 32 + j) (by omega), nm_r ((en_u (0 + (s * 32 + j)) (en_g (32 + (s * 32 + j)))).trans (ec_up (by omega) (s * 32 + j))) (nm_r (nI_1 j) (ih (j + 1) (by omega)))⟩
theorem ypu_11 {post : SY → Prop} (h : post (g_w, g_hh, g_rr, g_n, g_k, g_hc, g_nav, g_dn, g_kc, nI 8, g_last, g_y, g_mode, g_ql, g_p, g_accepted, g_m, b_buf, b_hist, b_histL, b_draft, b_ring, b_ringL, ec_cp b_buf 0 (ec_cp b_und 32 b_und 0 (7 * 32)) (7 * 32) 32, upd (ec_cp b_undL 1 b_undL 0 7) 7 g_n, upd (ec_cp b_undK 1 b_undK 0 7) 7 g_k, b_q)) : ∀ d s, s + d = 7 → wY_push_11 post g_w g_hh g_rr g_n g_k g_hc g_nav g_dn g_kc g_ud g_last g_y g_mode g_ql g_p g_accepted g_m (d + 1) (nI s) b_buf b_hist b_histL b_draft b_ring b_ringL (ec_cp b_und 32 b_und 0 (s * 32)) (ec_cp b_undL 1 b_undL 0 s) (ec_cp b_undK 1 b_undK 0 s) b_q := by
  intro d
  induction d with
  | zero =>
    intro s hs
    obtain rfl : s = 7 := by omega
    exact ey_le 7 7 (Nat.le_refl _) ⟨33, ypu_98' (ud := 7) (by omega) h⟩
  | succ d ih =>
    intro s hs
    have ih2 := ih (s + 1) (by omega)
    rw [show (s + 1) * 32 = s * 32 + 32 by omega] at ih2
    exact en_le 7 s (by omega) ⟨33, ypu_19 (by omega) ih2 32 0 (by omega)⟩
theorem ypu {post : SY → Prop} {ud : Nat} (h8 : ud ≤ 8) (h : post (g_w, g_hh, g_rr, g_n, g_k, g_hc, g_nav, g_dn, g_kc, nI (ep_n ud), g_last, g_y, g_mode, g_ql, g_p, g_accepted, g_m, b_buf, b_hist, b_histL, b_draft, b_ring, b_ringL, ep_U b_buf b_und 32 ud, ep_L b_undL g_n ud, ep_L b_undK g_k ud, b_q)) : wpY_push post (g_w, g_hh, g_rr, g_n, g_k, g_hc, g_nav, g_dn, g_kc, nI ud, g_last, g_y, g_mode, g_ql, g_p, g_accepted, g_m, b_buf, b_hist, b_histL, b_draft, b_ring, b_ringL, b_und, b_undL, b_undK, b_q) := by
  unfold ep_n ep_U ep_L at h
  by_cases e : ud = 8
  · subst e
    simp only [if_pos] at h
    have := ypu_11 (g_ud := nI 8) h 7 0 (by omega)
    rw [Nat.zero_mul, ec_0, ec_0, ec_0] at this
    exact ey_eq 8 8 rfl ⟨8, this⟩
  · simp only [if_neg e] at h
    exact en_eq ud 8 e ⟨33, ypu_98' (by omega) h⟩
theorem ylh_2 {post : SY → Prop} {i l : Nat} (hi : i < 8) (e : b_histL i = nI l) (h : post (g_w, g_hh, g_rr, nI l, nI l, g_hc, g_nav, g_dn, g_kc, g_ud, g_last, g_y, g_mode, g_ql, g_p, g_accepted, g_m, ec_cp b_hist (i * 32) b_buf 0 32, b_hist, b_histL, b_draft, b_ring, b_ringL, b_und, b_undL, b_undK, b_q)) : ∀ d j, j + d = 32 → wY_loadHist_2 post (nI i) g_w g_hh g_rr g_n g_k g_hc g_nav g_dn g_kc g_ud g_last g_y g_mode g_ql g_p g_accepted g_m (d + 1) (nI j) (ec_cp b_hist (i * 32) b_buf 0 j) b_hist b_histL b_draft b_ring b_ringL b_und b_undL b_undK b_q := by
  intro d
  induction d with
  | zero =>
    intro j hj
    obtain rfl : j = 32 := by omega
    exact ey_le 32 32 (Nat.le_refl _) ⟨en_in i hi, nm_r ((en_g i).trans e) h⟩
  | succ d ih =>
    intro j hj
    exact en_le 32 j (by omega) ⟨en_in (i * 32 + j) (by omega), en_in j (by omega), nm_r ((en_u (0 + j) (en_g (i * 32 + j))).trans (ec_s b_hist (i * 32) b_buf 0 j)) (nm_r (nI_1 j) (ih (j + 1) (by omega)))⟩
theorem ylh {post : SY → Prop} {x : Int32} (i l : Nat) (hi : i < 8) (e : b_histL i = nI l) (h : post (g_w, g_hh, g_rr, nI l, nI l, g_hc, g_nav, g_dn, g_kc, g_ud, g_last, g_y, g_mode, g_ql, g_p, g_accepted, g_m, ec_cp b_hist (i * 32) b_buf 0 32, b_hist, b_histL, b_draft, b_ring, b_ringL, b_und, b_undL, b_undK, b_q)) (hx : x = nI i := by first | with_reducible rfl | (simp (disch := omega) only [nI_add, nI_1, en_m1, en_s1, pk_sub, pk_mul, en_32, en_a2, en_a3, en_p32, en_s32, en_p2, en_s2, en_s3] <;> exact congrArg nI (by omega)) | exact congrArg nI (by omega) | rfl) : wpY_loadHist post (g_w, g_hh, g_rr, g_n, g_k, g_hc, g_nav, g_dn, g_kc, g_ud, g_last, g_y, g_mode, g_ql, g_p, g_accepted, g_m, b_buf, b_hist, b_histL, b_draft, b_ring, b_ringL, b_und, b_undL, b_undK, b_q) x := by
  subst hx
  have := ylh_2 (g_n := g_n) (g_k := g_k) hi e h 32 0 (by omega)
  rw [ec_0] at this
  exact ⟨33, this⟩
end
