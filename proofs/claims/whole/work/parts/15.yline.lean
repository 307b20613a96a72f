/-! R: the reference's undo, history steps, enter -/
section
variable {g_w g_hh g_rr g_n g_k g_hc g_nav g_dn g_kc g_ud g_last g_y g_mode g_ql g_p g_accepted g_m : Int32} {b_buf b_hist b_histL b_draft b_ring b_ringL b_und b_undL b_undK b_q : Nat → Int32}
theorem yu_387 {post : Int32 → SY → Prop} {u l t : Nat} (hu : u < 8) (hl : b_undL u = nI l) (ht : b_undK u = nI t) (h : post 1 (g_w, g_hh, g_rr, nI l, nI t, g_hc, g_nav, g_dn, g_kc, nI u, 0, g_y, g_mode, g_ql, g_p, g_accepted, g_m, ec_cp b_und (u * 32) b_buf 0 32, b_hist, b_histL, b_draft, b_ring, b_ringL, b_und, b_undL, b_undK, b_q)) : ∀ d j, j + d = 32 → wY_editKey_387 post g_w g_hh g_rr g_n g_k g_hc g_nav g_dn g_kc (nI u) g_last g_y g_mode g_ql g_p g_accepted g_m (d + 1) (nI j) (ec_cp b_und (u * 32) b_buf 0 j) b_hist b_histL b_draft b_ring b_ringL b_und b_undL b_undK b_q := by
  intro d
  induction d with
  | zero =>
    intro j hj
    obtain rfl : j = 32 := by omega
    exact ey_le 32 32 (Nat.le_refl _) ⟨en_in u hu, nm_r ((en_g u).trans hl) ⟨en_in u hu, nm_r ((en_g u).trans ht) h⟩⟩
  | succ d ih =>
    intro j hj
    exact en_le 32 j (by omega) ⟨en_in (u * 32 + j) (by omega), en_in j (by omega), nm_r ((en_u (0 + j) (en_g (u * 32 + j))).trans (ec_s b_und (u * 32) b_buf 0 j)) (nm_r (nI_1 j) (ih (j + 1) (by omega)))⟩
theorem yu {post : Int32 → SY → Prop} {u l t : Nat} (hu : u < 8) (hl : b_undL u = nI l) (ht : b_undK u = nI t) (h : post 1 (g_w, g_hh, g_rr, nI l, nI t, g_hc, g_nav, g_dn, g_kc, nI u, 0, g_y, g_mode, g_ql, g_p, g_accepted, g_m, ec_cp b_und (u * 32) b_buf 0 32, b_hist, b_histL, b_draft, b_ring, b_ringL, b_und, b_undL, b_undK, b_q)) : ∃ z, wY_editKey_387 post g_w g_hh g_rr g_n g_k g_hc g_nav g_dn g_kc (nI u) g_last g_y g_mode g_ql g_p g_accepted g_m z 0 b_buf b_hist b_histL b_draft b_ring b_ringL b_und b_undL b_undK b_q := by
  have := yu_387 (g_n := g_n) (g_k := g_k) (g_last := g_last) hu hl ht h 32 0 (by omega)
  rw [ec_0] at this
  exact ⟨33, this⟩
theorem yh_508 {post : Int32 → SY → Prop} {v l : Nat} (hv : v < 8) (hl : b_histL v = nI l) (h : post 1 (g_w, g_hh, g_rr, nI l, nI l, g_hc, nI v, g_dn, g_kc, 0, 0, g_y, g_mode, g_ql, g_p, g_accepted, g_m, ec_cp b_hist (v * 32) b_buf 0 32, b_hist, b_histL, b_draft, b_ring, b_ringL, b_und, b_undL, b_undK, b_q)) : wY_editKey_508 post g_w g_hh g_rr g_n g_k g_hc (nI (v + 1)) g_dn g_kc g_ud g_last g_y g_mode g_ql g_p g_accepted g_m b_buf b_hist b_histL b_draft b_ring b_ringL b_und b_undL b_undK b_q :=
  nm_r (nI_pred v) (ylh v l hv hl h)
theorem yh_476 {post : Int32 → SY → Prop} (h : wY_editKey_508 post g_w g_hh g_rr g_n g_k g_hc g_nav g_n g_kc g_ud g_last g_y g_mode g_ql g_p g_accepted g_m b_buf b_hist b_histL (ec_cp b_buf 0 b_draft 0 32) b_ring b_ringL b_und b_undL b_undK b_q) : ∀ d j, j + d = 32 → wY_editKey_476 post g_w g_hh g_rr g_n g_k g_hc g_nav g_dn g_kc g_ud g_last g_y g_mode g_ql g_p g_accepted g_m (d + 1) (nI j) b_buf b_hist b_histL (ec_cp b_buf 0 b_draft 0 j) b_ring b_ringL b_und b_undL b_undK b_q := by
  intro d
  induction d with
  | zero =>
    intro j hj
    obtain rfl : j = 32 := by omega
    exact ey_le 32 32 (Nat.le_refl _) h
  | succ d ih =>
    intro j hj
    exact en_le 32 j (by omega) ⟨en_in j (by omega), en_in j (by omega), nm_r ((en_u (0 + j) (en_g (0 + j))).trans (ec_s b_buf 0 b_draft 0 j)) (nm_r (nI_1 j) (ih (j + 1) (by omega)))⟩
theorem yh_d {post : Int32 → SY → Prop} (h : wY_editKey_508 post g_w g_hh g_rr g_n g_k g_hc g_nav g_n g_kc g_ud g_last g_y g_mode g_ql g_p g_accepted g_m b_buf b_hist b_histL (ec_cp b_buf 0 b_draft 0 32) b_ring b_ringL b_und b_undL b_undK b_q) : ∃ z, wY_editKey_476 post g_w g_hh g_rr g_n g_k g_hc g_nav g_dn g_kc g_ud g_last g_y g_mode g_ql g_p g_accepted g_m z 0 b_buf b_hist b_histL b_draft b_ring b_ringL b_und b_undL b_undK b_q := by
  have := yh_476 (g_dn := g_dn) h 32 0 (by omega)
  rw [ec_0] at this
  exact ⟨33, this⟩
theorem yh_576 {post : Int32 → SY → Prop} (h : post 1 (g_w, g_hh, g_rr, g_dn, g_dn, g_hc, g_nav, 0, g_kc, 0, 0, g_y, g_mode, g_ql, g_p, g_accepted, g_m, ec_cp b_draft 0 b_buf 0 32, b_hist, b_histL, b_draft, b_ring, b_ringL, b_und, b_undL, b_undK, b_q)) : ∀ d j, j + d = 32 → wY_editKey_576 post g_w g_hh g_rr g_n g_k g_hc g_nav g_dn g_kc g_ud g_last g_y g_mode g_ql g_p g_accepted g_m (d + 1) (nI j) (ec_cp b_draft 0 b_buf 0 j) b_hist b_histL b_draft b_ring b_ringL b_und b_undL b_undK b_q := by
  intro d
  induction d with
  | zero =>
    intro j hj
    obtain rfl : j = 32 := by omega
    exact ey_le 32 32 (Nat.le_refl _) h
  | succ d ih =>
    intro j hj
    exact en_le 32 j (by omega) ⟨en_in j (by omega), en_in j (by omega), nm_r ((en_u (0 + j) (en_g (0 + j))).trans (ec_s b_draft 0 b_buf 0 j)) (nm_r (nI_1 j) (ih (j + 1) (by omega)))⟩
theorem yh_l {post : Int32 → SY → Prop} (h : post 1 (g_w, g_hh, g_rr, g_dn, g_dn, g_hc, g_nav, 0, g_kc, 0, 0, g_y, g_mode, g_ql, g_p, g_accepted, g_m, ec_cp b_draft 0 b_buf 0 32, b_hist, b_histL, b_draft, b_ring, b_ringL, b_und, b_undL, b_undK, b_q)) : ∃ z, wY_editKey_576 post g_w g_hh g_rr g_n g_k g_hc g_nav g_dn g_kc g_ud g_last g_y g_mode g_ql g_p g_accepted g_m z 0 b_buf b_hist b_histL b_draft b_ring b_ringL b_und b_undL b_undK b_q := by
  have := yh_576 (g_n := g_n) (g_k := g_k) (g_ud := g_ud) (g_last := g_last) h 32 0 (by omega)
  rw [ec_0] at this
  exact ⟨33, this⟩
theorem ye_747 {post : Int32 → SY → Prop} {c : Nat} (h8 : c < 8) (h : post 1 (g_w, g_hh, g_rr, 0, 0, nI (c + 1), nI (c + 1), 0, g_kc, 0, 0, g_y, g_mode, g_ql, g_p, g_accepted + 1, g_m, b_buf, ec_cp b_buf 0 b_hist (c * 32) 32, upd b_histL c g_n, b_draft, b_ring, b_ringL, b_und, b_undL, b_undK, b_q)) : ∀ d i, i + d = 32 → wY_editKey_747 post g_w g_hh g_rr g_n g_k (nI c) g_nav g_dn g_kc g_ud g_last g_y g_mode g_ql g_p g_accepted g_m (d + 1) (nI i) b_buf (ec_cp b_buf 0 b_hist (c * 32) i) b_histL b_draft b_ring b_ringL b_und b_undL b_undK b_q := by
  intro d
  induction d with
  | zero =>
    intro i hi
    obtain rfl : i = 32 := by omega
    exact ey_le 32 32 (Nat.le_refl _) ⟨en_in c h8, nm_r (en_u c) (nm_r (nI_1 c) (nm_e h))⟩
  | succ d ih =>
    intro i hi
    exact en_le 32 i (by omega) ⟨en_in i (by omega), en_in (c * 32 + i) (by omega), nm_r ((en_u (c * 32 + i) (en_g (0 + i))).trans (ec_s b_buf 0 b_hist (c * 32) i)) (nm_r (nI_1 i) (ih (i + 1) (by omega)))⟩
theorem ye_n {post : Int32 → SY → Prop} {c : Nat} (h8 : c < 8) (h : post 1 (g_w, g_hh, g_rr, 0, 0, nI (c + 1), nI (c + 1), 0, g_kc, 0, 0, g_y, g_mode, g_ql, g_p, g_accepted + 1, g_m, b_buf, ec_cp b_buf 0 b_hist (c * 32) 32, upd b_histL c g_n, b_draft, b_ring, b_ringL, b_und, b_undL, b_undK, b_q)) : ∃ z, wY_editKey_747 post g_w g_hh g_rr g_n g_k (nI c) g_nav g_dn g_kc g_ud g_last g_y g_mode g_ql g_p g_accepted g_m z 0 b_buf b_hist b_histL b_draft b_ring b_ringL b_und b_undL b_undK b_q := by
  have := ye_747 (g_k := g_k) (g_nav := g_nav) (g_dn := g_dn) (g_ud := g_ud) (g_last := g_last) h8 h 32 0 (by omega)
  rw [ec_0] at this
  exact ⟨33, this⟩
theorem ye_678 {post : Int32 → SY → Prop} {J : Int32 → (Nat → Int32) → (Nat → Int32) → (Nat → Int32) → (Nat → Int32) → (Nat → Int32) → (Nat → Int32) → (Nat → Int32) → (Nat → Int32) → (Nat → Int32) → (Nat → Int32) → Prop} {s : Nat} (hs : s < 7) (h : J (nI (s + 1)) b_buf (ec_cp b_hist 32 b_hist 0 (s * 32 + 32)) (ec_cp b_histL 1 b_histL 0 (s + 1)) b_draft b_ring b_ringL b_und b_undL b_undK b_q) : ∀ d j, j + d = 32 → wY_editKey_678 post J (nI s) g_w g_hh g_rr g_n g_k g_hc g_nav g_dn g_kc g_ud g_last g_y g_mode g_ql g_p g_accepted g_m (d + 1) (nI j) b_buf (ec_cp b_hist 32 b_hist 0 (s * 32 + j)) (ec_cp b_histL 1 b_histL 0 s) b_draft b_ring b_ringL b_und b_undL b_undK b_q := by
  intro d
  induction d with
  | zero =>
    intro j hj
    obtain rfl : j = 32 := by omega
    exact ey_le 32 32 (Nat.le_refl _) ⟨en_in (s + 1) (by omega), en_in s (by omega), nm_r ((en_u (0 + s) (en_g (1 + s))).trans (ec_up (by omega) s)) (nm_r (nI_1 s) h)⟩
  | succ d ih =>
    intro j hj
    exact en_le 32 j (by omega) ⟨en_in (s * 32 + 32 + j) (by omega), en_in (s * 32 + j) (by omega), nm_r ((en_u (0 + (s * 32 + j)) (en_g (32 + (s * 32 + j)))).trans (ec_up (by omega) (s * 32 + j))) (nm_r (nI_1 j) (ih (j + 1) (by omega)))⟩
theorem ye_666 {post : Int32 → SY → Prop} {c : Nat} (h8 : c < 8) (h : post 1 (g_w, g_hh, g_rr, 0, 0, nI (c + 1), nI (c + 1), 0, g_kc, 0, 0, g_y, g_mode, g_ql, g_p, g_accepted + 1, g_m, b_buf, ec_cp b_buf 0 (ec_cp b_hist 32 b_hist 0 (c * 32)) (c * 32) 32, upd (ec_cp b_histL 1 b_histL 0 c) c g_n, b_draft, b_ring, b_ringL, b_und, b_undL, b_undK, b_q)) : ∀ d s, s + d = c → wY_editKey_666 post g_w g_hh g_rr g_n g_k (nI (c + 1)) g_nav g_dn g_kc g_ud g_last g_y g_mode g_ql g_p g_accepted g_m (d + 1) (nI s) b_buf (ec_cp b_hist 32 b_hist 0 (s * 32)) (ec_cp b_histL 1 b_histL 0 s) b_draft b_ring b_ringL b_und b_undL b_undK b_q := by
  intro d
  induction d with
  | zero =>
    intro s hs
    obtain rfl : s = c := by omega
    exact ey_le s s (Nat.le_refl _) (nm_r (nI_pred s) (ye_n (g_k := g_k) (g_nav := g_nav) (g_dn := g_dn) (g_ud := g_ud) (g_last := g_last) h8 h)) (nI_pred s)
  | succ d ih =>
    intro s hs
    have ih2 := ih (s + 1) (by omega)
    rw [show (s + 1) * 32 = s * 32 + 32 by omega] at ih2
    exact en_le c s (by omega) ⟨33, ye_678 (by omega) ih2 32 0 (by omega)⟩ (nI_pred c)
theorem ye_f {post : Int32 → SY → Prop} {c : Nat} (h8 : c < 8) (h : post 1 (g_w, g_hh, g_rr, 0, 0, nI (c + 1), nI (c + 1), 0, g_kc, 0, 0, g_y, g_mode, g_ql, g_p, g_accepted + 1, g_m, b_buf, ec_cp b_buf 0 (ec_cp b_hist 32 b_hist 0 (c * 32)) (c * 32) 32, upd (ec_cp b_histL 1 b_histL 0 c) c g_n, b_draft, b_ring, b_ringL, b_und, b_undL, b_undK, b_q)) : ∃ z, wY_editKey_666 post g_w g_hh g_rr g_n g_k (nI (c + 1)) g_nav g_dn g_kc g_ud g_last g_y g_mode g_ql g_p g_accepted g_m z 0 b_buf b_hist b_histL b_draft b_ring b_ringL b_und b_undL b_undK b_q := by
  have := ye_666 (g_k := g_k) (g_nav := g_nav) (g_dn := g_dn) (g_ud := g_ud) (g_last := g_last) h8 h c 0 (by omega)
  rw [Nat.zero_mul, ec_0, ec_0] at this
  exact ⟨c + 1, this⟩
end
