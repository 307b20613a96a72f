/-! T: the kills (written by wip/whole/gen17.py) -/
section
variable {g_w g_hh g_rr g_n g_k g_hc g_nav g_dn g_kc g_ud g_last g_y g_mode g_ql g_p g_accepted g_m : Int32} {b_buf b_hist b_histL b_draft b_ring b_ringL b_und b_undL b_undK b_q : Nat → Int32}
theorem yk_359' {post : Int32 → SY → Prop} {a c : Nat} (h1 : a + c ≤ 32) (h : ∀ f : Nat → Int32, f = upd b_ringL 0 (nI c) → (g_rr ≤ g_kc → ∃ z, wY_kill_420 post (nI a) (nI c) z 0 g_w g_hh g_rr g_n g_k g_hc g_nav g_dn g_kc g_ud g_last g_y g_mode g_ql g_p g_accepted g_m b_buf b_hist b_histL b_draft (ec_cp b_buf a b_ring 0 c) f b_und b_undL b_undK b_q) ∧ (¬ g_rr ≤ g_kc → ∀ k, k = g_kc + 1 → ∃ z, wY_kill_420 post (nI a) (nI c) z 0 g_w g_hh g_rr g_n g_k g_hc g_nav g_dn k g_ud g_last g_y g_mode g_ql g_p g_accepted g_m b_buf b_hist b_histL b_draft (ec_cp b_buf a b_ring 0 c) f b_und b_undL b_undK b_q)) : ∃ z, wY_kill_359 post (nI a) (nI c) g_w g_hh g_rr g_n g_k g_hc g_nav g_dn g_kc g_ud g_last g_y g_mode g_ql g_p g_accepted g_m z 0 b_buf b_hist b_histL b_draft b_ring b_ringL b_und b_undL b_undK b_q := by
  have := yk_359 h1 h c 0 (by omega)
  rw [ec_0] at this
  exact ⟨c + 1, this⟩
theorem yk_283' {post : Int32 → SY → Prop} {x2 x5 : Int32} {T : Nat} (hT : T < 4) (h : ∃ z, wY_kill_359 post x2 x5 g_w g_hh g_rr g_n g_k g_hc g_nav g_dn g_kc g_ud g_last g_y g_mode g_ql g_p g_accepted g_m z 0 b_buf b_hist b_histL b_draft (ec_cp b_ring 0 b_ring 32 (T * 32)) (ec_cp b_ringL 0 b_ringL 1 T) b_und b_undL b_undK b_q) : ∃ z, wY_kill_283 post x2 x5 g_w g_hh g_rr g_n g_k g_hc g_nav g_dn g_kc g_ud g_last g_y g_mode g_ql g_p g_accepted g_m z (nI T) b_buf b_hist b_histL b_draft b_ring b_ringL b_und b_undL b_undK b_q := by
  have := yk_283 hT h T 0 (by omega)
  rw [Nat.zero_mul, ec_0, ec_0] at this
  exact ⟨T + 1, this⟩
theorem yk_203' {post : Int32 → SY → Prop} {a c s : Nat} (h1 : a + c ≤ 32) (h2 : s + c ≤ 32) (hs : b_ringL 0 = nI s) (h : wY_kill_239 post (nI a) (nI c) g_w g_hh g_rr g_n g_k g_hc g_nav g_dn g_kc g_ud g_last g_y g_mode g_ql g_p g_accepted g_m b_buf b_hist b_histL b_draft (ec_cp b_buf a b_ring s c) b_ringL b_und b_undL b_undK b_q) : ∃ z, wY_kill_203 post (nI a) (nI c) g_w g_hh g_rr g_n g_k g_hc g_nav g_dn g_kc g_ud g_last g_y g_mode g_ql g_p g_accepted g_m z 0 b_buf b_hist b_histL b_draft b_ring b_ringL b_und b_undL b_undK b_q := by
  have := yk_203 h1 h2 hs h c 0 (by omega)
  rw [ec_0] at this
  exact ⟨c + 1, this⟩
theorem yk_137' {post : Int32 → SY → Prop} {a c s : Nat} (h1 : a + c ≤ 32) (h2 : s + c ≤ 32) (h : wY_kill_239 post (nI a) (nI c) g_w g_hh g_rr g_n g_k g_hc g_nav g_dn g_kc g_ud g_last g_y g_mode g_ql g_p g_accepted g_m b_buf b_hist b_histL b_draft (ec_cp b_buf a (ec_cp b_ring 0 b_ring c s) 0 c) b_ringL b_und b_undL b_undK b_q) : ∃ z, wY_kill_137 post (nI a) (nI c) g_w g_hh g_rr g_n g_k g_hc g_nav g_dn g_kc g_ud g_last g_y g_mode g_ql g_p g_accepted g_m z (nI s - 1) b_buf b_hist b_histL b_draft b_ring b_ringL b_und b_undL b_undK b_q := by
  have := yk_137 h1 h2 h s 0 (by omega)
  rw [ec_0] at this
  exact ⟨s + 1, this⟩
end
section
variable {w hh rr n k hc nav dn kc y ud mo la ql p dl dc : Nat} {m ac xdl xdc xtr xtc : Int32} {B H HL D R RL U UL UK Q DS SC B' H' HL' D' R' RL' U' UL' UK' Q' : Nat → Int32}
theorem e_kf_2 {st e c : Nat} (C : eC w hh rr n k hc nav dn (c + 1) y ud mo 2 ql p m B H HL D R RL U UL UK Q B' H' HL' D' R' RL' U' UL' UK' Q') (he : 1 ≤ e) (h1 : k + e ≤ n) (S0 : mo = 0 ∧ m = -1 ∧ ql = 0) : eO (fun post => wX_killKey_83 post (nI k) (nI (k + e)) (nI w) (nI hh) (nI rr) (nI n) (nI k) (nI hc) (nI nav) (nI dn) (nI (c + 1)) (nI y) (nI ud) (nI mo) (nI 2) ac (nI ql) m (nI p) (nI dl) (nI dc) (nI (dc / w)) (nI (dc % w)) B H HL D R RL U UL UK Q DS SC) (fun post => wY_kill_74 post (nI k) (nI (k + e)) 0 (nI w) (nI hh) (nI rr) (nI n) (nI k) (nI hc) (nI nav) (nI dn) (nI (c + 1)) (nI ud) (nI 2) (nI y) (nI mo) (nI ql) (nI p) ac m B' H' HL' D' R' RL' U' UL' UK' Q') := by
  obtain ⟨⟨⟨hw1, hw2⟩, ⟨hh1, hh2⟩, ⟨hr1, hr2⟩, ⟨hn, hk⟩, ⟨hhc, hnav⟩, hdn, hkc, hud, hql⟩, hB, hH, hD, hR, hU, hQ, hL, hS⟩ := id C
  have hud2 := ep_le hud
  have hb : eg B B' k k e := by
    have := eg_sub (i := k) (m := e) hB (by omega)
    rw [Nat.zero_add] at this
    exact this
  have hdel : eg (ec_cp B (k + e) B k (n - k - e)) (ez B' n k e) 0 0 (n - e) := eg_del hB h1 (ez_p e h1)
  obtain ⟨_, s, hs0, hsn⟩ := hL.2.1 rfl
  obtain ⟨l, hl32, hlx, hly, _⟩ := hR 0 (by omega)
  obtain rfl : s = l := (nI_eq (by omega) (by omega)).mp (hs0.symm.trans hly)
  rw [show c + 1 - 1 - 0 = c by omega] at hlx
  exact eO_1 (nI w, nI hh, nI rr, nI (n - e), nI k, nI hc, nI nav, nI dn, nI (c + 1), nI y, nI (ep_n ud), nI mo, 2, ac, nI ql, m, nI p, nI dl, nI dc, nI (dc / w), nI (dc % w), ec_cp B (k + e) B k (n - k - e), H, HL, D, ec_cp B k R (c * 32 + s) e, upd RL c (nI (s + e)), ep_U B U n ud, ep_L UL (nI n) ud, ep_L UK (nI k) ud, Q, DS, SC) (nI w, nI hh, nI rr, nI (n - e), nI k, nI hc, nI nav, nI dn, nI (c + 1), nI (ep_n ud), 2, nI y, nI mo, nI ql, nI p, ac, m, ez B' n k e, H', HL', D', ec_cp B' k R' s e, upd RL' 0 (nI (s + e)), ep_U B' U' 32 ud, ep_L UL' (nI n) ud, ep_L UK' (nI k) ud, Q')
    (e_K (la := 2) ⟨⟨⟨hw1, hw2⟩, ⟨hh1, hh2⟩, ⟨hr1, hr2⟩, ⟨by omega, by omega⟩, ⟨by omega, by omega⟩, by omega, by omega, by omega, by omega⟩, hdel, hH, hD, ej_fwd hR hs0 (by omega) hb, ep_eu hU hud hn (by omega) hB, hQ, eL_2 (s := s + e) (by omega) ec_us (by omega), Or.inl S0⟩)
    (fun post hp => ey_lt k (k + e) (by omega) (ey_eq k k rfl (xpu hn hud (br_t rfl (xk_f k e s c n hn h1 (by omega) (by omega) hlx hp)))))
    (fun post hp => en_eq k (k + e) (by omega) (nm_r (e' := nI e) (by first | with_reducible rfl | (simp (disch := omega) only [nI_add, nI_1, en_m1, en_s1, pk_sub, pk_mul, en_32, en_a2, en_a3, en_p32, en_s32, en_p2, en_s2, en_s3] <;> exact congrArg nI (by omega)) | exact congrArg nI (by omega) | rfl) (br_t rfl (ey_le (s + e) 32 (by omega) (ypu hud (br_t rfl (br_t rfl (yk_203' (by omega) (by omega) hs0 (yk_239 hn h1 hs0 hp))))) (by rw [hs0]; exact nI_add s e)))))
theorem e_kf_f {st e c : Nat} (C : eC w hh (c + 1) n k hc nav dn (c + 1) y ud mo la ql p m B H HL D R RL U UL UK Q B' H' HL' D' R' RL' U' UL' UK' Q') (he : 1 ≤ e) (h1 : k + e ≤ n) (S0 : mo = 0 ∧ m = -1 ∧ ql = 0) (hl : la ≠ 2) : eO (fun post => wX_killKey_83 post (nI k) (nI (k + e)) (nI w) (nI hh) (nI (c + 1)) (nI n) (nI k) (nI hc) (nI nav) (nI dn) (nI (c + 1)) (nI y) (nI ud) (nI mo) (nI la) ac (nI ql) m (nI p) (nI dl) (nI dc) (nI (dc / w)) (nI (dc % w)) B H HL D R RL U UL UK Q DS SC) (fun post => wY_kill_74 post (nI k) (nI (k + e)) 0 (nI w) (nI hh) (nI (c + 1)) (nI n) (nI k) (nI hc) (nI nav) (nI dn) (nI (c + 1)) (nI ud) (nI la) (nI y) (nI mo) (nI ql) (nI p) ac m B' H' HL' D' R' RL' U' UL' UK' Q') := by
  obtain ⟨⟨⟨hw1, hw2⟩, ⟨hh1, hh2⟩, ⟨hr1, hr2⟩, ⟨hn, hk⟩, ⟨hhc, hnav⟩, hdn, hkc, hud, hql⟩, hB, hH, hD, hR, hU, hQ, hL, hS⟩ := id C
  have hud2 := ep_le hud
  have hb : eg B B' k k e := by
    have := eg_sub (i := k) (m := e) hB (by omega)
    rw [Nat.zero_add] at this
    exact this
  have hdel : eg (ec_cp B (k + e) B k (n - k - e)) (ez B' n k e) 0 0 (n - e) := eg_del hB h1 (ez_p e h1)
  have hla := hL.1
  exact eO_1 (nI w, nI hh, nI (c + 1), nI (n - e), nI k, nI hc, nI nav, nI dn, nI (c + 1), nI y, nI (ep_n ud), nI mo, 2, ac, nI ql, m, nI p, nI dl, nI dc, nI (dc / w), nI (dc % w), ec_cp B (k + e) B k (n - k - e), H, HL, D, ec_cp B k (ec_cp R 32 R 0 (c * 32)) (c * 32) e, upd (upd (ec_cp RL 1 RL 0 c) c 0) c (nI e), ep_U B U n ud, ep_L UL (nI n) ud, ep_L UK (nI k) ud, Q, DS, SC) (nI w, nI hh, nI (c + 1), nI (n - e), nI k, nI hc, nI nav, nI dn, nI (c + 1), nI (ep_n ud), 2, nI y, nI mo, nI ql, nI p, ac, m, ez B' n k e, H', HL', D', ec_cp B' k (ec_cp R' 0 R' 32 (c * 32)) 0 e, upd (ec_cp RL' 0 RL' 1 c) 0 (nI e), ep_U B' U' 32 ud, ep_L UL' (nI n) ud, ep_L UK' (nI k) ud, Q')
    (e_K (la := 2) ⟨⟨⟨hw1, hw2⟩, ⟨hh1, hh2⟩, ⟨hr1, hr2⟩, ⟨by omega, by omega⟩, ⟨by omega, by omega⟩, by omega, by omega, by omega, by omega⟩, hdel, hH, hD, ej_full hR (by omega) hb, ep_eu hU hud hn (by omega) hB, hQ, eL_2 (s := e) (by omega) ec_us (by omega), Or.inl S0⟩)
    (fun post hp => ey_lt k (k + e) (by omega) (ey_eq k k rfl (xpu hn hud (en_eq la 2 hl (xae_f c (by omega) (xk_f k e 0 c n hn h1 (by omega) (by omega) ec_us (by rw [Nat.zero_add]; exact hp)))))))
    (fun post hp => en_eq k (k + e) (by omega) (nm_r (e' := nI e) (by first | with_reducible rfl | (simp (disch := omega) only [nI_add, nI_1, en_m1, en_s1, pk_sub, pk_mul, en_32, en_a2, en_a3, en_p32, en_s32, en_p2, en_s2, en_s3] <;> exact congrArg nI (by omega)) | exact congrArg nI (by omega) | rfl) (en_eq la 2 hl (ypu hud (en_eq la 2 hl (ey_le (c + 1) (c + 1) (Nat.le_refl _) (nm_r (nI_pred c) (yk_283' (by omega) (yk_359' (by omega) (nm_e (ey_le (c + 1) (c + 1) (Nat.le_refl _) (ykr hn h1 hp))))))))))))
theorem e_kf_n {st e c : Nat} (C : eC w hh rr n k hc nav dn c y ud mo la ql p m B H HL D R RL U UL UK Q B' H' HL' D' R' RL' U' UL' UK' Q') (he : 1 ≤ e) (h1 : k + e ≤ n) (S0 : mo = 0 ∧ m = -1 ∧ ql = 0) (hl : la ≠ 2) (hcr : c < rr) : eO (fun post => wX_killKey_83 post (nI k) (nI (k + e)) (nI w) (nI hh) (nI rr) (nI n) (nI k) (nI hc) (nI nav) (nI dn) (nI c) (nI y) (nI ud) (nI mo) (nI la) ac (nI ql) m (nI p) (nI dl) (nI dc) (nI (dc / w)) (nI (dc % w)) B H HL D R RL U UL UK Q DS SC) (fun post => wY_kill_74 post (nI k) (nI (k + e)) 0 (nI w) (nI hh) (nI rr) (nI n) (nI k) (nI hc) (nI nav) (nI dn) (nI c) (nI ud) (nI la) (nI y) (nI mo) (nI ql) (nI p) ac m B' H' HL' D' R' RL' U' UL' UK' Q') := by
  obtain ⟨⟨⟨hw1, hw2⟩, ⟨hh1, hh2⟩, ⟨hr1, hr2⟩, ⟨hn, hk⟩, ⟨hhc, hnav⟩, hdn, hkc, hud, hql⟩, hB, hH, hD, hR, hU, hQ, hL, hS⟩ := id C
  have hud2 := ep_le hud
  have hb : eg B B' k k e := by
    have := eg_sub (i := k) (m := e) hB (by omega)
    rw [Nat.zero_add] at this
    exact this
  have hdel : eg (ec_cp B (k + e) B k (n - k - e)) (ez B' n k e) 0 0 (n - e) := eg_del hB h1 (ez_p e h1)
  have hla := hL.1
  exact eO_1 (nI w, nI hh, nI rr, nI (n - e), nI k, nI hc, nI nav, nI dn, nI (c + 1), nI y, nI (ep_n ud), nI mo, 2, ac, nI ql, m, nI p, nI dl, nI dc, nI (dc / w), nI (dc % w), ec_cp B (k + e) B k (n - k - e), H, HL, D, ec_cp B k R (c * 32) e, upd (upd RL c 0) c (nI e), ep_U B U n ud, ep_L UL (nI n) ud, ep_L UK (nI k) ud, Q, DS, SC) (nI w, nI hh, nI rr, nI (n - e), nI k, nI hc, nI nav, nI dn, nI (c + 1), nI (ep_n ud), 2, nI y, nI mo, nI ql, nI p, ac, m, ez B' n k e, H', HL', D', ec_cp B' k (ec_cp R' 0 R' 32 (c * 32)) 0 e, upd (ec_cp RL' 0 RL' 1 c) 0 (nI e), ep_U B' U' 32 ud, ep_L UL' (nI n) ud, ep_L UK' (nI k) ud, Q')
    (e_K (la := 2) ⟨⟨⟨hw1, hw2⟩, ⟨hh1, hh2⟩, ⟨hr1, hr2⟩, ⟨by omega, by omega⟩, ⟨by omega, by omega⟩, by omega, by omega, by omega, by omega⟩, hdel, hH, hD, ej_new hR (by omega) hb, ep_eu hU hud hn (by omega) hB, hQ, eL_2 (s := e) (by omega) ec_us (by omega), Or.inl S0⟩)
    (fun post hp => ey_lt k (k + e) (by omega) (ey_eq k k rfl (xpu hn hud (en_eq la 2 hl (xae_n c rr hcr (by omega) (xk_f k e 0 c n hn h1 (by omega) (by omega) ec_us (by rw [Nat.zero_add]; exact hp)))))))
    (fun post hp => en_eq k (k + e) (by omega) (nm_r (e' := nI e) (by first | with_reducible rfl | (simp (disch := omega) only [nI_add, nI_1, en_m1, en_s1, pk_sub, pk_mul, en_32, en_a2, en_a3, en_p32, en_s32, en_p2, en_s2, en_s3] <;> exact congrArg nI (by omega)) | exact congrArg nI (by omega) | rfl) (en_eq la 2 hl (ypu hud (en_eq la 2 hl (en_le rr c hcr (yk_283' (by omega) (yk_359' (by omega) (nm_e (en_le rr c hcr (nm_r (nI_1 c) (ykr hn h1 hp))))))))))))
theorem e_kb_2 {st e c : Nat} (C : eC w hh rr n (st + e) hc nav dn (c + 1) y ud mo 2 ql p m B H HL D R RL U UL UK Q B' H' HL' D' R' RL' U' UL' UK' Q') (he : 1 ≤ e) (h1 : st + e ≤ n) (S0 : mo = 0 ∧ m = -1 ∧ ql = 0) : eO (fun post => wX_killKey_83 post (nI st) (nI (st + e)) (nI w) (nI hh) (nI rr) (nI n) (nI (st + e)) (nI hc) (nI nav) (nI dn) (nI (c + 1)) (nI y) (nI ud) (nI mo) (nI 2) ac (nI ql) m (nI p) (nI dl) (nI dc) (nI (dc / w)) (nI (dc % w)) B H HL D R RL U UL UK Q DS SC) (fun post => wY_kill_74 post (nI st) (nI (st + e)) 1 (nI w) (nI hh) (nI rr) (nI n) (nI (st + e)) (nI hc) (nI nav) (nI dn) (nI (c + 1)) (nI ud) (nI 2) (nI y) (nI mo) (nI ql) (nI p) ac m B' H' HL' D' R' RL' U' UL' UK' Q') := by
  obtain ⟨⟨⟨hw1, hw2⟩, ⟨hh1, hh2⟩, ⟨hr1, hr2⟩, ⟨hn, hk⟩, ⟨hhc, hnav⟩, hdn, hkc, hud, hql⟩, hB, hH, hD, hR, hU, hQ, hL, hS⟩ := id C
  have hud2 := ep_le hud
  have hb : eg B B' st st e := by
    have := eg_sub (i := st) (m := e) hB (by omega)
    rw [Nat.zero_add] at this
    exact this
  have hdel : eg (ec_cp B (st + e) B st (n - st - e)) (ez B' n st e) 0 0 (n - e) := eg_del hB h1 (ez_p e h1)
  obtain ⟨_, s, hs0, hsn⟩ := hL.2.1 rfl
  obtain ⟨l, hl32, hlx, hly, _⟩ := hR 0 (by omega)
  obtain rfl : s = l := (nI_eq (by omega) (by omega)).mp (hs0.symm.trans hly)
  rw [show c + 1 - 1 - 0 = c by omega] at hlx
  exact eO_1 (nI w, nI hh, nI rr, nI (n - e), nI st, nI hc, nI nav, nI dn, nI (c + 1), nI y, nI (ep_n ud), nI mo, 2, ac, nI ql, m, nI p, nI dl, nI dc, nI (dc / w), nI (dc % w), ec_cp B (st + e) B st (n - st - e), H, HL, D, ec_cp B st (ec_cp R (c * 32) R (c * 32 + e) s) (c * 32) e, upd RL c (nI (s + e)), ep_U B U n ud, ep_L UL (nI n) ud, ep_L UK (nI (st + e)) ud, Q, DS, SC) (nI w, nI hh, nI rr, nI (n - e), nI st, nI hc, nI nav, nI dn, nI (c + 1), nI (ep_n ud), 2, nI y, nI mo, nI ql, nI p, ac, m, ez B' n st e, H', HL', D', ec_cp B' st (ec_cp R' 0 R' e s) 0 e, upd RL' 0 (nI (s + e)), ep_U B' U' 32 ud, ep_L UL' (nI n) ud, ep_L UK' (nI (st + e)) ud, Q')
    (e_K (la := 2) ⟨⟨⟨hw1, hw2⟩, ⟨hh1, hh2⟩, ⟨hr1, hr2⟩, ⟨by omega, by omega⟩, ⟨by omega, by omega⟩, by omega, by omega, by omega, by omega⟩, hdel, hH, hD, ej_bwd hR hs0 (by omega) hb, ep_eu hU hud hn (by omega) hB, hQ, eL_2 (s := s + e) (by omega) ec_us (by omega), Or.inl S0⟩)
    (fun post hp => ey_lt st (st + e) (by omega) (en_eq st (st + e) (by omega) (xpu hn hud (br_t rfl (xk_b st e s c n hn h1 (by omega) (by omega) hlx hp)))))
    (fun post hp => en_eq st (st + e) (by omega) (nm_r (e' := nI e) (by first | with_reducible rfl | (simp (disch := omega) only [nI_add, nI_1, en_m1, en_s1, pk_sub, pk_mul, en_32, en_a2, en_a3, en_p32, en_s32, en_p2, en_s2, en_s3] <;> exact congrArg nI (by omega)) | exact congrArg nI (by omega) | rfl) (br_t rfl (ey_le (s + e) 32 (by omega) (ypu hud (br_t rfl (br_f (by decide) (nm_r (congrArg (fun y => y - 1) hs0) (yk_137' (by omega) (by omega) (yk_239 hn h1 hs0 hp)))))) (by rw [hs0]; exact nI_add s e)))))
theorem e_kb_f {st e c : Nat} (C : eC w hh (c + 1) n (st + e) hc nav dn (c + 1) y ud mo la ql p m B H HL D R RL U UL UK Q B' H' HL' D' R' RL' U' UL' UK' Q') (he : 1 ≤ e) (h1 : st + e ≤ n) (S0 : mo = 0 ∧ m = -1 ∧ ql = 0) (hl : la ≠ 2) : eO (fun post => wX_killKey_83 post (nI st) (nI (st + e)) (nI w) (nI hh) (nI (c + 1)) (nI n) (nI (st + e)) (nI hc) (nI nav) (nI dn) (nI (c + 1)) (nI y) (nI ud) (nI mo) (nI la) ac (nI ql) m (nI p) (nI dl) (nI dc) (nI (dc / w)) (nI (dc % w)) B H HL D R RL U UL UK Q DS SC) (fun post => wY_kill_74 post (nI st) (nI (st + e)) 1 (nI w) (nI hh) (nI (c + 1)) (nI n) (nI (st + e)) (nI hc) (nI nav) (nI dn) (nI (c + 1)) (nI ud) (nI la) (nI y) (nI mo) (nI ql) (nI p) ac m B' H' HL' D' R' RL' U' UL' UK' Q') := by
  obtain ⟨⟨⟨hw1, hw2⟩, ⟨hh1, hh2⟩, ⟨hr1, hr2⟩, ⟨hn, hk⟩, ⟨hhc, hnav⟩, hdn, hkc, hud, hql⟩, hB, hH, hD, hR, hU, hQ, hL, hS⟩ := id C
  have hud2 := ep_le hud
  have hb : eg B B' st st e := by
    have := eg_sub (i := st) (m := e) hB (by omega)
    rw [Nat.zero_add] at this
    exact this
  have hdel : eg (ec_cp B (st + e) B st (n - st - e)) (ez B' n st e) 0 0 (n - e) := eg_del hB h1 (ez_p e h1)
  have hla := hL.1
  exact eO_1 (nI w, nI hh, nI (c + 1), nI (n - e), nI st, nI hc, nI nav, nI dn, nI (c + 1), nI y, nI (ep_n ud), nI mo, 2, ac, nI ql, m, nI p, nI dl, nI dc, nI (dc / w), nI (dc % w), ec_cp B (st + e) B st (n - st - e), H, HL, D, ec_cp B st (ec_cp R 32 R 0 (c * 32)) (c * 32) e, upd (upd (ec_cp RL 1 RL 0 c) c 0) c (nI e), ep_U B U n ud, ep_L UL (nI n) ud, ep_L UK (nI (st + e)) ud, Q, DS, SC) (nI w, nI hh, nI (c + 1), nI (n - e), nI st, nI hc, nI nav, nI dn, nI (c + 1), nI (ep_n ud), 2, nI y, nI mo, nI ql, nI p, ac, m, ez B' n st e, H', HL', D', ec_cp B' st (ec_cp R' 0 R' 32 (c * 32)) 0 e, upd (ec_cp RL' 0 RL' 1 c) 0 (nI e), ep_U B' U' 32 ud, ep_L UL' (nI n) ud, ep_L UK' (nI (st + e)) ud, Q')
    (e_K (la := 2) ⟨⟨⟨hw1, hw2⟩, ⟨hh1, hh2⟩, ⟨hr1, hr2⟩, ⟨by omega, by omega⟩, ⟨by omega, by omega⟩, by omega, by omega, by omega, by omega⟩, hdel, hH, hD, ej_full hR (by omega) hb, ep_eu hU hud hn (by omega) hB, hQ, eL_2 (s := e) (by omega) ec_us (by omega), Or.inl S0⟩)
    (fun post hp => ey_lt st (st + e) (by omega) (en_eq st (st + e) (by omega) (xpu hn hud (en_eq la 2 hl (xae_f c (by omega) (xk_b st e 0 c n hn h1 (by omega) (by omega) ec_us (by rw [Nat.zero_add, ec_0]; exact hp)))))))
    (fun post hp => en_eq st (st + e) (by omega) (nm_r (e' := nI e) (by first | with_reducible rfl | (simp (disch := omega) only [nI_add, nI_1, en_m1, en_s1, pk_sub, pk_mul, en_32, en_a2, en_a3, en_p32, en_s32, en_p2, en_s2, en_s3] <;> exact congrArg nI (by omega)) | exact congrArg nI (by omega) | rfl) (en_eq la 2 hl (ypu hud (en_eq la 2 hl (ey_le (c + 1) (c + 1) (Nat.le_refl _) (nm_r (nI_pred c) (yk_283' (by omega) (yk_359' (by omega) (nm_e (ey_le (c + 1) (c + 1) (Nat.le_refl _) (ykr hn h1 hp))))))))))))
theorem e_kb_n {st e c : Nat} (C : eC w hh rr n (st + e) hc nav dn c y ud mo la ql p m B H HL D R RL U UL UK Q B' H' HL' D' R' RL' U' UL' UK' Q') (he : 1 ≤ e) (h1 : st + e ≤ n) (S0 : mo = 0 ∧ m = -1 ∧ ql = 0) (hl : la ≠ 2) (hcr : c < rr) : eO (fun post => wX_killKey_83 post (nI st) (nI (st + e)) (nI w) (nI hh) (nI rr) (nI n) (nI (st + e)) (nI hc) (nI nav) (nI dn) (nI c) (nI y) (nI ud) (nI mo) (nI la) ac (nI ql) m (nI p) (nI dl) (nI dc) (nI (dc / w)) (nI (dc % w)) B H HL D R RL U UL UK Q DS SC) (fun post => wY_kill_74 post (nI st) (nI (st + e)) 1 (nI w) (nI hh) (nI rr) (nI n) (nI (st + e)) (nI hc) (nI nav) (nI dn) (nI c) (nI ud) (nI la) (nI y) (nI mo) (nI ql) (nI p) ac m B' H' HL' D' R' RL' U' UL' UK' Q') := by
  obtain ⟨⟨⟨hw1, hw2⟩, ⟨hh1, hh2⟩, ⟨hr1, hr2⟩, ⟨hn, hk⟩, ⟨hhc, hnav⟩, hdn, hkc, hud, hql⟩, hB, hH, hD, hR, hU, hQ, hL, hS⟩ := id C
  have hud2 := ep_le hud
  have hb : eg B B' st st e := by
    have := eg_sub (i := st) (m := e) hB (by omega)
    rw [Nat.zero_add] at this
    exact this
  have hdel : eg (ec_cp B (st + e) B st (n - st - e)) (ez B' n st e) 0 0 (n - e) := eg_del hB h1 (ez_p e h1)
  have hla := hL.1
  exact eO_1 (nI w, nI hh, nI rr, nI (n - e), nI st, nI hc, nI nav, nI dn, nI (c + 1), nI y, nI (ep_n ud), nI mo, 2, ac, nI ql, m, nI p, nI dl, nI dc, nI (dc / w), nI (dc % w), ec_cp B (st + e) B st (n - st - e), H, HL, D, ec_cp B st R (c * 32) e, upd (upd RL c 0) c (nI e), ep_U B U n ud, ep_L UL (nI n) ud, ep_L UK (nI (st + e)) ud, Q, DS, SC) (nI w, nI hh, nI rr, nI (n - e), nI st, nI hc, nI nav, nI dn, nI (c + 1), nI (ep_n ud), 2, nI y, nI mo, nI ql, nI p, ac, m, ez B' n st e, H', HL', D', ec_cp B' st (ec_cp R' 0 R' 32 (c * 32)) 0 e, upd (ec_cp RL' 0 RL' 1 c) 0 (nI e), ep_U B' U' 32 ud, ep_L UL' (nI n) ud, ep_L UK' (nI (st + e)) ud, Q')
    (e_K (la := 2) ⟨⟨⟨hw1, hw2⟩, ⟨hh1, hh2⟩, ⟨hr1, hr2⟩, ⟨by omega, by omega⟩, ⟨by omega, by omega⟩, by omega, by omega, by omega, by omega⟩, hdel, hH, hD, ej_new hR (by omega) hb, ep_eu hU hud hn (by omega) hB, hQ, eL_2 (s := e) (by omega) ec_us (by omega), Or.inl S0⟩)
    (fun post hp => ey_lt st (st + e) (by omega) (en_eq st (st + e) (by omega) (xpu hn hud (en_eq la 2 hl (xae_n c rr hcr (by omega) (xk_b st e 0 c n hn h1 (by omega) (by omega) ec_us (by rw [Nat.zero_add, ec_0]; exact hp)))))))
    (fun post hp => en_eq st (st + e) (by omega) (nm_r (e' := nI e) (by first | with_reducible rfl | (simp (disch := omega) only [nI_add, nI_1, en_m1, en_s1, pk_sub, pk_mul, en_32, en_a2, en_a3, en_p32, en_s32, en_p2, en_s2, en_s3] <;> exact congrArg nI (by omega)) | exact congrArg nI (by omega) | rfl) (en_eq la 2 hl (ypu hud (en_eq la 2 hl (en_le rr c hcr (yk_283' (by omega) (yk_359' (by omega) (nm_e (en_le rr c hcr (nm_r (nI_1 c) (ykr hn h1 hp))))))))))))
end
