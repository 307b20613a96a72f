/-! T: the kills (written by wip/whole/gen17.py) -/
section
variable {w hh rr n k hc nav dn kc y ud mo la ql p dl dc : Nat} {m ac xdl xdc xtr xtc : Int32} {B H HL D R RL U UL UK Q DS SC B' H' HL' D' R' RL' U' UL' UK' Q' : Nat → Int32}
theorem e_kf_2 {st e c : Nat} (C : eC w hh rr n k hc nav dn (c + 1) y ud mo 2 ql p m B H HL D R RL U UL UK Q B' H' HL' D' R' RL' U' UL' UK' Q') (he : 1 ≤ e) (h1 : k + e ≤ n) (S0 : mo = 0 ∧ m = -1 ∧ ql = 0) : eO (fun post => wX_killKey_83 post (nI k) (nI (k + e)) (nI w) (nI hh) (nI rr) (nI n) (nI k) (nI hc) (nI nav) (nI dn) (nI (c + 1)) (nI y) (nI ud) (nI mo) (nI 2) ac (nI ql) m (nI p) (nI dl) (nI dc) (nI (dc / w)) (nI (dc % w)) B H HL D R RL U UL UK Q DS SC) := by
  obtain ⟨⟨⟨hw1, hw2⟩, ⟨hh1, hh2⟩, ⟨hr1, hr2⟩, ⟨hn, hk⟩, ⟨hhc, hnav⟩, hdn, hkc, hud, hql⟩, hB, hH, hD, hR, hU, hQ, hL, hS⟩ := id C
  have hud2 := ep_le hud
  have hb : eg B B' k k e := by
    have := eg_sub (i := k) (m := e) hB (by omega)
    rw [Nat.zero_add] at this
    exact this
  have hdel : eg (ec_cp B (k + e) B k (n - k - e)) (ez B' n k e) 0 0 (n - e) := eg_del hB h1 (ez_p e h1)
  obtain ⟨_, s, hs0, hsn⟩ := hL.2.1 rfl
  obtain ⟨l, hl32, hlx, hly, _⟩ := hR 0 (by omega)
  obtain rfl : s = l := (nI_eq (by omega) (by omega)).mp (hs0.symm.trans hly)
  rw [show c + 1 - 1 - 0 = c by omega] at hlx
  exact eO_1 (nI w, nI hh, nI rr, nI (n - e), nI k, nI hc, nI nav, nI dn, nI (c + 1), nI y, nI (ep_n ud), nI mo, 2, ac, nI ql, m, nI p, nI dl, nI dc, nI (dc / w), nI (dc % w), ec_cp B (k + e) B k (n - k - e), H, HL, D, ec_cp B k R (c * 32 + s) e, upd RL c (nI (s + e)), ep_U B U n ud, ep_L UL (nI n) ud, ep_L UK (nI k) ud, Q, DS, SC) (e_K (B' := ez B' n k e) (H' := H') (HL' := HL') (D' := D') (R' := ec_cp B' k R' s e) (RL' := upd RL' 0 (nI (s + e))) (U' := ep_U B' U' 32 ud) (UL' := ep_L UL' (nI n) ud) (UK' := ep_L UK' (nI k) ud) (Q' := Q') (la := 2) ⟨⟨⟨hw1, hw2⟩, ⟨hh1, hh2⟩, ⟨hr1, hr2⟩, ⟨by omega, by omega⟩, ⟨by omega, by omega⟩, by omega, by omega, by omega, by omega⟩, hdel, hH, hD, ej_fwd hR hs0 (by omega) hb, ep_eu hU hud hn (by omega) hB, hQ, eL_2 (s := s + e) (by omega) ec_us (by omega), Or.inl S0⟩) (fun post hp => ey_lt k (k + e) (by omega) (ey_eq k k rfl (xpu hn hud (br_t rfl (xk_f k e s c n hn h1 (by omega) (by omega) hlx hp)))))
theorem e_kf_f {st e c : Nat} (C : eC w hh (c + 1) n k hc nav dn (c + 1) y ud mo la ql p m B H HL D R RL U UL UK Q B' H' HL' D' R' RL' U' UL' UK' Q') (he : 1 ≤ e) (h1 : k + e ≤ n) (S0 : mo = 0 ∧ m = -1 ∧ ql = 0) (hl : la ≠ 2) : eO (fun post => wX_killKey_83 post (nI k) (nI (k + e)) (nI w) (nI hh) (nI (c + 1)) (nI n) (nI k) (nI hc) (nI nav) (nI dn) (nI (c + 1)) (nI y) (nI ud) (nI mo) (nI la) ac (nI ql) m (nI p) (nI dl) (nI dc) (nI (dc / w)) (nI (dc % w)) B H HL D R RL U UL UK Q DS SC) := by
  obtain ⟨⟨⟨hw1, hw2⟩, ⟨hh1, hh2⟩, ⟨hr1, hr2⟩, ⟨hn, hk⟩, ⟨hhc, hnav⟩, hdn, hkc, hud, hql⟩, hB, hH, hD, hR, hU, hQ, hL, hS⟩ := id C
  have hud2 := ep_le hud
  have hb : eg B B' k k e := by
    have := eg_sub (i := k) (m := e) hB (by omega)
    rw [Nat.zero_add] at this
    exact this
  have hdel : eg (ec_cp B (k + e) B k (n - k - e)) (ez B' n k e) 0 0 (n - e) := eg_del hB h1 (ez_p e h1)
  have hla := hL.1
  exact eO_1 (nI w, nI hh, nI (c + 1), nI (n - e), nI k, nI hc, nI nav, nI dn, nI (c + 1), nI y, nI (ep_n ud), nI mo, 2, ac, nI ql, m, nI p, nI dl, nI dc, nI (dc / w), nI (dc % w), ec_cp B (k + e) B k (n - k - e), H, HL, D, ec_cp B k (ec_cp R 32 R 0 (c * 32)) (c * 32) e, upd (upd (ec_cp RL 1 RL 0 c) c 0) c (nI e), ep_U B U n ud, ep_L UL (nI n) ud, ep_L UK (nI k) ud, Q, DS, SC) (e_K (B' := ez B' n k e) (H' := H') (HL' := HL') (D' := D') (R' := ec_cp B' k (ec_cp R' 0 R' 32 (c * 32)) 0 e) (RL' := upd (ec_cp RL' 0 RL' 1 c) 0 (nI e)) (U' := ep_U B' U' 32 ud) (UL' := ep_L UL' (nI n) ud) (UK' := ep_L UK' (nI k) ud) (Q' := Q') (la := 2) ⟨⟨⟨hw1, hw2⟩, ⟨hh1, hh2⟩, ⟨hr1, hr2⟩, ⟨by omega, by omega⟩, ⟨by omega, by omega⟩, by omega, by omega, by omega, by omega⟩, hdel, hH, hD, ej_full hR (by omega) hb, ep_eu hU hud hn (by omega) hB, hQ, eL_2 (s := e) (by omega) ec_us (by omega), Or.inl S0⟩) (fun post hp => ey_lt k (k + e) (by omega) (ey_eq k k rfl (xpu hn hud (en_eq la 2 hl (xae_f c (by omega) (xk_f k e 0 c n hn h1 (by omega) (by omega) ec_us (by rw [Nat.zero_add]; exact hp)))))))
theorem e_kf_n {st e c : Nat} (C : eC w hh rr n k hc nav dn c y ud mo la ql p m B H HL D R RL U UL UK Q B' H' HL' D' R' RL' U' UL' UK' Q') (he : 1 ≤ e) (h1 : k + e ≤ n) (S0 : mo = 0 ∧ m = -1 ∧ ql = 0) (hl : la ≠ 2) (hcr : c < rr) : eO (fun post => wX_killKey_83 post (nI k) (nI (k + e)) (nI w) (nI hh) (nI rr) (nI n) (nI k) (nI hc) (nI nav) (nI dn) (nI c) (nI y) (nI ud) (nI mo) (nI la) ac (nI ql) m (nI p) (nI dl) (nI dc) (nI (dc / w)) (nI (dc % w)) B H HL D R RL U UL UK Q DS SC) := by
  obtain ⟨⟨⟨hw1, hw2⟩, ⟨hh1, hh2⟩, ⟨hr1, hr2⟩, ⟨hn, hk⟩, ⟨hhc, hnav⟩, hdn, hkc, hud, hql⟩, hB, hH, hD, hR, hU, hQ, hL, hS⟩ := id C
  have hud2 := ep_le hud
  have hb : eg B B' k k e := by
    have := eg_sub (i := k) (m := e) hB (by omega)
    rw [Nat.zero_add] at this
    exact this
  have hdel : eg (ec_cp B (k + e) B k (n - k - e)) (ez B' n k e) 0 0 (n - e) := eg_del hB h1 (ez_p e h1)
  have hla := hL.1
  exact eO_1 (nI w, nI hh, nI rr, nI (n - e), nI k, nI hc, nI nav, nI dn, nI (c + 1), nI y, nI (ep_n ud), nI mo, 2, ac, nI ql, m, nI p, nI dl, nI dc, nI (dc / w), nI (dc % w), ec_cp B (k + e) B k (n - k - e), H, HL, D, ec_cp B k R (c * 32) e, upd (upd RL c 0) c (nI e), ep_U B U n ud, ep_L UL (nI n) ud, ep_L UK (nI k) ud, Q, DS, SC) (e_K (B' := ez B' n k e) (H' := H') (HL' := HL') (D' := D') (R' := ec_cp B' k (ec_cp R' 0 R' 32 (c * 32)) 0 e) (RL' := upd (ec_cp RL' 0 RL' 1 c) 0 (nI e)) (U' := ep_U B' U' 32 ud) (UL' := ep_L UL' (nI n) ud) (UK' := ep_L UK' (nI k) ud) (Q' := Q') (la := 2) ⟨⟨⟨hw1, hw2⟩, ⟨hh1, hh2⟩, ⟨hr1, hr2⟩, ⟨by omega, by omega⟩, ⟨by omega, by omega⟩, by omega, by omega, by omega, by omega⟩, hdel, hH, hD, ej_new hR (by omega) hb, ep_eu hU hud hn (by omega) hB, hQ, eL_2 (s := e) (by omega) ec_us (by omega), Or.inl S0⟩) (fun post hp => ey_lt k (k + e) (by omega) (ey_eq k k rfl (xpu hn hud (en_eq la 2 hl (xae_n c rr hcr (by omega) (xk_f k e 0 c n hn h1 (by omega) (by omega) ec_us (by rw [Nat.zero_add]; exact hp)))))))
theorem e_kb_2 {st e c : Nat} (C : eC w hh rr n (st + e) hc nav dn (c + 1) y ud mo 2 ql p m B H HL D R RL U UL UK Q B' H' HL' D' R' RL' U' UL' UK' Q') (he : 1 ≤ e) (h1 : st + e ≤ n) (S0 : mo = 0 ∧ m = -1 ∧ ql = 0) : eO (fun post => wX_killKey_83 post (nI st) (nI (st + e)) (nI w) (nI hh) (nI rr) (nI n) (nI (st + e)) (nI hc) (nI nav) (nI dn) (nI (c + 1)) (nI y) (nI ud) (nI mo) (nI 2) ac (nI ql) m (nI p) (nI dl) (nI dc) (nI (dc / w)) (nI (dc % w)) B H HL D R RL U UL UK Q DS SC) := by
  obtain ⟨⟨⟨hw1, hw2⟩, ⟨hh1, hh2⟩, ⟨hr1, hr2⟩, ⟨hn, hk⟩, ⟨hhc, hnav⟩, hdn, hkc, hud, hql⟩, hB, hH, hD, hR, hU, hQ, hL, hS⟩ := id C
  have hud2 := ep_le hud
  have hb : eg B B' st st e := by
    have := eg_sub (i := st) (m := e) hB (by omega)
    rw [Nat.zero_add] at this
    exact this
  have hdel : eg (ec_cp B (st + e) B st (n - st - e)) (ez B' n st e) 0 0 (n - e) := eg_del hB h1 (ez_p e h1)
  obtain ⟨_, s, hs0, hsn⟩ := hL.2.1 rfl
  obtain ⟨l, hl32, hlx, hly, _⟩ := hR 0 (by omega)
  obtain rfl : s = l := (nI_eq (by omega) (by omega)).mp (hs0.symm.trans hly)
  rw [show c + 1 - 1 - 0 = c by omega] at hlx
  exact eO_1 (nI w, nI hh, nI rr, nI (n - e), nI st, nI hc, nI nav, nI dn, nI (c + 1), nI y, nI (ep_n ud), nI mo, 2, ac, nI ql, m, nI p, nI dl, nI dc, nI (dc / w), nI (dc % w), ec_cp B (st + e) B st (n - st - e), H, HL, D, ec_cp B st (ec_cp R (c * 32) R (c * 32 + e) s) (c * 32) e, upd RL c (nI (s + e)), ep_U B U n ud, ep_L UL (nI n) ud, ep_L UK (nI (st + e)) ud, Q, DS, SC) (e_K (B' := ez B' n st e) (H' := H') (HL' := HL') (D' := D') (R' := ec_cp B' st (ec_cp R' 0 R' e s) 0 e) (RL' := upd RL' 0 (nI (s + e))) (U' := ep_U B' U' 32 ud) (UL' := ep_L UL' (nI n) ud) (UK' := ep_L UK' (nI (st + e)) ud) (Q' := Q') (la := 2) ⟨⟨⟨hw1, hw2⟩, ⟨hh1, hh2⟩, ⟨hr1, hr2⟩, ⟨by omega, by omega⟩, ⟨by omega, by omega⟩, by omega, by omega, by omega, by omega⟩, hdel, hH, hD, ej_bwd hR hs0 (by omega) hb, ep_eu hU hud hn (by omega) hB, hQ, eL_2 (s := s + e) (by omega) ec_us (by omega), Or.inl S0⟩) (fun post hp => ey_lt st (st + e) (by omega) (en_eq st (st + e) (by omega) (xpu hn hud (br_t rfl (xk_b st e s c n hn h1 (by omega) (by omega) hlx hp)))))
theorem e_kb_f {st e c : Nat} (C : eC w hh (c + 1) n (st + e) hc nav dn (c + 1) y ud mo la ql p m B H HL D R RL U UL UK Q B' H' HL' D' R' RL' U' UL' UK' Q') (he : 1 ≤ e) (h1 : st + e ≤ n) (S0 : mo = 0 ∧ m = -1 ∧ ql = 0) (hl : la ≠ 2) : eO (fun post => wX_killKey_83 post (nI st) (nI (st + e)) (nI w) (nI hh) (nI (c + 1)) (nI n) (nI (st + e)) (nI hc) (nI nav) (nI dn) (nI (c + 1)) (nI y) (nI ud) (nI mo) (nI la) ac (nI ql) m (nI p) (nI dl) (nI dc) (nI (dc / w)) (nI (dc % w)) B H HL D R RL U UL UK Q DS SC) := by
  obtain ⟨⟨⟨hw1, hw2⟩, ⟨hh1, hh2⟩, ⟨hr1, hr2⟩, ⟨hn, hk⟩, ⟨hhc, hnav⟩, hdn, hkc, hud, hql⟩, hB, hH, hD, hR, hU, hQ, hL, hS⟩ := id C
  have hud2 := ep_le hud
  have hb : eg B B' st st e := by
    have := eg_sub (i := st) (m := e) hB (by omega)
    rw [Nat.zero_add] at this
    exact this
  have hdel : eg (ec_cp B (st + e) B st (n - st - e)) (ez B' n st e) 0 0 (n - e) := eg_del hB h1 (ez_p e h1)
  have hla := hL.1
  exact eO_1 (nI w, nI hh, nI (c + 1), nI (n - e), nI st, nI hc, nI nav, nI dn, nI (c + 1), nI y, nI (ep_n ud), nI mo, 2, ac, nI ql, m, nI p, nI dl, nI dc, nI (dc / w), nI (dc % w), ec_cp B (st + e) B st (n - st - e), H, HL, D, ec_cp B st (ec_cp R 32 R 0 (c * 32)) (c * 32) e, upd (upd (ec_cp RL 1 RL 0 c) c 0) c (nI e), ep_U B U n ud, ep_L UL (nI n) ud, ep_L UK (nI (st + e)) ud, Q, DS, SC) (e_K (B' := ez B' n st e) (H' := H') (HL' := HL') (D' := D') (R' := ec_cp B' st (ec_cp R' 0 R' 32 (c * 32)) 0 e) (RL' := upd (ec_cp RL' 0 RL' 1 c) 0 (nI e)) (U' := ep_U B' U' 32 ud) (UL' := ep_L UL' (nI n) ud) (UK' := ep_L UK' (nI (st + e)) ud) (Q' := Q') (la := 2) ⟨⟨⟨hw1, hw2⟩, ⟨hh1, hh2⟩, ⟨hr1, hr2⟩, ⟨by omega, by omega⟩, ⟨by omega, by omega⟩, by omega, by omega, by omega, by omega⟩, hdel, hH, hD, ej_full hR (by omega) hb, ep_eu hU hud hn (by omega) hB, hQ, eL_2 (s := e) (by omega) ec_us (by omega), Or.inl S0⟩) (fun post hp => ey_lt st (st + e) (by omega) (en_eq st (st + e) (by omega) (xpu hn hud (en_eq la 2 hl (xae_f c (by omega) (xk_b st e 0 c n hn h1 (by omega) (by omega) ec_us (by rw [Nat.zero_add, ec_0]; exact hp)))))))
theorem e_kb_n {st e c : Nat} (C : eC w hh rr n (st + e) hc nav dn c y ud mo la ql p m B H HL D R RL U UL UK Q B' H' HL' D' R' RL' U' UL' UK' Q') (he : 1 ≤ e) (h1 : st + e ≤ n) (S0 : mo = 0 ∧ m = -1 ∧ ql = 0) (hl : la ≠ 2) (hcr : c < rr) : eO (fun post => wX_killKey_83 post (nI st) (nI (st + e)) (nI w) (nI hh) (nI rr) (nI n) (nI (st + e)) (nI hc) (nI nav) (nI dn) (nI c) (nI y) (nI ud) (nI mo) (nI la) ac (nI ql) m (nI p) (nI dl) (nI dc) (nI (dc / w)) (nI (dc % w)) B H HL D R RL U UL UK Q DS SC) := by
  obtain ⟨⟨⟨hw1, hw2⟩, ⟨hh1, hh2⟩, ⟨hr1, hr2⟩, ⟨hn, hk⟩, ⟨hhc, hnav⟩, hdn, hkc, hud, hql⟩, hB, hH, hD, hR, hU, hQ, hL, hS⟩ := id C
  have hud2 := ep_le hud
  have hb : eg B B' st st e := by
    have := eg_sub (i := st) (m := e) hB (by omega)
    rw [Nat.zero_add] at this
    exact this
  have hdel : eg (ec_cp B (st + e) B st (n - st - e)) (ez B' n st e) 0 0 (n - e) := eg_del hB h1 (ez_p e h1)
  have hla := hL.1
  exact eO_1 (nI w, nI hh, nI rr, nI (n - e), nI st, nI hc, nI nav, nI dn, nI (c + 1), nI y, nI (ep_n ud), nI mo, 2, ac, nI ql, m, nI p, nI dl, nI dc, nI (dc / w), nI (dc % w), ec_cp B (st + e) B st (n - st - e), H, HL, D, ec_cp B st R (c * 32) e, upd (upd RL c 0) c (nI e), ep_U B U n ud, ep_L UL (nI n) ud, ep_L UK (nI (st + e)) ud, Q, DS, SC) (e_K (B' := ez B' n st e) (H' := H') (HL' := HL') (D' := D') (R' := ec_cp B' st (ec_cp R' 0 R' 32 (c * 32)) 0 e) (RL' := upd (ec_cp RL' 0 RL' 1 c) 0 (nI e)) (U' := ep_U B' U' 32 ud) (UL' := ep_L UL' (nI n) ud) (UK' := ep_L UK' (nI (st + e)) ud) (Q' := Q') (la := 2) ⟨⟨⟨hw1, hw2⟩, ⟨hh1, hh2⟩, ⟨hr1, hr2⟩, ⟨by omega, by omega⟩, ⟨by omega, by omega⟩, by omega, by omega, by omega, by omega⟩, hdel, hH, hD, ej_new hR (by omega) hb, ep_eu hU hud hn (by omega) hB, hQ, eL_2 (s := e) (by omega) ec_us (by omega), Or.inl S0⟩) (fun post hp => ey_lt st (st + e) (by omega) (en_eq st (st + e) (by omega) (xpu hn hud (en_eq la 2 hl (xae_n c rr hcr (by omega) (xk_b st e 0 c n hn h1 (by omega) (by omega) ec_us (by rw [Nat.zero_add, ec_0]; exact hp)))))))
end
