/-! V: undo, history steps, enter, search -/
section
variable {w hh rr n k hc nav dn kc y ud mo la ql p dl dc : Nat} {m ac xdl xdc xtr xtc : Int32} {B H HL D R RL U UL UK Q DS SC B' H' HL' D' R' RL' U' UL' UK' Q' : Nat → Int32}
theorem e_undo (C : eC w hh rr n k hc nav dn kc y ud mo la ql p m B H HL D R RL U UL UK Q B' H' HL' D' R' RL' U' UL' UK' Q') (P : eP w n k mo ql p m B H HL Q dl dc DS SC) (S0 : mo = 0 ∧ m = -1 ∧ ql = 0) : eO (fun post => wpX_editKey post (nI w, nI hh, nI rr, nI n, nI k, nI hc, nI nav, nI dn, nI kc, nI y, nI ud, nI mo, nI la, ac, nI ql, m, nI p, nI dl, nI dc, nI (dc / w), nI (dc % w), B, H, HL, D, R, RL, U, UL, UK, Q, DS, SC) 31) := by
  obtain ⟨⟨⟨hw1, hw2⟩, ⟨hh1, hh2⟩, ⟨hr1, hr2⟩, ⟨hn, hk⟩, ⟨hhc, hnav⟩, hdn, hkc, hud, hql⟩, hB, hH, hD, hR, hU, hQ, hL, hS⟩ := id C
  by_cases c : ud = 0
  · subst c
    exact eO_0 (nI w, nI hh, nI rr, nI n, nI k, nI hc, nI nav, nI dn, nI kc, nI y, nI 0, nI mo, nI la, ac, nI ql, m, nI p, nI dl, nI dc, nI (dc / w), nI (dc % w), B, H, HL, D, R, RL, U, UL, UK, Q, DS, SC) (e_I C P) (fun post hp => by unfold wpX_editKey; exact xp_f (Or.inl (by decide)) (br_t rfl (br_f (by decide) (br_f (by decide) (br_f (by decide) (br_f (by decide) (br_f (by decide) (br_f (by decide) (br_f (by decide) (br_f (by decide) (br_f (by decide) (br_f (by decide) (br_t rfl ( ey_eq 0 0 rfl hp ))))))))))))))
  · obtain ⟨v, rfl⟩ : ∃ v, ud = v + 1 := ⟨ud - 1, by omega⟩
    obtain ⟨l, t, hl, ht, a1, a2, a3, a4, hg⟩ := hU v (by omega)
    exact eO_1 (nI w, nI hh, nI rr, nI l, nI t, nI hc, nI nav, nI dn, nI kc, nI y, nI v, nI mo, 0, ac, nI ql, m, nI p, nI dl, nI dc, nI (dc / w), nI (dc % w), ec_cp U (v * 32) B 0 l, H, HL, D, R, RL, U, UL, UK, Q, DS, SC) (e_K (B' := ec_cp U' (v * 32) B' 0 32) (H' := H') (HL' := HL') (D' := D') (R' := R') (RL' := RL') (U' := U') (UL' := UL') (UK' := UK') (Q' := Q') (la := 0) ⟨⟨⟨hw1, hw2⟩, ⟨hh1, hh2⟩, ⟨hr1, hr2⟩, ⟨by omega, by omega⟩, ⟨by omega, by omega⟩, by omega, by omega, by omega, by omega⟩, eg_cp hg (Nat.le_refl _) hl, hH, hD, hR, eu_le hU (by omega), hQ, eL_0, Or.inl S0⟩) (fun post hp => by unfold wpX_editKey; exact xp_f (Or.inl (by decide)) (br_t rfl (br_f (by decide) (br_f (by decide) (br_f (by decide) (br_f (by decide) (br_f (by decide) (br_f (by decide) (br_f (by decide) (br_f (by decide) (br_f (by decide) (br_f (by decide) (br_t rfl ( en_eq (v + 1) 0 (by omega) (xus0 v ⟨en_in v (by omega), nm_r ((en_g v).trans a1) (xc_10 (v * 32) 0 l (by omega) (by omega) ⟨en_in v (by omega), nm_r ((en_g v).trans a3) (nm_r (nI_pred v) hp)⟩)⟩) ))))))))))))))
theorem e_prev (C : eC w hh rr n k hc nav dn kc y ud mo la ql p m B H HL D R RL U UL UK Q B' H' HL' D' R' RL' U' UL' UK' Q') (P : eP w n k mo ql p m B H HL Q dl dc DS SC) (S0 : mo = 0 ∧ m = -1 ∧ ql = 0) : eO (fun post => wpX_editKey post (nI w, nI hh, nI rr, nI n, nI k, nI hc, nI nav, nI dn, nI kc, nI y, nI ud, nI mo, nI la, ac, nI ql, m, nI p, nI dl, nI dc, nI (dc / w), nI (dc % w), B, H, HL, D, R, RL, U, UL, UK, Q, DS, SC) 16) := by
  obtain ⟨⟨⟨hw1, hw2⟩, ⟨hh1, hh2⟩, ⟨hr1, hr2⟩, ⟨hn, hk⟩, ⟨hhc, hnav⟩, hdn, hkc, hud, hql⟩, hB, hH, hD, hR, hU, hQ, hL, hS⟩ := id C
  by_cases c : nav = 0
  · subst c
    exact eO_0 (nI w, nI hh, nI rr, nI n, nI k, nI hc, nI 0, nI dn, nI kc, nI y, nI ud, nI mo, nI la, ac, nI ql, m, nI p, nI dl, nI dc, nI (dc / w), nI (dc % w), B, H, HL, D, R, RL, U, UL, UK, Q, DS, SC) (e_I C P) (fun post hp => by unfold wpX_editKey; exact xp_f (Or.inl (by decide)) (br_t rfl (br_f (by decide) (br_f (by decide) (br_f (by decide) (br_f (by decide) (br_f (by decide) (br_t rfl ( ey_eq 0 0 rfl hp )))))))))
  · obtain ⟨v, rfl⟩ : ∃ v, nav = v + 1 := ⟨nav - 1, by omega⟩
    obtain ⟨l, hl, a1, a2, hg⟩ := hH v (by omega)
    by_cases c2 : v + 1 = hc
    · subst c2
      exact eO_1 (nI w, nI hh, nI rr, nI l, nI l, nI (v + 1), nI v, nI n, nI kc, nI y, 0, nI mo, 0, ac, nI ql, m, nI p, nI dl, nI dc, nI (dc / w), nI (dc % w), ec_cp H (v * 32) B 0 l, H, HL, ec_cp B 0 D 0 n, R, RL, U, UL, UK, Q, DS, SC) (e_K (B' := ec_cp H' (v * 32) B' 0 32) (H' := H') (HL' := HL') (D' := ec_cp B' 0 D' 0 32) (R' := R') (RL' := RL') (U' := U') (UL' := UL') (UK' := UK') (Q' := Q') (la := 0) (ud := 0) ⟨⟨⟨hw1, hw2⟩, ⟨hh1, hh2⟩, ⟨hr1, hr2⟩, ⟨by omega, by omega⟩, ⟨by omega, by omega⟩, by omega, by omega, by omega, by omega⟩, eg_cp hg (Nat.le_refl _) hl, hH, eg_cp hB (Nat.le_refl _) hn, hR, eu_0, hQ, eL_0, Or.inl S0⟩) (fun post hp => by unfold wpX_editKey; exact xp_f (Or.inl (by decide)) (br_t rfl (br_f (by decide) (br_f (by decide) (br_f (by decide) (br_f (by decide) (br_f (by decide) (br_t rfl ( en_eq (v + 1) 0 (by omega) (ey_eq (v + 1) (v + 1) rfl (xc_11 0 0 n (by omega) (by omega) (nm_r (nI_pred v) (xlh v l (by omega) hl a1 hp)))) )))))))))
    · exact eO_1 (nI w, nI hh, nI rr, nI l, nI l, nI hc, nI v, nI dn, nI kc, nI y, 0, nI mo, 0, ac, nI ql, m, nI p, nI dl, nI dc, nI (dc / w), nI (dc % w), ec_cp H (v * 32) B 0 l, H, HL, D, R, RL, U, UL, UK, Q, DS, SC) (e_K (B' := ec_cp H' (v * 32) B' 0 32) (H' := H') (HL' := HL') (D' := D') (R' := R') (RL' := RL') (U' := U') (UL' := UL') (UK' := UK') (Q' := Q') (la := 0) (ud := 0) ⟨⟨⟨hw1, hw2⟩, ⟨hh1, hh2⟩, ⟨hr1, hr2⟩, ⟨by omega, by omega⟩, ⟨by omega, by omega⟩, by omega, by omega, by omega, by omega⟩, eg_cp hg (Nat.le_refl _) hl, hH, hD, hR, eu_0, hQ, eL_0, Or.inl S0⟩) (fun post hp => by unfold wpX_editKey; exact xp_f (Or.inl (by decide)) (br_t rfl (br_f (by decide) (br_f (by decide) (br_f (by decide) (br_f (by decide) (br_f (by decide) (br_t rfl ( en_eq (v + 1) 0 (by omega) (en_eq (v + 1) hc c2 (nm_r (nI_pred v) (xlh v l (by omega) hl a1 hp))) )))))))))
theorem e_next (C : eC w hh rr n k hc nav dn kc y ud mo la ql p m B H HL D R RL U UL UK Q B' H' HL' D' R' RL' U' UL' UK' Q') (P : eP w n k mo ql p m B H HL Q dl dc DS SC) (S0 : mo = 0 ∧ m = -1 ∧ ql = 0) : eO (fun post => wpX_editKey post (nI w, nI hh, nI rr, nI n, nI k, nI hc, nI nav, nI dn, nI kc, nI y, nI ud, nI mo, nI la, ac, nI ql, m, nI p, nI dl, nI dc, nI (dc / w), nI (dc % w), B, H, HL, D, R, RL, U, UL, UK, Q, DS, SC) 14) := by
  obtain ⟨⟨⟨hw1, hw2⟩, ⟨hh1, hh2⟩, ⟨hr1, hr2⟩, ⟨hn, hk⟩, ⟨hhc, hnav⟩, hdn, hkc, hud, hql⟩, hB, hH, hD, hR, hU, hQ, hL, hS⟩ := id C
  by_cases c : nav = hc
  · subst c
    exact eO_0 (nI w, nI hh, nI rr, nI n, nI k, nI nav, nI nav, nI dn, nI kc, nI y, nI ud, nI mo, nI la, ac, nI ql, m, nI p, nI dl, nI dc, nI (dc / w), nI (dc % w), B, H, HL, D, R, RL, U, UL, UK, Q, DS, SC) (e_I C P) (fun post hp => by unfold wpX_editKey; exact xp_f (Or.inl (by decide)) (br_t rfl (br_f (by decide) (br_f (by decide) (br_f (by decide) (br_f (by decide) (br_t rfl ( ey_eq nav nav rfl hp ))))))))
  · by_cases c2 : nav + 1 = hc
    · exact eO_1 (nI w, nI hh, nI rr, nI dn, nI dn, nI hc, nI (nav + 1), 0, nI kc, nI y, 0, nI mo, 0, ac, nI ql, m, nI p, nI dl, nI dc, nI (dc / w), nI (dc % w), ec_cp D 0 B 0 dn, H, HL, D, R, RL, U, UL, UK, Q, DS, SC) (e_K (B' := ec_cp D' 0 B' 0 32) (H' := H') (HL' := HL') (D' := D') (R' := R') (RL' := RL') (U' := U') (UL' := UL') (UK' := UK') (Q' := Q') (la := 0) (ud := 0) (dn := 0) ⟨⟨⟨hw1, hw2⟩, ⟨hh1, hh2⟩, ⟨hr1, hr2⟩, ⟨by omega, by omega⟩, ⟨by omega, by omega⟩, by omega, by omega, by omega, by omega⟩, eg_cp hD (Nat.le_refl _) hdn, hH, eg_0, hR, eu_0, hQ, eL_0, Or.inl S0⟩) (fun post hp => by unfold wpX_editKey; exact xp_f (Or.inl (by decide)) (br_t rfl (br_f (by decide) (br_f (by decide) (br_f (by decide) (br_f (by decide) (br_t rfl ( en_eq nav hc c (nm_r (nI_1 nav) (ey_eq (nav + 1) hc c2 (xld hdn hp))) ))))))))
    · obtain ⟨l, hl, a1, a2, hg⟩ := hH (nav + 1) (by omega)
      exact eO_1 (nI w, nI hh, nI rr, nI l, nI l, nI hc, nI (nav + 1), nI dn, nI kc, nI y, 0, nI mo, 0, ac, nI ql, m, nI p, nI dl, nI dc, nI (dc / w), nI (dc % w), ec_cp H ((nav + 1) * 32) B 0 l, H, HL, D, R, RL, U, UL, UK, Q, DS, SC) (e_K (B' := ec_cp H' ((nav + 1) * 32) B' 0 32) (H' := H') (HL' := HL') (D' := D') (R' := R') (RL' := RL') (U' := U') (UL' := UL') (UK' := UK') (Q' := Q') (la := 0) (ud := 0) ⟨⟨⟨hw1, hw2⟩, ⟨hh1, hh2⟩, ⟨hr1, hr2⟩, ⟨by omega, by omega⟩, ⟨by omega, by omega⟩, by omega, by omega, by omega, by omega⟩, eg_cp hg (Nat.le_refl _) hl, hH, hD, hR, eu_0, hQ, eL_0, Or.inl S0⟩) (fun post hp => by unfold wpX_editKey; exact xp_f (Or.inl (by decide)) (br_t rfl (br_f (by decide) (br_f (by decide) (br_f (by decide) (br_f (by decide) (br_t rfl ( en_eq nav hc c (nm_r (nI_1 nav) (en_eq (nav + 1) hc c2 (xlh (nav + 1) l (by omega) hl a1 hp))) ))))))))
theorem e_enter (C : eC w hh rr n k hc nav dn kc y ud mo la ql p m B H HL D R RL U UL UK Q B' H' HL' D' R' RL' U' UL' UK' Q') (P : eP w n k mo ql p m B H HL Q dl dc DS SC) (S0 : mo = 0 ∧ m = -1 ∧ ql = 0) : eO (fun post => wpX_editKey post (nI w, nI hh, nI rr, nI n, nI k, nI hc, nI nav, nI dn, nI kc, nI y, nI ud, nI mo, nI la, ac, nI ql, m, nI p, nI dl, nI dc, nI (dc / w), nI (dc % w), B, H, HL, D, R, RL, U, UL, UK, Q, DS, SC) 13) := by
  obtain ⟨⟨⟨hw1, hw2⟩, ⟨hh1, hh2⟩, ⟨hr1, hr2⟩, ⟨hn, hk⟩, ⟨hhc, hnav⟩, hdn, hkc, hud, hql⟩, hB, hH, hD, hR, hU, hQ, hL, hS⟩ := id C
  by_cases c : n = 0
  · subst c
    exact eO_1 (nI w, nI hh, nI rr, 0, 0, nI hc, nI hc, 0, nI kc, nI y, 0, nI mo, 0, ac + 1, nI ql, m, nI p, nI dl, nI dc, nI (dc / w), nI (dc % w), B, H, HL, D, R, RL, U, UL, UK, Q, DS, SC) (e_K (B' := B') (H' := H') (HL' := HL') (D' := D') (R' := R') (RL' := RL') (U' := U') (UL' := UL') (UK' := UK') (Q' := Q') (la := 0) (ud := 0) (dn := 0) (n := 0) (k := 0) ⟨⟨⟨hw1, hw2⟩, ⟨hh1, hh2⟩, ⟨hr1, hr2⟩, ⟨by omega, by omega⟩, ⟨by omega, by omega⟩, by omega, by omega, by omega, by omega⟩, eg_0, hH, eg_0, hR, eu_0, hQ, eL_0, Or.inl S0⟩) (fun post hp => by unfold wpX_editKey; exact xp_f (Or.inl (by decide)) (br_t rfl (br_f (by decide) (br_f (by decide) (br_f (by decide) (br_t rfl ( ey_le 0 0 (by omega) (nm_e hp) )))))))
  · have hle := ea_le hhc
    exact eO_1 (nI w, nI hh, nI rr, 0, 0, nI (ea_n hc hh), nI (ea_n hc hh), 0, nI kc, nI y, 0, nI mo, 0, ac + 1, nI ql, m, nI p, nI dl, nI dc, nI (dc / w), nI (dc % w), B, ea_H B H n hc hh, ea_L HL (nI n) hc hh, D, R, RL, U, UL, UK, Q, DS, SC) (e_K (B' := B') (H' := ea_H B' H' 32 hc hh) (HL' := ea_L HL' (nI n) hc hh) (D' := D') (R' := R') (RL' := RL') (U' := U') (UL' := UL') (UK' := UK') (Q' := Q') (la := 0) (ud := 0) (dn := 0) (n := 0) (k := 0) ⟨⟨⟨hw1, hw2⟩, ⟨hh1, hh2⟩, ⟨hr1, hr2⟩, ⟨by omega, by omega⟩, ⟨by omega, by omega⟩, by omega, by omega, by omega, by omega⟩, eg_0, ea_eh hH hh1 hn hB, eg_0, hR, eu_0, hQ, eL_0, Or.inl S0⟩) (fun post hp => by unfold wpX_editKey; exact xp_f (Or.inl (by decide)) (br_t rfl (br_f (by decide) (br_f (by decide) (br_f (by decide) (br_t rfl ( en_le n 0 (by omega) (xah hn hh1 hh2 hhc (nm_e hp)) )))))))
theorem e_find (C : eC w hh rr n k hc nav dn kc y ud mo la ql p m B H HL D R RL U UL UK Q B' H' HL' D' R' RL' U' UL' UK' Q') (P : eP w n k mo ql p m B H HL Q dl dc DS SC) (S0 : mo = 0 ∧ m = -1 ∧ ql = 0) : eO (fun post => wpX_editKey post (nI w, nI hh, nI rr, nI n, nI k, nI hc, nI nav, nI dn, nI kc, nI y, nI ud, nI mo, nI la, ac, nI ql, m, nI p, nI dl, nI dc, nI (dc / w), nI (dc % w), B, H, HL, D, R, RL, U, UL, UK, Q, DS, SC) 18) := by
  obtain ⟨⟨⟨hw1, hw2⟩, ⟨hh1, hh2⟩, ⟨hr1, hr2⟩, ⟨hn, hk⟩, ⟨hhc, hnav⟩, hdn, hkc, hud, hql⟩, hB, hH, hD, hR, hU, hQ, hL, hS⟩ := id C
  by_cases c : hc = 0
  · subst c
    exact eO_0 (nI w, nI hh, nI rr, nI n, nI k, nI 0, nI nav, nI dn, nI kc, nI y, nI ud, nI mo, nI la, ac, nI ql, m, nI p, nI dl, nI dc, nI (dc / w), nI (dc % w), B, H, HL, D, R, RL, U, UL, UK, Q, DS, SC) (e_I C P) (fun post hp => by unfold wpX_editKey; exact xp_f (Or.inl (by decide)) (br_t rfl (br_f (by decide) (br_f (by decide) (br_f (by decide) (br_f (by decide) (br_f (by decide) (br_f (by decide) (br_t rfl ( ey_eq 0 0 rfl hp ))))))))))
  · exact eO_1 (nI w, nI hh, nI rr, nI n, nI k, nI hc, nI nav, nI dn, nI kc, nI y, nI ud, 1, 0, ac, 0, (-1), nI p, nI dl, nI dc, nI (dc / w), nI (dc % w), B, H, HL, D, R, RL, U, UL, UK, Q, DS, SC) (e_K (B' := B') (H' := H') (HL' := HL') (D' := D') (R' := R') (RL' := RL') (U' := U') (UL' := UL') (UK' := UK') (Q' := Q') (la := 0) (mo := 1) (ql := 0) (m := -1) ⟨⟨⟨hw1, hw2⟩, ⟨hh1, hh2⟩, ⟨hr1, hr2⟩, ⟨by omega, by omega⟩, ⟨by omega, by omega⟩, by omega, by omega, by omega, by omega⟩, hB, hH, hD, hR, hU, eg_0, eL_0, Or.inr ⟨rfl, rfl, Or.inl ⟨rfl, rfl⟩⟩⟩) (fun post hp => by unfold wpX_editKey; exact xp_f (Or.inl (by decide)) (br_t rfl (br_f (by decide) (br_f (by decide) (br_f (by decide) (br_f (by decide) (br_f (by decide) (br_f (by decide) (br_t rfl ( en_eq hc 0 c hp ))))))))))
/-- any other code -/
theorem e_other (C : eC w hh rr n k hc nav dn kc y ud mo la ql p m B H HL D R RL U UL UK Q B' H' HL' D' R' RL' U' UL' UK' Q') (P : eP w n k mo ql p m B H HL Q dl dc DS SC) {c : Int32} (c0 : c < 32 ∨ 126 < c) (n1 : c ≠ 1) (n2 : c ≠ 2) (n4 : c ≠ 4) (n5 : c ≠ 5) (n6 : c ≠ 6) (n8 : c ≠ 8) (n11 : c ≠ 11) (n13 : c ≠ 13) (n14 : c ≠ 14) (n16 : c ≠ 16) (n18 : c ≠ 18) (n21 : c ≠ 21) (n23 : c ≠ 23) (n25 : c ≠ 25) (n31 : c ≠ 31) (n200 : c ≠ 200) (n201 : c ≠ 201) (n202 : c ≠ 202) (n203 : c ≠ 203) : eO (fun post => wpX_editKey post (nI w, nI hh, nI rr, nI n, nI k, nI hc, nI nav, nI dn, nI kc, nI y, nI ud, nI mo, nI la, ac, nI ql, m, nI p, nI dl, nI dc, nI (dc / w), nI (dc % w), B, H, HL, D, R, RL, U, UL, UK, Q, DS, SC) c) := by
  refine eO_0 (nI w, nI hh, nI rr, nI n, nI k, nI hc, nI nav, nI dn, nI kc, nI y, nI ud, nI mo, nI la, ac, nI ql, m, nI p, nI dl, nI dc, nI (dc / w), nI (dc % w), B, H, HL, D, R, RL, U, UL, UK, Q, DS, SC) (e_I C P) (fun post hp => ?_)
  · unfold wpX_editKey
    exact xp_f c0 (br_t rfl (br_f n4 (br_f n8 (br_f n11 (br_f n13 (br_f n14 (br_f n16 (br_f n18 (br_f n21 (br_f n23 (br_f n25 (br_f n31 (br_f n202 (br_f n203 (br_f n1 (br_f n2 (br_f n5 (br_f n6 (br_f n200 (br_f n201 hp))))))))))))))))))))
theorem e_edit (C : eC w hh rr n k hc nav dn kc y ud mo la ql p m B H HL D R RL U UL UK Q B' H' HL' D' R' RL' U' UL' UK' Q') (P : eP w n k mo ql p m B H HL Q dl dc DS SC) (S0 : mo = 0 ∧ m = -1 ∧ ql = 0) (c : Int32) : eO (fun post => wpX_editKey post (nI w, nI hh, nI rr, nI n, nI k, nI hc, nI nav, nI dn, nI kc, nI y, nI ud, nI mo, nI la, ac, nI ql, m, nI p, nI dl, nI dc, nI (dc / w), nI (dc % w), B, H, HL, D, R, RL, U, UL, UK, Q, DS, SC) c) := by
  by_cases c0 : c < 32 ∨ 126 < c
  · by_cases n1 : c = 1
    · subst n1; exact e_home C P S0
    by_cases n2 : c = 2
    · subst n2; exact e_left C P S0
    by_cases n4 : c = 4
    · subst n4; exact e_del C P S0
    by_cases n5 : c = 5
    · subst n5; exact e_end C P S0
    by_cases n6 : c = 6
    · subst n6; exact e_right C P S0
    by_cases n8 : c = 8
    · subst n8; exact e_back C P S0
    by_cases n11 : c = 11
    · subst n11; exact e_kend C P S0
    by_cases n13 : c = 13
    · subst n13; exact e_enter C P S0
    by_cases n14 : c = 14
    · subst n14; exact e_next C P S0
    by_cases n16 : c = 16
    · subst n16; exact e_prev C P S0
    by_cases n18 : c = 18
    · subst n18; exact e_find C P S0
    by_cases n21 : c = 21
    · subst n21; exact e_kst C P S0
    by_cases n23 : c = 23
    · subst n23; exact e_kwb C P S0
    by_cases n25 : c = 25
    · subst n25; exact e_yank C P S0
    by_cases n31 : c = 31
    · subst n31; exact e_undo C P S0
    by_cases n200 : c = 200
    · subst n200; exact e_wl C P S0
    by_cases n201 : c = 201
    · subst n201; exact e_wr C P S0
    by_cases n202 : c = 202
    · subst n202; exact e_kwf C P S0
    by_cases n203 : c = 203
    · subst n203; exact e_pop C P S0
    exact e_other C P c0 n1 n2 n4 n5 n6 n8 n11 n13 n14 n16 n18 n21 n23 n25 n31 n200 n201 n202 n203
  · exact e_type C P S0 (fun z => c0 (Or.inl z)) (fun z => c0 (Or.inr z))
end
