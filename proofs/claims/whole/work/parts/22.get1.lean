/-! Y: the answers -/
theorem en_ix {r c w : Nat} (hr : r < 16) (hc : c < w) : r * w + c < 16 * w := by
  have h := Nat.mul_le_mul_right w (show r + 1 ≤ 16 by omega)
  rw [Nat.succ_mul] at h
  omega
section
variable {w hh rr n k hc nav dn kc y ud mo la ql p dl dc : Nat} {m ac xdl xdc xtr xtc : Int32} {B H HL D R RL U UL UK Q DS SC B' H' HL' D' R' RL' U' UL' UK' Q' : Nat → Int32}
/-- the display as both sides have it -/
theorem e_view (C : eC w hh rr n k hc nav dn kc y ud mo la ql p m B H HL D R RL U UL UK Q B' H' HL' D' R' RL' U' UL' UK' Q') (P : eP w n k mo ql p m B H HL Q dl dc DS SC) : (mo = 0 ∧ dl = 2 + n ∧ dc = 2 + k ∧ DS 0 = 62 ∧ DS 1 = 32 ∧ ∀ j, j < n → DS (2 + j) = B' j ∧ ¬ B' j < 0) ∨
    (mo = 1 ∧ DS 0 = 63 ∧ (∀ j, j < ql → DS (1 + j) = Q' j ∧ ¬ Q' j < 0) ∧ DS (1 + ql) = 58 ∧ DS (2 + ql) = 32 ∧
      ((m = -1 ∧ dl = 3 + ql + n ∧ dc = 3 + ql + k ∧ ∀ j, j < n → DS (3 + ql + j) = B' j ∧ ¬ B' j < 0) ∨
       ∃ i l, m = nI i ∧ i < 8 ∧ l ≤ 32 ∧ HL' i = nI l ∧ dl = 3 + ql + l ∧ dc = 3 + ql + p ∧ ∀ j, j < l → DS (3 + ql + j) = H' (i * 32 + j) ∧ ¬ H' (i * 32 + j) < 0)) := by
  obtain ⟨⟨⟨hw1, hw2⟩, ⟨hh1, hh2⟩, ⟨hr1, hr2⟩, ⟨hn, hk⟩, ⟨hhc, hnav⟩, hdn, hkc, hud, hql⟩, hB, hH, hD, hR, hU, hQ, hL, hS⟩ := id C
  obtain ⟨_, _, _, ⟨e, b1, b2, b3, b4, b5⟩ | ⟨e, b1, b2, b3, b4, h⟩⟩ := P
  · exact Or.inl ⟨e, b1, b2, b3, b4, fun j hj => ⟨(b5 j hj).trans (eg_at hB hj).1, (eg_at hB hj).2⟩⟩
  · refine Or.inr ⟨e, b1, fun j hj => ⟨(b2 j hj).trans (eg_at hQ hj).1, (eg_at hQ hj).2⟩, b3, b4, ?_⟩
    rcases h with ⟨f1, f2, f3, f4⟩ | ⟨i, l, f1, f2, f3, f4, f5, f6, f7⟩
    · exact Or.inl ⟨f1, f2, f3, fun j hj => ⟨(f4 j hj).trans (eg_at hB hj).1, (eg_at hB hj).2⟩⟩
    · refine Or.inr ⟨i, l, f1, f2, f3, ?_⟩
      have hi : i < hc := by
        rcases hS with ⟨h0, _, _⟩ | ⟨_, _, ⟨h1, _⟩ | ⟨i2, l2, h1, h2, _⟩⟩
        · omega
        · exact absurd (f1.symm.trans h1) (fun z => absurd (z ▸ nI_pos (n := i) (by omega)) (by decide))
        · have := (nI_eq (by omega) (by omega)).mp (f1.symm.trans h1)
          omega
      obtain ⟨l3, hl3, a1, a2, hg⟩ := hH i hi
      obtain rfl : l3 = l := (nI_eq (by omega) (by omega)).mp (a1.symm.trans f4)
      exact ⟨a2, f5, f6, fun j hj => ⟨(f7 j hj).trans (hg j hj).1, (hg j hj).2⟩⟩
theorem y_dl {post : Int32 → Prop} (C : eC w hh rr n k hc nav dn kc y ud mo la ql p m B H HL D R RL U UL UK Q B' H' HL' D' R' RL' U' UL' UK' Q') (P : eP w n k mo ql p m B H HL Q dl dc DS SC) (h : post (nI dl)) : wpY_dispLen post (nI w, nI hh, nI rr, nI n, nI k, nI hc, nI nav, nI dn, nI kc, nI ud, nI la, nI y, nI mo, nI ql, nI p, ac, m, B', H', HL', D', R', RL', U', UL', UK', Q') := by
  obtain ⟨⟨⟨hw1, hw2⟩, ⟨hh1, hh2⟩, ⟨hr1, hr2⟩, ⟨hn, hk⟩, ⟨hhc, hnav⟩, hdn, hkc, hud, hql⟩, hB, hH, hD, hR, hU, hQ, hL, hS⟩ := id C
  rcases e_view C P with ⟨rfl, e1, _⟩ | ⟨rfl, _, _, _, _, ⟨rfl, e1, _⟩ | ⟨i, l, rfl, hi, hl, a, e1, _⟩⟩
  · have e : 2 + nI n = nI dl := by rw [en_a2, e1]
    rw [← e] at h
    exact ey_eq 0 0 rfl h
  · have e : (3 + nI ql) + nI n = nI dl := by rw [en_a3, nI_add, e1]
    rw [← e] at h
    exact en_eq 1 0 (by omega) (br_t (by decide) h)
  · have e : (3 + nI ql) + HL' (nI i).toNatClampNeg = nI dl := by rw [nI_clamp (by omega), a, en_a3, nI_add, e1]
    rw [← e] at h
    exact en_eq 1 0 (by omega) (br_f (nI_pos (by omega)) ⟨en_in i hi, h⟩)
theorem y_dc {post : Int32 → Prop} (C : eC w hh rr n k hc nav dn kc y ud mo la ql p m B H HL D R RL U UL UK Q B' H' HL' D' R' RL' U' UL' UK' Q') (P : eP w n k mo ql p m B H HL Q dl dc DS SC) (h : post (nI dc)) : wpY_dispCursor post (nI w, nI hh, nI rr, nI n, nI k, nI hc, nI nav, nI dn, nI kc, nI ud, nI la, nI y, nI mo, nI ql, nI p, ac, m, B', H', HL', D', R', RL', U', UL', UK', Q') := by
  obtain ⟨⟨⟨hw1, hw2⟩, ⟨hh1, hh2⟩, ⟨hr1, hr2⟩, ⟨hn, hk⟩, ⟨hhc, hnav⟩, hdn, hkc, hud, hql⟩, hB, hH, hD, hR, hU, hQ, hL, hS⟩ := id C
  rcases e_view C P with ⟨rfl, _, e1, _⟩ | ⟨rfl, _, _, _, _, ⟨rfl, _, e1, _⟩ | ⟨i, l, rfl, hi, hl, a, _, e1, _⟩⟩
  · have e : 2 + nI k = nI dc := by rw [en_a2, e1]
    rw [← e] at h
    exact ey_eq 0 0 rfl h
  · have e : (3 + nI ql) + nI k = nI dc := by rw [en_a3, nI_add, e1]
    rw [← e] at h
    exact en_eq 1 0 (by omega) (br_t (by decide) h)
  · have e : (3 + nI ql) + nI p = nI dc := by rw [en_a3, nI_add, e1]
    rw [← e] at h
    exact en_eq 1 0 (by omega) (br_f (nI_pos (by omega)) h)
theorem y_dno {post : Int32 → Prop} (C : eC w hh rr n k hc nav dn kc y ud mo la ql p m B H HL D R RL U UL UK Q B' H' HL' D' R' RL' U' UL' UK' Q') (P : eP w n k mo ql p m B H HL Q dl dc DS SC) {x : Int32} (hx : x < 0 ∨ nI dl ≤ x) (h : post (-1)) : wpY_displayChar post (nI w, nI hh, nI rr, nI n, nI k, nI hc, nI nav, nI dn, nI kc, nI ud, nI la, nI y, nI mo, nI ql, nI p, ac, m, B', H', HL', D', R', RL', U', UL', UK', Q') x := by
  by_cases c : x < 0
  · exact br_t c h
  · exact br_f c (y_dl C P (br_f (fun z => (Int32.not_lt.mpr (hx.resolve_left c)) z) h))
theorem y_din (C : eC w hh rr n k hc nav dn kc y ud mo la ql p m B H HL D R RL U UL UK Q B' H' HL' D' R' RL' U' UL' UK' Q') (P : eP w n k mo ql p m B H HL Q dl dc DS SC) {i : Nat} (hi : i < dl) : ¬ DS i < 0 ∧ ∀ post : Int32 → Prop, post (DS i) → wpY_displayChar post (nI w, nI hh, nI rr, nI n, nI k, nI hc, nI nav, nI dn, nI kc, nI ud, nI la, nI y, nI mo, nI ql, nI p, ac, m, B', H', HL', D', R', RL', U', UL', UK', Q') (nI i) := by
  obtain ⟨⟨⟨hw1, hw2⟩, ⟨hh1, hh2⟩, ⟨hr1, hr2⟩, ⟨hn, hk⟩, ⟨hhc, hnav⟩, hdn, hkc, hud, hql⟩, hB, hH, hD, hR, hU, hQ, hL, hS⟩ := id C
  have hdl : dl ≤ 51 := P.1
  rcases e_view C P with ⟨rfl, e1, _, b0, b1, b2⟩ | ⟨rfl, b0, b1, b2, b3, hT⟩
  · by_cases c0 : i = 0
    · subst c0
      exact ⟨by rw [b0]; decide, fun post h => br_f (nI_pos (by omega)) (y_dl C P (ey_lt 0 dl hi (ey_eq 0 0 rfl (ey_eq 0 0 rfl (by rw [b0] at h; exact h)))))⟩
    · by_cases c1 : i = 1
      · subst c1
        exact ⟨by rw [b1]; decide, fun post h => br_f (nI_pos (by omega)) (y_dl C P (ey_lt 1 dl hi (ey_eq 0 0 rfl (en_eq 1 0 (by omega) (ey_eq 1 1 rfl (by rw [b1] at h; exact h))))))⟩
      · obtain ⟨j, rfl⟩ : ∃ j, i = 2 + j := ⟨i - 2, by omega⟩
        have hb := b2 j (by omega)
        have e : nI (2 + j) - 2 = nI j := by rw [en_s2 (by omega)]; exact congrArg nI (by omega)
        exact ⟨by rw [hb.1]; exact hb.2, fun post h => br_f (nI_pos (by omega)) (y_dl C P (ey_lt (2 + j) dl hi (ey_eq 0 0 rfl (en_eq (2 + j) 0 (by omega) (en_eq (2 + j) 1 (by omega) ⟨en_in j (by omega) e, by rw [e, nI_clamp (by omega), ← hb.1]; exact h⟩)))))⟩
  · by_cases c0 : i = 0
    · subst c0
      exact ⟨by rw [b0]; decide, fun post h => br_f (nI_pos (by omega)) (y_dl C P (ey_lt 0 dl hi (en_eq 1 0 (by omega) (ey_eq 0 0 rfl (by rw [b0] at h; exact h)))))⟩
    · by_cases c1 : i ≤ ql
      · obtain ⟨j, rfl⟩ : ∃ j, i = 1 + j := ⟨i - 1, by omega⟩
        have hb := b1 j (by omega)
        have e : nI (1 + j) - 1 = nI j := by rw [en_s1 (by omega)]; exact congrArg nI (by omega)
        exact ⟨by rw [hb.1]; exact hb.2, fun post h => br_f (nI_pos (by omega)) (y_dl C P (ey_lt (1 + j) dl hi (en_eq 1 0 (by omega) (en_eq (1 + j) 0 (by omega) (en_lt ql (1 + j) c1 ⟨en_in j (by omega) e, by rw [e, nI_clamp (by omega), ← hb.1]; exact h⟩)))))⟩
      · by_cases c2 : i = 1 + ql
        · subst c2
          exact ⟨by rw [b2]; decide, fun post h => br_f (nI_pos (by omega)) (y_dl C P (ey_lt (1 + ql) dl hi (en_eq 1 0 (by omega) (en_eq (1 + ql) 0 (by omega) (ey_lt ql (1 + ql) (by omega) (ey_eq (1 + ql) (ql + 1) (by omega) (by rw [b2] at h; exact h)))))))⟩
        · by_cases c3 : i = 2 + ql
          · subst c3
            exact ⟨by rw [b3]; decide, fun post h => br_f (nI_pos (by omega)) (y_dl C P (ey_lt (2 + ql) dl hi (en_eq 1 0 (by omega) (en_eq (2 + ql) 0 (by omega) (ey_lt ql (2 + ql) (by omega) (en_eq (2 + ql) (ql + 1) (by omega) (ey_eq (2 + ql) (ql + 2) (by omega) (by rw [b3] at h; exact h))))))))⟩
          · obtain ⟨j, rfl⟩ : ∃ j, i = 3 + ql + j := ⟨i - ql - 3, by omega⟩
            have e : (nI (3 + ql + j) - nI ql) - 3 = nI j := by rw [pk_sub (by omega), en_s3 (by omega)]; exact congrArg nI (by omega)
            rcases hT with ⟨rfl, e1, _, b4⟩ | ⟨i2, l, rfl, hi2, hl, a, e1, _, b4⟩
            · have hb := b4 j (by omega)
              exact ⟨by rw [hb.1]; exact hb.2, fun post h => br_f (nI_pos (by omega)) (y_dl C P (ey_lt (3 + ql + j) dl hi (en_eq 1 0 (by omega) (en_eq (3 + ql + j) 0 (by omega) (ey_lt ql (3 + ql + j) (by omega) (en_eq (3 + ql + j) (ql + 1) (by omega) (en_eq (3 + ql + j) (ql + 2) (by omega) (nm_r e (br_t (by decide) ⟨en_in j (by omega), by rw [nI_clamp (by omega), ← hb.1]; exact h⟩)))))))))⟩
            · have hb := b4 j (by omega)
              have e5 : nI i2 * 32 + nI j = nI (i2 * 32 + j) := by rw [en_32, nI_add]
              exact ⟨by rw [hb.1]; exact hb.2, fun post h => br_f (nI_pos (by omega)) (y_dl C P (ey_lt (3 + ql + j) dl hi (en_eq 1 0 (by omega) (en_eq (3 + ql + j) 0 (by omega) (ey_lt ql (3 + ql + j) (by omega) (en_eq (3 + ql + j) (ql + 1) (by omega) (en_eq (3 + ql + j) (ql + 2) (by omega) (nm_r e (br_f (nI_pos (by omega)) ⟨en_in (i2 * 32 + j) (by omega), by rw [e5, nI_clamp (by omega), ← hb.1]; exact h⟩)))))))))⟩
end
theorem i_vc_info {k : Nat} {u : SX} {v : SY} (I : i_Rel k u v) (hk : k + 3 ≤ 1539) (v1 : Int32) : wpX_info (fun r => wpY_info (fun r' => r' = r ∧ i_Rel (k + 3) u v) v v1) u v1 := by
  have I0 : i_Rel (k + 3) u v := I
  revert I0
  obtain ⟨w, hh, rr, n, k9, hc, nav, dn, kc, y, ud, mo, la, ql, p, dl, dc, m, ac, B, H, HL, D, R, RL, U, UL, UK, Q, DS, SC, B', H', HL', D', R', RL', U', UL', UK', Q', rfl, rfl, C, P⟩ := I
  intro I0
  obtain ⟨⟨⟨hw1, hw2⟩, ⟨hh1, hh2⟩, ⟨hr1, hr2⟩, ⟨hn, hk9⟩, ⟨hhc, hnav⟩, hdn, hkc, hud, hql⟩, hB, hH, hD, hR, hU, hQ, hL, hS⟩ := id C
  by_cases c0 : v1 < 0
  · exact br_t c0 (br_t c0 ⟨rfl, I0⟩)
  by_cases c15 : 15 < v1
  · exact br_f c0 (br_t c15 (br_f c0 (br_t c15 ⟨rfl, I0⟩)))
  by_cases n0 : v1 = 0
  · subst n0
    exact br_f (by decide) (br_f (by decide) (br_t rfl (br_f (by decide) (br_f (by decide) (br_t rfl (⟨rfl, I0⟩))))))
  by_cases n1 : v1 = 1
  · subst n1
    exact br_f (by decide) (br_f (by decide) (br_f (by decide) (br_t rfl (br_f (by decide) (br_f (by decide) (br_f (by decide) (br_t rfl (⟨rfl, I0⟩))))))))
  by_cases n2 : v1 = 2
  · subst n2
    exact br_f (by decide) (br_f (by decide) (br_f (by decide) (br_f (by decide) (br_t rfl (br_f (by decide) (br_f (by decide) (br_f (by decide) (br_f (by decide) (br_t rfl (⟨rfl, I0⟩))))))))))
  by_cases n3 : v1 = 3
  · subst n3
    exact br_f (by decide) (br_f (by decide) (br_f (by decide) (br_f (by decide) (br_f (by decide) (br_t rfl (br_f (by decide) (br_f (by decide) (br_f (by decide) (br_f (by decide) (br_f (by decide) (br_t rfl (⟨rfl, I0⟩))))))))))))
  by_cases n4 : v1 = 4
  · subst n4
    exact br_f (by decide) (br_f (by decide) (br_f (by decide) (br_f (by decide) (br_f (by decide) (br_f (by decide) (br_t rfl (br_f (by decide) (br_f (by decide) (br_f (by decide) (br_f (by decide) (br_f (by decide) (br_f (by decide) (br_t rfl (⟨rfl, I0⟩))))))))))))))
  by_cases n5 : v1 = 5
  · subst n5
    exact br_f (by decide) (br_f (by decide) (br_f (by decide) (br_f (by decide) (br_f (by decide) (br_f (by decide) (br_f (by decide) (br_t rfl (br_f (by decide) (br_f (by decide) (br_f (by decide) (br_f (by decide) (br_f (by decide) (br_f (by decide) (br_f (by decide) (br_t rfl (⟨rfl, I0⟩))))))))))))))))
  by_cases n6 : v1 = 6
  · subst n6
    exact br_f (by decide) (br_f (by decide) (br_f (by decide) (br_f (by decide) (br_f (by decide) (br_f (by decide) (br_f (by decide) (br_f (by decide) (br_t rfl (br_f (by decide) (br_f (by decide) (br_f (by decide) (br_f (by decide) (br_f (by decide) (br_f (by decide) (br_f (by decide) (br_f (by decide) (br_t rfl (⟨rfl, I0⟩))))))))))))))))))
  by_cases n7 : v1 = 7
  · subst n7
    exact br_f (by decide) (br_f (by decide) (br_f (by decide) (br_f (by decide) (br_f (by decide) (br_f (by decide) (br_f (by decide) (br_f (by decide) (br_f (by decide) (br_t rfl (br_f (by decide) (br_f (by decide) (br_f (by decide) (br_f (by decide) (br_f (by decide) (br_f (by decide) (br_f (by decide) (br_f (by decide) (br_f (by decide) (br_t rfl (⟨rfl, I0⟩))))))))))))))))))))
  by_cases n8 : v1 = 8
  · subst n8
    by_cases c : la = 3
    · subst c
      exact br_f (by decide) (br_f (by decide) (br_f (by decide) (br_f (by decide) (br_f (by decide) (br_f (by decide) (br_f (by decide) (br_f (by decide) (br_f (by decide) (br_f (by decide) (br_t rfl (br_t rfl (br_f (by decide) (br_f (by decide) (br_f (by decide) (br_f (by decide) (br_f (by decide) (br_f (by decide) (br_f (by decide) (br_f (by decide) (br_f (by decide) (br_f (by decide) (br_t rfl (br_t rfl ⟨rfl, I0⟩)))))))))))))))))))))))
    · have hla := hL.1
      exact br_f (by decide) (br_f (by decide) (br_f (by decide) (br_f (by decide) (br_f (by decide) (br_f (by decide) (br_f (by decide) (br_f (by decide) (br_f (by decide) (br_f (by decide) (br_t rfl (en_eq la 3 c (br_f (by decide) (br_f (by decide) (br_f (by decide) (br_f (by decide) (br_f (by decide) (br_f (by decide) (br_f (by decide) (br_f (by decide) (br_f (by decide) (br_f (by decide) (br_t rfl (en_eq la 3 c ⟨rfl, I0⟩)))))))))))))))))))))))
  by_cases n9 : v1 = 9
  · subst n9
    exact br_f (by decide) (br_f (by decide) (br_f (by decide) (br_f (by decide) (br_f (by decide) (br_f (by decide) (br_f (by decide) (br_f (by decide) (br_f (by decide) (br_f (by decide) (br_f (by decide) (br_t rfl (br_f (by decide) (br_f (by decide) (br_f (by decide) (br_f (by decide) (br_f (by decide) (br_f (by decide) (br_f (by decide) (br_f (by decide) (br_f (by decide) (br_f (by decide) (br_f (by decide) (br_t rfl (⟨rfl, I0⟩))))))))))))))))))))))))
  by_cases n10 : v1 = 10
  · subst n10
    exact br_f (by decide) (br_f (by decide) (br_f (by decide) (br_f (by decide) (br_f (by decide) (br_f (by decide) (br_f (by decide) (br_f (by decide) (br_f (by decide) (br_f (by decide) (br_f (by decide) (br_f (by decide) (br_t rfl (br_f (by decide) (br_f (by decide) (br_f (by decide) (br_f (by decide) (br_f (by decide) (br_f (by decide) (br_f (by decide) (br_f (by decide) (br_f (by decide) (br_f (by decide) (br_f (by decide) (br_f (by decide) (br_t rfl (⟨rfl, I0⟩))))))))))))))))))))))))))
  by_cases n11 : v1 = 11
  · subst n11
    exact br_f (by decide) (br_f (by decide) (br_f (by decide) (br_f (by decide) (br_f (by decide) (br_f (by decide) (br_f (by decide) (br_f (by decide) (br_f (by decide) (br_f (by decide) (br_f (by decide) (br_f (by decide) (br_f (by decide) (br_t rfl (br_f (by decide) (br_f (by decide) (br_f (by decide) (br_f (by decide) (br_f (by decide) (br_f (by decide) (br_f (by decide) (br_f (by decide) (br_f (by decide) (br_f (by decide) (br_f (by decide) (br_f (by decide) (br_f (by decide) (br_t rfl (⟨rfl, I0⟩))))))))))))))))))))))))))))
  by_cases n12 : v1 = 12
  · subst n12
    exact br_f (by decide) (br_f (by decide) (br_f (by decide) (br_f (by decide) (br_f (by decide) (br_f (by decide) (br_f (by decide) (br_f (by decide) (br_f (by decide) (br_f (by decide) (br_f (by decide) (br_f (by decide) (br_f (by decide) (br_f (by decide) (br_t rfl (br_f (by decide) (br_f (by decide) (br_f (by decide) (br_f (by decide) (br_f (by decide) (br_f (by decide) (br_f (by decide) (br_f (by decide) (br_f (by decide) (br_f (by decide) (br_f (by decide) (br_f (by decide) (br_f (by decide) (br_f (by decide) (br_t rfl (y_dl C P ⟨rfl, I0⟩))))))))))))))))))))))))))))))
  by_cases n13 : v1 = 13
  · subst n13
    exact br_f (by decide) (br_f (by decide) (br_f (by decide) (br_f (by decide) (br_f (by decide) (br_f (by decide) (br_f (by decide) (br_f (by decide) (br_f (by decide) (br_f (by decide) (br_f (by decide) (br_f (by decide) (br_f (by decide) (br_f (by decide) (br_f (by decide) (br_t rfl (br_f (by decide) (br_f (by decide) (br_f (by decide) (br_f (by decide) (br_f (by decide) (br_f (by decide) (br_f (by decide) (br_f (by decide) (br_f (by decide) (br_f (by decide) (br_f (by decide) (br_f (by decide) (br_f (by decide) (br_f (by decide) (br_f (by decide) (br_t rfl (y_dc C P ⟨rfl, I0⟩))))))))))))))))))))))))))))))))
  by_cases n14 : v1 = 14
  · subst n14
    exact br_f (by decide) (br_f (by decide) (br_f (by decide) (br_f (by decide) (br_f (by decide) (br_f (by decide) (br_f (by decide) (br_f (by decide) (br_f (by decide) (br_f (by decide) (br_f (by decide) (br_f (by decide) (br_f (by decide) (br_f (by decide) (br_f (by decide) (br_f (by decide) (br_t rfl (br_f (by decide) (br_f (by decide) (br_f (by decide) (br_f (by decide) (br_f (by decide) (br_f (by decide) (br_f (by decide) (br_f (by decide) (br_f (by decide) (br_f (by decide) (br_f (by decide) (br_f (by decide) (br_f (by decide) (br_f (by decide) (br_f (by decide) (br_f (by decide) (br_t rfl (⟨rfl, I0⟩))))))))))))))))))))))))))))))))))
  by_cases n15 : v1 = 15
  · subst n15
    exact br_f (by decide) (br_f (by decide) (br_f (by decide) (br_f (by decide) (br_f (by decide) (br_f (by decide) (br_f (by decide) (br_f (by decide) (br_f (by decide) (br_f (by decide) (br_f (by decide) (br_f (by decide) (br_f (by decide) (br_f (by decide) (br_f (by decide) (br_f (by decide) (br_f (by decide) (br_t rfl (br_f (by decide) (br_f (by decide) (br_f (by decide) (br_f (by decide) (br_f (by decide) (br_f (by decide) (br_f (by decide) (br_f (by decide) (br_f (by decide) (br_f (by decide) (br_f (by decide) (br_f (by decide) (br_f (by decide) (br_f (by decide) (br_f (by decide) (br_f (by decide) (br_f (by decide) (br_t rfl (⟨rfl, I0⟩))))))))))))))))))))))))))))))))))))
  exact br_f c0 (br_f c15 (br_f n0 (br_f n1 (br_f n2 (br_f n3 (br_f n4 (br_f n5 (br_f n6 (br_f n7 (br_f n8 (br_f n9 (br_f n10 (br_f n11 (br_f n12 (br_f n13 (br_f n14 (br_f n15 (trivial))))))))))))))))))
theorem i_vc_bufferChar {k : Nat} {u : SX} {v : SY} (I : i_Rel k u v) (hk : k + 3 ≤ 1539) (v1 : Int32) : wpX_bufferChar (fun r => wpY_bufferChar (fun r' => r' = r ∧ i_Rel (k + 3) u v) v v1) u v1 := by
  have I0 : i_Rel (k + 3) u v := I
  revert I0
  obtain ⟨w, hh, rr, n, k9, hc, nav, dn, kc, y, ud, mo, la, ql, p, dl, dc, m, ac, B, H, HL, D, R, RL, U, UL, UK, Q, DS, SC, B', H', HL', D', R', RL', U', UL', UK', Q', rfl, rfl, C, P⟩ := I
  intro I0
  obtain ⟨⟨⟨hw1, hw2⟩, ⟨hh1, hh2⟩, ⟨hr1, hr2⟩, ⟨hn, hk9⟩, ⟨hhc, hnav⟩, hdn, hkc, hud, hql⟩, hB, hH, hD, hR, hU, hQ, hL, hS⟩ := id C
  rcases pk_ix v1 (n := n) (by omega) with c | c | ⟨j, hj, rfl⟩
  · unfold wpX_bufferChar
    exact xw_f (Or.inl c) (br_t rfl (br_t c ⟨rfl, I0⟩))
  · have c0 : ¬ v1 < 0 := en_ge c (nI_pos' (by omega))
    unfold wpX_bufferChar
    exact xw_f (Or.inr c) (br_t rfl (br_f c0 (br_t c ⟨rfl, I0⟩)))
  · have e := (eg_at hB hj).1
    unfold wpX_bufferChar
    exact xw_t j n hj (br_f (by decide) ⟨en_in j (by omega), br_f (nI_pos (by omega)) (en_le n j hj ⟨en_in j (by omega), ⟨by rw [nI_clamp (by omega), e], I0⟩⟩)⟩)
theorem i_vc_draftChar {k : Nat} {u : SX} {v : SY} (I : i_Rel k u v) (hk : k + 3 ≤ 1539) (v1 : Int32) : wpX_draftChar (fun r => wpY_draftChar (fun r' => r' = r ∧ i_Rel (k + 3) u v) v v1) u v1 := by
  have I0 : i_Rel (k + 3) u v := I
  revert I0
  obtain ⟨w, hh, rr, n, k9, hc, nav, dn, kc, y, ud, mo, la, ql, p, dl, dc, m, ac, B, H, HL, D, R, RL, U, UL, UK, Q, DS, SC, B', H', HL', D', R', RL', U', UL', UK', Q', rfl, rfl, C, P⟩ := I
  intro I0
  obtain ⟨⟨⟨hw1, hw2⟩, ⟨hh1, hh2⟩, ⟨hr1, hr2⟩, ⟨hn, hk9⟩, ⟨hhc, hnav⟩, hdn, hkc, hud, hql⟩, hB, hH, hD, hR, hU, hQ, hL, hS⟩ := id C
  rcases pk_ix v1 (n := dn) (by omega) with c | c | ⟨j, hj, rfl⟩
  · unfold wpX_draftChar
    exact xw_f (Or.inl c) (br_t rfl (br_t c ⟨rfl, I0⟩))
  · have c0 : ¬ v1 < 0 := en_ge c (nI_pos' (by omega))
    unfold wpX_draftChar
    exact xw_f (Or.inr c) (br_t rfl (br_f c0 (br_t c ⟨rfl, I0⟩)))
  · have e := (eg_at hD hj).1
    unfold wpX_draftChar
    exact xw_t j dn hj (br_f (by decide) ⟨en_in j (by omega), br_f (nI_pos (by omega)) (en_le dn j hj ⟨en_in j (by omega), ⟨by rw [nI_clamp (by omega), e], I0⟩⟩)⟩)
