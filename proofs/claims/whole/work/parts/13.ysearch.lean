/-! P: the reference's search -/
theorem er_n {s : Nat} : er (some s) = nI s := rfl
section
variable {g_w g_hh g_rr g_n g_k g_hc g_nav g_dn g_kc g_ud g_last g_y g_mode g_ql g_p g_accepted g_m : Int32} {b_buf b_hist b_histL b_draft b_ring b_ringL b_und b_undL b_undK b_q : Nat → Int32}
theorem yoc_31 {post : Int32 → Prop} {J : Int32 → Prop} {i z s : Nat} (hi : i < 8) (hs : s + z ≤ 32) (hz : z ≤ 16) (p1 : ex b_hist b_q (i * 32 + s) z → post (nI s)) (p0 : ¬ ex b_hist b_q (i * 32 + s) z → J (nI (s + 1))) : ∀ d j, j + d = z → (∀ t, t < j → b_hist (i * 32 + s + t) = b_q t) → wY_occ_31 post J (nI i) (nI z) (nI s) g_w g_hh g_rr g_n g_k g_hc g_nav g_dn g_kc g_ud g_last g_y g_mode g_ql g_p g_accepted g_m b_buf b_hist b_histL b_draft b_ring b_ringL b_und b_undL b_undK b_q (d + 1) (nI j) := by
  intro d
  induction d with
  | zero =>
    intro j hj H
    obtain rfl : j = z := by omega
    exact ey_le j j (Nat.le_refl _) (ey_eq j j rfl (p1 H))
  | succ d ih =>
    intro j hj H
    refine en_le z j (by omega) ⟨en_in (i * 32 + s + j) (by omega), en_in j (by omega), ?_⟩
    by_cases c : b_hist (i * 32 + s + j) = b_q j
    · exact br_t ((en_g (i * 32 + s + j)).trans (c.trans (en_g j).symm)) (nm_r (nI_1 j) (ih (j + 1) (by omega) (lt_s H c)))
    · exact br_f (fun w => c (((en_g (i * 32 + s + j)).symm.trans w).trans (en_g j))) (en_eq j z (by omega) (nm_r (nI_1 s) (p0 (fun w => c (w j (by omega))))))
theorem yoc_16 {post : Int32 → Prop} {i z l : Nat} (hi : i < 8) (hl : l ≤ 32) (hz : z ≤ 16) (e : b_histL i = nI l) : ∀ d s, s ≤ 40 → d = l + 1 - z - s → post (er (eo b_hist b_q (i * 32) z d s)) → wY_occ_16 post (nI i) (nI z) g_w g_hh g_rr g_n g_k g_hc g_nav g_dn g_kc g_ud g_last g_y g_mode g_ql g_p g_accepted g_m b_buf b_hist b_histL b_draft b_ring b_ringL b_und b_undL b_undK b_q (d + 1) (nI s) := by
  intro d
  have g : b_histL (nI i).toNatClampNeg = nI l := (en_g i).trans e
  induction d with
  | zero => intro s hs hd h; exact ⟨en_in i hi, ey_lt l (s + z) (by omega) h g⟩
  | succ d ih =>
    intro s hs hd h
    refine ⟨en_in i hi, en_lt l (s + z) (by omega) ⟨z + 1, yoc_31 hi (by omega) hz (fun w => ?_) (fun w => ?_) z 0 (by omega) lt_0⟩ g⟩
    · rw [eo_s, if_pos w] at h
      exact h
    · rw [eo_s, if_neg w] at h
      exact ih (s + 1) (by omega) (by omega) h
theorem yoc {post : Int32 → Prop} {x0 x1 : Int32} (i z l c : Nat) (hc : c ≤ 8) (hi : i < c) (hl : l ≤ 32) (hz : z ≤ 16) (e : b_histL i = nI l) (h : post (er (ei b_hist b_histL b_q z i))) (h0 : x0 = nI i := by first | with_reducible rfl | (simp (disch := omega) only [nI_add, nI_1, en_m1, en_s1, pk_sub, pk_mul, en_32, en_a2, en_a3, en_p32, en_s32, en_p2, en_s2, en_s3] <;> exact congrArg nI (by omega)) | exact congrArg nI (by omega) | rfl) (h1 : x1 = nI z := by first | with_reducible rfl | (simp (disch := omega) only [nI_add, nI_1, en_m1, en_s1, pk_sub, pk_mul, en_32, en_a2, en_a3, en_p32, en_s32, en_p2, en_s2, en_s3] <;> exact congrArg nI (by omega)) | exact congrArg nI (by omega) | rfl) : wpY_occ post (g_w, g_hh, g_rr, g_n, g_k, nI c, g_nav, g_dn, g_kc, g_ud, g_last, g_y, g_mode, g_ql, g_p, g_accepted, g_m, b_buf, b_hist, b_histL, b_draft, b_ring, b_ringL, b_und, b_undL, b_undK, b_q) x0 x1 := by
  subst h0 h1
  unfold ei at h
  rw [e, nI_clamp (by omega)] at h
  exact br_f (nI_pos (by omega)) (ey_lt i c hi ⟨_, yoc_16 (by omega) hl hz e (l + 1 - z) 0 (by omega) (by omega) h⟩)
/-- the answer of the search for an entry -/
def eR : Option (Nat × Nat) → Int32
  | some (m, _) => nI m
  | none => -1
theorem yff_2 {post : Int32 → Prop} {z c : Nat} (hc : c ≤ 8) (hz : z ≤ 16) (L : ∀ i, i < c → ∃ l, l ≤ 32 ∧ b_histL i = nI l) : ∀ f, f ≤ c → post (eR (ef b_hist b_histL b_q z f)) → wY_findFrom_2 post (nI z) g_w g_hh g_rr g_n g_k (nI c) g_nav g_dn g_kc g_ud g_last g_y g_mode g_ql g_p g_accepted g_m b_buf b_hist b_histL b_draft b_ring b_ringL b_und b_undL b_undK b_q (f + 1) (nI f - 1) := by
  intro f
  induction f with
  | zero => intro _ h; exact br_t (by decide) h
  | succ f ih =>
    intro hf h
    obtain ⟨l, hl, e⟩ := L f (by omega)
    rw [nI_pred f]
    refine br_f (nI_pos (by omega)) (en_le c f (by omega) (yoc f z l c hc (by omega) hl hz e ?_))
    cases c2 : ei b_hist b_histL b_q z f with
    | none =>
      rw [ef_s, c2] at h
      exact br_t (by decide) (nm_r (en_q _) (ih (by omega) h))
    | some s =>
      have hs := ei_some hl e c2
      rw [ef_s, c2] at h
      exact br_f (nI_pos (n := s) (by omega)) h
theorem yff {post : Int32 → Prop} {x0 x1 : Int32} (f z c : Nat) (hc : c ≤ 8) (hz : z ≤ 16) (L : ∀ i, i < c → ∃ l, l ≤ 32 ∧ b_histL i = nI l) (hf : f ≤ c) (h : post (eR (ef b_hist b_histL b_q z f))) (h0 : x0 = nI f - 1) (h1 : x1 = nI z := by first | with_reducible rfl | (simp (disch := omega) only [nI_add, nI_1, en_m1, en_s1, pk_sub, pk_mul, en_32, en_a2, en_a3, en_p32, en_s32, en_p2, en_s2, en_s3] <;> exact congrArg nI (by omega)) | exact congrArg nI (by omega) | rfl) : wpY_findFrom post (g_w, g_hh, g_rr, g_n, g_k, nI c, g_nav, g_dn, g_kc, g_ud, g_last, g_y, g_mode, g_ql, g_p, g_accepted, g_m, b_buf, b_hist, b_histL, b_draft, b_ring, b_ringL, b_und, b_undL, b_undK, b_q) x0 x1 := by
  subst h0 h1
  exact ⟨f + 1, yff_2 hc hz L f hf h⟩
end
