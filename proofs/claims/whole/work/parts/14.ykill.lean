/-! Q: the reference's kills and yanks -/
/-- what j removals at a leave -/
def ez (f : Nat → Int32) (n a : Nat) : Nat → (Nat → Int32)
  | 0 => f
  | j + 1 => ec_cp (ez f n a j) (a + 1) (ez f n a j) a (n - j - 1 - a)
theorem ez_p {f : Nat → Int32} {n a : Nat} : ∀ c, a + c ≤ n → ∀ i, i < n - c → ez f n a c i = ec_cp f (a + c) f a (n - a - c) i := by
  intro c
  induction c with
  | zero => intro _; exact ec_re0
  | succ c ih => intro h; exact ec_re (by omega) (ih (by omega))
section
variable {g_w g_hh g_rr g_n g_k g_hc g_nav g_dn g_kc g_ud g_last g_y g_mode g_ql g_p g_accepted g_m : Int32} {b_buf b_hist b_histL b_draft b_ring b_ringL b_und b_undL b_undK b_q : Nat → Int32}
theorem yin' {post : SY → Prop} {x c : Int32} {G : Nat → Int32} (a n : Nat) (hn : n < 32) (ha : a ≤ n) (hG : upd (ec_cp b_buf a b_buf (a + 1) (n - a)) a c = G) (h : post (g_w, g_hh, g_rr, nI (n + 1), g_k, g_hc, g_nav, g_dn, g_kc, g_ud, g_last, g_y, g_mode, g_ql, g_p, g_accepted, g_m, G, b_hist, b_histL, b_draft, b_ring, b_ringL, b_und, b_undL, b_undK, b_q)) (hx : x = nI a := by first | with_reducible rfl | (simp (disch := omega) only [nI_add, nI_1, en_m1, en_s1, pk_sub, pk_mul, en_32, en_a2, en_a3, en_p32, en_s32, en_p2, en_s2, en_s3] <;> exact congrArg nI (by omega)) | exact congrArg nI (by omega) | rfl) : wpY_insertChar post (g_w, g_hh, g_rr, nI n, g_k, g_hc, g_nav, g_dn, g_kc, g_ud, g_last, g_y, g_mode, g_ql, g_p, g_accepted, g_m, b_buf, b_hist, b_histL, b_draft, b_ring, b_ringL, b_und, b_undL, b_undK, b_q) x c := by
  subst hG
  exact yin a n hn ha h hx
theorem yrm' {post : SY → Prop} {x : Int32} {G : Nat → Int32} (a n m : Nat) (hn : n ≤ 32) (ha : a < n) (hm : n - 1 = m) (hG : ec_cp b_buf (a + 1) b_buf a (n - 1 - a) = G) (h : post (g_w, g_hh, g_rr, nI m, g_k, g_hc, g_nav, g_dn, g_kc, g_ud, g_last, g_y, g_mode, g_ql, g_p, g_accepted, g_m, G, b_hist, b_histL, b_draft, b_ring, b_ringL, b_und, b_undL, b_undK, b_q)) (hx : x = nI a := by first | with_reducible rfl | (simp (disch := omega) only [nI_add, nI_1, en_m1, en_s1, pk_sub, pk_mul, en_32, en_a2, en_a3, en_p32, en_s32, en_p2, en_s2, en_s3] <;> exact congrArg nI (by omega)) | exact congrArg nI (by omega) | rfl) : wpY_removeAt post (g_w, g_hh, g_rr, nI n, g_k, g_hc, g_nav, g_dn, g_kc, g_ud, g_last, g_y, g_mode, g_ql, g_p, g_accepted, g_m, b_buf, b_hist, b_histL, b_draft, b_ring, b_ringL, b_und, b_undL, b_undK, b_q) x := by
  subst hG hm
  exact yrm a n hn ha h hx
theorem ykr_420 {post : Int32 → SY → Prop} {a c n : Nat} (hn : n ≤ 32) (hc : a + c ≤ n) (h : post 1 (g_w, g_hh, g_rr, nI (n - c), nI a, g_hc, g_nav, g_dn, g_kc, g_ud, 2, g_y, g_mode, g_ql, g_p, g_accepted, g_m, ez b_buf n a c, b_hist, b_histL, b_draft, b_ring, b_ringL, b_und, b_undL, b_undK, b_q)) : ∀ d j, j + d = c → wY_kill_420 post (nI a) (nI c) (d + 1) (nI j) g_w g_hh g_rr (nI (n - j)) g_k g_hc g_nav g_dn g_kc g_ud g_last g_y g_mode g_ql g_p g_accepted g_m (ez b_buf n a j) b_hist b_histL b_draft b_ring b_ringL b_und b_undL b_undK b_q := by
  intro d
  induction d with
  | zero =>
    intro j hj
    obtain rfl : j = c := by omega
    exact ey_le j j (Nat.le_refl _) h
  | succ d ih =>
    intro j hj
    exact en_le c j (by omega) (yrm' a (n - j) (n - (j + 1)) (by omega) (by omega) (by omega) rfl (nm_r (nI_1 j) (ih (j + 1) (by omega))))
theorem ykr {post : Int32 → SY → Prop} {a c n : Nat} (hn : n ≤ 32) (hc : a + c ≤ n) (h : post 1 (g_w, g_hh, g_rr, nI (n - c), nI a, g_hc, g_nav, g_dn, g_kc, g_ud, 2, g_y, g_mode, g_ql, g_p, g_accepted, g_m, ez b_buf n a c, b_hist, b_histL, b_draft, b_ring, b_ringL, b_und, b_undL, b_undK, b_q)) : ∃ z, wY_kill_420 post (nI a) (nI c) z 0 g_w g_hh g_rr (nI n) g_k g_hc g_nav g_dn g_kc g_ud g_last g_y g_mode g_ql g_p g_accepted g_m b_buf b_hist b_histL b_draft b_ring b_ringL b_und b_undL b_undK b_q :=
  ⟨c + 1, ykr_420 (g_k := g_k) (g_last := g_last) hn hc h c 0 (by omega)⟩
theorem yk_359 {post : Int32 → SY → Prop} {a c : Nat} (h1 : a + c ≤ 32) (h : ∀ f : Nat → Int32, f = upd b_ringL 0 (nI c) → (g_rr ≤ g_kc → ∃ z, wY_kill_420 post (nI a) (nI c) z 0 g_w g_hh g_rr g_n g_k g_hc g_nav g_dn g_kc g_ud g_last g_y g_mode g_ql g_p g_accepted g_m b_buf b_hist b_histL b_draft (ec_cp b_buf a b_ring 0 c) f b_und b_undL b_undK b_q) ∧ (¬ g_rr ≤ g_kc → ∀ k, k = g_kc + 1 → ∃ z, wY_kill_420 post (nI a) (nI c) z 0 g_w g_hh g_rr g_n g_k g_hc g_nav g_dn k g_ud g_last g_y g_mode g_ql g_p g_accepted g_m b_buf b_hist b_histL b_draft (ec_cp b_buf a b_ring 0 c) f b_und b_undL b_undK b_q)) : ∀ d j, j + d = c → wY_kill_359 post (nI a) (nI c) g_w g_hh g_rr g_n g_k g_hc g_nav g_dn g_kc g_ud g_last g_y g_mode g_ql g_p g_accepted g_m (d + 1) (nI j) b_buf b_hist b_histL b_draft (ec_cp b_buf a b_ring 0 j) b_ringL b_und b_undL b_undK b_q := by
  intro d
  induction d with
  | zero =>
    intro j hj
    obtain rfl : j = c := by omega
    exact ey_le j j (Nat.le_refl _) h
  | succ d ih =>
    intro j hj
    exact en_le c j (by omega) ⟨en_in (a + j) (by omega), en_in j (by omega), nm_r ((en_u (0 + j) (en_g (a + j))).trans (ec_s b_buf a b_ring 0 j)) (nm_r (nI_1 j) (ih (j + 1) (by omega)))⟩
theorem yk_292 {post : Int32 → SY → Prop} {J : Int32 → (Nat → Int32) → (Nat → Int32) → (Nat → Int32) → (Nat → Int32) → (Nat → Int32) → (Nat → Int32) → (Nat → Int32) → (Nat → Int32) → (Nat → Int32) → (Nat → Int32) → Prop} {x2 x5 : Int32} {e : Nat} {F M : Nat → Int32} (he : e + 1 < 4) (hF : ∀ i, i < (e + 1) * 32 → F i = b_ring i) (h : J (nI e) b_buf b_hist b_histL b_draft (ec_cp b_ring (e * 32) F ((e + 1) * 32) 32) (upd M (e + 1) (M e)) b_und b_undL b_undK b_q) : ∀ d j, j + d = 32 → wY_kill_292 post J x2 x5 (nI (e + 1)) g_w g_hh g_rr g_n g_k g_hc g_nav g_dn g_kc g_ud g_last g_y g_mode g_ql g_p g_accepted g_m (d + 1) (nI j) b_buf b_hist b_histL b_draft (ec_cp b_ring (e * 32) F ((e + 1) * 32) j) M b_und b_undL b_undK b_q := by
  intro d
  induction d with
  | zero =>
    intro j hj
    obtain rfl : j = 32 := by omega
    exact ey_le 32 32 (Nat.le_refl _) ⟨en_in e (by omega), en_in (e + 1) he, nm_r (en_u (e + 1) (en_g e)) (nm_r (pk_m1 e) h)⟩
  | succ d ih =>
    intro j hj
    have rd : ec_cp b_ring (e * 32) F ((e + 1) * 32) j (e * 32 + j) = b_ring (e * 32 + j) := (ec_o (by omega)).trans (hF _ (by omega))
    exact en_le 32 j (by omega) ⟨en_in (e * 32 + j) (by omega), en_in ((e + 1) * 32 + j) (by omega), nm_r ((en_u ((e + 1) * 32 + j) ((en_g (e * 32 + j)).trans rd)).trans (ec_s b_ring (e * 32) F ((e + 1) * 32) j)) (nm_r (nI_1 j) (ih (j + 1) (by omega)))⟩
theorem yk_283 {post : Int32 → SY → Prop} {x2 x5 : Int32} {T : Nat} (hT : T < 4) (h : ∃ z, wY_kill_359 post x2 x5 g_w g_hh g_rr g_n g_k g_hc g_nav g_dn g_kc g_ud g_last g_y g_mode g_ql g_p g_accepted g_m z 0 b_buf b_hist b_histL b_draft (ec_cp b_ring 0 b_ring 32 (T * 32)) (ec_cp b_ringL 0 b_ringL 1 T) b_und b_undL b_undK b_q) : ∀ e t, e + t = T → wY_kill_283 post x2 x5 g_w g_hh g_rr g_n g_k g_hc g_nav g_dn g_kc g_ud g_last g_y g_mode g_ql g_p g_accepted g_m (e + 1) (nI e) b_buf b_hist b_histL b_draft (ec_cp b_ring (e * 32) b_ring ((e + 1) * 32) (t * 32)) (ec_cp b_ringL e b_ringL (e + 1) t) b_und b_undL b_undK b_q := by
  intro e
  induction e with
  | zero =>
    intro t ht
    obtain rfl : t = T := by omega
    exact ey_lt 0 1 (by omega) h
  | succ e ih =>
    intro t ht
    have ih2 := ih (t + 1) (by omega)
    rw [← ec_bl, ← ec_dn (a := e) (b := e + 1) (by omega) t] at ih2
    rw [show (e + 1 + 1) * 32 = (e + 1) * 32 + 32 by omega]
    have := yk_292 (g_w := g_w) (g_hh := g_hh) (g_rr := g_rr) (g_n := g_n) (g_k := g_k) (g_hc := g_hc) (g_nav := g_nav) (g_dn := g_dn) (g_kc := g_kc) (g_ud := g_ud) (g_last := g_last) (g_y := g_y) (g_mode := g_mode) (g_ql := g_ql) (g_p := g_p) (g_accepted := g_accepted) (g_m := g_m) (b_ring := b_ring) (post := post) (x2 := x2) (x5 := x5) (e := e) (by omega) (fun i hi => ec_o (by omega)) ih2 32 0 (by omega)
    rw [ec_0] at this
    exact en_lt (e + 1) 1 (by omega) ⟨33, this⟩
theorem yk_239 {post : Int32 → SY → Prop} {a c s n : Nat} (hn : n ≤ 32) (hc : a + c ≤ n) (hs : b_ringL 0 = nI s) (h : post 1 (g_w, g_hh, g_rr, nI (n - c), nI a, g_hc, g_nav, g_dn, g_kc, g_ud, 2, g_y, g_mode, g_ql, g_p, g_accepted, g_m, ez b_buf n a c, b_hist, b_histL, b_draft, b_ring, upd b_ringL 0 (nI (s + c)), b_und, b_undL, b_undK, b_q)) : wY_kill_239 post (nI a) (nI c) g_w g_hh g_rr (nI n) g_k g_hc g_nav g_dn g_kc g_ud g_last g_y g_mode g_ql g_p g_accepted g_m b_buf b_hist b_histL b_draft b_ring b_ringL b_und b_undL b_undK b_q :=
  nm_r (congrArg (upd b_ringL 0) ((congrArg (fun y => y + nI c) hs).trans (nI_add s c))) (ykr (g_k := g_k) (g_last := g_last) hn hc h)
theorem yk_203 {post : Int32 → SY → Prop} {a c s : Nat} (h1 : a + c ≤ 32) (h2 : s + c ≤ 32) (hs : b_ringL 0 = nI s) (h : wY_kill_239 post (nI a) (nI c) g_w g_hh g_rr g_n g_k g_hc g_nav g_dn g_kc g_ud g_last g_y g_mode g_ql g_p g_accepted g_m b_buf b_hist b_histL b_draft (ec_cp b_buf a b_ring s c) b_ringL b_und b_undL b_undK b_q) : ∀ d j, j + d = c → wY_kill_203 post (nI a) (nI c) g_w g_hh g_rr g_n g_k g_hc g_nav g_dn g_kc g_ud g_last g_y g_mode g_ql g_p g_accepted g_m (d + 1) (nI j) b_buf b_hist b_histL b_draft (ec_cp b_buf a b_ring s j) b_ringL b_und b_undL b_undK b_q := by
  intro d
  induction d with
  | zero =>
    intro j hj
    obtain rfl : j = c := by omega
    exact ey_le j j (Nat.le_refl _) h
  | succ d ih =>
    intro j hj
    have hx : b_ringL 0 + nI j = nI (s + j) := by rw [hs]; exact nI_add s j
    exact en_le c j (by omega) ⟨en_in (a + j) (by omega), en_in (s + j) (by omega) hx, nm_r ((en_u (s + j) (en_g (a + j)) hx).trans (ec_s b_buf a b_ring s j)) (nm_r (nI_1 j) (ih (j + 1) (by omega)))⟩
theorem yk_168 {post : Int32 → SY → Prop} {a c : Nat} (h1 : a + c ≤ 32) (h : wY_kill_239 post (nI a) (nI c) g_w g_hh g_rr g_n g_k g_hc g_nav g_dn g_kc g_ud g_last g_y g_mode g_ql g_p g_accepted g_m b_buf b_hist b_histL b_draft (ec_cp b_buf a b_ring 0 c) b_ringL b_und b_undL b_undK b_q) : ∀ d j, j + d = c → wY_kill_168 post (nI a) (nI c) g_w g_hh g_rr g_n g_k g_hc g_nav g_dn g_kc g_ud g_last g_y g_mode g_ql g_p g_accepted g_m (d + 1) (nI j) b_buf b_hist b_histL b_draft (ec_cp b_buf a b_ring 0 j) b_ringL b_und b_undL b_undK b_q := by
  intro d
  induction d with
  | zero =>
    intro j hj
    obtain rfl : j = c := by omega
    exact ey_le j j (Nat.le_refl _) h
  | succ d ih =>
    intro j hj
    exact en_le c j (by omega) ⟨en_in (a + j) (by omega), en_in j (by omega), nm_r ((en_u (0 + j) (en_g (a + j))).trans (ec_s b_buf a b_ring 0 j)) (nm_r (nI_1 j) (ih (j + 1) (by omega)))⟩
theorem yk_137 {post : Int32 → SY → Prop} {a c s : Nat} (h1 : a + c ≤ 32) (h2 : s + c ≤ 32) (h : wY_kill_239 post (nI a) (nI c) g_w g_hh g_rr g_n g_k g_hc g_nav g_dn g_kc g_ud g_last g_y g_mode g_ql g_p g_accepted g_m b_buf b_hist b_histL b_draft (ec_cp b_buf a (ec_cp b_ring 0 b_ring c s) 0 c) b_ringL b_und b_undL b_undK b_q) : ∀ d t, d + t = s → wY_kill_137 post (nI a) (nI c) g_w g_hh g_rr g_n g_k g_hc g_nav g_dn g_kc g_ud g_last g_y g_mode g_ql g_p g_accepted g_m (d + 1) (nI d - 1) b_buf b_hist b_histL b_draft (ec_cp b_ring d b_ring (c + d) t) b_ringL b_und b_undL b_undK b_q := by
  intro d
  induction d with
  | zero =>
    intro t ht
    obtain rfl : t = s := by omega
    have := yk_168 h1 h c 0 (by omega)
    rw [ec_0] at this
    exact br_t (by decide) ⟨c + 1, this⟩
  | succ d ih =>
    intro t ht
    rw [nI_pred d]
    exact br_f (nI_pos (by omega)) ⟨en_in d (by omega), en_in (c + d) (by omega), nm_r ((en_u (c + d) (en_g d)).trans (ec_dn (a := d) (b := c + d) (by omega) t)) (nm_r (en_q _) (ih (t + 1) (by omega)))⟩
/-- yanks: s chars of the ring from z on, put at the cursor -/
theorem yy_31 {post : Int32 → SY → Prop} {n k s : Nat} (hs : b_ringL 0 = nI s) (hn : n + s ≤ 32) (hk : k ≤ n) (h : post 1 (g_w, g_hh, g_rr, nI (n + s), nI (k + s), g_hc, g_nav, g_dn, g_kc, g_ud, 3, 0, g_mode, g_ql, g_p, g_accepted, g_m, ec_cp b_ring 0 (ec_cp b_buf k b_buf (k + s) (n - k)) k s, b_hist, b_histL, b_draft, b_ring, b_ringL, b_und, b_undL, b_undK, b_q)) : ∀ d j, j + d = s → wY_yank_31 post (d + 1) (nI j) g_w g_hh g_rr (nI (n + j)) (nI k) g_hc g_nav g_dn g_kc g_ud g_last g_y g_mode g_ql g_p g_accepted g_m (ec_cp b_ring 0 (ec_cp b_buf k b_buf (k + j) (n - k)) k j) b_hist b_histL b_draft b_ring b_ringL b_und b_undL b_undK b_q := by
  intro d
  induction d with
  | zero =>
    intro j hj
    obtain rfl : j = s := by omega
    exact ey_le j j (Nat.le_refl _) (nm_r ((congrArg (fun y => nI k + y) hs).trans (nI_add k j)) h) hs
  | succ d ih =>
    intro j hj
    refine en_le s j (by omega) ⟨en_in j (by omega), yin' (k + j) (n + j) (by omega) (by omega) ?_ (nm_r (nI_1 j) (ih (j + 1) (by omega)))⟩ hs
    rw [show n + j - (k + j) = n - k by omega, en_g (f := b_ring) (x := nI j) (0 + j)]
    exact ec_in hk
theorem yp_97 {post : Int32 → SY → Prop} {n k l a z s : Nat} (ha : k = a + l) (hz : z < 4) (hs : s ≤ 32) (hn : n + s ≤ 32) (hk : a ≤ n) (h : post 1 (g_w, g_hh, g_rr, nI (n + s), nI (a + s), g_hc, g_nav, g_dn, g_kc, g_ud, g_last, nI z, g_mode, g_ql, g_p, g_accepted, g_m, ec_cp b_ring (z * 32) (ec_cp b_buf a b_buf (a + s) (n - a)) a s, b_hist, b_histL, b_draft, b_ring, b_ringL, b_und, b_undL, b_undK, b_q)) : ∀ d j, j + d = s → wY_yankPop_97 post (nI z) (nI l) (nI s) (d + 1) (nI j) g_w g_hh g_rr (nI (n + j)) (nI k) g_hc g_nav g_dn g_kc g_ud g_last g_y g_mode g_ql g_p g_accepted g_m (ec_cp b_ring (z * 32) (ec_cp b_buf a b_buf (a + j) (n - a)) a j) b_hist b_histL b_draft b_ring b_ringL b_und b_undL b_undK b_q := by
  intro d
  have hkl : k ≤ 64 → nI k - nI l = nI a := fun _ => by rw [pk_sub (by omega)]; exact congrArg nI (by omega)
  induction d with
  | zero =>
    intro j hj
    obtain rfl : j = s := by omega
    exact ey_le j j (Nat.le_refl _) (nm_r (by rw [pk_sub (by omega), nI_add]; exact congrArg nI (by omega)) h)
  | succ d ih =>
    intro j hj
    refine en_le s j (by omega) ⟨en_in (z * 32 + j) (by omega), yin' (a + j) (n + j) (by omega) (by omega) ?_ (nm_r (nI_1 j) (ih (j + 1) (by omega)))⟩
    rw [show n + j - (a + j) = n - a by omega, en_g (f := b_ring) (z * 32 + j)]
    exact ec_in hk
theorem yp_72 {post : Int32 → SY → Prop} {n k l a z s : Nat} (ha : k = a + l) (hk : k ≤ n) (hz : z < 4) (hs : s ≤ 32) (hn : n ≤ 32) (hns : n - l + s ≤ 32) (h : post 1 (g_w, g_hh, g_rr, nI (n - l + s), nI (a + s), g_hc, g_nav, g_dn, g_kc, g_ud, g_last, nI z, g_mode, g_ql, g_p, g_accepted, g_m, ec_cp b_ring (z * 32) (ec_cp (ez b_buf n a l) a (ez b_buf n a l) (a + s) (n - l - a)) a s, b_hist, b_histL, b_draft, b_ring, b_ringL, b_und, b_undL, b_undK, b_q)) : ∀ d j, j + d = l → wY_yankPop_72 post (nI z) (nI l) (nI s) (d + 1) (nI j) g_w g_hh g_rr (nI (n - j)) (nI k) g_hc g_nav g_dn g_kc g_ud g_last g_y g_mode g_ql g_p g_accepted g_m (ez b_buf n a j) b_hist b_histL b_draft b_ring b_ringL b_und b_undL b_undK b_q := by
  intro d
  induction d with
  | zero =>
    intro j hj
    obtain rfl : j = l := by omega
    have := yp_97 (g_y := g_y) ha hz hs hns (by omega) h s 0 (by omega)
    rw [ec_0, ec_cc] at this
    exact ey_le j j (Nat.le_refl _) ⟨s + 1, this⟩
  | succ d ih =>
    intro j hj
    exact en_le l j (by omega) (yrm' a (n - j) (n - (j + 1)) (by omega) (by omega) (by omega) rfl (nm_r (nI_1 j) (ih (j + 1) (by omega))))
end
