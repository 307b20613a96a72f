/-! C: lists of texts in slots of 32 cells. F, L: the component's texts and lengths; G, M: the reference's. History: the same slots -/
def eh (F L G M : Nat → Int32) (c : Nat) : Prop := ∀ i, i < c → ∃ l, l ≤ 32 ∧ L i = nI l ∧ M i = nI l ∧ eg F G (i * 32) (i * 32) l
theorem eh_0 {F L G M : Nat → Int32} : eh F L G M 0 := fun _ h => absurd h (by omega)
/-- the oldest dropped -/
theorem eh_drop {F L G M : Nat → Int32} {c : Nat} (h : eh F L G M (c + 1)) : eh (ec_cp F 32 F 0 (c * 32)) (ec_cp L 1 L 0 c) (ec_cp G 32 G 0 (c * 32)) (ec_cp M 1 M 0 c) c := by
  intro i hi
  obtain ⟨l, hl, h1, h2, h3⟩ := h (i + 1) (by omega)
  refine ⟨l, hl, ?_, ?_, ?_⟩
  · rw [ec_i (by omega) (by omega), show 1 + (i - 0) = i + 1 by omega, h1]
  · rw [ec_i (by omega) (by omega), show 1 + (i - 0) = i + 1 by omega, h2]
  · intro j hj
    rw [ec_i (by omega) (by omega), ec_i (by omega) (by omega), show 32 + (i * 32 + j - 0) = (i + 1) * 32 + j by omega]
    exact h3 j hj
/-- one appended; the reference copies all 32 cells -/
theorem eh_add {F L G M f g : Nat → Int32} {c n : Nat} (h : eh F L G M c) (hn : n ≤ 32) (hb : eg f g 0 0 n) : eh (ec_cp f 0 F (c * 32) n) (upd L c (nI n)) (ec_cp g 0 G (c * 32) 32) (upd M c (nI n)) (c + 1) := by
  intro i hi
  by_cases e : i = c
  · subst e
    exact ⟨n, hn, ec_us, ec_us, eg_cp hb (by omega) hn⟩
  · obtain ⟨l, hl, h1, h2, h3⟩ := h i (by omega)
    exact ⟨l, hl, (ec_un e).trans h1, (ec_un e).trans h2, eg_kp h3 (by omega) (by omega)⟩
/-- the undo stack: also the cursors -/
def eu (F L K G M P : Nat → Int32) (c : Nat) : Prop := ∀ i, i < c → ∃ l t, l ≤ 32 ∧ t ≤ l ∧ L i = nI l ∧ M i = nI l ∧ K i = nI t ∧ P i = nI t ∧ eg F G (i * 32) (i * 32) l
theorem eu_0 {F L K G M P : Nat → Int32} : eu F L K G M P 0 := fun _ h => absurd h (by omega)
theorem eu_le {F L K G M P : Nat → Int32} {c d : Nat} (h : eu F L K G M P c) (hd : d ≤ c) : eu F L K G M P d := fun i hi => h i (by omega)
theorem eu_drop {F L K G M P : Nat → Int32} {c : Nat} (h : eu F L K G M P (c + 1)) : eu (ec_cp F 32 F 0 (c * 32)) (ec_cp L 1 L 0 c) (ec_cp K 1 K 0 c) (ec_cp G 32 G 0 (c * 32)) (ec_cp M 1 M 0 c) (ec_cp P 1 P 0 c) c := by
  intro i hi
  obtain ⟨l, t, hl, ht, h1, h2, h3, h4, h5⟩ := h (i + 1) (by omega)
  have e : 1 + (i - 0) = i + 1 := by omega
  refine ⟨l, t, hl, ht, ?_, ?_, ?_, ?_, ?_⟩
  · rw [ec_i (by omega) (by omega), e, h1]
  · rw [ec_i (by omega) (by omega), e, h2]
  · rw [ec_i (by omega) (by omega), e, h3]
  · rw [ec_i (by omega) (by omega), e, h4]
  · intro j hj
    rw [ec_i (by omega) (by omega), ec_i (by omega) (by omega), show 32 + (i * 32 + j - 0) = (i + 1) * 32 + j by omega]
    exact h5 j hj
theorem eu_add {F L K G M P f g : Nat → Int32} {c n k : Nat} (h : eu F L K G M P c) (hn : n ≤ 32) (hk : k ≤ n) (hb : eg f g 0 0 n) : eu (ec_cp f 0 F (c * 32) n) (upd L c (nI n)) (upd K c (nI k)) (ec_cp g 0 G (c * 32) 32) (upd M c (nI n)) (upd P c (nI k)) (c + 1) := by
  intro i hi
  by_cases e : i = c
  · subst e
    exact ⟨n, k, hn, hk, ec_us, ec_us, ec_us, ec_us, eg_cp hb (by omega) hn⟩
  · obtain ⟨l, t, hl, ht, h1, h2, h3, h4, h5⟩ := h i (by omega)
    exact ⟨l, t, hl, ht, (ec_un e).trans h1, (ec_un e).trans h2, (ec_un e).trans h3, (ec_un e).trans h4, eg_kp h5 (by omega) (by omega)⟩

/-! D: the kill ring: the component's slot c - 1 - i is the reference's slot i -/
def ej (F L G M : Nat → Int32) (c : Nat) : Prop := ∀ i, i < c → ∃ l, l ≤ 32 ∧ L (c - 1 - i) = nI l ∧ M i = nI l ∧ eg F G ((c - 1 - i) * 32) (i * 32) l
theorem ej_0 {F L G M : Nat → Int32} : ej F L G M 0 := fun _ h => absurd h (by omega)
/-- a new entry, none dropped: the component writes slot c, the reference moves c entries up and writes slot 0 -/
theorem ej_new {F L G M f g : Nat → Int32} {c a n : Nat} (h : ej F L G M c) (hn : n ≤ 32) (hb : eg f g a a n) :
    ej (ec_cp f a F (c * 32) n) (upd (upd L c 0) c (nI n)) (ec_cp g a (ec_cp G 0 G 32 (c * 32)) 0 n) (upd (ec_cp M 0 M 1 c) 0 (nI n)) (c + 1) := by
  intro i hi
  by_cases e : i = 0
  · subst e
    rw [show c + 1 - 1 - 0 = c by omega, Nat.zero_mul]
    exact ⟨n, hn, ec_us, ec_us, eg_cp hb (Nat.le_refl _) (Nat.le_refl _)⟩
  · obtain ⟨l, hl, h1, h2, h3⟩ := h (i - 1) (by omega)
    have e1 : c + 1 - 1 - i = c - 1 - (i - 1) := by omega
    rw [e1]
    refine ⟨l, hl, ?_, ?_, ?_⟩
    · rw [ec_un (by omega), ec_un (by omega), h1]
    · rw [ec_un e, ec_i (by omega) (by omega), show 0 + (i - 1) = i - 1 by omega, h2]
    · intro j hj
      have h4 := h3 j hj
      rw [ec_o (by omega), ec_o (by omega), ec_i (by omega) (by omega), show 0 + (i * 32 + j - 32) = (i - 1) * 32 + j by omega]
      exact h4
/-- the same at a full ring: the component drops slot 0 first, the reference moves c entries of c + 1 -/
theorem ej_full {F L G M f g : Nat → Int32} {c a n : Nat} (h : ej F L G M (c + 1)) (hn : n ≤ 32) (hb : eg f g a a n) :
    ej (ec_cp f a (ec_cp F 32 F 0 (c * 32)) (c * 32) n) (upd (upd (ec_cp L 1 L 0 c) c 0) c (nI n)) (ec_cp g a (ec_cp G 0 G 32 (c * 32)) 0 n) (upd (ec_cp M 0 M 1 c) 0 (nI n)) (c + 1) := by
  refine ej_new ?_ hn hb
  intro i hi
  obtain ⟨l, hl, h1, h2, h3⟩ := h i (by omega)
  have e1 : c + 1 - 1 - i = c - 1 - i + 1 := by omega
  rw [e1] at h1 h3
  refine ⟨l, hl, ?_, h2, ?_⟩
  · rw [ec_i (by omega) (by omega), show 1 + (c - 1 - i - 0) = c - 1 - i + 1 by omega, h1]
  · intro j hj
    have h4 := h3 j hj
    rw [ec_i (by omega) (by omega), show 32 + ((c - 1 - i) * 32 + j - 0) = (c - 1 - i + 1) * 32 + j by omega]
    exact h4
/-- a kill that chains, forward -/
theorem ej_fwd {F L G M f g : Nat → Int32} {c a n s : Nat} (h : ej F L G M (c + 1)) (hs : M 0 = nI s) (hn : s + n ≤ 32) (hb : eg f g a a n) :
    ej (ec_cp f a F (c * 32 + s) n) (upd L c (nI (s + n))) (ec_cp g a G s n) (upd M 0 (nI (s + n))) (c + 1) := by
  intro i hi
  by_cases e : i = 0
  · subst e
    obtain ⟨l, hl, h1, h2, h3⟩ := h 0 (by omega)
    obtain rfl : l = s := (nI_eq (by omega) (by omega)).mp (h2.symm.trans hs)
    rw [show c + 1 - 1 - 0 = c by omega] at h1 h3 ⊢
    rw [Nat.zero_mul] at h3 ⊢
    refine ⟨l + n, hn, ec_us, ec_us, eg_app (eg_kp h3 (by omega) (by omega)) ?_⟩
    rw [Nat.zero_add]
    exact eg_cp hb (Nat.le_refl _) (Nat.le_refl _)
  · obtain ⟨l, hl, h1, h2, h3⟩ := h i (by omega)
    exact ⟨l, hl, (ec_un (by omega)).trans h1, (ec_un e).trans h2, eg_kp h3 (by omega) (by omega)⟩
/-- .. and backward -/
theorem ej_bwd {F L G M f g : Nat → Int32} {c a n s : Nat} (h : ej F L G M (c + 1)) (hs : M 0 = nI s) (hn : s + n ≤ 32) (hb : eg f g a a n) :
    ej (ec_cp f a (ec_cp F (c * 32) F (c * 32 + n) s) (c * 32) n) (upd L c (nI (s + n))) (ec_cp g a (ec_cp G 0 G n s) 0 n) (upd M 0 (nI (s + n))) (c + 1) := by
  intro i hi
  by_cases e : i = 0
  · subst e
    obtain ⟨l, hl, h1, h2, h3⟩ := h 0 (by omega)
    obtain rfl : l = s := (nI_eq (by omega) (by omega)).mp (h2.symm.trans hs)
    rw [show c + 1 - 1 - 0 = c by omega] at h1 h3 ⊢
    rw [Nat.zero_mul] at h3 ⊢
    refine ⟨l + n, hn, ec_us, ec_us, ?_⟩
    rw [Nat.add_comm l n]
    refine eg_app (eg_cp hb (Nat.le_refl _) (Nat.le_refl _)) ?_
    rw [Nat.zero_add]
    exact eg_kp (eg_cp h3 (Nat.le_refl _) (Nat.le_refl _)) (by omega) (by omega)
  · obtain ⟨l, hl, h1, h2, h3⟩ := h i (by omega)
    exact ⟨l, hl, (ec_un (by omega)).trans h1, (ec_un e).trans h2, eg_kp (eg_kp h3 (by omega) (by omega)) (by omega) (by omega)⟩
