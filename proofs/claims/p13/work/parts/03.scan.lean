/-! E: words. es: downward from t over cells that are (w) word chars; et: upward, d cells left -/
abbrev ew (c : Int32) : Prop := (48 ≤ c ∧ c ≤ 57) ∨ (65 ≤ c ∧ c ≤ 90) ∨ (97 ≤ c ∧ c ≤ 122)
def es (f : Nat → Int32) (w : Bool) : Nat → Nat
  | 0 => 0
  | t + 1 => if decide (ew (f t)) = w then es f w t else t + 1
def et (f : Nat → Int32) (w : Bool) : Nat → Nat → Nat
  | 0, t => t
  | d + 1, t => if decide (ew (f t)) = w then et f w d (t + 1) else t
theorem es_s (f : Nat → Int32) (w : Bool) (t : Nat) : es f w (t + 1) = if decide (ew (f t)) = w then es f w t else t + 1 := rfl
theorem et_s (f : Nat → Int32) (w : Bool) (d t : Nat) : et f w (d + 1) t = if decide (ew (f t)) = w then et f w d (t + 1) else t := rfl
theorem es_le (f : Nat → Int32) (w : Bool) : ∀ t, es f w t ≤ t := by
  intro t
  induction t with
  | zero => exact Nat.le_refl _
  | succ t ih =>
    rw [es_s]
    split
    · omega
    · omega
theorem et_le (f : Nat → Int32) (w : Bool) : ∀ d t, t ≤ et f w d t ∧ et f w d t ≤ t + d := by
  intro d
  induction d with
  | zero => intro t; exact ⟨Nat.le_refl _, Nat.le_refl _⟩
  | succ d ih =>
    intro t
    rw [et_s]
    have := ih (t + 1)
    split
    · omega
    · omega
theorem es_c {f g : Nat → Int32} {w : Bool} : ∀ t, (∀ j, j < t → f j = g j) → es f w t = es g w t := by
  intro t
  induction t with
  | zero => intro _; rfl
  | succ t ih =>
    intro h
    rw [es_s, es_s, h t (by omega), ih (fun j hj => h j (by omega))]
theorem et_c {f g : Nat → Int32} {w : Bool} : ∀ d t, (∀ j, j < t + d → f j = g j) → et f w d t = et g w d t := by
  intro d
  induction d with
  | zero => intro t _; rfl
  | succ d ih =>
    intro t h
    rw [et_s, et_s, h t (by omega), ih (t + 1) (fun j hj => h j (by omega))]
def ewl (f : Nat → Int32) (k : Nat) : Nat := es f true (es f false k)
def ewr (f : Nat → Int32) (n k : Nat) : Nat := et f true (n - et f false (n - k) k) (et f false (n - k) k)
theorem ewl_le (f : Nat → Int32) (k : Nat) : ewl f k ≤ k := Nat.le_trans (es_le f true _) (es_le f false k)
theorem ewr_le {f : Nat → Int32} {n k : Nat} (hk : k ≤ n) : k ≤ ewr f n k ∧ ewr f n k ≤ n := by
  have h1 := et_le f false (n - k) k
  have h2 := et_le f true (n - et f false (n - k) k) (et f false (n - k) k)
  unfold ewr
  omega
theorem ewl_c {f g : Nat → Int32} {k : Nat} (h : ∀ j, j < k → f j = g j) : ewl f k = ewl g k := by
  unfold ewl
  rw [es_c (w := false) k h]
  exact es_c _ (fun j hj => h j (Nat.lt_of_lt_of_le hj (es_le g false k)))
theorem ewr_c {f g : Nat → Int32} {n k : Nat} (hk : k ≤ n) (h : ∀ j, j < n → f j = g j) : ewr f n k = ewr g n k := by
  unfold ewr
  rw [et_c (w := false) (n - k) k (fun j hj => h j (by omega))]
  have h1 := et_le g false (n - k) k
  exact et_c _ _ (fun j hj => h j (by omega))

/-! F: the search. ex: the first z chars of q stand in h from a on; eo: the least start s, d left to try, the entry at a; ef: the newest entry below i -/
abbrev ex (h q : Nat → Int32) (a z : Nat) : Prop := ∀ j, j < z → h (a + j) = q j
def eo (h q : Nat → Int32) (a z : Nat) : Nat → Nat → Option Nat
  | 0, _ => none
  | d + 1, s => if ex h q (a + s) z then some s else eo h q a z d (s + 1)
theorem eo_s (h q : Nat → Int32) (a z d s : Nat) : eo h q a z (d + 1) s = if ex h q (a + s) z then some s else eo h q a z d (s + 1) := rfl
theorem eo_some {h q : Nat → Int32} {a z r : Nat} : ∀ d s, eo h q a z d s = some r → s ≤ r ∧ r < s + d ∧ ex h q (a + r) z := by
  intro d
  induction d with
  | zero => intro s e; exact absurd e (by simp [eo])
  | succ d ih =>
    intro s e
    rw [eo_s] at e
    split at e
    · obtain rfl := Option.some.inj e
      exact ⟨Nat.le_refl _, by omega, by assumption⟩
    · have := ih (s + 1) e
      exact ⟨by omega, by omega, this.2.2⟩
theorem eo_none {h q : Nat → Int32} {a z r : Nat} : ∀ d s, eo h q a z d s = none → s ≤ r → r < s + d → ¬ ex h q (a + r) z := by
  intro d
  induction d with
  | zero => intro s _ h1 h2; omega
  | succ d ih =>
    intro s e h1 h2
    rw [eo_s] at e
    split at e
    · exact absurd e (by simp)
    · by_cases c : r = s
      · subst c; assumption
      · exact ih (s + 1) e (by omega) (by omega)
theorem ex_c {h g q p : Nat → Int32} {a z : Nat} (H : ∀ j, j < z → h (a + j) = g (a + j)) (Q : ∀ j, j < z → q j = p j) : ex h q a z ↔ ex g p a z := by
  constructor
  · intro e j hj
    rw [← H j hj, ← Q j hj]
    exact e j hj
  · intro e j hj
    rw [H j hj, Q j hj]
    exact e j hj
theorem eo_c {h g q p : Nat → Int32} {a z : Nat} (Q : ∀ j, j < z → q j = p j) : ∀ d s, (∀ j, j + 1 < s + d + z → h (a + j) = g (a + j)) → eo h q a z d s = eo g p a z d s := by
  intro d
  induction d with
  | zero => intro s _; rfl
  | succ d ih =>
    intro s H
    have e : ex h q (a + s) z ↔ ex g p (a + s) z := ex_c (fun j hj => by
      have := H (s + j) (by omega)
      rw [← Nat.add_assoc] at this
      exact this) Q
    rw [eo_s, eo_s, ih (s + 1) (fun j hj => H j (by omega))]
    by_cases c : ex h q (a + s) z
    · rw [if_pos c, if_pos (e.mp c)]
    · rw [if_neg c, if_neg (fun z => c (e.mpr z))]
/-- the least start in entry i, whose length stands in L -/
def ei (h L q : Nat → Int32) (z i : Nat) : Option Nat := eo h q (i * 32) z ((L i).toNatClampNeg + 1 - z) 0
def ef (h L q : Nat → Int32) (z : Nat) : Nat → Option (Nat × Nat)
  | 0 => none
  | i + 1 => match ei h L q z i with
    | some s => some (i, s)
    | none => ef h L q z i
theorem ef_s (h L q : Nat → Int32) (z i : Nat) : ef h L q z (i + 1) = match ei h L q z i with
    | some s => some (i, s)
    | none => ef h L q z i := rfl
theorem ef_some {h L q : Nat → Int32} {z m s : Nat} : ∀ i, ef h L q z i = some (m, s) → m < i ∧ ei h L q z m = some s := by
  intro i
  induction i with
  | zero => intro e; exact absurd e (by simp [ef])
  | succ i ih =>
    intro e
    rw [ef_s] at e
    split at e
    · rename_i s' hs
      have e2 := Option.some.inj e
      obtain rfl := congrArg Prod.fst e2
      obtain rfl := congrArg Prod.snd e2
      exact ⟨by omega, hs⟩
    · have := ih e
      exact ⟨by omega, this.2⟩
/-- the answer of a search for a start -/
def er : Option Nat → Int32
  | some s => nI s
  | none => -1
theorem ei_c {H HL G GL q p : Nat → Int32} {c z i : Nat} (h : eh H HL G GL c) (hi : i < c) (Q : ∀ j, j < z → q j = p j) : ei H HL q z i = ei G GL p z i := by
  obtain ⟨l, hl, h1, h2, h3⟩ := h i hi
  unfold ei
  rw [h1, h2, nI_clamp (by omega)]
  by_cases c0 : l + 1 - z = 0
  · rw [c0]; rfl
  · exact eo_c Q _ _ (fun j hj => (h3 j (by omega)).1)
theorem ef_c {H HL G GL q p : Nat → Int32} {c z : Nat} (h : eh H HL G GL c) (Q : ∀ j, j < z → q j = p j) : ∀ i, i ≤ c → ef H HL q z i = ef G GL p z i := by
  intro i
  induction i with
  | zero => intro _; rfl
  | succ i ih =>
    intro hi
    rw [ef_s, ef_s, ei_c h (by omega) Q, ih (by omega)]
/-- what a found start says -/
theorem ei_some {H HL q : Nat → Int32} {z i l s : Nat} (hl : l ≤ 32) (e : HL i = nI l) (h : ei H HL q z i = some s) : s + z ≤ l ∧ ex H q (i * 32 + s) z := by
  unfold ei at h
  rw [e, nI_clamp (by omega)] at h
  have := eo_some _ _ h
  exact ⟨by omega, this.2.2⟩
/-- where the longer query stands the shorter is found -/
theorem ei_less {H HL q : Nat → Int32} {z y i l s : Nat} (hl : l ≤ 32) (e : HL i = nI l) (h : s + z ≤ l) (hx : ex H q (i * 32 + s) z) (hy : y ≤ z) : ∃ t, ei H HL q y i = some t := by
  cases c : ei H HL q y i with
  | some t => exact ⟨t, rfl⟩
  | none =>
    unfold ei at c
    rw [e, nI_clamp (by omega)] at c
    exact absurd (fun j hj => hx j (by omega)) (eo_none (r := s) _ _ c (by omega) (by omega))
