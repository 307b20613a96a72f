/-! A: copying. c cells of f from a on, laid into g from b on -/
def ec_cp (f : Nat → Int32) (a : Nat) (g : Nat → Int32) (b c : Nat) : Nat → Int32 :=
  fun j => if b ≤ j ∧ j < b + c then f (a + (j - b)) else g j
theorem ec_i {f g : Nat → Int32} {a b c j : Nat} (h1 : b ≤ j) (h2 : j < b + c) : ec_cp f a g b c j = f (a + (j - b)) := if_pos ⟨h1, h2⟩
theorem ec_o {f g : Nat → Int32} {a b c j : Nat} (h : ¬ (b ≤ j ∧ j < b + c)) : ec_cp f a g b c j = g j := if_neg h
theorem ec_k {f g : Nat → Int32} {a b c i : Nat} (h : i < c) : ec_cp f a g b c (b + i) = f (a + i) := by
  rw [ec_i (by omega) (by omega), show b + i - b = i by omega]
theorem ec_us {f : Nat → Int32} {k : Nat} {x : Int32} : upd f k x k = x := if_pos rfl
theorem ec_un {f : Nat → Int32} {k j : Nat} {x : Int32} (h : j ≠ k) : upd f k x j = f j := if_neg h
theorem ec_0 (f : Nat → Int32) (a : Nat) (g : Nat → Int32) (b : Nat) : ec_cp f a g b 0 = g := by
  funext j
  exact ec_o (by omega)
theorem ec_s (f : Nat → Int32) (a : Nat) (g : Nat → Int32) (b c : Nat) : upd (ec_cp f a g b c) (b + c) (f (a + c)) = ec_cp f a g b (c + 1) := by
  funext j
  by_cases h : j = b + c
  · subst h
    rw [ec_us, ec_k (by omega)]
  · rw [ec_un h]
    by_cases h2 : b ≤ j ∧ j < b + c
    · rw [ec_i h2.1 h2.2, ec_i h2.1 (by omega)]
    · rw [ec_o h2, ec_o (by omega)]
/-- the same, downward -/
theorem ec_d (f : Nat → Int32) (a : Nat) (g : Nat → Int32) (b c : Nat) : upd (ec_cp f (a + 1) g (b + 1) c) b (f a) = ec_cp f a g b (c + 1) := by
  funext j
  by_cases h : j = b
  · subst h
    rw [ec_us, ec_i (by omega) (by omega), Nat.sub_self, Nat.add_zero]
  · rw [ec_un h]
    by_cases h2 : b ≤ j ∧ j < b + (c + 1)
    · rw [ec_i (b := b + 1) (by omega) (by omega), ec_i h2.1 h2.2, show a + 1 + (j - (b + 1)) = a + (j - b) by omega]
    · rw [ec_o h2, ec_o (by omega)]
/-- a block ahead of a block -/
theorem ec_j (f : Nat → Int32) (a : Nat) (g : Nat → Int32) (b c d : Nat) : ec_cp f a (ec_cp f (a + c) g (b + c) d) b c = ec_cp f a g b (c + d) := by
  funext j
  by_cases h : b ≤ j ∧ j < b + c
  · rw [ec_i h.1 h.2, ec_i h.1 (by omega)]
  · rw [ec_o h]
    by_cases h2 : b + c ≤ j ∧ j < b + c + d
    · rw [ec_i h2.1 h2.2, ec_i (by omega) (by omega), show a + c + (j - (b + c)) = a + (j - b) by omega]
    · rw [ec_o h2, ec_o (by omega)]
/-- a block behind a block -/
theorem ec_b (f : Nat → Int32) (a : Nat) (g : Nat → Int32) (b c d : Nat) : ec_cp f (a + c) (ec_cp f a g b c) (b + c) d = ec_cp f a g b (c + d) := by
  funext j
  by_cases h : b + c ≤ j ∧ j < b + c + d
  · rw [ec_i h.1 h.2, ec_i (by omega) (by omega), show a + c + (j - (b + c)) = a + (j - b) by omega]
  · rw [ec_o h]
    by_cases h2 : b ≤ j ∧ j < b + c
    · rw [ec_i h2.1 h2.2, ec_i h2.1 (by omega)]
    · rw [ec_o h2, ec_o (by omega)]

/-! B: two texts agree, and hold no negative code -/
def eg (f g : Nat → Int32) (a b n : Nat) : Prop := ∀ j, j < n → f (a + j) = g (b + j) ∧ ¬ g (b + j) < 0
theorem eg_0 {f g : Nat → Int32} {a b : Nat} : eg f g a b 0 := fun _ h => absurd h (by omega)
theorem eg_le {f g : Nat → Int32} {a b n m : Nat} (h : eg f g a b n) (hm : m ≤ n) : eg f g a b m := fun j hj => h j (by omega)
theorem eg_at {f g : Nat → Int32} {n j : Nat} (h : eg f g 0 0 n) (hj : j < n) : f j = g j ∧ ¬ g j < 0 := by
  have := h j hj
  rw [Nat.zero_add] at this
  exact this
theorem eg_sub {f g : Nat → Int32} {a b n i m : Nat} (h : eg f g a b n) (hm : i + m ≤ n) : eg f g (a + i) (b + i) m := by
  intro j hj
  rw [Nat.add_assoc, Nat.add_assoc]
  exact h (i + j) (by omega)
theorem eg_app {f g : Nat → Int32} {a b n m : Nat} (h : eg f g a b n) (h2 : eg f g (a + n) (b + n) m) : eg f g a b (n + m) := by
  intro j hj
  by_cases c : j < n
  · exact h j c
  · have := h2 (j - n) (by omega)
    rw [show a + n + (j - n) = a + j by omega, show b + n + (j - n) = b + j by omega] at this
    exact this
/-- what was copied agrees, as far as both copied it -/
theorem eg_cp {f g F G : Nat → Int32} {a b p q n c d : Nat} (h : eg f g a b n) (hc : n ≤ c) (hd : n ≤ d) : eg (ec_cp f a F p c) (ec_cp g b G q d) p q n := by
  intro j hj
  rw [ec_k (by omega), ec_k (by omega)]
  exact h j hj
/-- what lies outside stays -/
theorem eg_kp {f g F G : Nat → Int32} {a b p q n s t c d : Nat} (h : eg F G p q n) (hp : p + n ≤ s ∨ s + c ≤ p) (hq : q + n ≤ t ∨ t + d ≤ q) : eg (ec_cp f a F s c) (ec_cp g b G t d) p q n := by
  intro j hj
  rw [ec_o (by omega), ec_o (by omega)]
  exact h j hj
theorem eg_u {F G : Nat → Int32} {p q n s t : Nat} {x y : Int32} (h : eg F G p q n) (hp : p + n ≤ s ∨ s < p) (hq : q + n ≤ t ∨ t < q) : eg (upd F s x) (upd G t y) p q n := by
  intro j hj
  rw [ec_un (by omega), ec_un (by omega)]
  exact h j hj
theorem eg_1 {F G : Nat → Int32} {p q : Nat} {x : Int32} (hx : ¬ x < 0) : eg (upd F p x) (upd G q x) p q 1 := by
  intro j hj
  obtain rfl : j = 0 := by omega
  rw [Nat.add_zero, Nat.add_zero, ec_us, ec_us]
  exact ⟨rfl, hx⟩
/-- a gap of c cells opened at k -/
theorem eg_gap {f g : Nat → Int32} {n k c : Nat} (h : eg f g 0 0 n) (hk : k ≤ n) : eg (ec_cp f k f (k + c) (n - k)) (ec_cp g k g (k + c) (n - k)) (k + c) (k + c) (n - k) := by
  refine eg_cp ?_ (by omega) (by omega)
  have := eg_sub (i := k) (m := n - k) h (by omega)
  rw [Nat.zero_add] at this
  exact this
theorem eg_ins {f g s t : Nat → Int32} {n k c a b : Nat} (h : eg f g 0 0 n) (hk : k ≤ n) (hs : eg s t a b c) : eg (ec_cp s a (ec_cp f k f (k + c) (n - k)) k c) (ec_cp t b (ec_cp g k g (k + c) (n - k)) k c) 0 0 (n + c) := by
  have h1 : eg (ec_cp s a (ec_cp f k f (k + c) (n - k)) k c) (ec_cp t b (ec_cp g k g (k + c) (n - k)) k c) 0 0 k := eg_kp (eg_kp (eg_le h hk) (by omega) (by omega)) (by omega) (by omega)
  have h2 : eg (ec_cp s a (ec_cp f k f (k + c) (n - k)) k c) (ec_cp t b (ec_cp g k g (k + c) (n - k)) k c) (0 + k) (0 + k) c := by
    rw [Nat.zero_add]
    exact eg_cp hs (Nat.le_refl _) (Nat.le_refl _)
  have h3 : eg (ec_cp s a (ec_cp f k f (k + c) (n - k)) k c) (ec_cp t b (ec_cp g k g (k + c) (n - k)) k c) (0 + (k + c)) (0 + (k + c)) (n - k) := by
    rw [Nat.zero_add]
    exact eg_kp (eg_gap h hk) (by omega) (by omega)
  have := eg_app (eg_app h1 h2) h3
  rw [show k + c + (n - k) = n + c by omega] at this
  exact this
/-- one char put at k: upd is a copy of one cell -/
theorem ec_u1 (g : Nat → Int32) (k : Nat) (x : Int32) : upd g k x = ec_cp (fun _ => x) 0 g k 1 := by
  have := ec_s (fun _ => x) 0 g k 0
  rw [ec_0, Nat.add_zero] at this
  exact this
theorem eg_ins1 {f g : Nat → Int32} {n k : Nat} {x : Int32} (h : eg f g 0 0 n) (hk : k ≤ n) (hx : ¬ x < 0) : eg (upd (ec_cp f k f (k + 1) (n - k)) k x) (upd (ec_cp g k g (k + 1) (n - k)) k x) 0 0 (n + 1) := by
  rw [ec_u1, ec_u1]
  exact eg_ins h hk (fun _ _ => ⟨rfl, hx⟩)
/-- c cells taken out at a; the one side may hold anything behind -/
theorem eg_del {f g g' : Nat → Int32} {n a c : Nat} (h : eg f g 0 0 n) (ha : a + c ≤ n) (hg : ∀ i, i < n - c → g' i = ec_cp g (a + c) g a (n - a - c) i) : eg (ec_cp f (a + c) f a (n - a - c)) g' 0 0 (n - c) := by
  have h1 : eg (ec_cp f (a + c) f a (n - a - c)) (ec_cp g (a + c) g a (n - a - c)) 0 0 a := eg_kp (eg_le h (by omega)) (by omega) (by omega)
  have h2 : eg (ec_cp f (a + c) f a (n - a - c)) (ec_cp g (a + c) g a (n - a - c)) (0 + a) (0 + a) (n - a - c) := by
    rw [Nat.zero_add]
    refine eg_cp ?_ (by omega) (by omega)
    have := eg_sub (i := a + c) (m := n - a - c) h (by omega)
    rw [Nat.zero_add] at this
    exact this
  have h3 := eg_app h1 h2
  rw [show a + (n - a - c) = n - c by omega] at h3
  intro j hj
  have h4 := h3 j hj
  rw [Nat.zero_add] at h4 ⊢
  rw [hg j hj]
  exact h4
/-- one step of a copy onto itself, towards the front -/
theorem ec_up {f : Nat → Int32} {a b : Nat} (h : b ≤ a) (c : Nat) : upd (ec_cp f a f b c) (b + c) (ec_cp f a f b c (a + c)) = ec_cp f a f b (c + 1) := by
  rw [ec_o (j := a + c) (by omega)]
  exact ec_s f a f b c
/-- .. and away from it, downward -/
theorem ec_dn {f : Nat → Int32} {a b : Nat} (h : a ≤ b) (c : Nat) : upd (ec_cp f (a + 1) f (b + 1) c) b (ec_cp f (a + 1) f (b + 1) c a) = ec_cp f a f b (c + 1) := by
  rw [ec_o (j := a) (by omega)]
  exact ec_d f a f b c
/-- the reference's inserts, one char a time: r from a on, put at k into f of n chars -/
theorem ec_in {f r : Nat → Int32} {n k a j : Nat} (hk : k ≤ n) :
    upd (ec_cp (ec_cp r a (ec_cp f k f (k + j) (n - k)) k j) (k + j) (ec_cp r a (ec_cp f k f (k + j) (n - k)) k j) (k + j + 1) (n - k)) (k + j) (r (a + j))
      = ec_cp r a (ec_cp f k f (k + (j + 1)) (n - k)) k (j + 1) := by
  funext i
  by_cases h : i = k + j
  · subst h
    rw [ec_us, ec_k (by omega)]
  · rw [ec_un h]
    by_cases h1 : k + j + 1 ≤ i ∧ i < k + j + 1 + (n - k)
    · rw [ec_i h1.1 h1.2, ec_o (by omega), ec_i (by omega) (by omega), ec_o (by omega), ec_i (by omega) (by omega)]
      exact congrArg f (by omega)
    · rw [ec_o h1]
      by_cases h2 : k ≤ i ∧ i < k + j
      · rw [ec_i h2.1 h2.2, ec_i (by omega) (by omega)]
      · rw [ec_o h2, ec_o (by omega), ec_o (by omega), ec_o (by omega)]
/-- .. and its removals: below the new length it is one copy -/
theorem ec_re {f g : Nat → Int32} {n a j : Nat} (h : a + j < n) (hg : ∀ i, i < n - j → g i = ec_cp f (a + j) f a (n - a - j) i) :
    ∀ i, i < n - (j + 1) → ec_cp g (a + 1) g a (n - j - 1 - a) i = ec_cp f (a + (j + 1)) f a (n - a - (j + 1)) i := by
  intro i hi
  by_cases h1 : a ≤ i
  · rw [ec_i h1 (by omega), hg _ (by omega), ec_i (by omega) (by omega), ec_i h1 (by omega)]
    exact congrArg f (by omega)
  · rw [ec_o (by omega), hg _ (by omega), ec_o (by omega), ec_o (by omega)]
theorem ec_re0 {f : Nat → Int32} {n a : Nat} : ∀ i, i < n - 0 → f i = ec_cp f (a + 0) f a (n - a - 0) i := by
  intro i hi
  by_cases h1 : a ≤ i ∧ i < a + (n - a - 0)
  · rw [ec_i h1.1 h1.2]
    exact congrArg f (by omega)
  · rw [ec_o h1]
/-- the reference's ring shift: one block of 32 more -/
theorem ec_bl {f : Nat → Int32} {e t : Nat} : ec_cp f (e * 32) (ec_cp f ((e + 1) * 32) f ((e + 1) * 32 + 32) (t * 32)) ((e + 1) * 32) 32 = ec_cp f (e * 32) f ((e + 1) * 32) ((t + 1) * 32) := by
  have h := ec_j f (e * 32) f ((e + 1) * 32) 32 (t * 32)
  rw [show e * 32 + 32 = (e + 1) * 32 by omega, show 32 + t * 32 = (t + 1) * 32 by omega] at h
  exact h
theorem ec_cc (f : Nat → Int32) (a c : Nat) : ec_cp f a f (a + 0) c = f := by
  funext i
  by_cases h : a ≤ i ∧ i < a + c
  · rw [Nat.add_zero, ec_i h.1 h.2]
    exact congrArg f (by omega)
  · exact ec_o h
/-- what j removals at a leave -/
def ez (f : Nat → Int32) (n a : Nat) : Nat → (Nat → Int32)
  | 0 => f
  | j + 1 => ec_cp (ez f n a j) (a + 1) (ez f n a j) a (n - j - 1 - a)
theorem ez_p {f : Nat → Int32} {n a : Nat} : ∀ c, a + c ≤ n → ∀ i, i < n - c → ez f n a c i = ec_cp f (a + c) f a (n - a - c) i := by
  intro c
  induction c with
  | zero => intro _; exact ec_re0
  | succ c ih => intro h; exact ec_re (by omega) (ih (by omega))
