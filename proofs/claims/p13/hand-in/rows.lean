section
/-! branches by naturals -/
theorem en_32 (a : Nat) : nI a * 32 = nI (a * 32) := pk_mul a 32
theorem en_m1 {a : Nat} (h : 1 ≤ a) : nI a + (-1) = nI (a - 1) := by
  obtain ⟨b, rfl⟩ : ∃ b, a = b + 1 := ⟨a - 1, by omega⟩
  exact pk_m1 b
theorem en_s1 {a : Nat} (h : 1 ≤ a) : nI a - 1 = nI (a - 1) := pk_sub (b := 1) h
theorem en_a2 (a : Nat) : 2 + nI a = nI (2 + a) := nI_add 2 a
theorem en_a3 (a : Nat) : 3 + nI a = nI (3 + a) := nI_add 3 a
theorem en_p32 (a : Nat) : nI a + 32 = nI (a + 32) := nI_add a 32
theorem en_s32 {a : Nat} (h : 32 ≤ a) : nI a - 32 = nI (a - 32) := pk_sub (b := 32) h
theorem en_p2 (a : Nat) : nI a + 2 = nI (a + 2) := nI_add a 2
theorem en_s2 {a : Nat} (h : 2 ≤ a) : nI a - 2 = nI (a - 2) := pk_sub (b := 2) h
theorem en_s3 {a : Nat} (h : 3 ≤ a) : nI a - 3 = nI (a - 3) := pk_sub (b := 3) h
theorem ey_le {x y : Int32} {A B : Prop} (a b : Nat) (h : a ≤ b) (p : A) (hx : x = nI a := by first | with_reducible rfl | (simp (disch := omega) only [nI_add, nI_1, en_m1, en_s1, pk_sub, pk_mul, en_32, en_a2, en_a3, en_p32, en_s32, en_p2, en_s2, en_s3] <;> exact congrArg nI (by omega)) | exact congrArg nI (by omega) | rfl) (hy : y = nI b := by first | with_reducible rfl | (simp (disch := omega) only [nI_add, nI_1, en_m1, en_s1, pk_sub, pk_mul, en_32, en_a2, en_a3, en_p32, en_s32, en_p2, en_s2, en_s3] <;> exact congrArg nI (by omega)) | exact congrArg nI (by omega) | rfl) (hb : b < 2 ^ 31 := by omega) : (x ≤ y → A) ∧ (¬ x ≤ y → B) := by
  subst hx hy
  exact br_t (nI_le h hb) p
theorem en_le {x y : Int32} {A B : Prop} (a b : Nat) (h : b < a) (p : B) (hx : x = nI a := by first | with_reducible rfl | (simp (disch := omega) only [nI_add, nI_1, en_m1, en_s1, pk_sub, pk_mul, en_32, en_a2, en_a3, en_p32, en_s32, en_p2, en_s2, en_s3] <;> exact congrArg nI (by omega)) | exact congrArg nI (by omega) | rfl) (hy : y = nI b := by first | with_reducible rfl | (simp (disch := omega) only [nI_add, nI_1, en_m1, en_s1, pk_sub, pk_mul, en_32, en_a2, en_a3, en_p32, en_s32, en_p2, en_s2, en_s3] <;> exact congrArg nI (by omega)) | exact congrArg nI (by omega) | rfl) (ha : a < 2 ^ 31 := by omega) : (x ≤ y → A) ∧ (¬ x ≤ y → B) := by
  subst hx hy
  exact br_f (nI_ge h ha) p
theorem ey_lt {x y : Int32} {A B : Prop} (a b : Nat) (h : a < b) (p : A) (hx : x = nI a := by first | with_reducible rfl | (simp (disch := omega) only [nI_add, nI_1, en_m1, en_s1, pk_sub, pk_mul, en_32, en_a2, en_a3, en_p32, en_s32, en_p2, en_s2, en_s3] <;> exact congrArg nI (by omega)) | exact congrArg nI (by omega) | rfl) (hy : y = nI b := by first | with_reducible rfl | (simp (disch := omega) only [nI_add, nI_1, en_m1, en_s1, pk_sub, pk_mul, en_32, en_a2, en_a3, en_p32, en_s32, en_p2, en_s2, en_s3] <;> exact congrArg nI (by omega)) | exact congrArg nI (by omega) | rfl) (hb : b < 2 ^ 31 := by omega) : (x < y → A) ∧ (¬ x < y → B) := by
  subst hx hy
  exact br_t (nI_lt h hb) p
theorem en_lt {x y : Int32} {A B : Prop} (a b : Nat) (h : b ≤ a) (p : B) (hx : x = nI a := by first | with_reducible rfl | (simp (disch := omega) only [nI_add, nI_1, en_m1, en_s1, pk_sub, pk_mul, en_32, en_a2, en_a3, en_p32, en_s32, en_p2, en_s2, en_s3] <;> exact congrArg nI (by omega)) | exact congrArg nI (by omega) | rfl) (hy : y = nI b := by first | with_reducible rfl | (simp (disch := omega) only [nI_add, nI_1, en_m1, en_s1, pk_sub, pk_mul, en_32, en_a2, en_a3, en_p32, en_s32, en_p2, en_s2, en_s3] <;> exact congrArg nI (by omega)) | exact congrArg nI (by omega) | rfl) (ha : a < 2 ^ 31 := by omega) : (x < y → A) ∧ (¬ x < y → B) := by
  subst hx hy
  exact br_f (nI_nlt h ha) p
theorem ey_eq {x y : Int32} {A B : Prop} (a b : Nat) (h : a = b) (p : A) (hx : x = nI a := by first | with_reducible rfl | (simp (disch := omega) only [nI_add, nI_1, en_m1, en_s1, pk_sub, pk_mul, en_32, en_a2, en_a3, en_p32, en_s32, en_p2, en_s2, en_s3] <;> exact congrArg nI (by omega)) | exact congrArg nI (by omega) | rfl) (hy : y = nI b := by first | with_reducible rfl | (simp (disch := omega) only [nI_add, nI_1, en_m1, en_s1, pk_sub, pk_mul, en_32, en_a2, en_a3, en_p32, en_s32, en_p2, en_s2, en_s3] <;> exact congrArg nI (by omega)) | exact congrArg nI (by omega) | rfl) : (x = y → A) ∧ (¬ x = y → B) := by
  subst hx hy h
  exact br_t rfl p
theorem en_eq {x y : Int32} {A B : Prop} (a b : Nat) (h : a ≠ b) (p : B) (hx : x = nI a := by first | with_reducible rfl | (simp (disch := omega) only [nI_add, nI_1, en_m1, en_s1, pk_sub, pk_mul, en_32, en_a2, en_a3, en_p32, en_s32, en_p2, en_s2, en_s3] <;> exact congrArg nI (by omega)) | exact congrArg nI (by omega) | rfl) (hy : y = nI b := by first | with_reducible rfl | (simp (disch := omega) only [nI_add, nI_1, en_m1, en_s1, pk_sub, pk_mul, en_32, en_a2, en_a3, en_p32, en_s32, en_p2, en_s2, en_s3] <;> exact congrArg nI (by omega)) | exact congrArg nI (by omega) | rfl) (ha : a < 2 ^ 31 := by omega) (hb : b < 2 ^ 31 := by omega) : (x = y → A) ∧ (¬ x = y → B) := by
  subst hx hy
  exact br_f (fun z => h ((nI_eq ha hb).mp z)) p
theorem en_in {x : Int32} {N : Nat} (n : Nat) (h : n < N) (hx : x = nI n := by first | with_reducible rfl | (simp (disch := omega) only [nI_add, nI_1, en_m1, en_s1, pk_sub, pk_mul, en_32, en_a2, en_a3, en_p32, en_s32, en_p2, en_s2, en_s3] <;> exact congrArg nI (by omega)) | exact congrArg nI (by omega) | rfl) (hN : N < 2 ^ 31 := by omega) : vp_in x N := by
  subst hx
  exact vp_in_nI h hN
theorem en_g {f : Nat → Int32} {x : Int32} (n : Nat) (hx : x = nI n := by first | with_reducible rfl | (simp (disch := omega) only [nI_add, nI_1, en_m1, en_s1, pk_sub, pk_mul, en_32, en_a2, en_a3, en_p32, en_s32, en_p2, en_s2, en_s3] <;> exact congrArg nI (by omega)) | exact congrArg nI (by omega) | rfl) (h : n < 2 ^ 31 := by omega) : f x.toNatClampNeg = f n := by
  subst hx
  rw [nI_clamp h]
theorem en_u {f : Nat → Int32} {x v v' : Int32} (n : Nat) (hv : v = v' := by rfl) (hx : x = nI n := by first | with_reducible rfl | (simp (disch := omega) only [nI_add, nI_1, en_m1, en_s1, pk_sub, pk_mul, en_32, en_a2, en_a3, en_p32, en_s32, en_p2, en_s2, en_s3] <;> exact congrArg nI (by omega)) | exact congrArg nI (by omega) | rfl) (h : n < 2 ^ 31 := by omega) : upd f x.toNatClampNeg v = upd f n v' := by
  subst hx hv
  rw [nI_clamp h]
theorem en_pos {x : Int32} (n : Nat) (hx : x = nI n := by first | with_reducible rfl | (simp (disch := omega) only [nI_add, nI_1, en_m1, en_s1, pk_sub, pk_mul, en_32, en_a2, en_a3, en_p32, en_s32, en_p2, en_s2, en_s3] <;> exact congrArg nI (by omega)) | exact congrArg nI (by omega) | rfl) (h : n < 2 ^ 31 := by omega) : ¬ x < 0 := by
  subst hx
  exact nI_pos h
end
section
/-! A: copying. c cells of f from a on, laid into g from b on -/
def ec_cp (f : Nat → Int32) (a : Nat) (g : Nat → Int32) (b c : Nat) : Nat → Int32 :=
  fun j => if b ≤ j ∧ j < b + c then f (a + (j - b)) else g j
theorem ec_i {f g : Nat → Int32} {a b c j : Nat} (h1 : b ≤ j) (h2 : j < b + c) : ec_cp f a g b c j = f (a + (j - b)) := if_pos ⟨h1, h2⟩
theorem ec_o {f g : Nat → Int32} {a b c j : Nat} (h : ¬ (b ≤ j ∧ j < b + c)) : ec_cp f a g b c j = g j := if_neg h
theorem ec_k {f g : Nat → Int32} {a b c i : Nat} (h : i < c) : ec_cp f a g b c (b + i) = f (a + i) := by
  rw [ec_i (by omega) (by omega), show b + i - b = i by omega]
theorem ec_us {f : Nat → Int32} {k : Nat} {x : Int32} : upd f k x k = x := if_pos rfl
theorem ec_un {f : Nat → Int32} {k j : Nat} {x : Int32} (h : j ≠ k) : upd f k x j = f j := if_neg h
theorem ec_0 (f : Nat → Int32) (a : Nat) (g : Nat → Int32) (b : Nat) : ec_cp f a g b 0 = g := by
  funext j
  exact ec_o (by omega)
theorem ec_s (f : Nat → Int32) (a : Nat) (g : Nat → Int32) (b c : Nat) : upd (ec_cp f a g b c) (b + c) (f (a + c)) = ec_cp f a g b (c + 1) := by
  funext j
  by_cases h : j = b + c
  · subst h
    rw [ec_us, ec_k (by omega)]
  · rw [ec_un h]
    by_cases h2 : b ≤ j ∧ j < b + c
    · rw [ec_i h2.1 h2.2, ec_i h2.1 (by omega)]
    · rw [ec_o h2, ec_o (by omega)]
/-- the same, downward -/
theorem ec_d (f : Nat → Int32) (a : Nat) (g : Nat → Int32) (b c : Nat) : upd (ec_cp f (a + 1) g (b + 1) c) b (f a) = ec_cp f a g b (c + 1) := by
  funext j
  by_cases h : j = b
  · subst h
    rw [ec_us, ec_i (by omega) (by omega), Nat.sub_self, Nat.add_zero]
  · rw [ec_un h]
    by_cases h2 : b ≤ j ∧ j < b + (c + 1)
    · rw [ec_i (b := b + 1) (by omega) (by omega), ec_i h2.1 h2.2, show a + 1 + (j - (b + 1)) = a + (j - b) by omega]
    · rw [ec_o h2, ec_o (by omega)]
/-- a block ahead of a block -/
theorem ec_j (f : Nat → Int32) (a : Nat) (g : Nat → Int32) (b c d : Nat) : ec_cp f a (ec_cp f (a + c) g (b + c) d) b c = ec_cp f a g b (c + d) := by
  funext j
  by_cases h : b ≤ j ∧ j < b + c
  · rw [ec_i h.1 h.2, ec_i h.1 (by omega)]
  · rw [ec_o h]
    by_cases h2 : b + c ≤ j ∧ j < b + c + d
    · rw [ec_i h2.1 h2.2, ec_i (by omega) (by omega), show a + c + (j - (b + c)) = a + (j - b) by omega]
    · rw [ec_o h2, ec_o (by omega)]
/-- a block behind a block -/
theorem ec_b (f : Nat → Int32) (a : Nat) (g : Nat → Int32) (b c d : Nat) : ec_cp f (a + c) (ec_cp f a g b c) (b + c) d = ec_cp f a g b (c + d) := by
  funext j
  by_cases h : b + c ≤ j ∧ j < b + c + d
  · rw [ec_i h.1 h.2, ec_i (by omega) (by omega), show a + c + (j - (b + c)) = a + (j - b) by omega]
  · rw [ec_o h]
    by_cases h2 : b ≤ j ∧ j < b + c
    · rw [ec_i h2.1 h2.2, ec_i h2.1 (by omega)]
    · rw [ec_o h2, ec_o (by omega)]

/-! B: two texts agree, and hold no negative code -/
def eg (f g : Nat → Int32) (a b n : Nat) : Prop := ∀ j, j < n → f (a + j) = g (b + j) ∧ ¬ g (b + j) < 0
theorem eg_0 {f g : Nat → Int32} {a b : Nat} : eg f g a b 0 := fun _ h => absurd h (by omega)
theorem eg_le {f g : Nat → Int32} {a b n m : Nat} (h : eg f g a b n) (hm : m ≤ n) : eg f g a b m := fun j hj => h j (by omega)
theorem eg_at {f g : Nat → Int32} {n j : Nat} (h : eg f g 0 0 n) (hj : j < n) : f j = g j ∧ ¬ g j < 0 := by
  have := h j hj
  rw [Nat.zero_add] at this
  exact this
theorem eg_sub {f g : Nat → Int32} {a b n i m : Nat} (h : eg f g a b n) (hm : i + m ≤ n) : eg f g (a + i) (b + i) m := by
  intro j hj
  rw [Nat.add_assoc, Nat.add_assoc]
  exact h (i + j) (by omega)
theorem eg_app {f g : Nat → Int32} {a b n m : Nat} (h : eg f g a b n) (h2 : eg f g (a + n) (b + n) m) : eg f g a b (n + m) := by
  intro j hj
  by_cases c : j < n
  · exact h j c
  · have := h2 (j - n) (by omega)
    rw [show a + n + (j - n) = a + j by omega, show b + n + (j - n) = b + j by omega] at this
    exact this
/-- what was copied agrees, as far as both copied it -/
theorem eg_cp {f g F G : Nat → Int32} {a b p q n c d : Nat} (h : eg f g a b n) (hc : n ≤ c) (hd : n ≤ d) : eg (ec_cp f a F p c) (ec_cp g b G q d) p q n := by
  intro j hj
  rw [ec_k (by omega), ec_k (by omega)]
  exact h j hj
/-- what lies outside stays -/
theorem eg_kp {f g F G : Nat → Int32} {a b p q n s t c d : Nat} (h : eg F G p q n) (hp : p + n ≤ s ∨ s + c ≤ p) (hq : q + n ≤ t ∨ t + d ≤ q) : eg (ec_cp f a F s c) (ec_cp g b G t d) p q n := by
  intro j hj
  rw [ec_o (by omega), ec_o (by omega)]
  exact h j hj
theorem eg_u {F G : Nat → Int32} {p q n s t : Nat} {x y : Int32} (h : eg F G p q n) (hp : p + n ≤ s ∨ s < p) (hq : q + n ≤ t ∨ t < q) : eg (upd F s x) (upd G t y) p q n := by
  intro j hj
  rw [ec_un (by omega), ec_un (by omega)]
  exact h j hj
theorem eg_1 {F G : Nat → Int32} {p q : Nat} {x : Int32} (hx : ¬ x < 0) : eg (upd F p x) (upd G q x) p q 1 := by
  intro j hj
  obtain rfl : j = 0 := by omega
  rw [Nat.add_zero, Nat.add_zero, ec_us, ec_us]
  exact ⟨rfl, hx⟩
/-- a gap of c cells opened at k -/
theorem eg_gap {f g : Nat → Int32} {n k c : Nat} (h : eg f g 0 0 n) (hk : k ≤ n) : eg (ec_cp f k f (k + c) (n - k)) (ec_cp g k g (k + c) (n - k)) (k + c) (k + c) (n - k) := by
  refine eg_cp ?_ (by omega) (by omega)
  have := eg_sub (i := k) (m := n - k) h (by omega)
  rw [Nat.zero_add] at this
  exact this
theorem eg_ins {f g s t : Nat → Int32} {n k c a b : Nat} (h : eg f g 0 0 n) (hk : k ≤ n) (hs : eg s t a b c) : eg (ec_cp s a (ec_cp f k f (k + c) (n - k)) k c) (ec_cp t b (ec_cp g k g (k + c) (n - k)) k c) 0 0 (n + c) := by
  have h1 : eg (ec_cp s a (ec_cp f k f (k + c) (n - k)) k c) (ec_cp t b (ec_cp g k g (k + c) (n - k)) k c) 0 0 k := eg_kp (eg_kp (eg_le h hk) (by omega) (by omega)) (by omega) (by omega)
  have h2 : eg (ec_cp s a (ec_cp f k f (k + c) (n - k)) k c) (ec_cp t b (ec_cp g k g (k + c) (n - k)) k c) (0 + k) (0 + k) c := by
    rw [Nat.zero_add]
    exact eg_cp hs (Nat.le_refl _) (Nat.le_refl _)
  have h3 : eg (ec_cp s a (ec_cp f k f (k + c) (n - k)) k c) (ec_cp t b (ec_cp g k g (k + c) (n - k)) k c) (0 + (k + c)) (0 + (k + c)) (n - k) := by
    rw [Nat.zero_add]
    exact eg_kp (eg_gap h hk) (by omega) (by omega)
  have := eg_app (eg_app h1 h2) h3
  rw [show k + c + (n - k) = n + c by omega] at this
  exact this
/-- one char put at k: upd is a copy of one cell -/
theorem ec_u1 (g : Nat → Int32) (k : Nat) (x : Int32) : upd g k x = ec_cp (fun _ => x) 0 g k 1 := by
  have := ec_s (fun _ => x) 0 g k 0
  rw [ec_0, Nat.add_zero] at this
  exact this
theorem eg_ins1 {f g : Nat → Int32} {n k : Nat} {x : Int32} (h : eg f g 0 0 n) (hk : k ≤ n) (hx : ¬ x < 0) : eg (upd (ec_cp f k f (k + 1) (n - k)) k x) (upd (ec_cp g k g (k + 1) (n - k)) k x) 0 0 (n + 1) := by
  rw [ec_u1, ec_u1]
  exact eg_ins h hk (fun _ _ => ⟨rfl, hx⟩)
/-- c cells taken out at a; the one side may hold anything behind -/
theorem eg_del {f g g' : Nat → Int32} {n a c : Nat} (h : eg f g 0 0 n) (ha : a + c ≤ n) (hg : ∀ i, i < n - c → g' i = ec_cp g (a + c) g a (n - a - c) i) : eg (ec_cp f (a + c) f a (n - a - c)) g' 0 0 (n - c) := by
  have h1 : eg (ec_cp f (a + c) f a (n - a - c)) (ec_cp g (a + c) g a (n - a - c)) 0 0 a := eg_kp (eg_le h (by omega)) (by omega) (by omega)
  have h2 : eg (ec_cp f (a + c) f a (n - a - c)) (ec_cp g (a + c) g a (n - a - c)) (0 + a) (0 + a) (n - a - c) := by
    rw [Nat.zero_add]
    refine eg_cp ?_ (by omega) (by omega)
    have := eg_sub (i := a + c) (m := n - a - c) h (by omega)
    rw [Nat.zero_add] at this
    exact this
  have h3 := eg_app h1 h2
  rw [show a + (n - a - c) = n - c by omega] at h3
  intro j hj
  have h4 := h3 j hj
  rw [Nat.zero_add] at h4 ⊢
  rw [hg j hj]
  exact h4
/-- one step of a copy onto itself, towards the front -/
theorem ec_up {f : Nat → Int32} {a b : Nat} (h : b ≤ a) (c : Nat) : upd (ec_cp f a f b c) (b + c) (ec_cp f a f b c (a + c)) = ec_cp f a f b (c + 1) := by
  rw [ec_o (j := a + c) (by omega)]
  exact ec_s f a f b c
/-- .. and away from it, downward -/
theorem ec_dn {f : Nat → Int32} {a b : Nat} (h : a ≤ b) (c : Nat) : upd (ec_cp f (a + 1) f (b + 1) c) b (ec_cp f (a + 1) f (b + 1) c a) = ec_cp f a f b (c + 1) := by
  rw [ec_o (j := a) (by omega)]
  exact ec_d f a f b c
/-- the reference's inserts, one char a time: r from a on, put at k into f of n chars -/
theorem ec_in {f r : Nat → Int32} {n k a j : Nat} (hk : k ≤ n) :
    upd (ec_cp (ec_cp r a (ec_cp f k f (k + j) (n - k)) k j) (k + j) (ec_cp r a (ec_cp f k f (k + j) (n - k)) k j) (k + j + 1) (n - k)) (k + j) (r (a + j))
      = ec_cp r a (ec_cp f k f (k + (j + 1)) (n - k)) k (j + 1) := by
  funext i
  by_cases h : i = k + j
  · subst h
    rw [ec_us, ec_k (by omega)]
  · rw [ec_un h]
    by_cases h1 : k + j + 1 ≤ i ∧ i < k + j + 1 + (n - k)
    · rw [ec_i h1.1 h1.2, ec_o (by omega), ec_i (by omega) (by omega), ec_o (by omega), ec_i (by omega) (by omega)]
      exact congrArg f (by omega)
    · rw [ec_o h1]
      by_cases h2 : k ≤ i ∧ i < k + j
      · rw [ec_i h2.1 h2.2, ec_i (by omega) (by omega)]
      · rw [ec_o h2, ec_o (by omega), ec_o (by omega), ec_o (by omega)]
/-- .. and its removals: below the new length it is one copy -/
theorem ec_re {f g : Nat → Int32} {n a j : Nat} (h : a + j < n) (hg : ∀ i, i < n - j → g i = ec_cp f (a + j) f a (n - a - j) i) :
    ∀ i, i < n - (j + 1) → ec_cp g (a + 1) g a (n - j - 1 - a) i = ec_cp f (a + (j + 1)) f a (n - a - (j + 1)) i := by
  intro i hi
  by_cases h1 : a ≤ i
  · rw [ec_i h1 (by omega), hg _ (by omega), ec_i (by omega) (by omega), ec_i h1 (by omega)]
    exact congrArg f (by omega)
  · rw [ec_o (by omega), hg _ (by omega), ec_o (by omega), ec_o (by omega)]
theorem ec_re0 {f : Nat → Int32} {n a : Nat} : ∀ i, i < n - 0 → f i = ec_cp f (a + 0) f a (n - a - 0) i := by
  intro i hi
  by_cases h1 : a ≤ i ∧ i < a + (n - a - 0)
  · rw [ec_i h1.1 h1.2]
    exact congrArg f (by omega)
  · rw [ec_o h1]
/-- the reference's ring shift: one block of 32 more -/
theorem ec_bl {f : Nat → Int32} {e t : Nat} : ec_cp f (e * 32) (ec_cp f ((e + 1) * 32) f ((e + 1) * 32 + 32) (t * 32)) ((e + 1) * 32) 32 = ec_cp f (e * 32) f ((e + 1) * 32) ((t + 1) * 32) := by
  have h := ec_j f (e * 32) f ((e + 1) * 32) 32 (t * 32)
  rw [show e * 32 + 32 = (e + 1) * 32 by omega, show 32 + t * 32 = (t + 1) * 32 by omega] at h
  exact h
theorem ec_cc (f : Nat → Int32) (a c : Nat) : ec_cp f a f (a + 0) c = f := by
  funext i
  by_cases h : a ≤ i ∧ i < a + c
  · rw [Nat.add_zero, ec_i h.1 h.2]
    exact congrArg f (by omega)
  · exact ec_o h
/-- what j removals at a leave -/
def ez (f : Nat → Int32) (n a : Nat) : Nat → (Nat → Int32)
  | 0 => f
  | j + 1 => ec_cp (ez f n a j) (a + 1) (ez f n a j) a (n - j - 1 - a)
theorem ez_p {f : Nat → Int32} {n a : Nat} : ∀ c, a + c ≤ n → ∀ i, i < n - c → ez f n a c i = ec_cp f (a + c) f a (n - a - c) i := by
  intro c
  induction c with
  | zero => intro _; exact ec_re0
  | succ c ih => intro h; exact ec_re (by omega) (ih (by omega))
end
section
/-! C: lists of texts in slots of 32 cells. F, L: the component's texts and lengths; G, M: the reference's. History: the same slots -/
def eh (F L G M : Nat → Int32) (c : Nat) : Prop := ∀ i, i < c → ∃ l, l ≤ 32 ∧ L i = nI l ∧ M i = nI l ∧ eg F G (i * 32) (i * 32) l
theorem eh_0 {F L G M : Nat → Int32} : eh F L G M 0 := fun _ h => absurd h (by omega)
/-- the oldest dropped -/
theorem eh_drop {F L G M : Nat → Int32} {c : Nat} (h : eh F L G M (c + 1)) : eh (ec_cp F 32 F 0 (c * 32)) (ec_cp L 1 L 0 c) (ec_cp G 32 G 0 (c * 32)) (ec_cp M 1 M 0 c) c := by
  intro i hi
  obtain ⟨l, hl, h1, h2, h3⟩ := h (i + 1) (by omega)
  refine ⟨l, hl, ?_, ?_, ?_⟩
  · rw [ec_i (by omega) (by omega), show 1 + (i - 0) = i + 1 by omega, h1]
  · rw [ec_i (by omega) (by omega), show 1 + (i - 0) = i + 1 by omega, h2]
  · intro j hj
    rw [ec_i (by omega) (by omega), ec_i (by omega) (by omega), show 32 + (i * 32 + j - 0) = (i + 1) * 32 + j by omega]
    exact h3 j hj
/-- one appended; the reference copies all 32 cells -/
theorem eh_add {F L G M f g : Nat → Int32} {c n : Nat} (h : eh F L G M c) (hn : n ≤ 32) (hb : eg f g 0 0 n) : eh (ec_cp f 0 F (c * 32) n) (upd L c (nI n)) (ec_cp g 0 G (c * 32) 32) (upd M c (nI n)) (c + 1) := by
  intro i hi
  by_cases e : i = c
  · subst e
    exact ⟨n, hn, ec_us, ec_us, eg_cp hb (by omega) hn⟩
  · obtain ⟨l, hl, h1, h2, h3⟩ := h i (by omega)
    exact ⟨l, hl, (ec_un e).trans h1, (ec_un e).trans h2, eg_kp h3 (by omega) (by omega)⟩
/-- the undo stack: also the cursors -/
def eu (F L K G M P : Nat → Int32) (c : Nat) : Prop := ∀ i, i < c → ∃ l t, l ≤ 32 ∧ t ≤ l ∧ L i = nI l ∧ M i = nI l ∧ K i = nI t ∧ P i = nI t ∧ eg F G (i * 32) (i * 32) l
theorem eu_0 {F L K G M P : Nat → Int32} : eu F L K G M P 0 := fun _ h => absurd h (by omega)
theorem eu_le {F L K G M P : Nat → Int32} {c d : Nat} (h : eu F L K G M P c) (hd : d ≤ c) : eu F L K G M P d := fun i hi => h i (by omega)
theorem eu_drop {F L K G M P : Nat → Int32} {c : Nat} (h : eu F L K G M P (c + 1)) : eu (ec_cp F 32 F 0 (c * 32)) (ec_cp L 1 L 0 c) (ec_cp K 1 K 0 c) (ec_cp G 32 G 0 (c * 32)) (ec_cp M 1 M 0 c) (ec_cp P 1 P 0 c) c := by
  intro i hi
  obtain ⟨l, t, hl, ht, h1, h2, h3, h4, h5⟩ := h (i + 1) (by omega)
  have e : 1 + (i - 0) = i + 1 := by omega
  refine ⟨l, t, hl, ht, ?_, ?_, ?_, ?_, ?_⟩
  · rw [ec_i (by omega) (by omega), e, h1]
  · rw [ec_i (by omega) (by omega), e, h2]
  · rw [ec_i (by omega) (by omega), e, h3]
  · rw [ec_i (by omega) (by omega), e, h4]
  · intro j hj
    rw [ec_i (by omega) (by omega), ec_i (by omega) (by omega), show 32 + (i * 32 + j - 0) = (i + 1) * 32 + j by omega]
    exact h5 j hj
theorem eu_add {F L K G M P f g : Nat → Int32} {c n k : Nat} (h : eu F L K G M P c) (hn : n ≤ 32) (hk : k ≤ n) (hb : eg f g 0 0 n) : eu (ec_cp f 0 F (c * 32) n) (upd L c (nI n)) (upd K c (nI k)) (ec_cp g 0 G (c * 32) 32) (upd M c (nI n)) (upd P c (nI k)) (c + 1) := by
  intro i hi
  by_cases e : i = c
  · subst e
    exact ⟨n, k, hn, hk, ec_us, ec_us, ec_us, ec_us, eg_cp hb (by omega) hn⟩
  · obtain ⟨l, t, hl, ht, h1, h2, h3, h4, h5⟩ := h i (by omega)
    exact ⟨l, t, hl, ht, (ec_un e).trans h1, (ec_un e).trans h2, (ec_un e).trans h3, (ec_un e).trans h4, eg_kp h5 (by omega) (by omega)⟩

/-! D: the kill ring: the component's slot c - 1 - i is the reference's slot i -/
def ej (F L G M : Nat → Int32) (c : Nat) : Prop := ∀ i, i < c → ∃ l, l ≤ 32 ∧ L (c - 1 - i) = nI l ∧ M i = nI l ∧ eg F G ((c - 1 - i) * 32) (i * 32) l
theorem ej_0 {F L G M : Nat → Int32} : ej F L G M 0 := fun _ h => absurd h (by omega)
/-- a new entry, none dropped: the component writes slot c, the reference moves c entries up and writes slot 0 -/
theorem ej_new {F L G M f g : Nat → Int32} {c a n : Nat} (h : ej F L G M c) (hn : n ≤ 32) (hb : eg f g a a n) :
    ej (ec_cp f a F (c * 32) n) (upd (upd L c 0) c (nI n)) (ec_cp g a (ec_cp G 0 G 32 (c * 32)) 0 n) (upd (ec_cp M 0 M 1 c) 0 (nI n)) (c + 1) := by
  intro i hi
  by_cases e : i = 0
  · subst e
    rw [show c + 1 - 1 - 0 = c by omega, Nat.zero_mul]
    exact ⟨n, hn, ec_us, ec_us, eg_cp hb (Nat.le_refl _) (Nat.le_refl _)⟩
  · obtain ⟨l, hl, h1, h2, h3⟩ := h (i - 1) (by omega)
    have e1 : c + 1 - 1 - i = c - 1 - (i - 1) := by omega
    rw [e1]
    refine ⟨l, hl, ?_, ?_, ?_⟩
    · rw [ec_un (by omega), ec_un (by omega), h1]
    · rw [ec_un e, ec_i (by omega) (by omega), show 0 + (i - 1) = i - 1 by omega, h2]
    · intro j hj
      have h4 := h3 j hj
      rw [ec_o (by omega), ec_o (by omega), ec_i (by omega) (by omega), show 0 + (i * 32 + j - 32) = (i - 1) * 32 + j by omega]
      exact h4
/-- the same at a full ring: the component drops slot 0 first, the reference moves c entries of c + 1 -/
theorem ej_full {F L G M f g : Nat → Int32} {c a n : Nat} (h : ej F L G M (c + 1)) (hn : n ≤ 32) (hb : eg f g a a n) :
    ej (ec_cp f a (ec_cp F 32 F 0 (c * 32)) (c * 32) n) (upd (upd (ec_cp L 1 L 0 c) c 0) c (nI n)) (ec_cp g a (ec_cp G 0 G 32 (c * 32)) 0 n) (upd (ec_cp M 0 M 1 c) 0 (nI n)) (c + 1) := by
  refine ej_new ?_ hn hb
  intro i hi
  obtain ⟨l, hl, h1, h2, h3⟩ := h i (by omega)
  have e1 : c + 1 - 1 - i = c - 1 - i + 1 := by omega
  rw [e1] at h1 h3
  refine ⟨l, hl, ?_, h2, ?_⟩
  · rw [ec_i (by omega) (by omega), show 1 + (c - 1 - i - 0) = c - 1 - i + 1 by omega, h1]
  · intro j hj
    have h4 := h3 j hj
    rw [ec_i (by omega) (by omega), show 32 + ((c - 1 - i) * 32 + j - 0) = (c - 1 - i + 1) * 32 + j by omega]
    exact h4
/-- a kill that chains, forward -/
theorem ej_fwd {F L G M f g : Nat → Int32} {c a n s : Nat} (h : ej F L G M (c + 1)) (hs : M 0 = nI s) (hn : s + n ≤ 32) (hb : eg f g a a n) :
    ej (ec_cp f a F (c * 32 + s) n) (upd L c (nI (s + n))) (ec_cp g a G s n) (upd M 0 (nI (s + n))) (c + 1) := by
  intro i hi
  by_cases e : i = 0
  · subst e
    obtain ⟨l, hl, h1, h2, h3⟩ := h 0 (by omega)
    obtain rfl : l = s := (nI_eq (by omega) (by omega)).mp (h2.symm.trans hs)
    rw [show c + 1 - 1 - 0 = c by omega] at h1 h3 ⊢
    rw [Nat.zero_mul] at h3 ⊢
    refine ⟨l + n, hn, ec_us, ec_us, eg_app (eg_kp h3 (by omega) (by omega)) ?_⟩
    rw [Nat.zero_add]
    exact eg_cp hb (Nat.le_refl _) (Nat.le_refl _)
  · obtain ⟨l, hl, h1, h2, h3⟩ := h i (by omega)
    exact ⟨l, hl, (ec_un (by omega)).trans h1, (ec_un e).trans h2, eg_kp h3 (by omega) (by omega)⟩
/-- .. and backward -/
theorem ej_bwd {F L G M f g : Nat → Int32} {c a n s : Nat} (h : ej F L G M (c + 1)) (hs : M 0 = nI s) (hn : s + n ≤ 32) (hb : eg f g a a n) :
    ej (ec_cp f a (ec_cp F (c * 32) F (c * 32 + n) s) (c * 32) n) (upd L c (nI (s + n))) (ec_cp g a (ec_cp G 0 G n s) 0 n) (upd M 0 (nI (s + n))) (c + 1) := by
  intro i hi
  by_cases e : i = 0
  · subst e
    obtain ⟨l, hl, h1, h2, h3⟩ := h 0 (by omega)
    obtain rfl : l = s := (nI_eq (by omega) (by omega)).mp (h2.symm.trans hs)
    rw [show c + 1 - 1 - 0 = c by omega] at h1 h3 ⊢
    rw [Nat.zero_mul] at h3 ⊢
    refine ⟨l + n, hn, ec_us, ec_us, ?_⟩
    rw [Nat.add_comm l n]
    refine eg_app (eg_cp hb (Nat.le_refl _) (Nat.le_refl _)) ?_
    rw [Nat.zero_add]
    exact eg_kp (eg_cp h3 (Nat.le_refl _) (Nat.le_refl _)) (by omega) (by omega)
  · obtain ⟨l, hl, h1, h2, h3⟩ := h i (by omega)
    exact ⟨l, hl, (ec_un (by omega)).trans h1, (ec_un e).trans h2, eg_kp (eg_kp h3 (by omega) (by omega)) (by omega) (by omega)⟩
end
section
/-! E: words. es: downward from t over cells that are (w) word chars; et: upward, d cells left -/
abbrev ew (c : Int32) : Prop := (48 ≤ c ∧ c ≤ 57) ∨ (65 ≤ c ∧ c ≤ 90) ∨ (97 ≤ c ∧ c ≤ 122)
def es (f : Nat → Int32) (w : Bool) : Nat → Nat
  | 0 => 0
  | t + 1 => if decide (ew (f t)) = w then es f w t else t + 1
def et (f : Nat → Int32) (w : Bool) : Nat → Nat → Nat
  | 0, t => t
  | d + 1, t => if decide (ew (f t)) = w then et f w d (t + 1) else t
theorem es_s (f : Nat → Int32) (w : Bool) (t : Nat) : es f w (t + 1) = if decide (ew (f t)) = w then es f w t else t + 1 := rfl
theorem et_s (f : Nat → Int32) (w : Bool) (d t : Nat) : et f w (d + 1) t = if decide (ew (f t)) = w then et f w d (t + 1) else t := rfl
theorem es_le (f : Nat → Int32) (w : Bool) : ∀ t, es f w t ≤ t := by
  intro t
  induction t with
  | zero => exact Nat.le_refl _
  | succ t ih =>
    rw [es_s]
    split
    · omega
    · omega
theorem et_le (f : Nat → Int32) (w : Bool) : ∀ d t, t ≤ et f w d t ∧ et f w d t ≤ t + d := by
  intro d
  induction d with
  | zero => intro t; exact ⟨Nat.le_refl _, Nat.le_refl _⟩
  | succ d ih =>
    intro t
    rw [et_s]
    have := ih (t + 1)
    split
    · omega
    · omega
theorem es_c {f g : Nat → Int32} {w : Bool} : ∀ t, (∀ j, j < t → f j = g j) → es f w t = es g w t := by
  intro t
  induction t with
  | zero => intro _; rfl
  | succ t ih =>
    intro h
    rw [es_s, es_s, h t (by omega), ih (fun j hj => h j (by omega))]
theorem et_c {f g : Nat → Int32} {w : Bool} : ∀ d t, (∀ j, j < t + d → f j = g j) → et f w d t = et g w d t := by
  intro d
  induction d with
  | zero => intro t _; rfl
  | succ d ih =>
    intro t h
    rw [et_s, et_s, h t (by omega), ih (t + 1) (fun j hj => h j (by omega))]
def ewl (f : Nat → Int32) (k : Nat) : Nat := es f true (es f false k)
def ewr (f : Nat → Int32) (n k : Nat) : Nat := et f true (n - et f false (n - k) k) (et f false (n - k) k)
theorem ewl_le (f : Nat → Int32) (k : Nat) : ewl f k ≤ k := Nat.le_trans (es_le f true _) (es_le f false k)
theorem ewr_le {f : Nat → Int32} {n k : Nat} (hk : k ≤ n) : k ≤ ewr f n k ∧ ewr f n k ≤ n := by
  have h1 := et_le f false (n - k) k
  have h2 := et_le f true (n - et f false (n - k) k) (et f false (n - k) k)
  unfold ewr
  omega
theorem ewl_c {f g : Nat → Int32} {k : Nat} (h : ∀ j, j < k → f j = g j) : ewl f k = ewl g k := by
  unfold ewl
  rw [es_c (w := false) k h]
  exact es_c _ (fun j hj => h j (Nat.lt_of_lt_of_le hj (es_le g false k)))
theorem ewr_c {f g : Nat → Int32} {n k : Nat} (hk : k ≤ n) (h : ∀ j, j < n → f j = g j) : ewr f n k = ewr g n k := by
  unfold ewr
  rw [et_c (w := false) (n - k) k (fun j hj => h j (by omega))]
  have h1 := et_le g false (n - k) k
  exact et_c _ _ (fun j hj => h j (by omega))

/-! F: the search. ex: the first z chars of q stand in h from a on; eo: the least start s, d left to try, the entry at a; ef: the newest entry below i -/
abbrev ex (h q : Nat → Int32) (a z : Nat) : Prop := ∀ j, j < z → h (a + j) = q j
def eo (h q : Nat → Int32) (a z : Nat) : Nat → Nat → Option Nat
  | 0, _ => none
  | d + 1, s => if ex h q (a + s) z then some s else eo h q a z d (s + 1)
theorem eo_s (h q : Nat → Int32) (a z d s : Nat) : eo h q a z (d + 1) s = if ex h q (a + s) z then some s else eo h q a z d (s + 1) := rfl
theorem eo_some {h q : Nat → Int32} {a z r : Nat} : ∀ d s, eo h q a z d s = some r → s ≤ r ∧ r < s + d ∧ ex h q (a + r) z := by
  intro d
  induction d with
  | zero => intro s e; exact absurd e (by simp [eo])
  | succ d ih =>
    intro s e
    rw [eo_s] at e
    split at e
    · obtain rfl := Option.some.inj e
      exact ⟨Nat.le_refl _, by omega, by assumption⟩
    · have := ih (s + 1) e
      exact ⟨by omega, by omega, this.2.2⟩
theorem eo_none {h q : Nat → Int32} {a z r : Nat} : ∀ d s, eo h q a z d s = none → s ≤ r → r < s + d → ¬ ex h q (a + r) z := by
  intro d
  induction d with
  | zero => intro s _ h1 h2; omega
  | succ d ih =>
    intro s e h1 h2
    rw [eo_s] at e
    split at e
    · exact absurd e (by simp)
    · by_cases c : r = s
      · subst c; assumption
      · exact ih (s + 1) e (by omega) (by omega)
theorem ex_c {h g q p : Nat → Int32} {a z : Nat} (H : ∀ j, j < z → h (a + j) = g (a + j)) (Q : ∀ j, j < z → q j = p j) : ex h q a z ↔ ex g p a z := by
  constructor
  · intro e j hj
    rw [← H j hj, ← Q j hj]
    exact e j hj
  · intro e j hj
    rw [H j hj, Q j hj]
    exact e j hj
theorem eo_c {h g q p : Nat → Int32} {a z : Nat} (Q : ∀ j, j < z → q j = p j) : ∀ d s, (∀ j, j + 1 < s + d + z → h (a + j) = g (a + j)) → eo h q a z d s = eo g p a z d s := by
  intro d
  induction d with
  | zero => intro s _; rfl
  | succ d ih =>
    intro s H
    have e : ex h q (a + s) z ↔ ex g p (a + s) z := ex_c (fun j hj => by
      have := H (s + j) (by omega)
      rw [← Nat.add_assoc] at this
      exact this) Q
    rw [eo_s, eo_s, ih (s + 1) (fun j hj => H j (by omega))]
    by_cases c : ex h q (a + s) z
    · rw [if_pos c, if_pos (e.mp c)]
    · rw [if_neg c, if_neg (fun z => c (e.mpr z))]
/-- the least start in entry i, whose length stands in L -/
def ei (h L q : Nat → Int32) (z i : Nat) : Option Nat := eo h q (i * 32) z ((L i).toNatClampNeg + 1 - z) 0
def ef (h L q : Nat → Int32) (z : Nat) : Nat → Option (Nat × Nat)
  | 0 => none
  | i + 1 => match ei h L q z i with
    | some s => some (i, s)
    | none => ef h L q z i
theorem ef_s (h L q : Nat → Int32) (z i : Nat) : ef h L q z (i + 1) = match ei h L q z i with
    | some s => some (i, s)
    | none => ef h L q z i := rfl
theorem ef_some {h L q : Nat → Int32} {z m s : Nat} : ∀ i, ef h L q z i = some (m, s) → m < i ∧ ei h L q z m = some s := by
  intro i
  induction i with
  | zero => intro e; exact absurd e (by simp [ef])
  | succ i ih =>
    intro e
    rw [ef_s] at e
    split at e
    · rename_i s' hs
      have e2 := Option.some.inj e
      obtain rfl := congrArg Prod.fst e2
      obtain rfl := congrArg Prod.snd e2
      exact ⟨by omega, hs⟩
    · have := ih e
      exact ⟨by omega, this.2⟩
/-- the answer of a search for a start -/
def er : Option Nat → Int32
  | some s => nI s
  | none => -1
theorem ei_c {H HL G GL q p : Nat → Int32} {c z i : Nat} (h : eh H HL G GL c) (hi : i < c) (Q : ∀ j, j < z → q j = p j) : ei H HL q z i = ei G GL p z i := by
  obtain ⟨l, hl, h1, h2, h3⟩ := h i hi
  unfold ei
  rw [h1, h2, nI_clamp (by omega)]
  by_cases c0 : l + 1 - z = 0
  · rw [c0]; rfl
  · exact eo_c Q _ _ (fun j hj => (h3 j (by omega)).1)
theorem ef_c {H HL G GL q p : Nat → Int32} {c z : Nat} (h : eh H HL G GL c) (Q : ∀ j, j < z → q j = p j) : ∀ i, i ≤ c → ef H HL q z i = ef G GL p z i := by
  intro i
  induction i with
  | zero => intro _; rfl
  | succ i ih =>
    intro hi
    rw [ef_s, ef_s, ei_c h (by omega) Q, ih (by omega)]
/-- what a found start says -/
theorem ei_some {H HL q : Nat → Int32} {z i l s : Nat} (hl : l ≤ 32) (e : HL i = nI l) (h : ei H HL q z i = some s) : s + z ≤ l ∧ ex H q (i * 32 + s) z := by
  unfold ei at h
  rw [e, nI_clamp (by omega)] at h
  have := eo_some _ _ h
  exact ⟨by omega, this.2.2⟩
/-- where the longer query stands the shorter is found -/
theorem ei_less {H HL q : Nat → Int32} {z y i l s : Nat} (hl : l ≤ 32) (e : HL i = nI l) (h : s + z ≤ l) (hx : ex H q (i * 32 + s) z) (hy : y ≤ z) : ∃ t, ei H HL q y i = some t := by
  cases c : ei H HL q y i with
  | some t => exact ⟨t, rfl⟩
  | none =>
    unfold ei at c
    rw [e, nI_clamp (by omega)] at c
    exact absurd (fun j hj => hx j (by omega)) (eo_none (r := s) _ _ c (by omega) (by omega))
end
section
/-! G: the relation. eN bounds; eL what the last key left; eS the search; eC all that both sides keep; eP the component's picture of itself -/
abbrev eN (w hh rr n k hc nav dn kc ud ql : Nat) : Prop := (4 ≤ w ∧ w ≤ 16) ∧ (1 ≤ hh ∧ hh ≤ 8) ∧ (1 ≤ rr ∧ rr ≤ 4) ∧ (n ≤ 32 ∧ k ≤ n) ∧ (hc ≤ hh ∧ nav ≤ hc) ∧ dn ≤ 32 ∧ kc ≤ rr ∧ ud ≤ 8 ∧ ql ≤ 16
def eL (la kc n k y : Nat) (RL' : Nat → Int32) : Prop := la ≤ 3 ∧ (la = 2 → 1 ≤ kc ∧ ∃ s, RL' 0 = nI s ∧ s + n ≤ 32) ∧ (la = 3 → y < kc ∧ ∃ s, RL' y = nI s ∧ s ≤ k)
def eS (mo : Nat) (m : Int32) (hc ql p la : Nat) (H' HL' Q' : Nat → Int32) : Prop := (mo = 0 ∧ m = -1 ∧ ql = 0) ∨ (mo = 1 ∧ la = 0 ∧ ((m = -1 ∧ ql = 0) ∨ ∃ i l, m = nI i ∧ i < hc ∧ HL' i = nI l ∧ l ≤ 32 ∧ p + ql ≤ l ∧ ex H' Q' (i * 32 + p) ql))
def eC (w hh rr n k hc nav dn kc y ud mo la ql p : Nat) (m : Int32) (B H HL D R RL U UL UK Q B' H' HL' D' R' RL' U' UL' UK' Q' : Nat → Int32) : Prop :=
  eN w hh rr n k hc nav dn kc ud ql ∧ eg B B' 0 0 n ∧ eh H HL H' HL' hc ∧ eg D D' 0 0 dn ∧ ej R RL R' RL' kc ∧ eu U UL UK U' UL' UK' ud ∧ eg Q Q' 0 0 ql ∧ eL la kc n k y RL' ∧ eS mo m hc ql p la H' HL' Q'
def eP (w n k mo ql p : Nat) (m : Int32) (B H HL Q : Nat → Int32) (dl dc : Nat) (DS SC : Nat → Int32) : Prop :=
  dl ≤ 51 ∧ dc ≤ dl ∧ (∀ i, i < 16 * w → SC i = if i < dl then DS i else 32) ∧
  ((mo = 0 ∧ dl = 2 + n ∧ dc = 2 + k ∧ DS 0 = 62 ∧ DS 1 = 32 ∧ ∀ j, j < n → DS (2 + j) = B j) ∨
   (mo = 1 ∧ DS 0 = 63 ∧ (∀ j, j < ql → DS (1 + j) = Q j) ∧ DS (1 + ql) = 58 ∧ DS (2 + ql) = 32 ∧
    ((m = -1 ∧ dl = 3 + ql + n ∧ dc = 3 + ql + k ∧ ∀ j, j < n → DS (3 + ql + j) = B j) ∨
     ∃ i l, m = nI i ∧ i < 8 ∧ l ≤ 32 ∧ HL i = nI l ∧ dl = 3 + ql + l ∧ dc = 3 + ql + p ∧ ∀ j, j < l → DS (3 + ql + j) = H (i * 32 + j))))
section
variable {w hh rr n k hc nav dn kc y ud mo la ql p dl dc : Nat} {m ac xdl xdc xtr xtc : Int32} {B H HL D R RL U UL UK Q DS SC B' H' HL' D' R' RL' U' UL' UK' Q' : Nat → Int32}
/-- the component's state, the picture apart; the primed arrays are shadows -/
def eK (u : St2) : Prop := ∃ (w hh rr n k hc nav dn kc y ud mo la ql p : Nat) (m ac xdl xdc xtr xtc : Int32) (B H HL D R RL U UL UK Q DS SC B' H' HL' D' R' RL' U' UL' UK' Q' : Nat → Int32),
  u = (nI w, nI hh, nI rr, nI n, nI k, nI hc, nI nav, nI dn, nI kc, nI y, nI ud, nI mo, nI la, ac, nI ql, m, nI p, xdl, xdc, xtr, xtc, B, H, HL, D, R, RL, U, UL, UK, Q, DS, SC) ∧ eC w hh rr n k hc nav dn kc y ud mo la ql p m B H HL D R RL U UL UK Q B' H' HL' D' R' RL' U' UL' UK' Q'
def eI (u : St2) : Prop := ∃ (w hh rr n k hc nav dn kc y ud mo la ql p dl dc : Nat) (m ac : Int32) (B H HL D R RL U UL UK Q DS SC B' H' HL' D' R' RL' U' UL' UK' Q' : Nat → Int32),
  u = (nI w, nI hh, nI rr, nI n, nI k, nI hc, nI nav, nI dn, nI kc, nI y, nI ud, nI mo, nI la, ac, nI ql, m, nI p, nI dl, nI dc, nI (dc / w), nI (dc % w), B, H, HL, D, R, RL, U, UL, UK, Q, DS, SC) ∧ eC w hh rr n k hc nav dn kc y ud mo la ql p m B H HL D R RL U UL UK Q B' H' HL' D' R' RL' U' UL' UK' Q' ∧ eP w n k mo ql p m B H HL Q dl dc DS SC
theorem e_K (C : eC w hh rr n k hc nav dn kc y ud mo la ql p m B H HL D R RL U UL UK Q B' H' HL' D' R' RL' U' UL' UK' Q') : eK (nI w, nI hh, nI rr, nI n, nI k, nI hc, nI nav, nI dn, nI kc, nI y, nI ud, nI mo, nI la, ac, nI ql, m, nI p, xdl, xdc, xtr, xtc, B, H, HL, D, R, RL, U, UL, UK, Q, DS, SC) :=
  ⟨w, hh, rr, n, k, hc, nav, dn, kc, y, ud, mo, la, ql, p, m, ac, xdl, xdc, xtr, xtc, B, H, HL, D, R, RL, U, UL, UK, Q, DS, SC, B', H', HL', D', R', RL', U', UL', UK', Q', rfl, C⟩
theorem e_I (C : eC w hh rr n k hc nav dn kc y ud mo la ql p m B H HL D R RL U UL UK Q B' H' HL' D' R' RL' U' UL' UK' Q') (P : eP w n k mo ql p m B H HL Q dl dc DS SC) : eI (nI w, nI hh, nI rr, nI n, nI k, nI hc, nI nav, nI dn, nI kc, nI y, nI ud, nI mo, nI la, ac, nI ql, m, nI p, nI dl, nI dc, nI (dc / w), nI (dc % w), B, H, HL, D, R, RL, U, UL, UK, Q, DS, SC) :=
  ⟨w, hh, rr, n, k, hc, nav, dn, kc, y, ud, mo, la, ql, p, dl, dc, m, ac, B, H, HL, D, R, RL, U, UL, UK, Q, DS, SC, B', H', HL', D', R', RL', U', UL', UK', Q', rfl, C, P⟩
def eG (r : Int32) (u : St2) : Prop := (r = 1 ∧ eK u) ∨ (r = 0 ∧ eI u)
def eO (WX : (Int32 → St2 → Prop) → Prop) : Prop := ∃ (r : Int32) (u : St2), eG r u ∧ (∀ post, post r u → WX post)
theorem eO_1 {WX : (Int32 → St2 → Prop) → Prop} (u : St2) (h : eK u) (x : ∀ post, post 1 u → WX post) : eO WX := ⟨1, u, Or.inl ⟨rfl, h⟩, x⟩
theorem eO_0 {WX : (Int32 → St2 → Prop) → Prop} (u : St2) (h : eI u) (x : ∀ post, post 0 u → WX post) : eO WX := ⟨0, u, Or.inr ⟨rfl, h⟩, x⟩
theorem eO_n {WX VX : (Int32 → St2 → Prop) → Prop} (h : eO WX) (x : ∀ post r u, (∀ q, q r u → WX q) → post r u → VX post) : eO VX := by
  obtain ⟨r, u, g, hx⟩ := h
  exact ⟨r, u, g, fun post hp => x post r u hx hp⟩
/-- what a key other than a kill or a yank leaves -/
theorem eL_0 {kc n k y : Nat} {RL' : Nat → Int32} : eL 0 kc n k y RL' := ⟨by omega, fun h => absurd h (by omega), fun h => absurd h (by omega)⟩
theorem eL_1 {kc n k y : Nat} {RL' : Nat → Int32} : eL 1 kc n k y RL' := ⟨by omega, fun h => absurd h (by omega), fun h => absurd h (by omega)⟩
theorem eL_2 {kc n k y s : Nat} {RL' : Nat → Int32} (hk : 1 ≤ kc) (h : RL' 0 = nI s) (hs : s + n ≤ 32) : eL 2 kc n k y RL' := ⟨by omega, fun _ => ⟨hk, s, h, hs⟩, fun h => absurd h (by omega)⟩
theorem eL_3 {kc n k y s : Nat} {RL' : Nat → Int32} (hk : y < kc) (h : RL' y = nI s) (hs : s ≤ k) : eL 3 kc n k y RL' := ⟨by omega, fun h => absurd h (by omega), fun _ => ⟨hk, s, h, hs⟩⟩
/-- the slot of the ring's entry i -/
theorem ej_at {F L G M : Nat → Int32} {c i : Nat} (h : ej F L G M c) (hi : i < c) : ∃ l, l ≤ 32 ∧ L (c - 1 - i) = nI l ∧ M i = nI l ∧ eg F G ((c - 1 - i) * 32) (i * 32) l := h i hi
end
end
section
/-! H: copyCells -/
theorem xc_1_l {post : St3 → Prop} {f g : Nat → Int32} {a b c : Nat} (ha : a + c ≤ 32) (hb : b + c ≤ 51) (h : post (f, ec_cp f a g b c)) : ∀ d i, i + d = c → wX_copyCells_3 post (nI a) (nI b) (nI c) (d + 1) (nI i) f (ec_cp f a g b i) := by
  intro d
  induction d with
  | zero =>
    intro i hi
    obtain rfl : i = c := by omega
    exact ey_le i i (Nat.le_refl _) h
  | succ d ih =>
    intro i hi
    exact en_le c i (by omega) ⟨en_in (a + i) (by omega), en_in (b + i) (by omega), nm_r ((en_u (b + i) (en_g (a + i))).trans (ec_s f a g b i)) (nm_r (nI_1 i) (ih (i + 1) (by omega)))⟩
theorem xc_1 {post : St3 → Prop} {f g : Nat → Int32} {x1 x3 x4 : Int32} (a b c : Nat) (ha : a + c ≤ 32) (hb : b + c ≤ 51) (h : post (f, ec_cp f a g b c)) (h1 : x1 = nI a := by first | with_reducible rfl | (simp (disch := omega) only [nI_add, nI_1, en_m1, en_s1, pk_sub, pk_mul, en_32, en_a2, en_a3, en_p32, en_s32, en_p2, en_s2, en_s3] <;> exact congrArg nI (by omega)) | exact congrArg nI (by omega) | rfl) (h3 : x3 = nI b := by first | with_reducible rfl | (simp (disch := omega) only [nI_add, nI_1, en_m1, en_s1, pk_sub, pk_mul, en_32, en_a2, en_a3, en_p32, en_s32, en_p2, en_s2, en_s3] <;> exact congrArg nI (by omega)) | exact congrArg nI (by omega) | rfl) (h4 : x4 = nI c := by first | with_reducible rfl | (simp (disch := omega) only [nI_add, nI_1, en_m1, en_s1, pk_sub, pk_mul, en_32, en_a2, en_a3, en_p32, en_s32, en_p2, en_s2, en_s3] <;> exact congrArg nI (by omega)) | exact congrArg nI (by omega) | rfl) : wpX_copyCells post (f, g) x1 x3 x4 := by
  subst h1 h3 h4
  refine ⟨c + 1, ?_⟩
  have := xc_1_l ha hb h c 0 (by omega)
  rw [ec_0] at this
  exact this
theorem xc_2_l {post : St4 → Prop} {f g : Nat → Int32} {a b c : Nat} (ha : a + c ≤ 16) (hb : b + c ≤ 51) (h : post (f, ec_cp f a g b c)) : ∀ d i, i + d = c → wX_copyCells_2_3 post (nI a) (nI b) (nI c) (d + 1) (nI i) f (ec_cp f a g b i) := by
  intro d
  induction d with
  | zero =>
    intro i hi
    obtain rfl : i = c := by omega
    exact ey_le i i (Nat.le_refl _) h
  | succ d ih =>
    intro i hi
    exact en_le c i (by omega) ⟨en_in (a + i) (by omega), en_in (b + i) (by omega), nm_r ((en_u (b + i) (en_g (a + i))).trans (ec_s f a g b i)) (nm_r (nI_1 i) (ih (i + 1) (by omega)))⟩
theorem xc_2 {post : St4 → Prop} {f g : Nat → Int32} {x1 x3 x4 : Int32} (a b c : Nat) (ha : a + c ≤ 16) (hb : b + c ≤ 51) (h : post (f, ec_cp f a g b c)) (h1 : x1 = nI a := by first | with_reducible rfl | (simp (disch := omega) only [nI_add, nI_1, en_m1, en_s1, pk_sub, pk_mul, en_32, en_a2, en_a3, en_p32, en_s32, en_p2, en_s2, en_s3] <;> exact congrArg nI (by omega)) | exact congrArg nI (by omega) | rfl) (h3 : x3 = nI b := by first | with_reducible rfl | (simp (disch := omega) only [nI_add, nI_1, en_m1, en_s1, pk_sub, pk_mul, en_32, en_a2, en_a3, en_p32, en_s32, en_p2, en_s2, en_s3] <;> exact congrArg nI (by omega)) | exact congrArg nI (by omega) | rfl) (h4 : x4 = nI c := by first | with_reducible rfl | (simp (disch := omega) only [nI_add, nI_1, en_m1, en_s1, pk_sub, pk_mul, en_32, en_a2, en_a3, en_p32, en_s32, en_p2, en_s2, en_s3] <;> exact congrArg nI (by omega)) | exact congrArg nI (by omega) | rfl) : wpX_copyCells_2 post (f, g) x1 x3 x4 := by
  subst h1 h3 h4
  refine ⟨c + 1, ?_⟩
  have := xc_2_l ha hb h c 0 (by omega)
  rw [ec_0] at this
  exact this
theorem xc_3_l {post : St5 → Prop} {f g : Nat → Int32} {a b c : Nat} (ha : a + c ≤ 256) (hb : b + c ≤ 51) (h : post (f, ec_cp f a g b c)) : ∀ d i, i + d = c → wX_copyCells_3_3 post (nI a) (nI b) (nI c) (d + 1) (nI i) f (ec_cp f a g b i) := by
  intro d
  induction d with
  | zero =>
    intro i hi
    obtain rfl : i = c := by omega
    exact ey_le i i (Nat.le_refl _) h
  | succ d ih =>
    intro i hi
    exact en_le c i (by omega) ⟨en_in (a + i) (by omega), en_in (b + i) (by omega), nm_r ((en_u (b + i) (en_g (a + i))).trans (ec_s f a g b i)) (nm_r (nI_1 i) (ih (i + 1) (by omega)))⟩
theorem xc_3 {post : St5 → Prop} {f g : Nat → Int32} {x1 x3 x4 : Int32} (a b c : Nat) (ha : a + c ≤ 256) (hb : b + c ≤ 51) (h : post (f, ec_cp f a g b c)) (h1 : x1 = nI a := by first | with_reducible rfl | (simp (disch := omega) only [nI_add, nI_1, en_m1, en_s1, pk_sub, pk_mul, en_32, en_a2, en_a3, en_p32, en_s32, en_p2, en_s2, en_s3] <;> exact congrArg nI (by omega)) | exact congrArg nI (by omega) | rfl) (h3 : x3 = nI b := by first | with_reducible rfl | (simp (disch := omega) only [nI_add, nI_1, en_m1, en_s1, pk_sub, pk_mul, en_32, en_a2, en_a3, en_p32, en_s32, en_p2, en_s2, en_s3] <;> exact congrArg nI (by omega)) | exact congrArg nI (by omega) | rfl) (h4 : x4 = nI c := by first | with_reducible rfl | (simp (disch := omega) only [nI_add, nI_1, en_m1, en_s1, pk_sub, pk_mul, en_32, en_a2, en_a3, en_p32, en_s32, en_p2, en_s2, en_s3] <;> exact congrArg nI (by omega)) | exact congrArg nI (by omega) | rfl) : wpX_copyCells_3 post (f, g) x1 x3 x4 := by
  subst h1 h3 h4
  refine ⟨c + 1, ?_⟩
  have := xc_3_l ha hb h c 0 (by omega)
  rw [ec_0] at this
  exact this
theorem xc_4_l {post : St6 → Prop} {f g : Nat → Int32} {a b c : Nat} (ha : a + c ≤ 32) (hb : b + c ≤ 256) (h : post (f, ec_cp f a g b c)) : ∀ d i, i + d = c → wX_copyCells_4_3 post (nI a) (nI b) (nI c) (d + 1) (nI i) f (ec_cp f a g b i) := by
  intro d
  induction d with
  | zero =>
    intro i hi
    obtain rfl : i = c := by omega
    exact ey_le i i (Nat.le_refl _) h
  | succ d ih =>
    intro i hi
    exact en_le c i (by omega) ⟨en_in (a + i) (by omega), en_in (b + i) (by omega), nm_r ((en_u (b + i) (en_g (a + i))).trans (ec_s f a g b i)) (nm_r (nI_1 i) (ih (i + 1) (by omega)))⟩
theorem xc_4 {post : St6 → Prop} {f g : Nat → Int32} {x1 x3 x4 : Int32} (a b c : Nat) (ha : a + c ≤ 32) (hb : b + c ≤ 256) (h : post (f, ec_cp f a g b c)) (h1 : x1 = nI a := by first | with_reducible rfl | (simp (disch := omega) only [nI_add, nI_1, en_m1, en_s1, pk_sub, pk_mul, en_32, en_a2, en_a3, en_p32, en_s32, en_p2, en_s2, en_s3] <;> exact congrArg nI (by omega)) | exact congrArg nI (by omega) | rfl) (h3 : x3 = nI b := by first | with_reducible rfl | (simp (disch := omega) only [nI_add, nI_1, en_m1, en_s1, pk_sub, pk_mul, en_32, en_a2, en_a3, en_p32, en_s32, en_p2, en_s2, en_s3] <;> exact congrArg nI (by omega)) | exact congrArg nI (by omega) | rfl) (h4 : x4 = nI c := by first | with_reducible rfl | (simp (disch := omega) only [nI_add, nI_1, en_m1, en_s1, pk_sub, pk_mul, en_32, en_a2, en_a3, en_p32, en_s32, en_p2, en_s2, en_s3] <;> exact congrArg nI (by omega)) | exact congrArg nI (by omega) | rfl) : wpX_copyCells_4 post (f, g) x1 x3 x4 := by
  subst h1 h3 h4
  refine ⟨c + 1, ?_⟩
  have := xc_4_l ha hb h c 0 (by omega)
  rw [ec_0] at this
  exact this
theorem xc_5_l {post : St8 → Prop} {f : Nat → Int32} {a b c : Nat} (ha : a + c ≤ 256) (hb : b + c ≤ 256) (hba : b ≤ a) (h : post (ec_cp f a f b c)) : ∀ d i, i + d = c → wX_copyCells_5_3 post (nI a) (nI b) (nI c) (d + 1) (nI i) (ec_cp f a f b i) := by
  intro d
  induction d with
  | zero =>
    intro i hi
    obtain rfl : i = c := by omega
    exact ey_le i i (Nat.le_refl _) h
  | succ d ih =>
    intro i hi
    exact en_le c i (by omega) ⟨en_in (a + i) (by omega), en_in (b + i) (by omega), nm_r ((en_u (b + i) (en_g (a + i))).trans (ec_up hba i)) (nm_r (nI_1 i) (ih (i + 1) (by omega)))⟩
theorem xc_5 {post : St8 → Prop} {f : Nat → Int32} {x1 x3 x4 : Int32} (a b c : Nat) (ha : a + c ≤ 256) (hb : b + c ≤ 256) (hba : b ≤ a) (h : post (ec_cp f a f b c)) (h1 : x1 = nI a := by first | with_reducible rfl | (simp (disch := omega) only [nI_add, nI_1, en_m1, en_s1, pk_sub, pk_mul, en_32, en_a2, en_a3, en_p32, en_s32, en_p2, en_s2, en_s3] <;> exact congrArg nI (by omega)) | exact congrArg nI (by omega) | rfl) (h3 : x3 = nI b := by first | with_reducible rfl | (simp (disch := omega) only [nI_add, nI_1, en_m1, en_s1, pk_sub, pk_mul, en_32, en_a2, en_a3, en_p32, en_s32, en_p2, en_s2, en_s3] <;> exact congrArg nI (by omega)) | exact congrArg nI (by omega) | rfl) (h4 : x4 = nI c := by first | with_reducible rfl | (simp (disch := omega) only [nI_add, nI_1, en_m1, en_s1, pk_sub, pk_mul, en_32, en_a2, en_a3, en_p32, en_s32, en_p2, en_s2, en_s3] <;> exact congrArg nI (by omega)) | exact congrArg nI (by omega) | rfl) : wpX_copyCells_5 post f x1 x3 x4 := by
  subst h1 h3 h4
  refine ⟨c + 1, ?_⟩
  have := xc_5_l ha hb hba h c 0 (by omega)
  rw [ec_0] at this
  exact this
theorem xc_6_l {post : St9 → Prop} {f : Nat → Int32} {a b c : Nat} (ha : a + c ≤ 8) (hb : b + c ≤ 8) (hba : b ≤ a) (h : post (ec_cp f a f b c)) : ∀ d i, i + d = c → wX_copyCells_6_3 post (nI a) (nI b) (nI c) (d + 1) (nI i) (ec_cp f a f b i) := by
  intro d
  induction d with
  | zero =>
    intro i hi
    obtain rfl : i = c := by omega
    exact ey_le i i (Nat.le_refl _) h
  | succ d ih =>
    intro i hi
    exact en_le c i (by omega) ⟨en_in (a + i) (by omega), en_in (b + i) (by omega), nm_r ((en_u (b + i) (en_g (a + i))).trans (ec_up hba i)) (nm_r (nI_1 i) (ih (i + 1) (by omega)))⟩
theorem xc_6 {post : St9 → Prop} {f : Nat → Int32} {x1 x3 x4 : Int32} (a b c : Nat) (ha : a + c ≤ 8) (hb : b + c ≤ 8) (hba : b ≤ a) (h : post (ec_cp f a f b c)) (h1 : x1 = nI a := by first | with_reducible rfl | (simp (disch := omega) only [nI_add, nI_1, en_m1, en_s1, pk_sub, pk_mul, en_32, en_a2, en_a3, en_p32, en_s32, en_p2, en_s2, en_s3] <;> exact congrArg nI (by omega)) | exact congrArg nI (by omega) | rfl) (h3 : x3 = nI b := by first | with_reducible rfl | (simp (disch := omega) only [nI_add, nI_1, en_m1, en_s1, pk_sub, pk_mul, en_32, en_a2, en_a3, en_p32, en_s32, en_p2, en_s2, en_s3] <;> exact congrArg nI (by omega)) | exact congrArg nI (by omega) | rfl) (h4 : x4 = nI c := by first | with_reducible rfl | (simp (disch := omega) only [nI_add, nI_1, en_m1, en_s1, pk_sub, pk_mul, en_32, en_a2, en_a3, en_p32, en_s32, en_p2, en_s2, en_s3] <;> exact congrArg nI (by omega)) | exact congrArg nI (by omega) | rfl) : wpX_copyCells_6 post f x1 x3 x4 := by
  subst h1 h3 h4
  refine ⟨c + 1, ?_⟩
  have := xc_6_l ha hb hba h c 0 (by omega)
  rw [ec_0] at this
  exact this
theorem xc_7_l {post : St10 → Prop} {f g : Nat → Int32} {a b c : Nat} (ha : a + c ≤ 32) (hb : b + c ≤ 128) (h : post (f, ec_cp f a g b c)) : ∀ d i, i + d = c → wX_copyCells_7_3 post (nI a) (nI b) (nI c) (d + 1) (nI i) f (ec_cp f a g b i) := by
  intro d
  induction d with
  | zero =>
    intro i hi
    obtain rfl : i = c := by omega
    exact ey_le i i (Nat.le_refl _) h
  | succ d ih =>
    intro i hi
    exact en_le c i (by omega) ⟨en_in (a + i) (by omega), en_in (b + i) (by omega), nm_r ((en_u (b + i) (en_g (a + i))).trans (ec_s f a g b i)) (nm_r (nI_1 i) (ih (i + 1) (by omega)))⟩
theorem xc_7 {post : St10 → Prop} {f g : Nat → Int32} {x1 x3 x4 : Int32} (a b c : Nat) (ha : a + c ≤ 32) (hb : b + c ≤ 128) (h : post (f, ec_cp f a g b c)) (h1 : x1 = nI a := by first | with_reducible rfl | (simp (disch := omega) only [nI_add, nI_1, en_m1, en_s1, pk_sub, pk_mul, en_32, en_a2, en_a3, en_p32, en_s32, en_p2, en_s2, en_s3] <;> exact congrArg nI (by omega)) | exact congrArg nI (by omega) | rfl) (h3 : x3 = nI b := by first | with_reducible rfl | (simp (disch := omega) only [nI_add, nI_1, en_m1, en_s1, pk_sub, pk_mul, en_32, en_a2, en_a3, en_p32, en_s32, en_p2, en_s2, en_s3] <;> exact congrArg nI (by omega)) | exact congrArg nI (by omega) | rfl) (h4 : x4 = nI c := by first | with_reducible rfl | (simp (disch := omega) only [nI_add, nI_1, en_m1, en_s1, pk_sub, pk_mul, en_32, en_a2, en_a3, en_p32, en_s32, en_p2, en_s2, en_s3] <;> exact congrArg nI (by omega)) | exact congrArg nI (by omega) | rfl) : wpX_copyCells_7 post (f, g) x1 x3 x4 := by
  subst h1 h3 h4
  refine ⟨c + 1, ?_⟩
  have := xc_7_l ha hb h c 0 (by omega)
  rw [ec_0] at this
  exact this
theorem xc_8_l {post : St12 → Prop} {f : Nat → Int32} {a b c : Nat} (ha : a + c ≤ 128) (hb : b + c ≤ 128) (hba : b ≤ a) (h : post (ec_cp f a f b c)) : ∀ d i, i + d = c → wX_copyCells_8_3 post (nI a) (nI b) (nI c) (d + 1) (nI i) (ec_cp f a f b i) := by
  intro d
  induction d with
  | zero =>
    intro i hi
    obtain rfl : i = c := by omega
    exact ey_le i i (Nat.le_refl _) h
  | succ d ih =>
    intro i hi
    exact en_le c i (by omega) ⟨en_in (a + i) (by omega), en_in (b + i) (by omega), nm_r ((en_u (b + i) (en_g (a + i))).trans (ec_up hba i)) (nm_r (nI_1 i) (ih (i + 1) (by omega)))⟩
theorem xc_8 {post : St12 → Prop} {f : Nat → Int32} {x1 x3 x4 : Int32} (a b c : Nat) (ha : a + c ≤ 128) (hb : b + c ≤ 128) (hba : b ≤ a) (h : post (ec_cp f a f b c)) (h1 : x1 = nI a := by first | with_reducible rfl | (simp (disch := omega) only [nI_add, nI_1, en_m1, en_s1, pk_sub, pk_mul, en_32, en_a2, en_a3, en_p32, en_s32, en_p2, en_s2, en_s3] <;> exact congrArg nI (by omega)) | exact congrArg nI (by omega) | rfl) (h3 : x3 = nI b := by first | with_reducible rfl | (simp (disch := omega) only [nI_add, nI_1, en_m1, en_s1, pk_sub, pk_mul, en_32, en_a2, en_a3, en_p32, en_s32, en_p2, en_s2, en_s3] <;> exact congrArg nI (by omega)) | exact congrArg nI (by omega) | rfl) (h4 : x4 = nI c := by first | with_reducible rfl | (simp (disch := omega) only [nI_add, nI_1, en_m1, en_s1, pk_sub, pk_mul, en_32, en_a2, en_a3, en_p32, en_s32, en_p2, en_s2, en_s3] <;> exact congrArg nI (by omega)) | exact congrArg nI (by omega) | rfl) : wpX_copyCells_8 post f x1 x3 x4 := by
  subst h1 h3 h4
  refine ⟨c + 1, ?_⟩
  have := xc_8_l ha hb hba h c 0 (by omega)
  rw [ec_0] at this
  exact this
theorem xc_9_l {post : St13 → Prop} {f : Nat → Int32} {a b c : Nat} (ha : a + c ≤ 4) (hb : b + c ≤ 4) (hba : b ≤ a) (h : post (ec_cp f a f b c)) : ∀ d i, i + d = c → wX_copyCells_9_3 post (nI a) (nI b) (nI c) (d + 1) (nI i) (ec_cp f a f b i) := by
  intro d
  induction d with
  | zero =>
    intro i hi
    obtain rfl : i = c := by omega
    exact ey_le i i (Nat.le_refl _) h
  | succ d ih =>
    intro i hi
    exact en_le c i (by omega) ⟨en_in (a + i) (by omega), en_in (b + i) (by omega), nm_r ((en_u (b + i) (en_g (a + i))).trans (ec_up hba i)) (nm_r (nI_1 i) (ih (i + 1) (by omega)))⟩
theorem xc_9 {post : St13 → Prop} {f : Nat → Int32} {x1 x3 x4 : Int32} (a b c : Nat) (ha : a + c ≤ 4) (hb : b + c ≤ 4) (hba : b ≤ a) (h : post (ec_cp f a f b c)) (h1 : x1 = nI a := by first | with_reducible rfl | (simp (disch := omega) only [nI_add, nI_1, en_m1, en_s1, pk_sub, pk_mul, en_32, en_a2, en_a3, en_p32, en_s32, en_p2, en_s2, en_s3] <;> exact congrArg nI (by omega)) | exact congrArg nI (by omega) | rfl) (h3 : x3 = nI b := by first | with_reducible rfl | (simp (disch := omega) only [nI_add, nI_1, en_m1, en_s1, pk_sub, pk_mul, en_32, en_a2, en_a3, en_p32, en_s32, en_p2, en_s2, en_s3] <;> exact congrArg nI (by omega)) | exact congrArg nI (by omega) | rfl) (h4 : x4 = nI c := by first | with_reducible rfl | (simp (disch := omega) only [nI_add, nI_1, en_m1, en_s1, pk_sub, pk_mul, en_32, en_a2, en_a3, en_p32, en_s32, en_p2, en_s2, en_s3] <;> exact congrArg nI (by omega)) | exact congrArg nI (by omega) | rfl) : wpX_copyCells_9 post f x1 x3 x4 := by
  subst h1 h3 h4
  refine ⟨c + 1, ?_⟩
  have := xc_9_l ha hb hba h c 0 (by omega)
  rw [ec_0] at this
  exact this
theorem xc_10_l {post : St14 → Prop} {f g : Nat → Int32} {a b c : Nat} (ha : a + c ≤ 256) (hb : b + c ≤ 32) (h : post (f, ec_cp f a g b c)) : ∀ d i, i + d = c → wX_copyCells_10_3 post (nI a) (nI b) (nI c) (d + 1) (nI i) f (ec_cp f a g b i) := by
  intro d
  induction d with
  | zero =>
    intro i hi
    obtain rfl : i = c := by omega
    exact ey_le i i (Nat.le_refl _) h
  | succ d ih =>
    intro i hi
    exact en_le c i (by omega) ⟨en_in (a + i) (by omega), en_in (b + i) (by omega), nm_r ((en_u (b + i) (en_g (a + i))).trans (ec_s f a g b i)) (nm_r (nI_1 i) (ih (i + 1) (by omega)))⟩
theorem xc_10 {post : St14 → Prop} {f g : Nat → Int32} {x1 x3 x4 : Int32} (a b c : Nat) (ha : a + c ≤ 256) (hb : b + c ≤ 32) (h : post (f, ec_cp f a g b c)) (h1 : x1 = nI a := by first | with_reducible rfl | (simp (disch := omega) only [nI_add, nI_1, en_m1, en_s1, pk_sub, pk_mul, en_32, en_a2, en_a3, en_p32, en_s32, en_p2, en_s2, en_s3] <;> exact congrArg nI (by omega)) | exact congrArg nI (by omega) | rfl) (h3 : x3 = nI b := by first | with_reducible rfl | (simp (disch := omega) only [nI_add, nI_1, en_m1, en_s1, pk_sub, pk_mul, en_32, en_a2, en_a3, en_p32, en_s32, en_p2, en_s2, en_s3] <;> exact congrArg nI (by omega)) | exact congrArg nI (by omega) | rfl) (h4 : x4 = nI c := by first | with_reducible rfl | (simp (disch := omega) only [nI_add, nI_1, en_m1, en_s1, pk_sub, pk_mul, en_32, en_a2, en_a3, en_p32, en_s32, en_p2, en_s2, en_s3] <;> exact congrArg nI (by omega)) | exact congrArg nI (by omega) | rfl) : wpX_copyCells_10 post (f, g) x1 x3 x4 := by
  subst h1 h3 h4
  refine ⟨c + 1, ?_⟩
  have := xc_10_l ha hb h c 0 (by omega)
  rw [ec_0] at this
  exact this
theorem xc_11_l {post : St15 → Prop} {f g : Nat → Int32} {a b c : Nat} (ha : a + c ≤ 32) (hb : b + c ≤ 32) (h : post (f, ec_cp f a g b c)) : ∀ d i, i + d = c → wX_copyCells_11_3 post (nI a) (nI b) (nI c) (d + 1) (nI i) f (ec_cp f a g b i) := by
  intro d
  induction d with
  | zero =>
    intro i hi
    obtain rfl : i = c := by omega
    exact ey_le i i (Nat.le_refl _) h
  | succ d ih =>
    intro i hi
    exact en_le c i (by omega) ⟨en_in (a + i) (by omega), en_in (b + i) (by omega), nm_r ((en_u (b + i) (en_g (a + i))).trans (ec_s f a g b i)) (nm_r (nI_1 i) (ih (i + 1) (by omega)))⟩
theorem xc_11 {post : St15 → Prop} {f g : Nat → Int32} {x1 x3 x4 : Int32} (a b c : Nat) (ha : a + c ≤ 32) (hb : b + c ≤ 32) (h : post (f, ec_cp f a g b c)) (h1 : x1 = nI a := by first | with_reducible rfl | (simp (disch := omega) only [nI_add, nI_1, en_m1, en_s1, pk_sub, pk_mul, en_32, en_a2, en_a3, en_p32, en_s32, en_p2, en_s2, en_s3] <;> exact congrArg nI (by omega)) | exact congrArg nI (by omega) | rfl) (h3 : x3 = nI b := by first | with_reducible rfl | (simp (disch := omega) only [nI_add, nI_1, en_m1, en_s1, pk_sub, pk_mul, en_32, en_a2, en_a3, en_p32, en_s32, en_p2, en_s2, en_s3] <;> exact congrArg nI (by omega)) | exact congrArg nI (by omega) | rfl) (h4 : x4 = nI c := by first | with_reducible rfl | (simp (disch := omega) only [nI_add, nI_1, en_m1, en_s1, pk_sub, pk_mul, en_32, en_a2, en_a3, en_p32, en_s32, en_p2, en_s2, en_s3] <;> exact congrArg nI (by omega)) | exact congrArg nI (by omega) | rfl) : wpX_copyCells_11 post (f, g) x1 x3 x4 := by
  subst h1 h3 h4
  refine ⟨c + 1, ?_⟩
  have := xc_11_l ha hb h c 0 (by omega)
  rw [ec_0] at this
  exact this
theorem xc_12_l {post : St16 → Prop} {f g : Nat → Int32} {a b c : Nat} (ha : a + c ≤ 128) (hb : b + c ≤ 32) (h : post (f, ec_cp f a g b c)) : ∀ d i, i + d = c → wX_copyCells_12_3 post (nI a) (nI b) (nI c) (d + 1) (nI i) f (ec_cp f a g b i) := by
  intro d
  induction d with
  | zero =>
    intro i hi
    obtain rfl : i = c := by omega
    exact ey_le i i (Nat.le_refl _) h
  | succ d ih =>
    intro i hi
    exact en_le c i (by omega) ⟨en_in (a + i) (by omega), en_in (b + i) (by omega), nm_r ((en_u (b + i) (en_g (a + i))).trans (ec_s f a g b i)) (nm_r (nI_1 i) (ih (i + 1) (by omega)))⟩
theorem xc_12 {post : St16 → Prop} {f g : Nat → Int32} {x1 x3 x4 : Int32} (a b c : Nat) (ha : a + c ≤ 128) (hb : b + c ≤ 32) (h : post (f, ec_cp f a g b c)) (h1 : x1 = nI a := by first | with_reducible rfl | (simp (disch := omega) only [nI_add, nI_1, en_m1, en_s1, pk_sub, pk_mul, en_32, en_a2, en_a3, en_p32, en_s32, en_p2, en_s2, en_s3] <;> exact congrArg nI (by omega)) | exact congrArg nI (by omega) | rfl) (h3 : x3 = nI b := by first | with_reducible rfl | (simp (disch := omega) only [nI_add, nI_1, en_m1, en_s1, pk_sub, pk_mul, en_32, en_a2, en_a3, en_p32, en_s32, en_p2, en_s2, en_s3] <;> exact congrArg nI (by omega)) | exact congrArg nI (by omega) | rfl) (h4 : x4 = nI c := by first | with_reducible rfl | (simp (disch := omega) only [nI_add, nI_1, en_m1, en_s1, pk_sub, pk_mul, en_32, en_a2, en_a3, en_p32, en_s32, en_p2, en_s2, en_s3] <;> exact congrArg nI (by omega)) | exact congrArg nI (by omega) | rfl) : wpX_copyCells_12 post (f, g) x1 x3 x4 := by
  subst h1 h3 h4
  refine ⟨c + 1, ?_⟩
  have := xc_12_l ha hb h c 0 (by omega)
  rw [ec_0] at this
  exact this
end
section
/-! I: the component's small methods and its buffer -/
theorem en_q (x : Int32) : x + (-1) = x - 1 := (Int32.sub_eq_add_neg x 1).symm
theorem en_pl {a b : Nat} (h : a ≤ b) (hb : b < 2 ^ 31) : nI a - 1 < nI b := by
  cases a with
  | zero =>
    rw [Int32.lt_iff_toInt_lt, nI_toInt hb, show (nI 0 - 1).toInt = -1 from by decide]
    omega
  | succ a =>
    rw [nI_pred]
    exact nI_lt (by omega) hb
theorem en_16 (a : Nat) : 16 * nI a = nI (16 * a) := pk_mul 16 a
theorem xw_t {post : Int32 → Prop} {x y : Int32} (i c : Nat) (h : i < c) (p : post 1) (hx : x = nI i := by first | with_reducible rfl | (simp (disch := omega) only [nI_add, nI_1, en_m1, en_s1, pk_sub, pk_mul, en_32, en_a2, en_a3, en_p32, en_s32, en_p2, en_s2, en_s3] <;> exact congrArg nI (by omega)) | exact congrArg nI (by omega) | rfl) (hy : y = nI c := by first | with_reducible rfl | (simp (disch := omega) only [nI_add, nI_1, en_m1, en_s1, pk_sub, pk_mul, en_32, en_a2, en_a3, en_p32, en_s32, en_p2, en_s2, en_s3] <;> exact congrArg nI (by omega)) | exact congrArg nI (by omega) | rfl) (hc : c < 2 ^ 31 := by omega) : wpX_isWithin post () x y := by
  subst hx hy
  exact br_f (nI_pos (by omega)) (br_f (nI_ge h hc) p)
theorem xw_f {post : Int32 → Prop} {x y : Int32} (h : x < 0 ∨ y ≤ x) (p : post 0) : wpX_isWithin post () x y := by
  by_cases c : x < 0
  · exact br_t c p
  · exact br_f c (br_t (h.resolve_left c) p)
theorem xp_t {post : Int32 → Prop} {c : Int32} (h1 : ¬ c < 32) (h2 : ¬ 126 < c) (p : post 1) : wpX_isPrintable post () c := br_f h1 (br_f h2 p)
theorem xp_f {post : Int32 → Prop} {c : Int32} (h : c < 32 ∨ 126 < c) (p : post 0) : wpX_isPrintable post () c := by
  by_cases d : c < 32
  · exact br_t d p
  · exact br_f d (br_t (h.resolve_left d) p)
/-- what a push leaves: texts, lengths or cursors, depth -/
def ep_U (B U : Nat → Int32) (n ud : Nat) : Nat → Int32 := if ud = 8 then ec_cp B 0 (ec_cp U 32 U 0 (7 * 32)) (7 * 32) n else ec_cp B 0 U (ud * 32) n
def ep_L (L : Nat → Int32) (v : Int32) (ud : Nat) : Nat → Int32 := if ud = 8 then upd (ec_cp L 1 L 0 7) 7 v else upd L ud v
def ep_n (ud : Nat) : Nat := if ud = 8 then 8 else ud + 1
theorem ep_le {ud : Nat} (h : ud ≤ 8) : ep_n ud ≤ 8 := by
  unfold ep_n
  split <;> omega
theorem ep_eu {F L K G M P f g : Nat → Int32} {c n k : Nat} (h : eu F L K G M P c) (hc : c ≤ 8) (hn : n ≤ 32) (hk : k ≤ n) (hb : eg f g 0 0 n) :
    eu (ep_U f F n c) (ep_L L (nI n) c) (ep_L K (nI k) c) (ep_U g G 32 c) (ep_L M (nI n) c) (ep_L P (nI k) c) (ep_n c) := by
  unfold ep_U ep_L ep_n
  by_cases e : c = 8
  · subst e
    simp only [if_pos]
    exact eu_add (c := 7) (eu_drop h) hn hk hb
  · simp only [if_neg e]
    exact eu_add h hn hk hb
/-- what an appended line leaves of the history -/
def ea_H (B H : Nat → Int32) (n hc hh : Nat) : Nat → Int32 := if hc = hh then ec_cp B 0 (ec_cp H 32 H 0 ((hc - 1) * 32)) ((hc - 1) * 32) n else ec_cp B 0 H (hc * 32) n
def ea_L (L : Nat → Int32) (v : Int32) (hc hh : Nat) : Nat → Int32 := if hc = hh then upd (ec_cp L 1 L 0 (hc - 1)) (hc - 1) v else upd L hc v
def ea_n (hc hh : Nat) : Nat := if hc = hh then hc else hc + 1
theorem ea_le {hc hh : Nat} (h : hc ≤ hh) : ea_n hc hh ≤ hh := by
  unfold ea_n
  split <;> omega
theorem ea_eh {F L G M f g : Nat → Int32} {c n hh : Nat} (h : eh F L G M c) (hc : 1 ≤ hh) (hn : n ≤ 32) (hb : eg f g 0 0 n) :
    eh (ea_H f F n c hh) (ea_L L (nI n) c hh) (ea_H g G 32 c hh) (ea_L M (nI n) c hh) (ea_n c hh) := by
  unfold ea_H ea_L ea_n
  by_cases e : c = hh
  · simp only [if_pos e]
    obtain ⟨d, rfl⟩ : ∃ d, c = d + 1 := ⟨c - 1, by omega⟩
    rw [Nat.add_sub_cancel]
    exact eh_add (eh_drop h) hn hb
  · simp only [if_neg e]
    exact eh_add h hn hb
section
variable {f_width f_historyCap f_ringCap f_length f_cursor f_historyCount f_nav f_draftLength f_ringCount f_yankIndex f_undoDepth f_mode f_last f_accepted f_queryLength f_match f_matchStart f_displayLength f_displayCursor f_terminalRow f_terminalCol : Int32} {a_buffer a_history a_historyLengths a_draft a_ring a_ringLengths a_undoTexts a_undoLengths a_undoCursors a_query a_display a_screen : Nat → Int32}
theorem xog_l {post : St2 → Prop} {a c n : Nat} (hn : n + c ≤ 32) (h : post (f_width, f_historyCap, f_ringCap, nI (n + c), f_cursor, f_historyCount, f_nav, f_draftLength, f_ringCount, f_yankIndex, f_undoDepth, f_mode, f_last, f_accepted, f_queryLength, f_match, f_matchStart, f_displayLength, f_displayCursor, f_terminalRow, f_terminalCol, ec_cp a_buffer a a_buffer (a + c) (n - a), a_history, a_historyLengths, a_draft, a_ring, a_ringLengths, a_undoTexts, a_undoLengths, a_undoCursors, a_query, a_display, a_screen)) : ∀ d e, a + d + e = n → wX_openGap_7 post (nI a) (nI c) f_width f_historyCap f_ringCap (nI n) f_cursor f_historyCount f_nav f_draftLength f_ringCount f_yankIndex f_undoDepth f_mode f_last f_accepted f_queryLength f_match f_matchStart f_displayLength f_displayCursor f_terminalRow f_terminalCol (d + 1) (nI (a + d) - 1) (ec_cp a_buffer (a + d) a_buffer (a + c + d) e) a_history a_historyLengths a_draft a_ring a_ringLengths a_undoTexts a_undoLengths a_undoCursors a_query a_display a_screen := by
  intro d
  induction d with
  | zero =>
    intro e he
    obtain rfl : e = n - a := by omega
    exact br_t (en_pl (by omega) (by omega)) (nm_r (nI_add n c) h)
  | succ d ih =>
    intro e he
    rw [show nI (a + (d + 1)) - 1 = nI (a + d) from nI_pred (a + d)]
    exact en_lt (a + d) a (by omega) ⟨en_in (a + d) (by omega), en_in (a + c + d) (by omega), nm_r ((en_u (a + c + d) (en_g (a + d))).trans (ec_dn (a := a + d) (b := a + c + d) (by omega) e)) (nm_r (en_q _) (ih (e + 1) (by omega)))⟩
theorem xog {post : St2 → Prop} {x1 x2 : Int32} (a c n : Nat) (hn : n + c ≤ 32) (ha : a ≤ n) (h : post (f_width, f_historyCap, f_ringCap, nI (n + c), f_cursor, f_historyCount, f_nav, f_draftLength, f_ringCount, f_yankIndex, f_undoDepth, f_mode, f_last, f_accepted, f_queryLength, f_match, f_matchStart, f_displayLength, f_displayCursor, f_terminalRow, f_terminalCol, ec_cp a_buffer a a_buffer (a + c) (n - a), a_history, a_historyLengths, a_draft, a_ring, a_ringLengths, a_undoTexts, a_undoLengths, a_undoCursors, a_query, a_display, a_screen)) (h1 : x1 = nI a := by first | with_reducible rfl | (simp (disch := omega) only [nI_add, nI_1, en_m1, en_s1, pk_sub, pk_mul, en_32, en_a2, en_a3, en_p32, en_s32, en_p2, en_s2, en_s3] <;> exact congrArg nI (by omega)) | exact congrArg nI (by omega) | rfl) (h2 : x2 = nI c := by first | with_reducible rfl | (simp (disch := omega) only [nI_add, nI_1, en_m1, en_s1, pk_sub, pk_mul, en_32, en_a2, en_a3, en_p32, en_s32, en_p2, en_s2, en_s3] <;> exact congrArg nI (by omega)) | exact congrArg nI (by omega) | rfl) : wpX_openGap post (f_width, f_historyCap, f_ringCap, nI n, f_cursor, f_historyCount, f_nav, f_draftLength, f_ringCount, f_yankIndex, f_undoDepth, f_mode, f_last, f_accepted, f_queryLength, f_match, f_matchStart, f_displayLength, f_displayCursor, f_terminalRow, f_terminalCol, a_buffer, a_history, a_historyLengths, a_draft, a_ring, a_ringLengths, a_undoTexts, a_undoLengths, a_undoCursors, a_query, a_display, a_screen) x1 x2 := by
  subst h1 h2
  have := xog_l hn h (n - a) 0 (by omega)
  rw [ec_0, show a + (n - a) = n by omega] at this
  exact nm_e ⟨n - a + 1, this⟩
theorem xcg_l {post : St2 → Prop} {a c n : Nat} (hn : n ≤ 32) (hc : a + c ≤ n) (h : post (f_width, f_historyCap, f_ringCap, nI (n - c), f_cursor, f_historyCount, f_nav, f_draftLength, f_ringCount, f_yankIndex, f_undoDepth, f_mode, f_last, f_accepted, f_queryLength, f_match, f_matchStart, f_displayLength, f_displayCursor, f_terminalRow, f_terminalCol, ec_cp a_buffer (a + c) a_buffer a (n - a - c), a_history, a_historyLengths, a_draft, a_ring, a_ringLengths, a_undoTexts, a_undoLengths, a_undoCursors, a_query, a_display, a_screen)) : ∀ d i, a + c + i + d = n → wX_closeGap_4 post (nI c) f_width f_historyCap f_ringCap (nI n) f_cursor f_historyCount f_nav f_draftLength f_ringCount f_yankIndex f_undoDepth f_mode f_last f_accepted f_queryLength f_match f_matchStart f_displayLength f_displayCursor f_terminalRow f_terminalCol (d + 1) (nI (a + c + i)) (ec_cp a_buffer (a + c) a_buffer a i) a_history a_historyLengths a_draft a_ring a_ringLengths a_undoTexts a_undoLengths a_undoCursors a_query a_display a_screen := by
  intro d
  induction d with
  | zero =>
    intro i hi
    obtain rfl : i = n - a - c := by omega
    exact ey_le n (a + c + (n - a - c)) (by omega) (nm_r (pk_sub (by omega)) h)
  | succ d ih =>
    intro i hi
    exact en_le n (a + c + i) (by omega) ⟨en_in (a + c + i) (by omega), en_in (a + i) (by omega), nm_r ((en_u (a + i) (en_g (a + c + i))).trans (ec_up (by omega) i)) (nm_r (nI_1 _) (ih (i + 1) (by omega)))⟩
theorem xcg {post : St2 → Prop} {x1 x2 : Int32} (a c n : Nat) (hn : n ≤ 32) (hc : a + c ≤ n) (h : post (f_width, f_historyCap, f_ringCap, nI (n - c), f_cursor, f_historyCount, f_nav, f_draftLength, f_ringCount, f_yankIndex, f_undoDepth, f_mode, f_last, f_accepted, f_queryLength, f_match, f_matchStart, f_displayLength, f_displayCursor, f_terminalRow, f_terminalCol, ec_cp a_buffer (a + c) a_buffer a (n - a - c), a_history, a_historyLengths, a_draft, a_ring, a_ringLengths, a_undoTexts, a_undoLengths, a_undoCursors, a_query, a_display, a_screen)) (h1 : x1 = nI a := by first | with_reducible rfl | (simp (disch := omega) only [nI_add, nI_1, en_m1, en_s1, pk_sub, pk_mul, en_32, en_a2, en_a3, en_p32, en_s32, en_p2, en_s2, en_s3] <;> exact congrArg nI (by omega)) | exact congrArg nI (by omega) | rfl) (h2 : x2 = nI c := by first | with_reducible rfl | (simp (disch := omega) only [nI_add, nI_1, en_m1, en_s1, pk_sub, pk_mul, en_32, en_a2, en_a3, en_p32, en_s32, en_p2, en_s2, en_s3] <;> exact congrArg nI (by omega)) | exact congrArg nI (by omega) | rfl) : wpX_closeGap post (f_width, f_historyCap, f_ringCap, nI n, f_cursor, f_historyCount, f_nav, f_draftLength, f_ringCount, f_yankIndex, f_undoDepth, f_mode, f_last, f_accepted, f_queryLength, f_match, f_matchStart, f_displayLength, f_displayCursor, f_terminalRow, f_terminalCol, a_buffer, a_history, a_historyLengths, a_draft, a_ring, a_ringLengths, a_undoTexts, a_undoLengths, a_undoCursors, a_query, a_display, a_screen) x1 x2 := by
  subst h1 h2
  have := xcg_l hn hc h (n - a - c) 0 (by omega)
  rw [ec_0] at this
  exact nm_r (nI_add a c) ⟨n - a - c + 1, this⟩
theorem xpu_53 {post : St2 → Prop} (n k ud : Nat) (hn : n ≤ 32) (h8 : ud < 8) (h : post (f_width, f_historyCap, f_ringCap, nI n, nI k, f_historyCount, f_nav, f_draftLength, f_ringCount, f_yankIndex, nI (ud + 1), f_mode, f_last, f_accepted, f_queryLength, f_match, f_matchStart, f_displayLength, f_displayCursor, f_terminalRow, f_terminalCol, a_buffer, a_history, a_historyLengths, a_draft, a_ring, a_ringLengths, ec_cp a_buffer 0 a_undoTexts (ud * 32) n, upd a_undoLengths ud (nI n), upd a_undoCursors ud (nI k), a_query, a_display, a_screen)) : wX_pushUndo_53 post f_width f_historyCap f_ringCap (nI n) (nI k) f_historyCount f_nav f_draftLength f_ringCount f_yankIndex (nI ud) f_mode f_last f_accepted f_queryLength f_match f_matchStart f_displayLength f_displayCursor f_terminalRow f_terminalCol a_buffer a_history a_historyLengths a_draft a_ring a_ringLengths a_undoTexts a_undoLengths a_undoCursors a_query a_display a_screen :=
  xc_4 0 (ud * 32) n (by omega) (by omega) ⟨en_in ud h8, nm_r (en_u ud) ⟨en_in ud h8, nm_r (en_u ud) (nm_r (nI_1 ud) h)⟩⟩
theorem xpu {post : St2 → Prop} {n k ud : Nat} (hn : n ≤ 32) (h8 : ud ≤ 8) (h : post (f_width, f_historyCap, f_ringCap, nI n, nI k, f_historyCount, f_nav, f_draftLength, f_ringCount, f_yankIndex, nI (ep_n ud), f_mode, f_last, f_accepted, f_queryLength, f_match, f_matchStart, f_displayLength, f_displayCursor, f_terminalRow, f_terminalCol, a_buffer, a_history, a_historyLengths, a_draft, a_ring, a_ringLengths, ep_U a_buffer a_undoTexts n ud, ep_L a_undoLengths (nI n) ud, ep_L a_undoCursors (nI k) ud, a_query, a_display, a_screen)) : wpX_pushUndo post (f_width, f_historyCap, f_ringCap, nI n, nI k, f_historyCount, f_nav, f_draftLength, f_ringCount, f_yankIndex, nI ud, f_mode, f_last, f_accepted, f_queryLength, f_match, f_matchStart, f_displayLength, f_displayCursor, f_terminalRow, f_terminalCol, a_buffer, a_history, a_historyLengths, a_draft, a_ring, a_ringLengths, a_undoTexts, a_undoLengths, a_undoCursors, a_query, a_display, a_screen) := by
  unfold ep_n ep_U ep_L at h
  by_cases e : ud = 8
  · subst e
    simp only [if_pos] at h
    exact ey_eq 8 8 rfl (xc_5 32 0 (7 * 32) (by omega) (by omega) (by omega) (xc_6 1 0 7 (by omega) (by omega) (by omega) (xc_6 1 0 7 (by omega) (by omega) (by omega) (nm_r (e' := nI 7) rfl (xpu_53 n k 7 hn (by omega) h)))))
  · simp only [if_neg e] at h
    exact en_eq ud 8 e (xpu_53 n k ud hn (by omega) h)
theorem xah_36 {post : St2 → Prop} (n hc : Nat) (hn : n ≤ 32) (h8 : hc < 8) (h : post (f_width, f_historyCap, f_ringCap, nI n, f_cursor, nI (hc + 1), f_nav, f_draftLength, f_ringCount, f_yankIndex, f_undoDepth, f_mode, f_last, f_accepted, f_queryLength, f_match, f_matchStart, f_displayLength, f_displayCursor, f_terminalRow, f_terminalCol, a_buffer, ec_cp a_buffer 0 a_history (hc * 32) n, upd a_historyLengths hc (nI n), a_draft, a_ring, a_ringLengths, a_undoTexts, a_undoLengths, a_undoCursors, a_query, a_display, a_screen)) : wX_addHistory_36 post f_width f_historyCap f_ringCap (nI n) f_cursor (nI hc) f_nav f_draftLength f_ringCount f_yankIndex f_undoDepth f_mode f_last f_accepted f_queryLength f_match f_matchStart f_displayLength f_displayCursor f_terminalRow f_terminalCol a_buffer a_history a_historyLengths a_draft a_ring a_ringLengths a_undoTexts a_undoLengths a_undoCursors a_query a_display a_screen :=
  xc_4 0 (hc * 32) n (by omega) (by omega) ⟨en_in hc h8, nm_r (en_u hc) (nm_r (nI_1 hc) h)⟩
theorem xah {post : St2 → Prop} {n hc hh : Nat} (hn : n ≤ 32) (h1 : 1 ≤ hh) (h8 : hh ≤ 8) (hc8 : hc ≤ hh) (h : post (f_width, nI hh, f_ringCap, nI n, f_cursor, nI (ea_n hc hh), f_nav, f_draftLength, f_ringCount, f_yankIndex, f_undoDepth, f_mode, f_last, f_accepted, f_queryLength, f_match, f_matchStart, f_displayLength, f_displayCursor, f_terminalRow, f_terminalCol, a_buffer, ea_H a_buffer a_history n hc hh, ea_L a_historyLengths (nI n) hc hh, a_draft, a_ring, a_ringLengths, a_undoTexts, a_undoLengths, a_undoCursors, a_query, a_display, a_screen)) : wpX_addHistory post (f_width, nI hh, f_ringCap, nI n, f_cursor, nI hc, f_nav, f_draftLength, f_ringCount, f_yankIndex, f_undoDepth, f_mode, f_last, f_accepted, f_queryLength, f_match, f_matchStart, f_displayLength, f_displayCursor, f_terminalRow, f_terminalCol, a_buffer, a_history, a_historyLengths, a_draft, a_ring, a_ringLengths, a_undoTexts, a_undoLengths, a_undoCursors, a_query, a_display, a_screen) := by
  unfold ea_n ea_H ea_L at h
  by_cases e : hc = hh
  · subst e
    obtain ⟨c, rfl⟩ : ∃ c, hc = c + 1 := ⟨hc - 1, by omega⟩
    simp only [if_pos, Nat.add_sub_cancel] at h
    exact ey_eq (c + 1) (c + 1) rfl (xc_5 32 0 (c * 32) (by omega) (by omega) (by omega) (xc_6 1 0 c (by omega) (by omega) (by omega) (nm_r (nI_pred c) (xah_36 n c hn (by omega) h))))
  · simp only [if_neg e] at h
    exact en_eq hc hh e (xah_36 n hc hn (by omega) h)
/-- the typed char -/
theorem xty_23 {post : Int32 → St2 → Prop} {c : Int32} (n k : Nat) (hn : n < 32) (hk : k ≤ n) (h : post 1 (f_width, f_historyCap, f_ringCap, nI (n + 1), nI (k + 1), f_historyCount, f_nav, f_draftLength, f_ringCount, f_yankIndex, f_undoDepth, f_mode, 1, f_accepted, f_queryLength, f_match, f_matchStart, f_displayLength, f_displayCursor, f_terminalRow, f_terminalCol, upd (ec_cp a_buffer k a_buffer (k + 1) (n - k)) k c, a_history, a_historyLengths, a_draft, a_ring, a_ringLengths, a_undoTexts, a_undoLengths, a_undoCursors, a_query, a_display, a_screen)) : wX_typeChar_23 post c f_width f_historyCap f_ringCap (nI n) (nI k) f_historyCount f_nav f_draftLength f_ringCount f_yankIndex f_undoDepth f_mode f_last f_accepted f_queryLength f_match f_matchStart f_displayLength f_displayCursor f_terminalRow f_terminalCol a_buffer a_history a_historyLengths a_draft a_ring a_ringLengths a_undoTexts a_undoLengths a_undoCursors a_query a_display a_screen :=
  xog k 1 n (by omega) hk ⟨en_in k (by omega), nm_r (en_u k) (nm_r (nI_1 k) h)⟩
/-- a line loaded from the history -/
theorem xlh {post : St2 → Prop} {x : Int32} (i l : Nat) (hi : i < 8) (hl : l ≤ 32) (e : a_historyLengths i = nI l) (h : post (f_width, f_historyCap, f_ringCap, nI l, nI l, f_historyCount, f_nav, f_draftLength, f_ringCount, f_yankIndex, 0, f_mode, f_last, f_accepted, f_queryLength, f_match, f_matchStart, f_displayLength, f_displayCursor, f_terminalRow, f_terminalCol, ec_cp a_history (i * 32) a_buffer 0 l, a_history, a_historyLengths, a_draft, a_ring, a_ringLengths, a_undoTexts, a_undoLengths, a_undoCursors, a_query, a_display, a_screen)) (hx : x = nI i := by first | with_reducible rfl | (simp (disch := omega) only [nI_add, nI_1, en_m1, en_s1, pk_sub, pk_mul, en_32, en_a2, en_a3, en_p32, en_s32, en_p2, en_s2, en_s3] <;> exact congrArg nI (by omega)) | exact congrArg nI (by omega) | rfl) : wpX_loadHistory post (f_width, f_historyCap, f_ringCap, f_length, f_cursor, f_historyCount, f_nav, f_draftLength, f_ringCount, f_yankIndex, f_undoDepth, f_mode, f_last, f_accepted, f_queryLength, f_match, f_matchStart, f_displayLength, f_displayCursor, f_terminalRow, f_terminalCol, a_buffer, a_history, a_historyLengths, a_draft, a_ring, a_ringLengths, a_undoTexts, a_undoLengths, a_undoCursors, a_query, a_display, a_screen) x := by
  subst hx
  exact ⟨en_in i hi, nm_r ((en_g i).trans e) (xc_10 (i * 32) 0 l (by omega) (by omega) h)⟩
theorem xld {post : St2 → Prop} {d : Nat} (hd : d ≤ 32) (h : post (f_width, f_historyCap, f_ringCap, nI d, nI d, f_historyCount, f_nav, 0, f_ringCount, f_yankIndex, 0, f_mode, f_last, f_accepted, f_queryLength, f_match, f_matchStart, f_displayLength, f_displayCursor, f_terminalRow, f_terminalCol, ec_cp a_draft 0 a_buffer 0 d, a_history, a_historyLengths, a_draft, a_ring, a_ringLengths, a_undoTexts, a_undoLengths, a_undoCursors, a_query, a_display, a_screen)) : wpX_loadDraft post (f_width, f_historyCap, f_ringCap, f_length, f_cursor, f_historyCount, f_nav, nI d, f_ringCount, f_yankIndex, f_undoDepth, f_mode, f_last, f_accepted, f_queryLength, f_match, f_matchStart, f_displayLength, f_displayCursor, f_terminalRow, f_terminalCol, a_buffer, a_history, a_historyLengths, a_draft, a_ring, a_ringLengths, a_undoTexts, a_undoLengths, a_undoCursors, a_query, a_display, a_screen) :=
  xc_11 0 0 d (by omega) (by omega) h
end
end
section
/-! J: the component's words, ring, search -/
theorem en_gt {a b c : Int32} (h : b ≤ c) (hab : a < b) : ¬ c ≤ a := by
  rw [Int32.le_iff_toInt_le] at *
  rw [Int32.lt_iff_toInt_lt] at hab
  omega
theorem en_ge {a b c : Int32} (h : b ≤ c) (hab : a ≤ b) : ¬ c < a := by
  rw [Int32.le_iff_toInt_le] at h hab
  rw [Int32.lt_iff_toInt_lt]
  omega
theorem xiw_t {post : Int32 → Prop} {c : Int32} (hw : ew c) (p : post 1) : wpX_isWordChar post () c := by
  rcases hw with h | h | h
  · exact br_f (en_ge h.1 (by decide)) (br_t h.2 p)
  · exact br_f (en_ge h.1 (by decide)) (br_f (en_gt h.1 (by decide)) (br_f (en_ge h.1 (by decide)) (br_t h.2 p)))
  · exact br_f (en_ge h.1 (by decide)) (br_f (en_gt h.1 (by decide)) (br_f (en_ge h.1 (by decide)) (br_f (en_gt h.1 (by decide)) (br_f (en_ge h.1 (by decide)) (br_f (Int32.not_lt.mpr h.2) p)))))
theorem xiw_24 {post : Int32 → Prop} {c : Int32} (hw : ¬ ew c) (p : post 0) : wX_isWordChar_24 post c := by
  by_cases h : c < 97
  · exact br_t h p
  · by_cases h2 : 122 < c
    · exact br_f h (br_t h2 p)
    · exact absurd (Or.inr (Or.inr ⟨Int32.not_lt.mp h, Int32.not_lt.mp h2⟩)) hw
theorem xiw_12 {post : Int32 → Prop} {c : Int32} (hw : ¬ ew c) (p : post 0) : wX_isWordChar_12 post c := by
  by_cases h : c < 65
  · exact br_t h (xiw_24 hw p)
  · exact br_f h (br_f (fun z => hw (Or.inr (Or.inl ⟨Int32.not_lt.mp h, z⟩))) (xiw_24 hw p))
theorem xiw_f {post : Int32 → Prop} {c : Int32} (hw : ¬ ew c) (p : post 0) : wpX_isWordChar post () c := by
  by_cases h : c < 48
  · exact br_t h (xiw_12 hw p)
  · exact br_f h (br_f (fun z => hw (Or.inl ⟨Int32.not_lt.mp h, z⟩)) (xiw_12 hw p))
section
variable {f_width f_historyCap f_ringCap f_length f_cursor f_historyCount f_nav f_draftLength f_ringCount f_yankIndex f_undoDepth f_mode f_last f_accepted f_queryLength f_match f_matchStart f_displayLength f_displayCursor f_terminalRow f_terminalCol : Int32} {a_buffer a_history a_historyLengths a_draft a_ring a_ringLengths a_undoTexts a_undoLengths a_undoCursors a_query a_display a_screen : Nat → Int32}
theorem xwl_29 {post : Int32 → Prop} : ∀ t, t ≤ 32 → post (nI (es a_buffer true t)) → wX_wordLeft_29 post f_width f_historyCap f_ringCap f_length f_cursor f_historyCount f_nav f_draftLength f_ringCount f_yankIndex f_undoDepth f_mode f_last f_accepted f_queryLength f_match f_matchStart f_displayLength f_displayCursor f_terminalRow f_terminalCol a_buffer a_history a_historyLengths a_draft a_ring a_ringLengths a_undoTexts a_undoLengths a_undoCursors a_query a_display a_screen (t + 1) (nI t) := by
  intro t
  induction t with
  | zero => intro _ h; exact br_t (by decide) h
  | succ t ih =>
    intro ht h
    have ec : a_buffer (nI (t + 1) - 1).toNatClampNeg = a_buffer t := en_g t (nI_pred t)
    have hi : vp_in (nI (t + 1) - 1) 32 := en_in t (by omega) (nI_pred t)
    by_cases hw : ew (a_buffer t)
    · rw [es_s, if_pos (decide_eq_true hw)] at h
      exact br_f (nI_nle (by omega) (by omega)) ⟨hi, xiw_t (by rw [ec]; exact hw) (br_f (by decide) (nm_r (pk_m1 t) (ih (by omega) h)))⟩
    · rw [es_s, if_neg (fun z => hw (of_decide_eq_true z))] at h
      exact br_f (nI_nle (by omega) (by omega)) ⟨hi, xiw_f (by rw [ec]; exact hw) (br_t rfl h)⟩
theorem xwl_5 {post : Int32 → Prop} : ∀ t, t ≤ 32 → post (nI (es a_buffer true (es a_buffer false t))) → wX_wordLeft_5 post f_width f_historyCap f_ringCap f_length f_cursor f_historyCount f_nav f_draftLength f_ringCount f_yankIndex f_undoDepth f_mode f_last f_accepted f_queryLength f_match f_matchStart f_displayLength f_displayCursor f_terminalRow f_terminalCol a_buffer a_history a_historyLengths a_draft a_ring a_ringLengths a_undoTexts a_undoLengths a_undoCursors a_query a_display a_screen (t + 1) (nI t) := by
  intro t
  induction t with
  | zero => intro _ h; exact br_t (by decide) ⟨1, xwl_29 0 (by omega) h⟩
  | succ t ih =>
    intro ht h
    have ec : a_buffer (nI (t + 1) - 1).toNatClampNeg = a_buffer t := en_g t (nI_pred t)
    have hi : vp_in (nI (t + 1) - 1) 32 := en_in t (by omega) (nI_pred t)
    by_cases hw : ew (a_buffer t)
    · rw [es_s a_buffer false, if_neg (fun z => of_decide_eq_false z hw)] at h
      exact br_f (nI_nle (by omega) (by omega)) ⟨hi, xiw_t (by rw [ec]; exact hw) (br_f (by decide) ⟨t + 2, xwl_29 (t + 1) (by omega) h⟩)⟩
    · rw [es_s a_buffer false, if_pos (decide_eq_false hw)] at h
      exact br_f (nI_nle (by omega) (by omega)) ⟨hi, xiw_f (by rw [ec]; exact hw) (br_t rfl (nm_r (pk_m1 t) (ih (by omega) h)))⟩
theorem xwl {post : Int32 → Prop} {k : Nat} (hk : k ≤ 32) (h : post (nI (ewl a_buffer k))) : wpX_wordLeft post (f_width, f_historyCap, f_ringCap, f_length, nI k, f_historyCount, f_nav, f_draftLength, f_ringCount, f_yankIndex, f_undoDepth, f_mode, f_last, f_accepted, f_queryLength, f_match, f_matchStart, f_displayLength, f_displayCursor, f_terminalRow, f_terminalCol, a_buffer, a_history, a_historyLengths, a_draft, a_ring, a_ringLengths, a_undoTexts, a_undoLengths, a_undoCursors, a_query, a_display, a_screen) := ⟨k + 1, xwl_5 k hk h⟩
theorem xwr_31 {post : Int32 → Prop} {n : Nat} (hn : n ≤ 32) : ∀ d t, t + d = n → post (nI (et a_buffer true d t)) → wX_wordRight_31 post f_width f_historyCap f_ringCap (nI n) f_cursor f_historyCount f_nav f_draftLength f_ringCount f_yankIndex f_undoDepth f_mode f_last f_accepted f_queryLength f_match f_matchStart f_displayLength f_displayCursor f_terminalRow f_terminalCol a_buffer a_history a_historyLengths a_draft a_ring a_ringLengths a_undoTexts a_undoLengths a_undoCursors a_query a_display a_screen (d + 1) (nI t) := by
  intro d
  induction d with
  | zero => intro t ht h; exact ey_le n t (by omega) h
  | succ d ih =>
    intro t ht h
    have ec : a_buffer (nI t).toNatClampNeg = a_buffer t := en_g t
    by_cases hw : ew (a_buffer t)
    · rw [et_s, if_pos (decide_eq_true hw)] at h
      exact en_le n t (by omega) ⟨en_in t (by omega), xiw_t (by rw [ec]; exact hw) (br_f (by decide) (nm_r (nI_1 t) (ih (t + 1) (by omega) h)))⟩
    · rw [et_s, if_neg (fun z => hw (of_decide_eq_true z))] at h
      exact en_le n t (by omega) ⟨en_in t (by omega), xiw_f (by rw [ec]; exact hw) (br_t rfl h)⟩
theorem xwr_5 {post : Int32 → Prop} {n : Nat} (hn : n ≤ 32) : ∀ d t, t + d = n → post (nI (et a_buffer true (n - et a_buffer false d t) (et a_buffer false d t))) → wX_wordRight_5 post f_width f_historyCap f_ringCap (nI n) f_cursor f_historyCount f_nav f_draftLength f_ringCount f_yankIndex f_undoDepth f_mode f_last f_accepted f_queryLength f_match f_matchStart f_displayLength f_displayCursor f_terminalRow f_terminalCol a_buffer a_history a_historyLengths a_draft a_ring a_ringLengths a_undoTexts a_undoLengths a_undoCursors a_query a_display a_screen (d + 1) (nI t) := by
  intro d
  induction d with
  | zero =>
    intro t ht h
    have e : n - t = 0 := by omega
    have h2 : post (nI (et a_buffer true (n - t) t)) := h
    rw [e] at h2
    exact ey_le n t (by omega) ⟨1, xwr_31 hn 0 t (by omega) h2⟩
  | succ d ih =>
    intro t ht h
    have ec : a_buffer (nI t).toNatClampNeg = a_buffer t := en_g t
    by_cases hw : ew (a_buffer t)
    · rw [et_s a_buffer false, if_neg (fun z => of_decide_eq_false z hw)] at h
      rw [show n - t = d + 1 by omega] at h
      exact en_le n t (by omega) ⟨en_in t (by omega), xiw_t (by rw [ec]; exact hw) (br_f (by decide) ⟨d + 2, xwr_31 hn (d + 1) t (by omega) h⟩)⟩
    · rw [et_s a_buffer false, if_pos (decide_eq_false hw)] at h
      exact en_le n t (by omega) ⟨en_in t (by omega), xiw_f (by rw [ec]; exact hw) (br_t rfl (nm_r (nI_1 t) (ih (t + 1) (by omega) h)))⟩
theorem xwr {post : Int32 → Prop} {n k : Nat} (hn : n ≤ 32) (hk : k ≤ n) (h : post (nI (ewr a_buffer n k))) : wpX_wordRight post (f_width, f_historyCap, f_ringCap, nI n, nI k, f_historyCount, f_nav, f_draftLength, f_ringCount, f_yankIndex, f_undoDepth, f_mode, f_last, f_accepted, f_queryLength, f_match, f_matchStart, f_displayLength, f_displayCursor, f_terminalRow, f_terminalCol, a_buffer, a_history, a_historyLengths, a_draft, a_ring, a_ringLengths, a_undoTexts, a_undoLengths, a_undoCursors, a_query, a_display, a_screen) := ⟨n - k + 1, xwr_5 hn (n - k) k (by omega) h⟩
end
end
section
/-! K: the component's search -/
theorem en_sl {l z s : Nat} (hl : l < 2 ^ 30) (hz : z < 2 ^ 30) (hs : s < 2 ^ 30) (h : l < s + z) : nI l - nI z < nI s := by
  rw [Int32.lt_iff_toInt_lt, pk_sub_toInt hl hz, nI_toInt (by omega)]
  omega
theorem en_sn {l z s : Nat} (hl : l < 2 ^ 30) (hz : z < 2 ^ 30) (hs : s < 2 ^ 30) (h : s + z ≤ l) : ¬ nI l - nI z < nI s := by
  rw [Int32.lt_iff_toInt_lt, pk_sub_toInt hl hz, nI_toInt (by omega)]
  omega
section
variable {f_width f_historyCap f_ringCap f_length f_cursor f_historyCount f_nav f_draftLength f_ringCount f_yankIndex f_undoDepth f_mode f_last f_accepted f_queryLength f_match f_matchStart f_displayLength f_displayCursor f_terminalRow f_terminalCol : Int32} {a_buffer a_history a_historyLengths a_draft a_ring a_ringLengths a_undoTexts a_undoLengths a_undoCursors a_query a_display a_screen : Nat → Int32}
theorem xqs_2 {post : Int32 → Prop} {a z : Nat} (ha : a + z ≤ 256) (hz : z ≤ 16) (p1 : ex a_history a_query a z → post 1) (p0 : ¬ ex a_history a_query a z → post 0) : ∀ d i, i + d = z → (∀ j, j < i → a_history (a + j) = a_query j) → wX_queryStandsAt_2 post (nI a) (nI z) f_width f_historyCap f_ringCap f_length f_cursor f_historyCount f_nav f_draftLength f_ringCount f_yankIndex f_undoDepth f_mode f_last f_accepted f_queryLength f_match f_matchStart f_displayLength f_displayCursor f_terminalRow f_terminalCol a_buffer a_history a_historyLengths a_draft a_ring a_ringLengths a_undoTexts a_undoLengths a_undoCursors a_query a_display a_screen (d + 1) (nI i) := by
  intro d
  induction d with
  | zero =>
    intro i hi H
    obtain rfl : i = z := by omega
    exact ey_le i i (Nat.le_refl _) (p1 H)
  | succ d ih =>
    intro i hi H
    refine en_le z i (by omega) ⟨en_in (a + i) (by omega), en_in i (by omega), ?_⟩
    by_cases c : a_history (a + i) = a_query i
    · exact br_t ((en_g (a + i)).trans (c.trans (en_g i).symm)) (nm_r (nI_1 i) (ih (i + 1) (by omega) (lt_s H c)))
    · exact br_f (fun w => c (((en_g (a + i)).symm.trans w).trans (en_g i))) (p0 (fun w => c (w i (by omega))))
theorem xqs {post : Int32 → Prop} {x1 x2 : Int32} (a z : Nat) (ha : a + z ≤ 256) (hz : z ≤ 16) (p1 : ex a_history a_query a z → post 1) (p0 : ¬ ex a_history a_query a z → post 0) (h1 : x1 = nI a := by first | with_reducible rfl | (simp (disch := omega) only [nI_add, nI_1, en_m1, en_s1, pk_sub, pk_mul, en_32, en_a2, en_a3, en_p32, en_s32, en_p2, en_s2, en_s3] <;> exact congrArg nI (by omega)) | exact congrArg nI (by omega) | rfl) (h2 : x2 = nI z := by first | with_reducible rfl | (simp (disch := omega) only [nI_add, nI_1, en_m1, en_s1, pk_sub, pk_mul, en_32, en_a2, en_a3, en_p32, en_s32, en_p2, en_s2, en_s3] <;> exact congrArg nI (by omega)) | exact congrArg nI (by omega) | rfl) : wpX_queryStandsAt post (f_width, f_historyCap, f_ringCap, f_length, f_cursor, f_historyCount, f_nav, f_draftLength, f_ringCount, f_yankIndex, f_undoDepth, f_mode, f_last, f_accepted, f_queryLength, f_match, f_matchStart, f_displayLength, f_displayCursor, f_terminalRow, f_terminalCol, a_buffer, a_history, a_historyLengths, a_draft, a_ring, a_ringLengths, a_undoTexts, a_undoLengths, a_undoCursors, a_query, a_display, a_screen) x1 x2 := by
  subst h1 h2
  exact ⟨z + 1, xqs_2 ha hz p1 p0 z 0 (by omega) lt_0⟩
theorem xsi_18 {post : Int32 → Prop} {i z l : Nat} (hi : i < 8) (hl : l ≤ 32) (hz : z ≤ 16) : ∀ d s, s ≤ 40 → d = l + 1 - z - s → post (er (eo a_history a_query (i * 32) z d s)) → wX_startInEntry_18 post (nI z) (nI (i * 32)) (nI l - nI z) f_width f_historyCap f_ringCap f_length f_cursor f_historyCount f_nav f_draftLength f_ringCount f_yankIndex f_undoDepth f_mode f_last f_accepted f_queryLength f_match f_matchStart f_displayLength f_displayCursor f_terminalRow f_terminalCol a_buffer a_history a_historyLengths a_draft a_ring a_ringLengths a_undoTexts a_undoLengths a_undoCursors a_query a_display a_screen (d + 1) (nI s) := by
  intro d
  induction d with
  | zero => intro s hs hd h; exact br_t (en_sl (by omega) (by omega) (by omega) (by omega)) h
  | succ d ih =>
    intro s hs hd h
    refine br_f (en_sn (by omega) (by omega) (by omega) (by omega)) (xqs (i * 32 + s) z (by omega) hz (fun e => ?_) (fun e => ?_))
    · rw [eo_s, if_pos e] at h
      exact br_f (by decide) h
    · rw [eo_s, if_neg e] at h
      exact br_t rfl (nm_r (nI_1 s) (ih (s + 1) (by omega) (by omega) h))
theorem xsi {post : Int32 → Prop} {x0 x1 : Int32} (i z l : Nat) (hi : i < 8) (hl : l ≤ 32) (hz : z ≤ 16) (e : a_historyLengths i = nI l) (h : post (er (ei a_history a_historyLengths a_query z i))) (h0 : x0 = nI i := by first | with_reducible rfl | (simp (disch := omega) only [nI_add, nI_1, en_m1, en_s1, pk_sub, pk_mul, en_32, en_a2, en_a3, en_p32, en_s32, en_p2, en_s2, en_s3] <;> exact congrArg nI (by omega)) | exact congrArg nI (by omega) | rfl) (h1 : x1 = nI z := by first | with_reducible rfl | (simp (disch := omega) only [nI_add, nI_1, en_m1, en_s1, pk_sub, pk_mul, en_32, en_a2, en_a3, en_p32, en_s32, en_p2, en_s2, en_s3] <;> exact congrArg nI (by omega)) | exact congrArg nI (by omega) | rfl) : wpX_startInEntry post (f_width, f_historyCap, f_ringCap, f_length, f_cursor, f_historyCount, f_nav, f_draftLength, f_ringCount, f_yankIndex, f_undoDepth, f_mode, f_last, f_accepted, f_queryLength, f_match, f_matchStart, f_displayLength, f_displayCursor, f_terminalRow, f_terminalCol, a_buffer, a_history, a_historyLengths, a_draft, a_ring, a_ringLengths, a_undoTexts, a_undoLengths, a_undoCursors, a_query, a_display, a_screen) x0 x1 := by
  subst h0 h1
  unfold ei at h
  rw [e, nI_clamp (by omega)] at h
  exact nm_r (en_32 i) ⟨en_in i hi, nm_r (congrArg (fun y => y - nI z) ((en_g i).trans e)) ⟨_, xsi_18 hi hl hz (l + 1 - z) 0 (by omega) (by omega) h⟩⟩
theorem xsk_2 {post : Int32 → St2 → Prop} {z c : Nat} (hc : c ≤ 8) (hz : z ≤ 16) (L : ∀ i, i < c → ∃ l, l ≤ 32 ∧ a_historyLengths i = nI l) : ∀ f, f ≤ c → (ef a_history a_historyLengths a_query z f = none → post 0 (f_width, f_historyCap, f_ringCap, f_length, f_cursor, f_historyCount, f_nav, f_draftLength, f_ringCount, f_yankIndex, f_undoDepth, f_mode, f_last, f_accepted, f_queryLength, f_match, f_matchStart, f_displayLength, f_displayCursor, f_terminalRow, f_terminalCol, a_buffer, a_history, a_historyLengths, a_draft, a_ring, a_ringLengths, a_undoTexts, a_undoLengths, a_undoCursors, a_query, a_display, a_screen)) → (∀ m s, ef a_history a_historyLengths a_query z f = some (m, s) → post 1 (f_width, f_historyCap, f_ringCap, f_length, f_cursor, f_historyCount, f_nav, f_draftLength, f_ringCount, f_yankIndex, f_undoDepth, f_mode, f_last, f_accepted, nI z, nI m, nI s, f_displayLength, f_displayCursor, f_terminalRow, f_terminalCol, a_buffer, a_history, a_historyLengths, a_draft, a_ring, a_ringLengths, a_undoTexts, a_undoLengths, a_undoCursors, a_query, a_display, a_screen)) → wX_seek_2 post (nI z) f_width f_historyCap f_ringCap f_length f_cursor f_historyCount f_nav f_draftLength f_ringCount f_yankIndex f_undoDepth f_mode f_last f_accepted f_queryLength f_match f_matchStart f_displayLength f_displayCursor f_terminalRow f_terminalCol a_buffer a_history a_historyLengths a_draft a_ring a_ringLengths a_undoTexts a_undoLengths a_undoCursors a_query a_display a_screen (f + 1) (nI f - 1) := by
  intro f
  induction f with
  | zero => intro _ p0 _; exact br_t (by decide) (p0 rfl)
  | succ f ih =>
    intro hf p0 p1
    obtain ⟨l, hl, e⟩ := L f (by omega)
    rw [nI_pred f]
    refine br_f (nI_pos (by omega)) (xsi f z l (by omega) hl hz e ?_)
    cases c2 : ei a_history a_historyLengths a_query z f with
    | none => exact br_t (by decide) (nm_r (en_q _) (ih (by omega) (fun h => p0 (by rw [ef_s, c2]; exact h)) (fun m s h => p1 m s (by rw [ef_s, c2]; exact h))))
    | some s =>
      have hs := ei_some hl e c2
      exact br_f (nI_pos (n := s) (by omega)) (p1 f s (by rw [ef_s, c2]))
theorem xsk {post : Int32 → St2 → Prop} {x0 x1 : Int32} (f z c : Nat) (hc : c ≤ 8) (hz : z ≤ 16) (L : ∀ i, i < c → ∃ l, l ≤ 32 ∧ a_historyLengths i = nI l) (hf : f ≤ c) (p0 : ef a_history a_historyLengths a_query z f = none → post 0 (f_width, f_historyCap, f_ringCap, f_length, f_cursor, f_historyCount, f_nav, f_draftLength, f_ringCount, f_yankIndex, f_undoDepth, f_mode, f_last, f_accepted, f_queryLength, f_match, f_matchStart, f_displayLength, f_displayCursor, f_terminalRow, f_terminalCol, a_buffer, a_history, a_historyLengths, a_draft, a_ring, a_ringLengths, a_undoTexts, a_undoLengths, a_undoCursors, a_query, a_display, a_screen)) (p1 : ∀ m s, ef a_history a_historyLengths a_query z f = some (m, s) → post 1 (f_width, f_historyCap, f_ringCap, f_length, f_cursor, f_historyCount, f_nav, f_draftLength, f_ringCount, f_yankIndex, f_undoDepth, f_mode, f_last, f_accepted, nI z, nI m, nI s, f_displayLength, f_displayCursor, f_terminalRow, f_terminalCol, a_buffer, a_history, a_historyLengths, a_draft, a_ring, a_ringLengths, a_undoTexts, a_undoLengths, a_undoCursors, a_query, a_display, a_screen)) (h0 : x0 = nI f - 1) (h1 : x1 = nI z := by first | with_reducible rfl | (simp (disch := omega) only [nI_add, nI_1, en_m1, en_s1, pk_sub, pk_mul, en_32, en_a2, en_a3, en_p32, en_s32, en_p2, en_s2, en_s3] <;> exact congrArg nI (by omega)) | exact congrArg nI (by omega) | rfl) : wpX_seek post (f_width, f_historyCap, f_ringCap, f_length, f_cursor, f_historyCount, f_nav, f_draftLength, f_ringCount, f_yankIndex, f_undoDepth, f_mode, f_last, f_accepted, f_queryLength, f_match, f_matchStart, f_displayLength, f_displayCursor, f_terminalRow, f_terminalCol, a_buffer, a_history, a_historyLengths, a_draft, a_ring, a_ringLengths, a_undoTexts, a_undoLengths, a_undoCursors, a_query, a_display, a_screen) x0 x1 := by
  subst h0 h1
  exact ⟨f + 1, xsk_2 hc hz L f hf p0 p1⟩
end
end
section
/-! L: the component's kill ring -/
section
variable {f_width f_historyCap f_ringCap f_length f_cursor f_historyCount f_nav f_draftLength f_ringCount f_yankIndex f_undoDepth f_mode f_last f_accepted f_queryLength f_match f_matchStart f_displayLength f_displayCursor f_terminalRow f_terminalCol : Int32} {a_buffer a_history a_historyLengths a_draft a_ring a_ringLengths a_undoTexts a_undoLengths a_undoCursors a_query a_display a_screen : Nat → Int32}
theorem xrs {post : Int32 → Prop} {x : Int32} (c i : Nat) (hi : i < c) (p : post (nI (c - 1 - i))) (hx : x = nI i := by first | with_reducible rfl | (simp (disch := omega) only [nI_add, nI_1, en_m1, en_s1, pk_sub, pk_mul, en_32, en_a2, en_a3, en_p32, en_s32, en_p2, en_s2, en_s3] <;> exact congrArg nI (by omega)) | exact congrArg nI (by omega) | rfl) : wpX_ringSlot post (f_width, f_historyCap, f_ringCap, f_length, f_cursor, f_historyCount, f_nav, f_draftLength, nI c, f_yankIndex, f_undoDepth, f_mode, f_last, f_accepted, f_queryLength, f_match, f_matchStart, f_displayLength, f_displayCursor, f_terminalRow, f_terminalCol, a_buffer, a_history, a_historyLengths, a_draft, a_ring, a_ringLengths, a_undoTexts, a_undoLengths, a_undoCursors, a_query, a_display, a_screen) x := by
  subst hx
  have e : (nI c - 1) - nI i = nI (c - 1 - i) := by rw [en_s1 (by omega), pk_sub (by omega)]
  have q : post ((nI c - 1) - nI i) := by rw [e]; exact p
  exact q
theorem xrs0 {post : Int32 → Prop} (c : Nat) (p : post (nI c)) : wpX_ringSlot post (f_width, f_historyCap, f_ringCap, f_length, f_cursor, f_historyCount, f_nav, f_draftLength, nI (c + 1), f_yankIndex, f_undoDepth, f_mode, f_last, f_accepted, f_queryLength, f_match, f_matchStart, f_displayLength, f_displayCursor, f_terminalRow, f_terminalCol, a_buffer, a_history, a_historyLengths, a_draft, a_ring, a_ringLengths, a_undoTexts, a_undoLengths, a_undoCursors, a_query, a_display, a_screen) 0 := by
  have e : (nI (c + 1) - 1) - 0 = nI c := by rw [nI_pred, Int32.sub_zero]
  have q : post ((nI (c + 1) - 1) - 0) := by rw [e]; exact p
  exact q
theorem xus {post : Int32 → Prop} {x : Int32} (c i : Nat) (hi : i < c) (p : post (nI (c - 1 - i))) (hx : x = nI i := by first | with_reducible rfl | (simp (disch := omega) only [nI_add, nI_1, en_m1, en_s1, pk_sub, pk_mul, en_32, en_a2, en_a3, en_p32, en_s32, en_p2, en_s2, en_s3] <;> exact congrArg nI (by omega)) | exact congrArg nI (by omega) | rfl) : wpX_undoSlot post (f_width, f_historyCap, f_ringCap, f_length, f_cursor, f_historyCount, f_nav, f_draftLength, f_ringCount, f_yankIndex, nI c, f_mode, f_last, f_accepted, f_queryLength, f_match, f_matchStart, f_displayLength, f_displayCursor, f_terminalRow, f_terminalCol, a_buffer, a_history, a_historyLengths, a_draft, a_ring, a_ringLengths, a_undoTexts, a_undoLengths, a_undoCursors, a_query, a_display, a_screen) x := by
  subst hx
  have e : (nI c - 1) - nI i = nI (c - 1 - i) := by rw [en_s1 (by omega), pk_sub (by omega)]
  have q : post ((nI c - 1) - nI i) := by rw [e]; exact p
  exact q
theorem xus0 {post : Int32 → Prop} (c : Nat) (p : post (nI c)) : wpX_undoSlot post (f_width, f_historyCap, f_ringCap, f_length, f_cursor, f_historyCount, f_nav, f_draftLength, f_ringCount, f_yankIndex, nI (c + 1), f_mode, f_last, f_accepted, f_queryLength, f_match, f_matchStart, f_displayLength, f_displayCursor, f_terminalRow, f_terminalCol, a_buffer, a_history, a_historyLengths, a_draft, a_ring, a_ringLengths, a_undoTexts, a_undoLengths, a_undoCursors, a_query, a_display, a_screen) 0 := by
  have e : (nI (c + 1) - 1) - 0 = nI c := by rw [nI_pred, Int32.sub_zero]
  have q : post ((nI (c + 1) - 1) - 0) := by rw [e]; exact p
  exact q
theorem xkl {post : Int32 → Prop} {x : Int32} (c i l : Nat) (hi : i < c) (hc : c ≤ 4) (e : a_ringLengths (c - 1 - i) = nI l) (p : post (nI l)) (hx : x = nI i := by first | with_reducible rfl | (simp (disch := omega) only [nI_add, nI_1, en_m1, en_s1, pk_sub, pk_mul, en_32, en_a2, en_a3, en_p32, en_s32, en_p2, en_s2, en_s3] <;> exact congrArg nI (by omega)) | exact congrArg nI (by omega) | rfl) : wpX_killLength post (f_width, f_historyCap, f_ringCap, f_length, f_cursor, f_historyCount, f_nav, f_draftLength, nI c, f_yankIndex, f_undoDepth, f_mode, f_last, f_accepted, f_queryLength, f_match, f_matchStart, f_displayLength, f_displayCursor, f_terminalRow, f_terminalCol, a_buffer, a_history, a_historyLengths, a_draft, a_ring, a_ringLengths, a_undoTexts, a_undoLengths, a_undoCursors, a_query, a_display, a_screen) x := by
  subst hx
  have q : post (a_ringLengths (nI (c - 1 - i)).toNatClampNeg) := by rw [nI_clamp (by omega), e]; exact p
  unfold wpX_killLength
  exact xrs c i hi ⟨en_in (c - 1 - i) (by omega), q⟩
theorem xgk_77 {post : St2 → Prop} (st e s c q : Nat) (h1 : st + e ≤ 32) (h2 : q + e ≤ 128) (hc : c < 4) (h : post (f_width, f_historyCap, f_ringCap, f_length, f_cursor, f_historyCount, f_nav, f_draftLength, f_ringCount, f_yankIndex, f_undoDepth, f_mode, f_last, f_accepted, f_queryLength, f_match, f_matchStart, f_displayLength, f_displayCursor, f_terminalRow, f_terminalCol, a_buffer, a_history, a_historyLengths, a_draft, ec_cp a_buffer st a_ring q e, upd a_ringLengths c (nI (s + e)), a_undoTexts, a_undoLengths, a_undoCursors, a_query, a_display, a_screen)) : wX_growKill_77 post (nI st) (nI e) (nI c) (nI s) (nI q) f_width f_historyCap f_ringCap f_length f_cursor f_historyCount f_nav f_draftLength f_ringCount f_yankIndex f_undoDepth f_mode f_last f_accepted f_queryLength f_match f_matchStart f_displayLength f_displayCursor f_terminalRow f_terminalCol a_buffer a_history a_historyLengths a_draft a_ring a_ringLengths a_undoTexts a_undoLengths a_undoCursors a_query a_display a_screen :=
  xc_7 st q e h1 h2 ⟨en_in c hc, nm_r (en_u c (nI_add s e)) h⟩
theorem xgk_40 {post : St2 → Prop} {st e s c b : Nat} (h1 : st + e ≤ 32) (h2 : b + s + e ≤ 128) (hc : c < 4) (h : post (f_width, f_historyCap, f_ringCap, f_length, f_cursor, f_historyCount, f_nav, f_draftLength, f_ringCount, f_yankIndex, f_undoDepth, f_mode, f_last, f_accepted, f_queryLength, f_match, f_matchStart, f_displayLength, f_displayCursor, f_terminalRow, f_terminalCol, a_buffer, a_history, a_historyLengths, a_draft, ec_cp a_buffer st (ec_cp a_ring b a_ring (b + e) s) b e, upd a_ringLengths c (nI (s + e)), a_undoTexts, a_undoLengths, a_undoCursors, a_query, a_display, a_screen)) : ∀ d t, d + t = s → wX_growKill_40 post (nI st) (nI e) (nI c) (nI b) (nI s) f_width f_historyCap f_ringCap f_length f_cursor f_historyCount f_nav f_draftLength f_ringCount f_yankIndex f_undoDepth f_mode f_last f_accepted f_queryLength f_match f_matchStart f_displayLength f_displayCursor f_terminalRow f_terminalCol (d + 1) (nI d - 1) a_buffer a_history a_historyLengths a_draft (ec_cp a_ring (b + d) a_ring (b + e + d) t) a_ringLengths a_undoTexts a_undoLengths a_undoCursors a_query a_display a_screen := by
  intro d
  induction d with
  | zero =>
    intro t ht
    obtain rfl : t = s := by omega
    exact br_t (by decide) (xgk_77 st e t c b h1 (by omega) hc h)
  | succ d ih =>
    intro t ht
    rw [nI_pred d]
    exact br_f (nI_pos (by omega)) ⟨en_in (b + d) (by omega), en_in (b + e + d) (by omega), nm_r ((en_u (b + e + d) (en_g (b + d))).trans (ec_dn (a := b + d) (b := b + e + d) (by omega) t)) (nm_r (en_q _) (ih (t + 1) (by omega)))⟩
theorem xgk_f {post : St2 → Prop} {x0 x1 : Int32} (st e s c : Nat) (h1 : st + e ≤ 32) (h2 : s + e ≤ 32) (hc : c < 4) (hl : a_ringLengths c = nI s) (h : post (f_width, f_historyCap, f_ringCap, f_length, f_cursor, f_historyCount, f_nav, f_draftLength, nI (c + 1), f_yankIndex, f_undoDepth, f_mode, f_last, f_accepted, f_queryLength, f_match, f_matchStart, f_displayLength, f_displayCursor, f_terminalRow, f_terminalCol, a_buffer, a_history, a_historyLengths, a_draft, ec_cp a_buffer st a_ring (c * 32 + s) e, upd a_ringLengths c (nI (s + e)), a_undoTexts, a_undoLengths, a_undoCursors, a_query, a_display, a_screen)) (hx0 : x0 = nI st := by first | with_reducible rfl | (simp (disch := omega) only [nI_add, nI_1, en_m1, en_s1, pk_sub, pk_mul, en_32, en_a2, en_a3, en_p32, en_s32, en_p2, en_s2, en_s3] <;> exact congrArg nI (by omega)) | exact congrArg nI (by omega) | rfl) (hx1 : x1 = nI e := by first | with_reducible rfl | (simp (disch := omega) only [nI_add, nI_1, en_m1, en_s1, pk_sub, pk_mul, en_32, en_a2, en_a3, en_p32, en_s32, en_p2, en_s2, en_s3] <;> exact congrArg nI (by omega)) | exact congrArg nI (by omega) | rfl) : wpX_growKill post (f_width, f_historyCap, f_ringCap, f_length, f_cursor, f_historyCount, f_nav, f_draftLength, nI (c + 1), f_yankIndex, f_undoDepth, f_mode, f_last, f_accepted, f_queryLength, f_match, f_matchStart, f_displayLength, f_displayCursor, f_terminalRow, f_terminalCol, a_buffer, a_history, a_historyLengths, a_draft, a_ring, a_ringLengths, a_undoTexts, a_undoLengths, a_undoCursors, a_query, a_display, a_screen) x0 x1 1 := by
  subst hx0 hx1
  unfold wpX_growKill
  exact xrs0 c (nm_r (en_32 c) ⟨en_in c hc, nm_r ((en_g c).trans hl) (nm_r (nI_add (c * 32) s) (br_f (by decide) (xgk_77 st e s c (c * 32 + s) h1 (by omega) hc h)))⟩)
theorem xgk_b {post : St2 → Prop} {x0 x1 : Int32} (st e s c : Nat) (h1 : st + e ≤ 32) (h2 : s + e ≤ 32) (hc : c < 4) (hl : a_ringLengths c = nI s) (h : post (f_width, f_historyCap, f_ringCap, f_length, f_cursor, f_historyCount, f_nav, f_draftLength, nI (c + 1), f_yankIndex, f_undoDepth, f_mode, f_last, f_accepted, f_queryLength, f_match, f_matchStart, f_displayLength, f_displayCursor, f_terminalRow, f_terminalCol, a_buffer, a_history, a_historyLengths, a_draft, ec_cp a_buffer st (ec_cp a_ring (c * 32) a_ring (c * 32 + e) s) (c * 32) e, upd a_ringLengths c (nI (s + e)), a_undoTexts, a_undoLengths, a_undoCursors, a_query, a_display, a_screen)) (hx0 : x0 = nI st := by first | with_reducible rfl | (simp (disch := omega) only [nI_add, nI_1, en_m1, en_s1, pk_sub, pk_mul, en_32, en_a2, en_a3, en_p32, en_s32, en_p2, en_s2, en_s3] <;> exact congrArg nI (by omega)) | exact congrArg nI (by omega) | rfl) (hx1 : x1 = nI e := by first | with_reducible rfl | (simp (disch := omega) only [nI_add, nI_1, en_m1, en_s1, pk_sub, pk_mul, en_32, en_a2, en_a3, en_p32, en_s32, en_p2, en_s2, en_s3] <;> exact congrArg nI (by omega)) | exact congrArg nI (by omega) | rfl) : wpX_growKill post (f_width, f_historyCap, f_ringCap, f_length, f_cursor, f_historyCount, f_nav, f_draftLength, nI (c + 1), f_yankIndex, f_undoDepth, f_mode, f_last, f_accepted, f_queryLength, f_match, f_matchStart, f_displayLength, f_displayCursor, f_terminalRow, f_terminalCol, a_buffer, a_history, a_historyLengths, a_draft, a_ring, a_ringLengths, a_undoTexts, a_undoLengths, a_undoCursors, a_query, a_display, a_screen) x0 x1 0 := by
  subst hx0 hx1
  have := xgk_40 (b := c * 32) h1 (by omega) hc h s 0 (by omega)
  rw [ec_0] at this
  unfold wpX_growKill
  exact xrs0 c (nm_r (en_32 c) ⟨en_in c hc, nm_r ((en_g c).trans hl) (nm_r (nI_add (c * 32) s) (br_t rfl (nm_e ⟨s + 1, this⟩)))⟩)
theorem xk_f {post : Int32 → St2 → Prop} (st e s c n : Nat) (hn : n ≤ 32) (h1 : st + e ≤ n) (h2 : s + e ≤ 32) (hc : c < 4) (hl : a_ringLengths c = nI s) (h : post 1 (f_width, f_historyCap, f_ringCap, nI (n - e), nI st, f_historyCount, f_nav, f_draftLength, nI (c + 1), f_yankIndex, f_undoDepth, f_mode, 2, f_accepted, f_queryLength, f_match, f_matchStart, f_displayLength, f_displayCursor, f_terminalRow, f_terminalCol, ec_cp a_buffer (st + e) a_buffer st (n - st - e), a_history, a_historyLengths, a_draft, ec_cp a_buffer st a_ring (c * 32 + s) e, upd a_ringLengths c (nI (s + e)), a_undoTexts, a_undoLengths, a_undoCursors, a_query, a_display, a_screen)) : wX_killKey_121 post (nI st) (nI (st + e)) 1 f_width f_historyCap f_ringCap (nI n) f_cursor f_historyCount f_nav f_draftLength (nI (c + 1)) f_yankIndex f_undoDepth f_mode f_last f_accepted f_queryLength f_match f_matchStart f_displayLength f_displayCursor f_terminalRow f_terminalCol a_buffer a_history a_historyLengths a_draft a_ring a_ringLengths a_undoTexts a_undoLengths a_undoCursors a_query a_display a_screen :=
  xgk_f st e s c (by omega) h2 hc hl (xcg st e n hn h1 h)
theorem xk_b {post : Int32 → St2 → Prop} (st e s c n : Nat) (hn : n ≤ 32) (h1 : st + e ≤ n) (h2 : s + e ≤ 32) (hc : c < 4) (hl : a_ringLengths c = nI s) (h : post 1 (f_width, f_historyCap, f_ringCap, nI (n - e), nI st, f_historyCount, f_nav, f_draftLength, nI (c + 1), f_yankIndex, f_undoDepth, f_mode, 2, f_accepted, f_queryLength, f_match, f_matchStart, f_displayLength, f_displayCursor, f_terminalRow, f_terminalCol, ec_cp a_buffer (st + e) a_buffer st (n - st - e), a_history, a_historyLengths, a_draft, ec_cp a_buffer st (ec_cp a_ring (c * 32) a_ring (c * 32 + e) s) (c * 32) e, upd a_ringLengths c (nI (s + e)), a_undoTexts, a_undoLengths, a_undoCursors, a_query, a_display, a_screen)) : wX_killKey_121 post (nI st) (nI (st + e)) 0 f_width f_historyCap f_ringCap (nI n) f_cursor f_historyCount f_nav f_draftLength (nI (c + 1)) f_yankIndex f_undoDepth f_mode f_last f_accepted f_queryLength f_match f_matchStart f_displayLength f_displayCursor f_terminalRow f_terminalCol a_buffer a_history a_historyLengths a_draft a_ring a_ringLengths a_undoTexts a_undoLengths a_undoCursors a_query a_display a_screen :=
  xgk_b st e s c (by omega) h2 hc hl (xcg st e n hn h1 h)
theorem xae_36 {post : St2 → Prop} (c : Nat) (hc : c < 4) (h : post (f_width, f_historyCap, f_ringCap, f_length, f_cursor, f_historyCount, f_nav, f_draftLength, nI (c + 1), f_yankIndex, f_undoDepth, f_mode, f_last, f_accepted, f_queryLength, f_match, f_matchStart, f_displayLength, f_displayCursor, f_terminalRow, f_terminalCol, a_buffer, a_history, a_historyLengths, a_draft, a_ring, upd a_ringLengths c 0, a_undoTexts, a_undoLengths, a_undoCursors, a_query, a_display, a_screen)) : wX_addEmptyKill_36 post f_width f_historyCap f_ringCap f_length f_cursor f_historyCount f_nav f_draftLength (nI c) f_yankIndex f_undoDepth f_mode f_last f_accepted f_queryLength f_match f_matchStart f_displayLength f_displayCursor f_terminalRow f_terminalCol a_buffer a_history a_historyLengths a_draft a_ring a_ringLengths a_undoTexts a_undoLengths a_undoCursors a_query a_display a_screen :=
  ⟨en_in c hc, nm_r (en_u c) (nm_r (nI_1 c) h)⟩
theorem xae_n {post : St2 → Prop} (c r : Nat) (hc : c < r) (hr : r ≤ 4) (h : post (f_width, f_historyCap, nI r, f_length, f_cursor, f_historyCount, f_nav, f_draftLength, nI (c + 1), f_yankIndex, f_undoDepth, f_mode, f_last, f_accepted, f_queryLength, f_match, f_matchStart, f_displayLength, f_displayCursor, f_terminalRow, f_terminalCol, a_buffer, a_history, a_historyLengths, a_draft, a_ring, upd a_ringLengths c 0, a_undoTexts, a_undoLengths, a_undoCursors, a_query, a_display, a_screen)) : wpX_addEmptyKill post (f_width, f_historyCap, nI r, f_length, f_cursor, f_historyCount, f_nav, f_draftLength, nI c, f_yankIndex, f_undoDepth, f_mode, f_last, f_accepted, f_queryLength, f_match, f_matchStart, f_displayLength, f_displayCursor, f_terminalRow, f_terminalCol, a_buffer, a_history, a_historyLengths, a_draft, a_ring, a_ringLengths, a_undoTexts, a_undoLengths, a_undoCursors, a_query, a_display, a_screen) :=
  en_eq c r (by omega) (xae_36 c (by omega) h)
theorem xae_f {post : St2 → Prop} (c : Nat) (hc : c < 4) (h : post (f_width, f_historyCap, nI (c + 1), f_length, f_cursor, f_historyCount, f_nav, f_draftLength, nI (c + 1), f_yankIndex, f_undoDepth, f_mode, f_last, f_accepted, f_queryLength, f_match, f_matchStart, f_displayLength, f_displayCursor, f_terminalRow, f_terminalCol, a_buffer, a_history, a_historyLengths, a_draft, ec_cp a_ring 32 a_ring 0 (c * 32), upd (ec_cp a_ringLengths 1 a_ringLengths 0 c) c 0, a_undoTexts, a_undoLengths, a_undoCursors, a_query, a_display, a_screen)) : wpX_addEmptyKill post (f_width, f_historyCap, nI (c + 1), f_length, f_cursor, f_historyCount, f_nav, f_draftLength, nI (c + 1), f_yankIndex, f_undoDepth, f_mode, f_last, f_accepted, f_queryLength, f_match, f_matchStart, f_displayLength, f_displayCursor, f_terminalRow, f_terminalCol, a_buffer, a_history, a_historyLengths, a_draft, a_ring, a_ringLengths, a_undoTexts, a_undoLengths, a_undoCursors, a_query, a_display, a_screen) :=
  ey_eq (c + 1) (c + 1) rfl (xc_8 32 0 (c * 32) (by omega) (by omega) (by omega) (xc_9 1 0 c (by omega) (by omega) (by omega) (nm_r (nI_pred c) (xae_36 c hc h))))
/-- the ring's entry i put in at the cursor -/
theorem xik {post : St2 → Prop} {x : Int32} (c i l n k : Nat) (hi : i < c) (hc : c ≤ 4) (hl : n + l ≤ 32) (hk : k ≤ n) (e : a_ringLengths (c - 1 - i) = nI l) (h : post (f_width, f_historyCap, f_ringCap, nI (n + l), nI (k + l), f_historyCount, f_nav, f_draftLength, nI c, nI i, f_undoDepth, f_mode, f_last, f_accepted, f_queryLength, f_match, f_matchStart, f_displayLength, f_displayCursor, f_terminalRow, f_terminalCol, ec_cp a_ring ((c - 1 - i) * 32) (ec_cp a_buffer k a_buffer (k + l) (n - k)) k l, a_history, a_historyLengths, a_draft, a_ring, a_ringLengths, a_undoTexts, a_undoLengths, a_undoCursors, a_query, a_display, a_screen)) (hx : x = nI i := by first | with_reducible rfl | (simp (disch := omega) only [nI_add, nI_1, en_m1, en_s1, pk_sub, pk_mul, en_32, en_a2, en_a3, en_p32, en_s32, en_p2, en_s2, en_s3] <;> exact congrArg nI (by omega)) | exact congrArg nI (by omega) | rfl) : wpX_insertKill post (f_width, f_historyCap, f_ringCap, nI n, nI k, f_historyCount, f_nav, f_draftLength, nI c, f_yankIndex, f_undoDepth, f_mode, f_last, f_accepted, f_queryLength, f_match, f_matchStart, f_displayLength, f_displayCursor, f_terminalRow, f_terminalCol, a_buffer, a_history, a_historyLengths, a_draft, a_ring, a_ringLengths, a_undoTexts, a_undoLengths, a_undoCursors, a_query, a_display, a_screen) x := by
  subst hx
  unfold wpX_insertKill
  exact xrs c i hi ⟨en_in (c - 1 - i) (by omega), nm_r ((en_g (c - 1 - i)).trans e) (xog k l n hl hk (xc_12 ((c - 1 - i) * 32) k l (by omega) (by omega) (nm_r (nI_add k l) h)))⟩
end
end
section
/-! M: the component's picture -/
def ed_S (D S : Nat → Int32) (dl c : Nat) : Nat → Int32 := fun j => if j < c then (if j < dl then D j else 32) else S j
theorem ed_0 (D S : Nat → Int32) (dl : Nat) : ed_S D S dl 0 = S := by
  funext j
  exact if_neg (by omega)
theorem ed_1 {D S : Nat → Int32} {dl c : Nat} {x : Int32} (h : (if c < dl then D c else 32) = x) : upd (ed_S D S dl c) c x = ed_S D S dl (c + 1) := by
  funext j
  by_cases e : j = c
  · subst e
    rw [ec_us]
    unfold ed_S
    rw [if_pos (show j < j + 1 by omega), h]
  · rw [ec_un e]
    unfold ed_S
    by_cases e2 : j < c
    · rw [if_pos e2, if_pos (show j < c + 1 by omega)]
    · rw [if_neg e2, if_neg (show ¬ j < c + 1 by omega)]
theorem ed_e {B D : Nat → Int32} {n : Nat} : ec_cp B 0 (upd (upd D 0 62) 1 32) 2 n 0 = 62 ∧ ec_cp B 0 (upd (upd D 0 62) 1 32) 2 n 1 = 32 ∧ ∀ j, j < n → ec_cp B 0 (upd (upd D 0 62) 1 32) 2 n (2 + j) = B j := by
  refine ⟨?_, ?_, fun j hj => ?_⟩
  · rw [ec_o (by omega), ec_un (by omega), ec_us]
  · rw [ec_o (by omega), ec_us]
  · rw [ec_k hj, Nat.zero_add]
theorem ed_f {T Q D : Nat → Int32} {a q l : Nat} {F : Nat → Int32} (hF : F = ec_cp T a (upd (upd (ec_cp Q 0 (upd D 0 63) 1 q) (1 + q) 58) (1 + q + 1) 32) (1 + q + 1 + 1) l) :
    F 0 = 63 ∧ (∀ j, j < q → F (1 + j) = Q j) ∧ F (1 + q) = 58 ∧ F (2 + q) = 32 ∧ ∀ j, j < l → F (3 + q + j) = T (a + j) := by
  subst hF
  refine ⟨?_, fun j hj => ?_, ?_, ?_, fun j hj => ?_⟩
  · rw [ec_o (by omega), ec_un (by omega), ec_un (by omega), ec_o (by omega), ec_us]
  · rw [ec_o (by omega), ec_un (by omega), ec_un (by omega), ec_k hj, Nat.zero_add]
  · rw [ec_o (by omega), ec_un (by omega), ec_us]
  · rw [show 2 + q = 1 + q + 1 by omega, ec_o (by omega), ec_us]
  · rw [show 3 + q + j = 1 + q + 1 + 1 + j by omega, ec_k hj]
section
variable {f_width f_historyCap f_ringCap f_length f_cursor f_historyCount f_nav f_draftLength f_ringCount f_yankIndex f_undoDepth f_mode f_last f_accepted f_queryLength f_match f_matchStart f_displayLength f_displayCursor f_terminalRow f_terminalCol : Int32} {a_buffer a_history a_historyLengths a_draft a_ring a_ringLengths a_undoTexts a_undoLengths a_undoCursors a_query a_display a_screen : Nat → Int32}
theorem xsc {post : St2 → Prop} {c : Int32} (L : Nat) (hL : L < 51) (h : post (f_width, f_historyCap, f_ringCap, f_length, f_cursor, f_historyCount, f_nav, f_draftLength, f_ringCount, f_yankIndex, f_undoDepth, f_mode, f_last, f_accepted, f_queryLength, f_match, f_matchStart, nI (L + 1), f_displayCursor, f_terminalRow, f_terminalCol, a_buffer, a_history, a_historyLengths, a_draft, a_ring, a_ringLengths, a_undoTexts, a_undoLengths, a_undoCursors, a_query, upd a_display L c, a_screen)) : wpX_showChar post (f_width, f_historyCap, f_ringCap, f_length, f_cursor, f_historyCount, f_nav, f_draftLength, f_ringCount, f_yankIndex, f_undoDepth, f_mode, f_last, f_accepted, f_queryLength, f_match, f_matchStart, nI L, f_displayCursor, f_terminalRow, f_terminalCol, a_buffer, a_history, a_historyLengths, a_draft, a_ring, a_ringLengths, a_undoTexts, a_undoLengths, a_undoCursors, a_query, a_display, a_screen) c :=
  ⟨en_in L hL, nm_r (en_u L) (nm_r (nI_1 L) h)⟩
theorem xst_b {post : St2 → Prop} {x1 x2 : Int32} (a c L : Nat) (h1 : a + c ≤ 32) (h2 : L + c ≤ 51) (h : post (f_width, f_historyCap, f_ringCap, f_length, f_cursor, f_historyCount, f_nav, f_draftLength, f_ringCount, f_yankIndex, f_undoDepth, f_mode, f_last, f_accepted, f_queryLength, f_match, f_matchStart, nI (L + c), f_displayCursor, f_terminalRow, f_terminalCol, a_buffer, a_history, a_historyLengths, a_draft, a_ring, a_ringLengths, a_undoTexts, a_undoLengths, a_undoCursors, a_query, ec_cp a_buffer a a_display L c, a_screen)) (e1 : x1 = nI a := by first | with_reducible rfl | (simp (disch := omega) only [nI_add, nI_1, en_m1, en_s1, pk_sub, pk_mul, en_32, en_a2, en_a3, en_p32, en_s32, en_p2, en_s2, en_s3] <;> exact congrArg nI (by omega)) | exact congrArg nI (by omega) | rfl) (e2 : x2 = nI c := by first | with_reducible rfl | (simp (disch := omega) only [nI_add, nI_1, en_m1, en_s1, pk_sub, pk_mul, en_32, en_a2, en_a3, en_p32, en_s32, en_p2, en_s2, en_s3] <;> exact congrArg nI (by omega)) | exact congrArg nI (by omega) | rfl) : wpX_showText post (f_width, f_historyCap, f_ringCap, f_length, f_cursor, f_historyCount, f_nav, f_draftLength, f_ringCount, f_yankIndex, f_undoDepth, f_mode, f_last, f_accepted, f_queryLength, f_match, f_matchStart, nI L, f_displayCursor, f_terminalRow, f_terminalCol, a_buffer, a_history, a_historyLengths, a_draft, a_ring, a_ringLengths, a_undoTexts, a_undoLengths, a_undoCursors, a_query, a_display, a_screen) x1 x2 := by
  subst e1 e2
  exact xc_1 a L c h1 h2 (nm_r (nI_add L c) h)
theorem xst_q {post : St2 → Prop} {x1 x2 : Int32} (a c L : Nat) (h1 : a + c ≤ 16) (h2 : L + c ≤ 51) (h : post (f_width, f_historyCap, f_ringCap, f_length, f_cursor, f_historyCount, f_nav, f_draftLength, f_ringCount, f_yankIndex, f_undoDepth, f_mode, f_last, f_accepted, f_queryLength, f_match, f_matchStart, nI (L + c), f_displayCursor, f_terminalRow, f_terminalCol, a_buffer, a_history, a_historyLengths, a_draft, a_ring, a_ringLengths, a_undoTexts, a_undoLengths, a_undoCursors, a_query, ec_cp a_query a a_display L c, a_screen)) (e1 : x1 = nI a := by first | with_reducible rfl | (simp (disch := omega) only [nI_add, nI_1, en_m1, en_s1, pk_sub, pk_mul, en_32, en_a2, en_a3, en_p32, en_s32, en_p2, en_s2, en_s3] <;> exact congrArg nI (by omega)) | exact congrArg nI (by omega) | rfl) (e2 : x2 = nI c := by first | with_reducible rfl | (simp (disch := omega) only [nI_add, nI_1, en_m1, en_s1, pk_sub, pk_mul, en_32, en_a2, en_a3, en_p32, en_s32, en_p2, en_s2, en_s3] <;> exact congrArg nI (by omega)) | exact congrArg nI (by omega) | rfl) : wpX_showText_2 post (f_width, f_historyCap, f_ringCap, f_length, f_cursor, f_historyCount, f_nav, f_draftLength, f_ringCount, f_yankIndex, f_undoDepth, f_mode, f_last, f_accepted, f_queryLength, f_match, f_matchStart, nI L, f_displayCursor, f_terminalRow, f_terminalCol, a_buffer, a_history, a_historyLengths, a_draft, a_ring, a_ringLengths, a_undoTexts, a_undoLengths, a_undoCursors, a_query, a_display, a_screen) x1 x2 := by
  subst e1 e2
  exact xc_2 a L c h1 h2 (nm_r (nI_add L c) h)
theorem xst_h {post : St2 → Prop} {x1 x2 : Int32} (a c L : Nat) (h1 : a + c ≤ 256) (h2 : L + c ≤ 51) (h : post (f_width, f_historyCap, f_ringCap, f_length, f_cursor, f_historyCount, f_nav, f_draftLength, f_ringCount, f_yankIndex, f_undoDepth, f_mode, f_last, f_accepted, f_queryLength, f_match, f_matchStart, nI (L + c), f_displayCursor, f_terminalRow, f_terminalCol, a_buffer, a_history, a_historyLengths, a_draft, a_ring, a_ringLengths, a_undoTexts, a_undoLengths, a_undoCursors, a_query, ec_cp a_history a a_display L c, a_screen)) (e1 : x1 = nI a := by first | with_reducible rfl | (simp (disch := omega) only [nI_add, nI_1, en_m1, en_s1, pk_sub, pk_mul, en_32, en_a2, en_a3, en_p32, en_s32, en_p2, en_s2, en_s3] <;> exact congrArg nI (by omega)) | exact congrArg nI (by omega) | rfl) (e2 : x2 = nI c := by first | with_reducible rfl | (simp (disch := omega) only [nI_add, nI_1, en_m1, en_s1, pk_sub, pk_mul, en_32, en_a2, en_a3, en_p32, en_s32, en_p2, en_s2, en_s3] <;> exact congrArg nI (by omega)) | exact congrArg nI (by omega) | rfl) : wpX_showText_3 post (f_width, f_historyCap, f_ringCap, f_length, f_cursor, f_historyCount, f_nav, f_draftLength, f_ringCount, f_yankIndex, f_undoDepth, f_mode, f_last, f_accepted, f_queryLength, f_match, f_matchStart, nI L, f_displayCursor, f_terminalRow, f_terminalCol, a_buffer, a_history, a_historyLengths, a_draft, a_ring, a_ringLengths, a_undoTexts, a_undoLengths, a_undoCursors, a_query, a_display, a_screen) x1 x2 := by
  subst e1 e2
  exact xc_3 a L c h1 h2 (nm_r (nI_add L c) h)
theorem xce {post : St2 → Prop} {n k : Nat} (hn : n ≤ 32) (h : post (f_width, f_historyCap, f_ringCap, nI n, nI k, f_historyCount, f_nav, f_draftLength, f_ringCount, f_yankIndex, f_undoDepth, f_mode, f_last, f_accepted, f_queryLength, f_match, f_matchStart, nI (2 + n), nI (2 + k), f_terminalRow, f_terminalCol, a_buffer, a_history, a_historyLengths, a_draft, a_ring, a_ringLengths, a_undoTexts, a_undoLengths, a_undoCursors, a_query, ec_cp a_buffer 0 (upd (upd a_display 0 62) 1 32) 2 n, a_screen)) : wpX_composeEdit post (f_width, f_historyCap, f_ringCap, nI n, nI k, f_historyCount, f_nav, f_draftLength, f_ringCount, f_yankIndex, f_undoDepth, f_mode, f_last, f_accepted, f_queryLength, f_match, f_matchStart, 0, f_displayCursor, f_terminalRow, f_terminalCol, a_buffer, a_history, a_historyLengths, a_draft, a_ring, a_ringLengths, a_undoTexts, a_undoLengths, a_undoCursors, a_query, a_display, a_screen) := by
  unfold wpX_composeEdit
  exact xsc 0 (by omega) (xsc 1 (by omega) (nm_r (nI_add 2 k) (xst_b 0 n 2 (by omega) (by omega) h)))
theorem xcs_b {post : St2 → Prop} {n k q : Nat} (hn : n ≤ 32) (hq : q ≤ 16) (h : post (f_width, f_historyCap, f_ringCap, nI n, nI k, f_historyCount, f_nav, f_draftLength, f_ringCount, f_yankIndex, f_undoDepth, f_mode, f_last, f_accepted, nI q, (-1), f_matchStart, nI (1 + q + 1 + 1 + n), nI (1 + q + 1 + 1 + k), f_terminalRow, f_terminalCol, a_buffer, a_history, a_historyLengths, a_draft, a_ring, a_ringLengths, a_undoTexts, a_undoLengths, a_undoCursors, a_query, ec_cp a_buffer 0 (upd (upd (ec_cp a_query 0 (upd a_display 0 63) 1 q) (1 + q) 58) (1 + q + 1) 32) (1 + q + 1 + 1) n, a_screen)) : wpX_composeSearch post (f_width, f_historyCap, f_ringCap, nI n, nI k, f_historyCount, f_nav, f_draftLength, f_ringCount, f_yankIndex, f_undoDepth, f_mode, f_last, f_accepted, nI q, (-1), f_matchStart, 0, f_displayCursor, f_terminalRow, f_terminalCol, a_buffer, a_history, a_historyLengths, a_draft, a_ring, a_ringLengths, a_undoTexts, a_undoLengths, a_undoCursors, a_query, a_display, a_screen) := by
  unfold wpX_composeSearch
  exact xsc 0 (by omega) (xst_q 0 q 1 (by omega) (by omega) (xsc (1 + q) (by omega) (xsc (1 + q + 1) (by omega) (br_t (by decide) (nm_r (nI_add (1 + q + 1 + 1) k) (xst_b 0 n (1 + q + 1 + 1) (by omega) (by omega) h))))))
theorem xcs_h {post : St2 → Prop} {i l p q : Nat} (hi : i < 8) (hl : l ≤ 32) (hq : q ≤ 16) (e : a_historyLengths i = nI l) (h : post (f_width, f_historyCap, f_ringCap, f_length, f_cursor, f_historyCount, f_nav, f_draftLength, f_ringCount, f_yankIndex, f_undoDepth, f_mode, f_last, f_accepted, nI q, nI i, nI p, nI (1 + q + 1 + 1 + l), nI (1 + q + 1 + 1 + p), f_terminalRow, f_terminalCol, a_buffer, a_history, a_historyLengths, a_draft, a_ring, a_ringLengths, a_undoTexts, a_undoLengths, a_undoCursors, a_query, ec_cp a_history (i * 32) (upd (upd (ec_cp a_query 0 (upd a_display 0 63) 1 q) (1 + q) 58) (1 + q + 1) 32) (1 + q + 1 + 1) l, a_screen)) : wpX_composeSearch post (f_width, f_historyCap, f_ringCap, f_length, f_cursor, f_historyCount, f_nav, f_draftLength, f_ringCount, f_yankIndex, f_undoDepth, f_mode, f_last, f_accepted, nI q, nI i, nI p, 0, f_displayCursor, f_terminalRow, f_terminalCol, a_buffer, a_history, a_historyLengths, a_draft, a_ring, a_ringLengths, a_undoTexts, a_undoLengths, a_undoCursors, a_query, a_display, a_screen) := by
  unfold wpX_composeSearch
  exact xsc 0 (by omega) (xst_q 0 q 1 (by omega) (by omega) (xsc (1 + q) (by omega) (xsc (1 + q + 1) (by omega) (br_f (nI_pos (by omega)) (nm_r (nI_add (1 + q + 1 + 1) p) ⟨en_in i hi, xst_h (i * 32) l (1 + q + 1 + 1) (by omega) (by omega) h (en_32 i) ((en_g i).trans e)⟩)))))
theorem xds_10 {post : St2 → Prop} {w dl dc : Nat} (hw : 4 ≤ w) (hw2 : w ≤ 16) (hdl : dl ≤ 51) (hdc : dc ≤ 51) (h : post (nI w, f_historyCap, f_ringCap, f_length, f_cursor, f_historyCount, f_nav, f_draftLength, f_ringCount, f_yankIndex, f_undoDepth, f_mode, f_last, f_accepted, f_queryLength, f_match, f_matchStart, nI dl, nI dc, nI (dc / w), nI (dc % w), a_buffer, a_history, a_historyLengths, a_draft, a_ring, a_ringLengths, a_undoTexts, a_undoLengths, a_undoCursors, a_query, a_display, ed_S a_display a_screen dl (16 * w))) : ∀ d i, i + d = 16 * w → wX_drawScreen_10 post (nI (16 * w)) (nI w) f_historyCap f_ringCap f_length f_cursor f_historyCount f_nav f_draftLength f_ringCount f_yankIndex f_undoDepth f_mode f_last f_accepted f_queryLength f_match f_matchStart (nI dl) (nI dc) f_terminalRow f_terminalCol (d + 1) (nI i) a_buffer a_history a_historyLengths a_draft a_ring a_ringLengths a_undoTexts a_undoLengths a_undoCursors a_query a_display (ed_S a_display a_screen dl i) := by
  intro d
  induction d with
  | zero =>
    intro i hi
    obtain rfl : i = 16 * w := by omega
    have w0 : ¬ nI w = 0 := nI_ne0 (by omega) (by omega)
    exact ey_le (16 * w) (16 * w) (Nat.le_refl _) ⟨w0, nm_r (pk_div (by omega) (by omega) (by omega)) ⟨w0, nm_r (pk_rem (by omega) (by omega) (by omega)) h⟩⟩
  | succ d ih =>
    intro i hi
    refine en_le (16 * w) i (by omega) ?_
    by_cases c : i < dl
    · exact en_le dl i c ⟨en_in i (by omega), en_in i (by omega), nm_r ((en_u i (en_g i)).trans (ed_1 (if_pos c))) (nm_r (nI_1 i) (ih (i + 1) (by omega)))⟩
    · exact ey_le dl i (by omega) ⟨en_in i (by omega), nm_r ((en_u i).trans (ed_1 (if_neg c))) (nm_r (nI_1 i) (ih (i + 1) (by omega)))⟩
theorem xdr {post : St2 → Prop} {w dl dc : Nat} (hw : 4 ≤ w) (hw2 : w ≤ 16) (hdl : dl ≤ 51) (hdc : dc ≤ 51) (h : post (nI w, f_historyCap, f_ringCap, f_length, f_cursor, f_historyCount, f_nav, f_draftLength, f_ringCount, f_yankIndex, f_undoDepth, f_mode, f_last, f_accepted, f_queryLength, f_match, f_matchStart, nI dl, nI dc, nI (dc / w), nI (dc % w), a_buffer, a_history, a_historyLengths, a_draft, a_ring, a_ringLengths, a_undoTexts, a_undoLengths, a_undoCursors, a_query, a_display, ed_S a_display a_screen dl (16 * w))) : wpX_drawScreen post (nI w, f_historyCap, f_ringCap, f_length, f_cursor, f_historyCount, f_nav, f_draftLength, f_ringCount, f_yankIndex, f_undoDepth, f_mode, f_last, f_accepted, f_queryLength, f_match, f_matchStart, nI dl, nI dc, f_terminalRow, f_terminalCol, a_buffer, a_history, a_historyLengths, a_draft, a_ring, a_ringLengths, a_undoTexts, a_undoLengths, a_undoCursors, a_query, a_display, a_screen) := by
  have := xds_10 (f_terminalRow := f_terminalRow) (f_terminalCol := f_terminalCol) hw hw2 hdl hdc h (16 * w) 0 (by omega)
  rw [ed_0] at this
  exact nm_r (en_16 w) ⟨16 * w + 1, this⟩
/-- the picture, made anew -/
theorem xrf {w n k mo ql p : Nat} {m : Int32} (hw : 4 ≤ w) (hw2 : w ≤ 16) (hn : n ≤ 32) (hk : k ≤ n) (hq : ql ≤ 16)
    (hm : mo = 0 ∨ (mo = 1 ∧ (m = -1 ∨ ∃ i l, m = nI i ∧ i < 8 ∧ l ≤ 32 ∧ a_historyLengths i = nI l ∧ p ≤ l))) :
    ∃ (dl dc : Nat) (DS SC : Nat → Int32), eP w n k mo ql p m a_buffer a_history a_historyLengths a_query dl dc DS SC ∧
      ∀ post : St2 → Prop, post (nI w, f_historyCap, f_ringCap, nI n, nI k, f_historyCount, f_nav, f_draftLength, f_ringCount, f_yankIndex, f_undoDepth, nI mo, f_last, f_accepted, nI ql, m, nI p, nI dl, nI dc, nI (dc / w), nI (dc % w), a_buffer, a_history, a_historyLengths, a_draft, a_ring, a_ringLengths, a_undoTexts, a_undoLengths, a_undoCursors, a_query, DS, SC) → wpX_refresh post (nI w, f_historyCap, f_ringCap, nI n, nI k, f_historyCount, f_nav, f_draftLength, f_ringCount, f_yankIndex, f_undoDepth, nI mo, f_last, f_accepted, nI ql, m, nI p, f_displayLength, f_displayCursor, f_terminalRow, f_terminalCol, a_buffer, a_history, a_historyLengths, a_draft, a_ring, a_ringLengths, a_undoTexts, a_undoLengths, a_undoCursors, a_query, a_display, a_screen) := by
  rcases hm with rfl | ⟨rfl, rfl | ⟨i, l, rfl, hi, hl, e, hp⟩⟩
  · refine ⟨2 + n, 2 + k, ec_cp a_buffer 0 (upd (upd a_display 0 62) 1 32) 2 n, ed_S (ec_cp a_buffer 0 (upd (upd a_display 0 62) 1 32) 2 n) a_screen (2 + n) (16 * w), ⟨by omega, by omega, fun j hj => if_pos hj, Or.inl ⟨rfl, rfl, rfl, ed_e.1, ed_e.2.1, ed_e.2.2⟩⟩, fun post hp => ?_⟩
    exact en_eq 0 1 (by omega) (xce hn (xdr hw hw2 (by omega) (by omega) hp))
  · have F := ed_f (T := a_buffer) (Q := a_query) (D := a_display) (a := 0) (q := ql) (l := n) rfl
    refine ⟨1 + ql + 1 + 1 + n, 1 + ql + 1 + 1 + k, ec_cp a_buffer 0 (upd (upd (ec_cp a_query 0 (upd a_display 0 63) 1 ql) (1 + ql) 58) (1 + ql + 1) 32) (1 + ql + 1 + 1) n, ed_S (ec_cp a_buffer 0 (upd (upd (ec_cp a_query 0 (upd a_display 0 63) 1 ql) (1 + ql) 58) (1 + ql + 1) 32) (1 + ql + 1 + 1) n) a_screen (1 + ql + 1 + 1 + n) (16 * w), ⟨by omega, by omega, fun j hj => if_pos hj, Or.inr ⟨rfl, F.1, F.2.1, F.2.2.1, F.2.2.2.1, Or.inl ⟨rfl, by omega, by omega, fun j hj => (F.2.2.2.2 j hj).trans (congrArg a_buffer (Nat.zero_add j))⟩⟩⟩, fun post hp => ?_⟩
    exact ey_eq 1 1 rfl (xcs_b hn hq (xdr hw hw2 (by omega) (by omega) hp))
  · have F := ed_f (T := a_history) (Q := a_query) (D := a_display) (a := i * 32) (q := ql) (l := l) rfl
    refine ⟨1 + ql + 1 + 1 + l, 1 + ql + 1 + 1 + p, ec_cp a_history (i * 32) (upd (upd (ec_cp a_query 0 (upd a_display 0 63) 1 ql) (1 + ql) 58) (1 + ql + 1) 32) (1 + ql + 1 + 1) l, ed_S (ec_cp a_history (i * 32) (upd (upd (ec_cp a_query 0 (upd a_display 0 63) 1 ql) (1 + ql) 58) (1 + ql + 1) 32) (1 + ql + 1 + 1) l) a_screen (1 + ql + 1 + 1 + l) (16 * w), ⟨by omega, by omega, fun j hj => if_pos hj, Or.inr ⟨rfl, F.1, F.2.1, F.2.2.1, F.2.2.2.1, Or.inr ⟨i, l, rfl, hi, hl, e, by omega, by omega, F.2.2.2.2⟩⟩⟩, fun post hp => ?_⟩
    exact ey_eq 1 1 rfl (xcs_h hi hl hq e (xdr hw hw2 (by omega) (by omega) hp))
end
end
section
/-! S: keys that move, erase, type -/
section
variable {f_width f_historyCap f_ringCap f_length f_cursor f_historyCount f_nav f_draftLength f_ringCount f_yankIndex f_undoDepth f_mode f_last f_accepted f_queryLength f_match f_matchStart f_displayLength f_displayCursor f_terminalRow f_terminalCol : Int32} {a_buffer a_history a_historyLengths a_draft a_ring a_ringLengths a_undoTexts a_undoLengths a_undoCursors a_query a_display a_screen : Nat → Int32}
theorem xm_1 {post : Int32 → St2 → Prop} {x : Int32} (t n k : Nat) (hn : n ≤ 32) (hk : k ≤ 32) (h1 : t ≤ n) (h2 : t ≠ k) (h : post 1 (f_width, f_historyCap, f_ringCap, nI n, nI t, f_historyCount, f_nav, f_draftLength, f_ringCount, f_yankIndex, f_undoDepth, f_mode, 0, f_accepted, f_queryLength, f_match, f_matchStart, f_displayLength, f_displayCursor, f_terminalRow, f_terminalCol, a_buffer, a_history, a_historyLengths, a_draft, a_ring, a_ringLengths, a_undoTexts, a_undoLengths, a_undoCursors, a_query, a_display, a_screen)) (hx : x = nI t := by first | with_reducible rfl | (simp (disch := omega) only [nI_add, nI_1, en_m1, en_s1, pk_sub, pk_mul, en_32, en_a2, en_a3, en_p32, en_s32, en_p2, en_s2, en_s3] <;> exact congrArg nI (by omega)) | exact congrArg nI (by omega) | rfl) : wX_moveKey_115 post x f_width f_historyCap f_ringCap (nI n) (nI k) f_historyCount f_nav f_draftLength f_ringCount f_yankIndex f_undoDepth f_mode f_last f_accepted f_queryLength f_match f_matchStart f_displayLength f_displayCursor f_terminalRow f_terminalCol a_buffer a_history a_historyLengths a_draft a_ring a_ringLengths a_undoTexts a_undoLengths a_undoCursors a_query a_display a_screen := by
  subst hx
  exact br_f (nI_pos (by omega)) (en_lt n t h1 (en_eq t k h2 h))
theorem xm_0 {post : Int32 → St2 → Prop} {x : Int32} (n k : Nat) (hn : n ≤ 32) (hk : k ≤ n) (h : post 0 (f_width, f_historyCap, f_ringCap, nI n, nI k, f_historyCount, f_nav, f_draftLength, f_ringCount, f_yankIndex, f_undoDepth, f_mode, f_last, f_accepted, f_queryLength, f_match, f_matchStart, f_displayLength, f_displayCursor, f_terminalRow, f_terminalCol, a_buffer, a_history, a_historyLengths, a_draft, a_ring, a_ringLengths, a_undoTexts, a_undoLengths, a_undoCursors, a_query, a_display, a_screen)) (hx : x = nI k := by first | with_reducible rfl | (simp (disch := omega) only [nI_add, nI_1, en_m1, en_s1, pk_sub, pk_mul, en_32, en_a2, en_a3, en_p32, en_s32, en_p2, en_s2, en_s3] <;> exact congrArg nI (by omega)) | exact congrArg nI (by omega) | rfl) : wX_moveKey_115 post x f_width f_historyCap f_ringCap (nI n) (nI k) f_historyCount f_nav f_draftLength f_ringCount f_yankIndex f_undoDepth f_mode f_last f_accepted f_queryLength f_match f_matchStart f_displayLength f_displayCursor f_terminalRow f_terminalCol a_buffer a_history a_historyLengths a_draft a_ring a_ringLengths a_undoTexts a_undoLengths a_undoCursors a_query a_display a_screen := by
  subst hx
  exact br_f (nI_pos (by omega)) (en_lt n k hk (ey_eq k k rfl h))
theorem xer {post : Int32 → St2 → Prop} {x : Int32} (a n k ud : Nat) (hn : n ≤ 32) (ha : a < n) (hud : ud ≤ 8) (h : post 1 (f_width, f_historyCap, f_ringCap, nI (n - 1), nI a, f_historyCount, f_nav, f_draftLength, f_ringCount, f_yankIndex, nI (ep_n ud), f_mode, 0, f_accepted, f_queryLength, f_match, f_matchStart, f_displayLength, f_displayCursor, f_terminalRow, f_terminalCol, ec_cp a_buffer (a + 1) a_buffer a (n - a - 1), a_history, a_historyLengths, a_draft, a_ring, a_ringLengths, ep_U a_buffer a_undoTexts n ud, ep_L a_undoLengths (nI n) ud, ep_L a_undoCursors (nI k) ud, a_query, a_display, a_screen)) (hx : x = nI a := by first | with_reducible rfl | (simp (disch := omega) only [nI_add, nI_1, en_m1, en_s1, pk_sub, pk_mul, en_32, en_a2, en_a3, en_p32, en_s32, en_p2, en_s2, en_s3] <;> exact congrArg nI (by omega)) | exact congrArg nI (by omega) | rfl) : wpX_erase post (f_width, f_historyCap, f_ringCap, nI n, nI k, f_historyCount, f_nav, f_draftLength, f_ringCount, f_yankIndex, nI ud, f_mode, f_last, f_accepted, f_queryLength, f_match, f_matchStart, f_displayLength, f_displayCursor, f_terminalRow, f_terminalCol, a_buffer, a_history, a_historyLengths, a_draft, a_ring, a_ringLengths, a_undoTexts, a_undoLengths, a_undoCursors, a_query, a_display, a_screen) x := by
  subst hx
  unfold wpX_erase
  exact xw_t a n ha (br_f (by decide) (xpu hn hud (xcg a 1 n hn (by omega) h)))
end
section
variable {w hh rr n k hc nav dn kc y ud mo la ql p dl dc : Nat} {m ac xdl xdc xtr xtc : Int32} {B H HL D R RL U UL UK Q DS SC B' H' HL' D' R' RL' U' UL' UK' Q' : Nat → Int32}
theorem e_left (C : eC w hh rr n k hc nav dn kc y ud mo la ql p m B H HL D R RL U UL UK Q B' H' HL' D' R' RL' U' UL' UK' Q') (P : eP w n k mo ql p m B H HL Q dl dc DS SC) (S0 : mo = 0 ∧ m = -1 ∧ ql = 0) : eO (fun post => wpX_editKey post (nI w, nI hh, nI rr, nI n, nI k, nI hc, nI nav, nI dn, nI kc, nI y, nI ud, nI mo, nI la, ac, nI ql, m, nI p, nI dl, nI dc, nI (dc / w), nI (dc % w), B, H, HL, D, R, RL, U, UL, UK, Q, DS, SC) 2) := by
  obtain ⟨⟨⟨hw1, hw2⟩, ⟨hh1, hh2⟩, ⟨hr1, hr2⟩, ⟨hn, hk⟩, ⟨hhc, hnav⟩, hdn, hkc, hud, hql⟩, hB, hH, hD, hR, hU, hQ, hL, hS⟩ := id C
  by_cases c : k = 0
  · subst c
    exact eO_0 (nI w, nI hh, nI rr, nI n, nI 0, nI hc, nI nav, nI dn, nI kc, nI y, nI ud, nI mo, nI la, ac, nI ql, m, nI p, nI dl, nI dc, nI (dc / w), nI (dc % w), B, H, HL, D, R, RL, U, UL, UK, Q, DS, SC) (e_I C P) (fun post hp => by unfold wpX_editKey; exact xp_f (Or.inl (by decide)) (br_t rfl (br_f (by decide) (br_f (by decide) (br_f (by decide) (br_f (by decide) (br_f (by decide) (br_f (by decide) (br_f (by decide) (br_f (by decide) (br_f (by decide) (br_f (by decide) (br_f (by decide) (br_f (by decide) (br_f (by decide) (br_f (by decide) (br_t rfl ( nm_e (br_t (by decide) hp) ))))))))))))))))))
  · obtain ⟨t, rfl⟩ : ∃ t, k = t + 1 := ⟨k - 1, by omega⟩
    exact eO_1 (nI w, nI hh, nI rr, nI n, nI t, nI hc, nI nav, nI dn, nI kc, nI y, nI ud, nI mo, 0, ac, nI ql, m, nI p, nI dl, nI dc, nI (dc / w), nI (dc % w), B, H, HL, D, R, RL, U, UL, UK, Q, DS, SC) (e_K (B' := B') (H' := H') (HL' := HL') (D' := D') (R' := R') (RL' := RL') (U' := U') (UL' := UL') (UK' := UK') (Q' := Q') (la := 0) ⟨⟨⟨hw1, hw2⟩, ⟨hh1, hh2⟩, ⟨hr1, hr2⟩, ⟨by omega, by omega⟩, ⟨by omega, by omega⟩, by omega, by omega, by omega, by omega⟩, hB, hH, hD, hR, hU, hQ, eL_0, Or.inl S0⟩) (fun post hp => by unfold wpX_editKey; exact xp_f (Or.inl (by decide)) (br_t rfl (br_f (by decide) (br_f (by decide) (br_f (by decide) (br_f (by decide) (br_f (by decide) (br_f (by decide) (br_f (by decide) (br_f (by decide) (br_f (by decide) (br_f (by decide) (br_f (by decide) (br_f (by decide) (br_f (by decide) (br_f (by decide) (br_t rfl ( nm_r (nI_pred t) (xm_1 t n (t + 1) hn (by omega) (by omega) (by omega) hp) ))))))))))))))))))
theorem e_right (C : eC w hh rr n k hc nav dn kc y ud mo la ql p m B H HL D R RL U UL UK Q B' H' HL' D' R' RL' U' UL' UK' Q') (P : eP w n k mo ql p m B H HL Q dl dc DS SC) (S0 : mo = 0 ∧ m = -1 ∧ ql = 0) : eO (fun post => wpX_editKey post (nI w, nI hh, nI rr, nI n, nI k, nI hc, nI nav, nI dn, nI kc, nI y, nI ud, nI mo, nI la, ac, nI ql, m, nI p, nI dl, nI dc, nI (dc / w), nI (dc % w), B, H, HL, D, R, RL, U, UL, UK, Q, DS, SC) 6) := by
  obtain ⟨⟨⟨hw1, hw2⟩, ⟨hh1, hh2⟩, ⟨hr1, hr2⟩, ⟨hn, hk⟩, ⟨hhc, hnav⟩, hdn, hkc, hud, hql⟩, hB, hH, hD, hR, hU, hQ, hL, hS⟩ := id C
  by_cases c : k = n
  · subst c
    exact eO_0 (nI w, nI hh, nI rr, nI k, nI k, nI hc, nI nav, nI dn, nI kc, nI y, nI ud, nI mo, nI la, ac, nI ql, m, nI p, nI dl, nI dc, nI (dc / w), nI (dc % w), B, H, HL, D, R, RL, U, UL, UK, Q, DS, SC) (e_I C P) (fun post hp => by unfold wpX_editKey; exact xp_f (Or.inl (by decide)) (br_t rfl (br_f (by decide) (br_f (by decide) (br_f (by decide) (br_f (by decide) (br_f (by decide) (br_f (by decide) (br_f (by decide) (br_f (by decide) (br_f (by decide) (br_f (by decide) (br_f (by decide) (br_f (by decide) (br_f (by decide) (br_f (by decide) (br_f (by decide) (br_f (by decide) (br_t rfl ( nm_r (nI_1 k) (br_f (nI_pos (by omega)) (ey_lt k (k + 1) (by omega) hp)) ))))))))))))))))))))
  · exact eO_1 (nI w, nI hh, nI rr, nI n, nI (k + 1), nI hc, nI nav, nI dn, nI kc, nI y, nI ud, nI mo, 0, ac, nI ql, m, nI p, nI dl, nI dc, nI (dc / w), nI (dc % w), B, H, HL, D, R, RL, U, UL, UK, Q, DS, SC) (e_K (B' := B') (H' := H') (HL' := HL') (D' := D') (R' := R') (RL' := RL') (U' := U') (UL' := UL') (UK' := UK') (Q' := Q') (la := 0) ⟨⟨⟨hw1, hw2⟩, ⟨hh1, hh2⟩, ⟨hr1, hr2⟩, ⟨by omega, by omega⟩, ⟨by omega, by omega⟩, by omega, by omega, by omega, by omega⟩, hB, hH, hD, hR, hU, hQ, eL_0, Or.inl S0⟩) (fun post hp => by unfold wpX_editKey; exact xp_f (Or.inl (by decide)) (br_t rfl (br_f (by decide) (br_f (by decide) (br_f (by decide) (br_f (by decide) (br_f (by decide) (br_f (by decide) (br_f (by decide) (br_f (by decide) (br_f (by decide) (br_f (by decide) (br_f (by decide) (br_f (by decide) (br_f (by decide) (br_f (by decide) (br_f (by decide) (br_f (by decide) (br_t rfl ( nm_r (nI_1 k) (xm_1 (k + 1) n k hn (by omega) (by omega) (by omega) hp) ))))))))))))))))))))
theorem e_home (C : eC w hh rr n k hc nav dn kc y ud mo la ql p m B H HL D R RL U UL UK Q B' H' HL' D' R' RL' U' UL' UK' Q') (P : eP w n k mo ql p m B H HL Q dl dc DS SC) (S0 : mo = 0 ∧ m = -1 ∧ ql = 0) : eO (fun post => wpX_editKey post (nI w, nI hh, nI rr, nI n, nI k, nI hc, nI nav, nI dn, nI kc, nI y, nI ud, nI mo, nI la, ac, nI ql, m, nI p, nI dl, nI dc, nI (dc / w), nI (dc % w), B, H, HL, D, R, RL, U, UL, UK, Q, DS, SC) 1) := by
  obtain ⟨⟨⟨hw1, hw2⟩, ⟨hh1, hh2⟩, ⟨hr1, hr2⟩, ⟨hn, hk⟩, ⟨hhc, hnav⟩, hdn, hkc, hud, hql⟩, hB, hH, hD, hR, hU, hQ, hL, hS⟩ := id C
  by_cases c : k = 0
  · subst c
    exact eO_0 (nI w, nI hh, nI rr, nI n, nI 0, nI hc, nI nav, nI dn, nI kc, nI y, nI ud, nI mo, nI la, ac, nI ql, m, nI p, nI dl, nI dc, nI (dc / w), nI (dc % w), B, H, HL, D, R, RL, U, UL, UK, Q, DS, SC) (e_I C P) (fun post hp => by unfold wpX_editKey; exact xp_f (Or.inl (by decide)) (br_t rfl (br_f (by decide) (br_f (by decide) (br_f (by decide) (br_f (by decide) (br_f (by decide) (br_f (by decide) (br_f (by decide) (br_f (by decide) (br_f (by decide) (br_f (by decide) (br_f (by decide) (br_f (by decide) (br_f (by decide) (br_t rfl ( xm_0 n 0 hn (by omega) hp )))))))))))))))))
  · exact eO_1 (nI w, nI hh, nI rr, nI n, nI 0, nI hc, nI nav, nI dn, nI kc, nI y, nI ud, nI mo, 0, ac, nI ql, m, nI p, nI dl, nI dc, nI (dc / w), nI (dc % w), B, H, HL, D, R, RL, U, UL, UK, Q, DS, SC) (e_K (B' := B') (H' := H') (HL' := HL') (D' := D') (R' := R') (RL' := RL') (U' := U') (UL' := UL') (UK' := UK') (Q' := Q') (la := 0) ⟨⟨⟨hw1, hw2⟩, ⟨hh1, hh2⟩, ⟨hr1, hr2⟩, ⟨by omega, by omega⟩, ⟨by omega, by omega⟩, by omega, by omega, by omega, by omega⟩, hB, hH, hD, hR, hU, hQ, eL_0, Or.inl S0⟩) (fun post hp => by unfold wpX_editKey; exact xp_f (Or.inl (by decide)) (br_t rfl (br_f (by decide) (br_f (by decide) (br_f (by decide) (br_f (by decide) (br_f (by decide) (br_f (by decide) (br_f (by decide) (br_f (by decide) (br_f (by decide) (br_f (by decide) (br_f (by decide) (br_f (by decide) (br_f (by decide) (br_t rfl ( xm_1 0 n k hn (by omega) (by omega) (by omega) hp )))))))))))))))))
theorem e_end (C : eC w hh rr n k hc nav dn kc y ud mo la ql p m B H HL D R RL U UL UK Q B' H' HL' D' R' RL' U' UL' UK' Q') (P : eP w n k mo ql p m B H HL Q dl dc DS SC) (S0 : mo = 0 ∧ m = -1 ∧ ql = 0) : eO (fun post => wpX_editKey post (nI w, nI hh, nI rr, nI n, nI k, nI hc, nI nav, nI dn, nI kc, nI y, nI ud, nI mo, nI la, ac, nI ql, m, nI p, nI dl, nI dc, nI (dc / w), nI (dc % w), B, H, HL, D, R, RL, U, UL, UK, Q, DS, SC) 5) := by
  obtain ⟨⟨⟨hw1, hw2⟩, ⟨hh1, hh2⟩, ⟨hr1, hr2⟩, ⟨hn, hk⟩, ⟨hhc, hnav⟩, hdn, hkc, hud, hql⟩, hB, hH, hD, hR, hU, hQ, hL, hS⟩ := id C
  by_cases c : k = n
  · subst c
    exact eO_0 (nI w, nI hh, nI rr, nI k, nI k, nI hc, nI nav, nI dn, nI kc, nI y, nI ud, nI mo, nI la, ac, nI ql, m, nI p, nI dl, nI dc, nI (dc / w), nI (dc % w), B, H, HL, D, R, RL, U, UL, UK, Q, DS, SC) (e_I C P) (fun post hp => by unfold wpX_editKey; exact xp_f (Or.inl (by decide)) (br_t rfl (br_f (by decide) (br_f (by decide) (br_f (by decide) (br_f (by decide) (br_f (by decide) (br_f (by decide) (br_f (by decide) (br_f (by decide) (br_f (by decide) (br_f (by decide) (br_f (by decide) (br_f (by decide) (br_f (by decide) (br_f (by decide) (br_f (by decide) (br_t rfl ( xm_0 k k hn (by omega) hp )))))))))))))))))))
  · exact eO_1 (nI w, nI hh, nI rr, nI n, nI n, nI hc, nI nav, nI dn, nI kc, nI y, nI ud, nI mo, 0, ac, nI ql, m, nI p, nI dl, nI dc, nI (dc / w), nI (dc % w), B, H, HL, D, R, RL, U, UL, UK, Q, DS, SC) (e_K (B' := B') (H' := H') (HL' := HL') (D' := D') (R' := R') (RL' := RL') (U' := U') (UL' := UL') (UK' := UK') (Q' := Q') (la := 0) ⟨⟨⟨hw1, hw2⟩, ⟨hh1, hh2⟩, ⟨hr1, hr2⟩, ⟨by omega, by omega⟩, ⟨by omega, by omega⟩, by omega, by omega, by omega, by omega⟩, hB, hH, hD, hR, hU, hQ, eL_0, Or.inl S0⟩) (fun post hp => by unfold wpX_editKey; exact xp_f (Or.inl (by decide)) (br_t rfl (br_f (by decide) (br_f (by decide) (br_f (by decide) (br_f (by decide) (br_f (by decide) (br_f (by decide) (br_f (by decide) (br_f (by decide) (br_f (by decide) (br_f (by decide) (br_f (by decide) (br_f (by decide) (br_f (by decide) (br_f (by decide) (br_f (by decide) (br_t rfl ( xm_1 n n k hn (by omega) (by omega) (by omega) hp )))))))))))))))))))
theorem e_wl (C : eC w hh rr n k hc nav dn kc y ud mo la ql p m B H HL D R RL U UL UK Q B' H' HL' D' R' RL' U' UL' UK' Q') (P : eP w n k mo ql p m B H HL Q dl dc DS SC) (S0 : mo = 0 ∧ m = -1 ∧ ql = 0) : eO (fun post => wpX_editKey post (nI w, nI hh, nI rr, nI n, nI k, nI hc, nI nav, nI dn, nI kc, nI y, nI ud, nI mo, nI la, ac, nI ql, m, nI p, nI dl, nI dc, nI (dc / w), nI (dc % w), B, H, HL, D, R, RL, U, UL, UK, Q, DS, SC) 200) := by
  obtain ⟨⟨⟨hw1, hw2⟩, ⟨hh1, hh2⟩, ⟨hr1, hr2⟩, ⟨hn, hk⟩, ⟨hhc, hnav⟩, hdn, hkc, hud, hql⟩, hB, hH, hD, hR, hU, hQ, hL, hS⟩ := id C
  have ec : ewl B' k = ewl B k := (ewl_c (fun j hj => (eg_at hB (by omega)).1)).symm
  have hle := ewl_le B k
  by_cases c : ewl B k = k
  · exact eO_0 (nI w, nI hh, nI rr, nI n, nI k, nI hc, nI nav, nI dn, nI kc, nI y, nI ud, nI mo, nI la, ac, nI ql, m, nI p, nI dl, nI dc, nI (dc / w), nI (dc % w), B, H, HL, D, R, RL, U, UL, UK, Q, DS, SC) (e_I C P) (fun post hp => by unfold wpX_editKey; exact xp_f (Or.inr (by decide)) (br_t rfl (br_f (by decide) (br_f (by decide) (br_f (by decide) (br_f (by decide) (br_f (by decide) (br_f (by decide) (br_f (by decide) (br_f (by decide) (br_f (by decide) (br_f (by decide) (br_f (by decide) (br_f (by decide) (br_f (by decide) (br_f (by decide) (br_f (by decide) (br_f (by decide) (br_f (by decide) (br_t rfl ( xwl (by omega) (xm_0 n k hn hk hp (congrArg nI c)) )))))))))))))))))))))
  · exact eO_1 (nI w, nI hh, nI rr, nI n, nI (ewl B k), nI hc, nI nav, nI dn, nI kc, nI y, nI ud, nI mo, 0, ac, nI ql, m, nI p, nI dl, nI dc, nI (dc / w), nI (dc % w), B, H, HL, D, R, RL, U, UL, UK, Q, DS, SC) (e_K (B' := B') (H' := H') (HL' := HL') (D' := D') (R' := R') (RL' := RL') (U' := U') (UL' := UL') (UK' := UK') (Q' := Q') (la := 0) ⟨⟨⟨hw1, hw2⟩, ⟨hh1, hh2⟩, ⟨hr1, hr2⟩, ⟨by omega, by omega⟩, ⟨by omega, by omega⟩, by omega, by omega, by omega, by omega⟩, hB, hH, hD, hR, hU, hQ, eL_0, Or.inl S0⟩) (fun post hp => by unfold wpX_editKey; exact xp_f (Or.inr (by decide)) (br_t rfl (br_f (by decide) (br_f (by decide) (br_f (by decide) (br_f (by decide) (br_f (by decide) (br_f (by decide) (br_f (by decide) (br_f (by decide) (br_f (by decide) (br_f (by decide) (br_f (by decide) (br_f (by decide) (br_f (by decide) (br_f (by decide) (br_f (by decide) (br_f (by decide) (br_f (by decide) (br_t rfl ( xwl (by omega) (xm_1 (ewl B k) n k hn (by omega) (by omega) c hp) )))))))))))))))))))))
theorem e_wr (C : eC w hh rr n k hc nav dn kc y ud mo la ql p m B H HL D R RL U UL UK Q B' H' HL' D' R' RL' U' UL' UK' Q') (P : eP w n k mo ql p m B H HL Q dl dc DS SC) (S0 : mo = 0 ∧ m = -1 ∧ ql = 0) : eO (fun post => wpX_editKey post (nI w, nI hh, nI rr, nI n, nI k, nI hc, nI nav, nI dn, nI kc, nI y, nI ud, nI mo, nI la, ac, nI ql, m, nI p, nI dl, nI dc, nI (dc / w), nI (dc % w), B, H, HL, D, R, RL, U, UL, UK, Q, DS, SC) 201) := by
  obtain ⟨⟨⟨hw1, hw2⟩, ⟨hh1, hh2⟩, ⟨hr1, hr2⟩, ⟨hn, hk⟩, ⟨hhc, hnav⟩, hdn, hkc, hud, hql⟩, hB, hH, hD, hR, hU, hQ, hL, hS⟩ := id C
  have ec : ewr B' n k = ewr B n k := (ewr_c hk (fun j hj => (eg_at hB (by omega)).1)).symm
  have hle := ewr_le (f := B) hk
  by_cases c : ewr B n k = k
  · exact eO_0 (nI w, nI hh, nI rr, nI n, nI k, nI hc, nI nav, nI dn, nI kc, nI y, nI ud, nI mo, nI la, ac, nI ql, m, nI p, nI dl, nI dc, nI (dc / w), nI (dc % w), B, H, HL, D, R, RL, U, UL, UK, Q, DS, SC) (e_I C P) (fun post hp => by unfold wpX_editKey; exact xp_f (Or.inr (by decide)) (br_t rfl (br_f (by decide) (br_f (by decide) (br_f (by decide) (br_f (by decide) (br_f (by decide) (br_f (by decide) (br_f (by decide) (br_f (by decide) (br_f (by decide) (br_f (by decide) (br_f (by decide) (br_f (by decide) (br_f (by decide) (br_f (by decide) (br_f (by decide) (br_f (by decide) (br_f (by decide) (br_f (by decide) (br_t rfl ( xwr hn hk (xm_0 n k hn hk hp (congrArg nI c)) ))))))))))))))))))))))
  · exact eO_1 (nI w, nI hh, nI rr, nI n, nI (ewr B n k), nI hc, nI nav, nI dn, nI kc, nI y, nI ud, nI mo, 0, ac, nI ql, m, nI p, nI dl, nI dc, nI (dc / w), nI (dc % w), B, H, HL, D, R, RL, U, UL, UK, Q, DS, SC) (e_K (B' := B') (H' := H') (HL' := HL') (D' := D') (R' := R') (RL' := RL') (U' := U') (UL' := UL') (UK' := UK') (Q' := Q') (la := 0) ⟨⟨⟨hw1, hw2⟩, ⟨hh1, hh2⟩, ⟨hr1, hr2⟩, ⟨by omega, by omega⟩, ⟨by omega, by omega⟩, by omega, by omega, by omega, by omega⟩, hB, hH, hD, hR, hU, hQ, eL_0, Or.inl S0⟩) (fun post hp => by unfold wpX_editKey; exact xp_f (Or.inr (by decide)) (br_t rfl (br_f (by decide) (br_f (by decide) (br_f (by decide) (br_f (by decide) (br_f (by decide) (br_f (by decide) (br_f (by decide) (br_f (by decide) (br_f (by decide) (br_f (by decide) (br_f (by decide) (br_f (by decide) (br_f (by decide) (br_f (by decide) (br_f (by decide) (br_f (by decide) (br_f (by decide) (br_f (by decide) (br_t rfl ( xwr hn hk (xm_1 (ewr B n k) n k hn (by omega) (by omega) c hp) ))))))))))))))))))))))
theorem e_back (C : eC w hh rr n k hc nav dn kc y ud mo la ql p m B H HL D R RL U UL UK Q B' H' HL' D' R' RL' U' UL' UK' Q') (P : eP w n k mo ql p m B H HL Q dl dc DS SC) (S0 : mo = 0 ∧ m = -1 ∧ ql = 0) : eO (fun post => wpX_editKey post (nI w, nI hh, nI rr, nI n, nI k, nI hc, nI nav, nI dn, nI kc, nI y, nI ud, nI mo, nI la, ac, nI ql, m, nI p, nI dl, nI dc, nI (dc / w), nI (dc % w), B, H, HL, D, R, RL, U, UL, UK, Q, DS, SC) 8) := by
  obtain ⟨⟨⟨hw1, hw2⟩, ⟨hh1, hh2⟩, ⟨hr1, hr2⟩, ⟨hn, hk⟩, ⟨hhc, hnav⟩, hdn, hkc, hud, hql⟩, hB, hH, hD, hR, hU, hQ, hL, hS⟩ := id C
  by_cases c : k = 0
  · subst c
    exact eO_0 (nI w, nI hh, nI rr, nI n, nI 0, nI hc, nI nav, nI dn, nI kc, nI y, nI ud, nI mo, nI la, ac, nI ql, m, nI p, nI dl, nI dc, nI (dc / w), nI (dc % w), B, H, HL, D, R, RL, U, UL, UK, Q, DS, SC) (e_I C P) (fun post hp => by unfold wpX_editKey; exact xp_f (Or.inl (by decide)) (br_t rfl (br_f (by decide) (br_t rfl ( by unfold wpX_erase; exact xw_f (Or.inl (by decide)) (br_t rfl hp) )))))
  · obtain ⟨a, rfl⟩ : ∃ a, k = a + 1 := ⟨k - 1, by omega⟩
    have hud2 := ep_le hud
    exact eO_1 (nI w, nI hh, nI rr, nI (n - 1), nI a, nI hc, nI nav, nI dn, nI kc, nI y, nI (ep_n ud), nI mo, 0, ac, nI ql, m, nI p, nI dl, nI dc, nI (dc / w), nI (dc % w), ec_cp B (a + 1) B a (n - a - 1), H, HL, D, R, RL, ep_U B U n ud, ep_L UL (nI n) ud, ep_L UK (nI (a + 1)) ud, Q, DS, SC) (e_K (B' := ec_cp B' (a + 1) B' a (n - 1 - a)) (H' := H') (HL' := HL') (D' := D') (R' := R') (RL' := RL') (U' := ep_U B' U' 32 ud) (UL' := ep_L UL' (nI n) ud) (UK' := ep_L UK' (nI (a + 1)) ud) (Q' := Q') (la := 0) ⟨⟨⟨hw1, hw2⟩, ⟨hh1, hh2⟩, ⟨hr1, hr2⟩, ⟨by omega, by omega⟩, ⟨by omega, by omega⟩, by omega, by omega, by omega, by omega⟩, eg_del (c := 1) hB (by omega) (fun i _ => by rw [show n - 1 - a = n - a - 1 by omega]), hH, hD, hR, ep_eu hU hud hn hk hB, hQ, eL_0, Or.inl S0⟩) (fun post hp => by unfold wpX_editKey; exact xp_f (Or.inl (by decide)) (br_t rfl (br_f (by decide) (br_t rfl ( xer a n (a + 1) ud hn (by omega) hud hp )))))
theorem e_del (C : eC w hh rr n k hc nav dn kc y ud mo la ql p m B H HL D R RL U UL UK Q B' H' HL' D' R' RL' U' UL' UK' Q') (P : eP w n k mo ql p m B H HL Q dl dc DS SC) (S0 : mo = 0 ∧ m = -1 ∧ ql = 0) : eO (fun post => wpX_editKey post (nI w, nI hh, nI rr, nI n, nI k, nI hc, nI nav, nI dn, nI kc, nI y, nI ud, nI mo, nI la, ac, nI ql, m, nI p, nI dl, nI dc, nI (dc / w), nI (dc % w), B, H, HL, D, R, RL, U, UL, UK, Q, DS, SC) 4) := by
  obtain ⟨⟨⟨hw1, hw2⟩, ⟨hh1, hh2⟩, ⟨hr1, hr2⟩, ⟨hn, hk⟩, ⟨hhc, hnav⟩, hdn, hkc, hud, hql⟩, hB, hH, hD, hR, hU, hQ, hL, hS⟩ := id C
  by_cases c : k = n
  · subst c
    exact eO_0 (nI w, nI hh, nI rr, nI k, nI k, nI hc, nI nav, nI dn, nI kc, nI y, nI ud, nI mo, nI la, ac, nI ql, m, nI p, nI dl, nI dc, nI (dc / w), nI (dc % w), B, H, HL, D, R, RL, U, UL, UK, Q, DS, SC) (e_I C P) (fun post hp => by unfold wpX_editKey; exact xp_f (Or.inl (by decide)) (br_t rfl (br_t rfl ( by unfold wpX_erase; exact xw_f (Or.inr (nI_le (Nat.le_refl _) (by omega))) (br_t rfl hp) ))))
  · have hud2 := ep_le hud
    exact eO_1 (nI w, nI hh, nI rr, nI (n - 1), nI k, nI hc, nI nav, nI dn, nI kc, nI y, nI (ep_n ud), nI mo, 0, ac, nI ql, m, nI p, nI dl, nI dc, nI (dc / w), nI (dc % w), ec_cp B (k + 1) B k (n - k - 1), H, HL, D, R, RL, ep_U B U n ud, ep_L UL (nI n) ud, ep_L UK (nI k) ud, Q, DS, SC) (e_K (B' := ec_cp B' (k + 1) B' k (n - 1 - k)) (H' := H') (HL' := HL') (D' := D') (R' := R') (RL' := RL') (U' := ep_U B' U' 32 ud) (UL' := ep_L UL' (nI n) ud) (UK' := ep_L UK' (nI k) ud) (Q' := Q') (la := 0) ⟨⟨⟨hw1, hw2⟩, ⟨hh1, hh2⟩, ⟨hr1, hr2⟩, ⟨by omega, by omega⟩, ⟨by omega, by omega⟩, by omega, by omega, by omega, by omega⟩, eg_del (c := 1) hB (by omega) (fun i _ => by rw [show n - 1 - k = n - k - 1 by omega]), hH, hD, hR, ep_eu hU hud hn hk hB, hQ, eL_0, Or.inl S0⟩) (fun post hp => by unfold wpX_editKey; exact xp_f (Or.inl (by decide)) (br_t rfl (br_t rfl ( xer k n k ud hn (by omega) hud hp ))))
theorem e_type (C : eC w hh rr n k hc nav dn kc y ud mo la ql p m B H HL D R RL U UL UK Q B' H' HL' D' R' RL' U' UL' UK' Q') (P : eP w n k mo ql p m B H HL Q dl dc DS SC) (S0 : mo = 0 ∧ m = -1 ∧ ql = 0) {c : Int32} (c1 : ¬ c < 32) (c2 : ¬ 126 < c) : eO (fun post => wpX_editKey post (nI w, nI hh, nI rr, nI n, nI k, nI hc, nI nav, nI dn, nI kc, nI y, nI ud, nI mo, nI la, ac, nI ql, m, nI p, nI dl, nI dc, nI (dc / w), nI (dc % w), B, H, HL, D, R, RL, U, UL, UK, Q, DS, SC) c) := by
  obtain ⟨⟨⟨hw1, hw2⟩, ⟨hh1, hh2⟩, ⟨hr1, hr2⟩, ⟨hn, hk⟩, ⟨hhc, hnav⟩, hdn, hkc, hud, hql⟩, hB, hH, hD, hR, hU, hQ, hL, hS⟩ := id C
  have cp : ¬ c < 0 := en_ge (Int32.not_lt.mp c1) (by decide)
  by_cases c0 : n = 32
  · subst c0
    exact eO_0 (nI w, nI hh, nI rr, nI 32, nI k, nI hc, nI nav, nI dn, nI kc, nI y, nI ud, nI mo, nI la, ac, nI ql, m, nI p, nI dl, nI dc, nI (dc / w), nI (dc % w), B, H, HL, D, R, RL, U, UL, UK, Q, DS, SC) (e_I C P) (fun post hp => by unfold wpX_editKey; exact xp_t c1 c2 (br_f (by decide) (en_lt 32 32 (by omega) hp)))
  · by_cases c3 : la = 1
    · subst c3
      exact eO_1 (nI w, nI hh, nI rr, nI (n + 1), nI (k + 1), nI hc, nI nav, nI dn, nI kc, nI y, nI ud, nI mo, 1, ac, nI ql, m, nI p, nI dl, nI dc, nI (dc / w), nI (dc % w), upd (ec_cp B k B (k + 1) (n - k)) k c, H, HL, D, R, RL, U, UL, UK, Q, DS, SC) (e_K (B' := upd (ec_cp B' k B' (k + 1) (n - k)) k c) (H' := H') (HL' := HL') (D' := D') (R' := R') (RL' := RL') (U' := U') (UL' := UL') (UK' := UK') (Q' := Q') (la := 1) ⟨⟨⟨hw1, hw2⟩, ⟨hh1, hh2⟩, ⟨hr1, hr2⟩, ⟨by omega, by omega⟩, ⟨by omega, by omega⟩, by omega, by omega, by omega, by omega⟩, eg_ins1 hB hk cp, hH, hD, hR, hU, hQ, eL_1, Or.inl S0⟩) (fun post hp => by unfold wpX_editKey; exact xp_t c1 c2 (br_f (by decide) (ey_lt n 32 (by omega) (br_t rfl (xty_23 n k (by omega) hk hp)))))
    · have hud2 := ep_le hud
      have hla := hL.1
      exact eO_1 (nI w, nI hh, nI rr, nI (n + 1), nI (k + 1), nI hc, nI nav, nI dn, nI kc, nI y, nI (ep_n ud), nI mo, 1, ac, nI ql, m, nI p, nI dl, nI dc, nI (dc / w), nI (dc % w), upd (ec_cp B k B (k + 1) (n - k)) k c, H, HL, D, R, RL, ep_U B U n ud, ep_L UL (nI n) ud, ep_L UK (nI k) ud, Q, DS, SC) (e_K (B' := upd (ec_cp B' k B' (k + 1) (n - k)) k c) (H' := H') (HL' := HL') (D' := D') (R' := R') (RL' := RL') (U' := ep_U B' U' 32 ud) (UL' := ep_L UL' (nI n) ud) (UK' := ep_L UK' (nI k) ud) (Q' := Q') (la := 1) ⟨⟨⟨hw1, hw2⟩, ⟨hh1, hh2⟩, ⟨hr1, hr2⟩, ⟨by omega, by omega⟩, ⟨by omega, by omega⟩, by omega, by omega, by omega, by omega⟩, eg_ins1 hB hk cp, hH, hD, hR, ep_eu hU hud hn hk hB, hQ, eL_1, Or.inl S0⟩) (fun post hp => by unfold wpX_editKey; exact xp_t c1 c2 (br_f (by decide) (ey_lt n 32 (by omega) (en_eq la 1 c3 (xpu hn hud (xty_23 n k (by omega) hk hp))))))
end
end
section
/-! T: the kills (written by wip/whole/gen17.py) -/
section
variable {w hh rr n k hc nav dn kc y ud mo la ql p dl dc : Nat} {m ac xdl xdc xtr xtc : Int32} {B H HL D R RL U UL UK Q DS SC B' H' HL' D' R' RL' U' UL' UK' Q' : Nat → Int32}
theorem e_kf_2 {st e c : Nat} (C : eC w hh rr n k hc nav dn (c + 1) y ud mo 2 ql p m B H HL D R RL U UL UK Q B' H' HL' D' R' RL' U' UL' UK' Q') (he : 1 ≤ e) (h1 : k + e ≤ n) (S0 : mo = 0 ∧ m = -1 ∧ ql = 0) : eO (fun post => wX_killKey_83 post (nI k) (nI (k + e)) (nI w) (nI hh) (nI rr) (nI n) (nI k) (nI hc) (nI nav) (nI dn) (nI (c + 1)) (nI y) (nI ud) (nI mo) (nI 2) ac (nI ql) m (nI p) (nI dl) (nI dc) (nI (dc / w)) (nI (dc % w)) B H HL D R RL U UL UK Q DS SC) := by
  obtain ⟨⟨⟨hw1, hw2⟩, ⟨hh1, hh2⟩, ⟨hr1, hr2⟩, ⟨hn, hk⟩, ⟨hhc, hnav⟩, hdn, hkc, hud, hql⟩, hB, hH, hD, hR, hU, hQ, hL, hS⟩ := id C
  have hud2 := ep_le hud
  have hb : eg B B' k k e := by
    have := eg_sub (i := k) (m := e) hB (by omega)
    rw [Nat.zero_add] at this
    exact this
  have hdel : eg (ec_cp B (k + e) B k (n - k - e)) (ez B' n k e) 0 0 (n - e) := eg_del hB h1 (ez_p e h1)
  obtain ⟨_, s, hs0, hsn⟩ := hL.2.1 rfl
  obtain ⟨l, hl32, hlx, hly, _⟩ := hR 0 (by omega)
  obtain rfl : s = l := (nI_eq (by omega) (by omega)).mp (hs0.symm.trans hly)
  rw [show c + 1 - 1 - 0 = c by omega] at hlx
  exact eO_1 (nI w, nI hh, nI rr, nI (n - e), nI k, nI hc, nI nav, nI dn, nI (c + 1), nI y, nI (ep_n ud), nI mo, 2, ac, nI ql, m, nI p, nI dl, nI dc, nI (dc / w), nI (dc % w), ec_cp B (k + e) B k (n - k - e), H, HL, D, ec_cp B k R (c * 32 + s) e, upd RL c (nI (s + e)), ep_U B U n ud, ep_L UL (nI n) ud, ep_L UK (nI k) ud, Q, DS, SC) (e_K (B' := ez B' n k e) (H' := H') (HL' := HL') (D' := D') (R' := ec_cp B' k R' s e) (RL' := upd RL' 0 (nI (s + e))) (U' := ep_U B' U' 32 ud) (UL' := ep_L UL' (nI n) ud) (UK' := ep_L UK' (nI k) ud) (Q' := Q') (la := 2) ⟨⟨⟨hw1, hw2⟩, ⟨hh1, hh2⟩, ⟨hr1, hr2⟩, ⟨by omega, by omega⟩, ⟨by omega, by omega⟩, by omega, by omega, by omega, by omega⟩, hdel, hH, hD, ej_fwd hR hs0 (by omega) hb, ep_eu hU hud hn (by omega) hB, hQ, eL_2 (s := s + e) (by omega) ec_us (by omega), Or.inl S0⟩) (fun post hp => ey_lt k (k + e) (by omega) (ey_eq k k rfl (xpu hn hud (br_t rfl (xk_f k e s c n hn h1 (by omega) (by omega) hlx hp)))))
theorem e_kf_f {st e c : Nat} (C : eC w hh (c + 1) n k hc nav dn (c + 1) y ud mo la ql p m B H HL D R RL U UL UK Q B' H' HL' D' R' RL' U' UL' UK' Q') (he : 1 ≤ e) (h1 : k + e ≤ n) (S0 : mo = 0 ∧ m = -1 ∧ ql = 0) (hl : la ≠ 2) : eO (fun post => wX_killKey_83 post (nI k) (nI (k + e)) (nI w) (nI hh) (nI (c + 1)) (nI n) (nI k) (nI hc) (nI nav) (nI dn) (nI (c + 1)) (nI y) (nI ud) (nI mo) (nI la) ac (nI ql) m (nI p) (nI dl) (nI dc) (nI (dc / w)) (nI (dc % w)) B H HL D R RL U UL UK Q DS SC) := by
  obtain ⟨⟨⟨hw1, hw2⟩, ⟨hh1, hh2⟩, ⟨hr1, hr2⟩, ⟨hn, hk⟩, ⟨hhc, hnav⟩, hdn, hkc, hud, hql⟩, hB, hH, hD, hR, hU, hQ, hL, hS⟩ := id C
  have hud2 := ep_le hud
  have hb : eg B B' k k e := by
    have := eg_sub (i := k) (m := e) hB (by omega)
    rw [Nat.zero_add] at this
    exact this
  have hdel : eg (ec_cp B (k + e) B k (n - k - e)) (ez B' n k e) 0 0 (n - e) := eg_del hB h1 (ez_p e h1)
  have hla := hL.1
  exact eO_1 (nI w, nI hh, nI (c + 1), nI (n - e), nI k, nI hc, nI nav, nI dn, nI (c + 1), nI y, nI (ep_n ud), nI mo, 2, ac, nI ql, m, nI p, nI dl, nI dc, nI (dc / w), nI (dc % w), ec_cp B (k + e) B k (n - k - e), H, HL, D, ec_cp B k (ec_cp R 32 R 0 (c * 32)) (c * 32) e, upd (upd (ec_cp RL 1 RL 0 c) c 0) c (nI e), ep_U B U n ud, ep_L UL (nI n) ud, ep_L UK (nI k) ud, Q, DS, SC) (e_K (B' := ez B' n k e) (H' := H') (HL' := HL') (D' := D') (R' := ec_cp B' k (ec_cp R' 0 R' 32 (c * 32)) 0 e) (RL' := upd (ec_cp RL' 0 RL' 1 c) 0 (nI e)) (U' := ep_U B' U' 32 ud) (UL' := ep_L UL' (nI n) ud) (UK' := ep_L UK' (nI k) ud) (Q' := Q') (la := 2) ⟨⟨⟨hw1, hw2⟩, ⟨hh1, hh2⟩, ⟨hr1, hr2⟩, ⟨by omega, by omega⟩, ⟨by omega, by omega⟩, by omega, by omega, by omega, by omega⟩, hdel, hH, hD, ej_full hR (by omega) hb, ep_eu hU hud hn (by omega) hB, hQ, eL_2 (s := e) (by omega) ec_us (by omega), Or.inl S0⟩) (fun post hp => ey_lt k (k + e) (by omega) (ey_eq k k rfl (xpu hn hud (en_eq la 2 hl (xae_f c (by omega) (xk_f k e 0 c n hn h1 (by omega) (by omega) ec_us (by rw [Nat.zero_add]; exact hp)))))))
theorem e_kf_n {st e c : Nat} (C : eC w hh rr n k hc nav dn c y ud mo la ql p m B H HL D R RL U UL UK Q B' H' HL' D' R' RL' U' UL' UK' Q') (he : 1 ≤ e) (h1 : k + e ≤ n) (S0 : mo = 0 ∧ m = -1 ∧ ql = 0) (hl : la ≠ 2) (hcr : c < rr) : eO (fun post => wX_killKey_83 post (nI k) (nI (k + e)) (nI w) (nI hh) (nI rr) (nI n) (nI k) (nI hc) (nI nav) (nI dn) (nI c) (nI y) (nI ud) (nI mo) (nI la) ac (nI ql) m (nI p) (nI dl) (nI dc) (nI (dc / w)) (nI (dc % w)) B H HL D R RL U UL UK Q DS SC) := by
  obtain ⟨⟨⟨hw1, hw2⟩, ⟨hh1, hh2⟩, ⟨hr1, hr2⟩, ⟨hn, hk⟩, ⟨hhc, hnav⟩, hdn, hkc, hud, hql⟩, hB, hH, hD, hR, hU, hQ, hL, hS⟩ := id C
  have hud2 := ep_le hud
  have hb : eg B B' k k e := by
    have := eg_sub (i := k) (m := e) hB (by omega)
    rw [Nat.zero_add] at this
    exact this
  have hdel : eg (ec_cp B (k + e) B k (n - k - e)) (ez B' n k e) 0 0 (n - e) := eg_del hB h1 (ez_p e h1)
  have hla := hL.1
  exact eO_1 (nI w, nI hh, nI rr, nI (n - e), nI k, nI hc, nI nav, nI dn, nI (c + 1), nI y, nI (ep_n ud), nI mo, 2, ac, nI ql, m, nI p, nI dl, nI dc, nI (dc / w), nI (dc % w), ec_cp B (k + e) B k (n - k - e), H, HL, D, ec_cp B k R (c * 32) e, upd (upd RL c 0) c (nI e), ep_U B U n ud, ep_L UL (nI n) ud, ep_L UK (nI k) ud, Q, DS, SC) (e_K (B' := ez B' n k e) (H' := H') (HL' := HL') (D' := D') (R' := ec_cp B' k (ec_cp R' 0 R' 32 (c * 32)) 0 e) (RL' := upd (ec_cp RL' 0 RL' 1 c) 0 (nI e)) (U' := ep_U B' U' 32 ud) (UL' := ep_L UL' (nI n) ud) (UK' := ep_L UK' (nI k) ud) (Q' := Q') (la := 2) ⟨⟨⟨hw1, hw2⟩, ⟨hh1, hh2⟩, ⟨hr1, hr2⟩, ⟨by omega, by omega⟩, ⟨by omega, by omega⟩, by omega, by omega, by omega, by omega⟩, hdel, hH, hD, ej_new hR (by omega) hb, ep_eu hU hud hn (by omega) hB, hQ, eL_2 (s := e) (by omega) ec_us (by omega), Or.inl S0⟩) (fun post hp => ey_lt k (k + e) (by omega) (ey_eq k k rfl (xpu hn hud (en_eq la 2 hl (xae_n c rr hcr (by omega) (xk_f k e 0 c n hn h1 (by omega) (by omega) ec_us (by rw [Nat.zero_add]; exact hp)))))))
theorem e_kb_2 {st e c : Nat} (C : eC w hh rr n (st + e) hc nav dn (c + 1) y ud mo 2 ql p m B H HL D R RL U UL UK Q B' H' HL' D' R' RL' U' UL' UK' Q') (he : 1 ≤ e) (h1 : st + e ≤ n) (S0 : mo = 0 ∧ m = -1 ∧ ql = 0) : eO (fun post => wX_killKey_83 post (nI st) (nI (st + e)) (nI w) (nI hh) (nI rr) (nI n) (nI (st + e)) (nI hc) (nI nav) (nI dn) (nI (c + 1)) (nI y) (nI ud) (nI mo) (nI 2) ac (nI ql) m (nI p) (nI dl) (nI dc) (nI (dc / w)) (nI (dc % w)) B H HL D R RL U UL UK Q DS SC) := by
  obtain ⟨⟨⟨hw1, hw2⟩, ⟨hh1, hh2⟩, ⟨hr1, hr2⟩, ⟨hn, hk⟩, ⟨hhc, hnav⟩, hdn, hkc, hud, hql⟩, hB, hH, hD, hR, hU, hQ, hL, hS⟩ := id C
  have hud2 := ep_le hud
  have hb : eg B B' st st e := by
    have := eg_sub (i := st) (m := e) hB (by omega)
    rw [Nat.zero_add] at this
    exact this
  have hdel : eg (ec_cp B (st + e) B st (n - st - e)) (ez B' n st e) 0 0 (n - e) := eg_del hB h1 (ez_p e h1)
  obtain ⟨_, s, hs0, hsn⟩ := hL.2.1 rfl
  obtain ⟨l, hl32, hlx, hly, _⟩ := hR 0 (by omega)
  obtain rfl : s = l := (nI_eq (by omega) (by omega)).mp (hs0.symm.trans hly)
  rw [show c + 1 - 1 - 0 = c by omega] at hlx
  exact eO_1 (nI w, nI hh, nI rr, nI (n - e), nI st, nI hc, nI nav, nI dn, nI (c + 1), nI y, nI (ep_n ud), nI mo, 2, ac, nI ql, m, nI p, nI dl, nI dc, nI (dc / w), nI (dc % w), ec_cp B (st + e) B st (n - st - e), H, HL, D, ec_cp B st (ec_cp R (c * 32) R (c * 32 + e) s) (c * 32) e, upd RL c (nI (s + e)), ep_U B U n ud, ep_L UL (nI n) ud, ep_L UK (nI (st + e)) ud, Q, DS, SC) (e_K (B' := ez B' n st e) (H' := H') (HL' := HL') (D' := D') (R' := ec_cp B' st (ec_cp R' 0 R' e s) 0 e) (RL' := upd RL' 0 (nI (s + e))) (U' := ep_U B' U' 32 ud) (UL' := ep_L UL' (nI n) ud) (UK' := ep_L UK' (nI (st + e)) ud) (Q' := Q') (la := 2) ⟨⟨⟨hw1, hw2⟩, ⟨hh1, hh2⟩, ⟨hr1, hr2⟩, ⟨by omega, by omega⟩, ⟨by omega, by omega⟩, by omega, by omega, by omega, by omega⟩, hdel, hH, hD, ej_bwd hR hs0 (by omega) hb, ep_eu hU hud hn (by omega) hB, hQ, eL_2 (s := s + e) (by omega) ec_us (by omega), Or.inl S0⟩) (fun post hp => ey_lt st (st + e) (by omega) (en_eq st (st + e) (by omega) (xpu hn hud (br_t rfl (xk_b st e s c n hn h1 (by omega) (by omega) hlx hp)))))
theorem e_kb_f {st e c : Nat} (C : eC w hh (c + 1) n (st + e) hc nav dn (c + 1) y ud mo la ql p m B H HL D R RL U UL UK Q B' H' HL' D' R' RL' U' UL' UK' Q') (he : 1 ≤ e) (h1 : st + e ≤ n) (S0 : mo = 0 ∧ m = -1 ∧ ql = 0) (hl : la ≠ 2) : eO (fun post => wX_killKey_83 post (nI st) (nI (st + e)) (nI w) (nI hh) (nI (c + 1)) (nI n) (nI (st + e)) (nI hc) (nI nav) (nI dn) (nI (c + 1)) (nI y) (nI ud) (nI mo) (nI la) ac (nI ql) m (nI p) (nI dl) (nI dc) (nI (dc / w)) (nI (dc % w)) B H HL D R RL U UL UK Q DS SC) := by
  obtain ⟨⟨⟨hw1, hw2⟩, ⟨hh1, hh2⟩, ⟨hr1, hr2⟩, ⟨hn, hk⟩, ⟨hhc, hnav⟩, hdn, hkc, hud, hql⟩, hB, hH, hD, hR, hU, hQ, hL, hS⟩ := id C
  have hud2 := ep_le hud
  have hb : eg B B' st st e := by
    have := eg_sub (i := st) (m := e) hB (by omega)
    rw [Nat.zero_add] at this
    exact this
  have hdel : eg (ec_cp B (st + e) B st (n - st - e)) (ez B' n st e) 0 0 (n - e) := eg_del hB h1 (ez_p e h1)
  have hla := hL.1
  exact eO_1 (nI w, nI hh, nI (c + 1), nI (n - e), nI st, nI hc, nI nav, nI dn, nI (c + 1), nI y, nI (ep_n ud), nI mo, 2, ac, nI ql, m, nI p, nI dl, nI dc, nI (dc / w), nI (dc % w), ec_cp B (st + e) B st (n - st - e), H, HL, D, ec_cp B st (ec_cp R 32 R 0 (c * 32)) (c * 32) e, upd (upd (ec_cp RL 1 RL 0 c) c 0) c (nI e), ep_U B U n ud, ep_L UL (nI n) ud, ep_L UK (nI (st + e)) ud, Q, DS, SC) (e_K (B' := ez B' n st e) (H' := H') (HL' := HL') (D' := D') (R' := ec_cp B' st (ec_cp R' 0 R' 32 (c * 32)) 0 e) (RL' := upd (ec_cp RL' 0 RL' 1 c) 0 (nI e)) (U' := ep_U B' U' 32 ud) (UL' := ep_L UL' (nI n) ud) (UK' := ep_L UK' (nI (st + e)) ud) (Q' := Q') (la := 2) ⟨⟨⟨hw1, hw2⟩, ⟨hh1, hh2⟩, ⟨hr1, hr2⟩, ⟨by omega, by omega⟩, ⟨by omega, by omega⟩, by omega, by omega, by omega, by omega⟩, hdel, hH, hD, ej_full hR (by omega) hb, ep_eu hU hud hn (by omega) hB, hQ, eL_2 (s := e) (by omega) ec_us (by omega), Or.inl S0⟩) (fun post hp => ey_lt st (st + e) (by omega) (en_eq st (st + e) (by omega) (xpu hn hud (en_eq la 2 hl (xae_f c (by omega) (xk_b st e 0 c n hn h1 (by omega) (by omega) ec_us (by rw [Nat.zero_add, ec_0]; exact hp)))))))
theorem e_kb_n {st e c : Nat} (C : eC w hh rr n (st + e) hc nav dn c y ud mo la ql p m B H HL D R RL U UL UK Q B' H' HL' D' R' RL' U' UL' UK' Q') (he : 1 ≤ e) (h1 : st + e ≤ n) (S0 : mo = 0 ∧ m = -1 ∧ ql = 0) (hl : la ≠ 2) (hcr : c < rr) : eO (fun post => wX_killKey_83 post (nI st) (nI (st + e)) (nI w) (nI hh) (nI rr) (nI n) (nI (st + e)) (nI hc) (nI nav) (nI dn) (nI c) (nI y) (nI ud) (nI mo) (nI la) ac (nI ql) m (nI p) (nI dl) (nI dc) (nI (dc / w)) (nI (dc % w)) B H HL D R RL U UL UK Q DS SC) := by
  obtain ⟨⟨⟨hw1, hw2⟩, ⟨hh1, hh2⟩, ⟨hr1, hr2⟩, ⟨hn, hk⟩, ⟨hhc, hnav⟩, hdn, hkc, hud, hql⟩, hB, hH, hD, hR, hU, hQ, hL, hS⟩ := id C
  have hud2 := ep_le hud
  have hb : eg B B' st st e := by
    have := eg_sub (i := st) (m := e) hB (by omega)
    rw [Nat.zero_add] at this
    exact this
  have hdel : eg (ec_cp B (st + e) B st (n - st - e)) (ez B' n st e) 0 0 (n - e) := eg_del hB h1 (ez_p e h1)
  have hla := hL.1
  exact eO_1 (nI w, nI hh, nI rr, nI (n - e), nI st, nI hc, nI nav, nI dn, nI (c + 1), nI y, nI (ep_n ud), nI mo, 2, ac, nI ql, m, nI p, nI dl, nI dc, nI (dc / w), nI (dc % w), ec_cp B (st + e) B st (n - st - e), H, HL, D, ec_cp B st R (c * 32) e, upd (upd RL c 0) c (nI e), ep_U B U n ud, ep_L UL (nI n) ud, ep_L UK (nI (st + e)) ud, Q, DS, SC) (e_K (B' := ez B' n st e) (H' := H') (HL' := HL') (D' := D') (R' := ec_cp B' st (ec_cp R' 0 R' 32 (c * 32)) 0 e) (RL' := upd (ec_cp RL' 0 RL' 1 c) 0 (nI e)) (U' := ep_U B' U' 32 ud) (UL' := ep_L UL' (nI n) ud) (UK' := ep_L UK' (nI (st + e)) ud) (Q' := Q') (la := 2) ⟨⟨⟨hw1, hw2⟩, ⟨hh1, hh2⟩, ⟨hr1, hr2⟩, ⟨by omega, by omega⟩, ⟨by omega, by omega⟩, by omega, by omega, by omega, by omega⟩, hdel, hH, hD, ej_new hR (by omega) hb, ep_eu hU hud hn (by omega) hB, hQ, eL_2 (s := e) (by omega) ec_us (by omega), Or.inl S0⟩) (fun post hp => ey_lt st (st + e) (by omega) (en_eq st (st + e) (by omega) (xpu hn hud (en_eq la 2 hl (xae_n c rr hcr (by omega) (xk_b st e 0 c n hn h1 (by omega) (by omega) ec_us (by rw [Nat.zero_add, ec_0]; exact hp)))))))
end
end
section
/-! U: the keys that kill and yank -/
section
variable {w hh rr n k hc nav dn kc y ud mo la ql p dl dc : Nat} {m ac xdl xdc xtr xtc : Int32} {B H HL D R RL U UL UK Q DS SC B' H' HL' D' R' RL' U' UL' UK' Q' : Nat → Int32}
theorem e_kf {e : Nat} (C : eC w hh rr n k hc nav dn kc y ud mo la ql p m B H HL D R RL U UL UK Q B' H' HL' D' R' RL' U' UL' UK' Q') (he : 1 ≤ e) (h1 : k + e ≤ n) (S0 : mo = 0 ∧ m = -1 ∧ ql = 0) : eO (fun post => wX_killKey_83 post (nI k) (nI (k + e)) (nI w) (nI hh) (nI rr) (nI n) (nI k) (nI hc) (nI nav) (nI dn) (nI kc) (nI y) (nI ud) (nI mo) (nI la) ac (nI ql) m (nI p) (nI dl) (nI dc) (nI (dc / w)) (nI (dc % w)) B H HL D R RL U UL UK Q DS SC) := by
  obtain ⟨⟨⟨hw1, hw2⟩, ⟨hh1, hh2⟩, ⟨hr1, hr2⟩, ⟨hn, hk⟩, ⟨hhc, hnav⟩, hdn, hkc, hud, hql⟩, hB, hH, hD, hR, hU, hQ, hL, hS⟩ := id C
  by_cases c2 : la = 2
  · subst c2
    obtain ⟨hc1, _⟩ := hL.2.1 rfl
    obtain ⟨c, rfl⟩ : ∃ c, kc = c + 1 := ⟨kc - 1, by omega⟩
    exact e_kf_2 (st := 0) C he h1 S0
  · by_cases c3 : kc = rr
    · subst c3
      obtain ⟨c, rfl⟩ : ∃ c, kc = c + 1 := ⟨kc - 1, by omega⟩
      exact e_kf_f (st := 0) C he h1 S0 c2
    · exact e_kf_n (st := 0) C he h1 S0 c2 (by omega)
theorem e_kb {st e : Nat} (C : eC w hh rr n (st + e) hc nav dn kc y ud mo la ql p m B H HL D R RL U UL UK Q B' H' HL' D' R' RL' U' UL' UK' Q') (he : 1 ≤ e) (h1 : st + e ≤ n) (S0 : mo = 0 ∧ m = -1 ∧ ql = 0) : eO (fun post => wX_killKey_83 post (nI st) (nI (st + e)) (nI w) (nI hh) (nI rr) (nI n) (nI (st + e)) (nI hc) (nI nav) (nI dn) (nI kc) (nI y) (nI ud) (nI mo) (nI la) ac (nI ql) m (nI p) (nI dl) (nI dc) (nI (dc / w)) (nI (dc % w)) B H HL D R RL U UL UK Q DS SC) := by
  obtain ⟨⟨⟨hw1, hw2⟩, ⟨hh1, hh2⟩, ⟨hr1, hr2⟩, ⟨hn, hk⟩, ⟨hhc, hnav⟩, hdn, hkc, hud, hql⟩, hB, hH, hD, hR, hU, hQ, hL, hS⟩ := id C
  by_cases c2 : la = 2
  · subst c2
    obtain ⟨hc1, _⟩ := hL.2.1 rfl
    obtain ⟨c, rfl⟩ : ∃ c, kc = c + 1 := ⟨kc - 1, by omega⟩
    exact e_kb_2 C he h1 S0
  · by_cases c3 : kc = rr
    · subst c3
      obtain ⟨c, rfl⟩ : ∃ c, kc = c + 1 := ⟨kc - 1, by omega⟩
      exact e_kb_f C he h1 S0 c2
    · exact e_kb_n C he h1 S0 c2 (by omega)
theorem e_kend (C : eC w hh rr n k hc nav dn kc y ud mo la ql p m B H HL D R RL U UL UK Q B' H' HL' D' R' RL' U' UL' UK' Q') (P : eP w n k mo ql p m B H HL Q dl dc DS SC) (S0 : mo = 0 ∧ m = -1 ∧ ql = 0) : eO (fun post => wpX_editKey post (nI w, nI hh, nI rr, nI n, nI k, nI hc, nI nav, nI dn, nI kc, nI y, nI ud, nI mo, nI la, ac, nI ql, m, nI p, nI dl, nI dc, nI (dc / w), nI (dc % w), B, H, HL, D, R, RL, U, UL, UK, Q, DS, SC) 11) := by
  obtain ⟨⟨⟨hw1, hw2⟩, ⟨hh1, hh2⟩, ⟨hr1, hr2⟩, ⟨hn, hk⟩, ⟨hhc, hnav⟩, hdn, hkc, hud, hql⟩, hB, hH, hD, hR, hU, hQ, hL, hS⟩ := id C
  by_cases c : k = n
  · subst c
    exact eO_0 (nI w, nI hh, nI rr, nI k, nI k, nI hc, nI nav, nI dn, nI kc, nI y, nI ud, nI mo, nI la, ac, nI ql, m, nI p, nI dl, nI dc, nI (dc / w), nI (dc % w), B, H, HL, D, R, RL, U, UL, UK, Q, DS, SC) (e_I C P) (fun post hp => by unfold wpX_editKey; exact xp_f (Or.inl (by decide)) (br_t rfl (br_f (by decide) (br_f (by decide) (br_t rfl (br_t rfl ( en_lt k k (by omega) hp )))))))
  · obtain ⟨e, rfl⟩ : ∃ e, n = k + e := ⟨n - k, by omega⟩
    refine eO_n (e_kf (e := e) (dl := dl) (dc := dc) (DS := DS) (SC := SC) (ac := ac) C (by omega) (by omega) S0) (fun post r u hq hp => ?_)
    · obtain ⟨f_width, f_historyCap, f_ringCap, f_length, f_cursor, f_historyCount, f_nav, f_draftLength, f_ringCount, f_yankIndex, f_undoDepth, f_mode, f_last, f_accepted, f_queryLength, f_match, f_matchStart, f_displayLength, f_displayCursor, f_terminalRow, f_terminalCol, a_buffer, a_history, a_historyLengths, a_draft, a_ring, a_ringLengths, a_undoTexts, a_undoLengths, a_undoCursors, a_query, a_display, a_screen⟩ := u
      unfold wpX_editKey
      exact xp_f (Or.inl (by decide)) (br_t rfl (br_f (by decide) (br_f (by decide) (br_t rfl (br_t rfl ( hq _ hp ))))))
theorem e_kwf (C : eC w hh rr n k hc nav dn kc y ud mo la ql p m B H HL D R RL U UL UK Q B' H' HL' D' R' RL' U' UL' UK' Q') (P : eP w n k mo ql p m B H HL Q dl dc DS SC) (S0 : mo = 0 ∧ m = -1 ∧ ql = 0) : eO (fun post => wpX_editKey post (nI w, nI hh, nI rr, nI n, nI k, nI hc, nI nav, nI dn, nI kc, nI y, nI ud, nI mo, nI la, ac, nI ql, m, nI p, nI dl, nI dc, nI (dc / w), nI (dc % w), B, H, HL, D, R, RL, U, UL, UK, Q, DS, SC) 202) := by
  obtain ⟨⟨⟨hw1, hw2⟩, ⟨hh1, hh2⟩, ⟨hr1, hr2⟩, ⟨hn, hk⟩, ⟨hhc, hnav⟩, hdn, hkc, hud, hql⟩, hB, hH, hD, hR, hU, hQ, hL, hS⟩ := id C
  have ec : ewr B' n k = ewr B n k := (ewr_c hk (fun j hj => (eg_at hB (by omega)).1)).symm
  have hle := ewr_le (f := B) hk
  obtain ⟨e, he⟩ : ∃ e, ewr B n k = k + e := ⟨ewr B n k - k, by omega⟩
  rw [he] at ec hle
  by_cases c : e = 0
  · subst c
    exact eO_0 (nI w, nI hh, nI rr, nI n, nI k, nI hc, nI nav, nI dn, nI kc, nI y, nI ud, nI mo, nI la, ac, nI ql, m, nI p, nI dl, nI dc, nI (dc / w), nI (dc % w), B, H, HL, D, R, RL, U, UL, UK, Q, DS, SC) (e_I C P) (fun post hp => by unfold wpX_editKey; exact xp_f (Or.inr (by decide)) (br_t rfl (br_f (by decide) (br_f (by decide) (br_f (by decide) (br_f (by decide) (br_f (by decide) (br_f (by decide) (br_f (by decide) (br_f (by decide) (br_f (by decide) (br_f (by decide) (br_f (by decide) (br_t rfl (br_f (by decide) (br_f (by decide) (br_f (by decide) (br_t rfl ( xwr hn hk (by rw [he]; exact en_lt k k (by omega) hp) )))))))))))))))))))
  · refine eO_n (e_kf (e := e) (dl := dl) (dc := dc) (DS := DS) (SC := SC) (ac := ac) C (by omega) (by omega) S0) (fun post r u hq hp => ?_)
    · obtain ⟨f_width, f_historyCap, f_ringCap, f_length, f_cursor, f_historyCount, f_nav, f_draftLength, f_ringCount, f_yankIndex, f_undoDepth, f_mode, f_last, f_accepted, f_queryLength, f_match, f_matchStart, f_displayLength, f_displayCursor, f_terminalRow, f_terminalCol, a_buffer, a_history, a_historyLengths, a_draft, a_ring, a_ringLengths, a_undoTexts, a_undoLengths, a_undoCursors, a_query, a_display, a_screen⟩ := u
      unfold wpX_editKey
      exact xp_f (Or.inr (by decide)) (br_t rfl (br_f (by decide) (br_f (by decide) (br_f (by decide) (br_f (by decide) (br_f (by decide) (br_f (by decide) (br_f (by decide) (br_f (by decide) (br_f (by decide) (br_f (by decide) (br_f (by decide) (br_t rfl (br_f (by decide) (br_f (by decide) (br_f (by decide) (br_t rfl ( xwr hn hk (by rw [he]; exact hq _ hp) ))))))))))))))))))
theorem e_kst (C : eC w hh rr n k hc nav dn kc y ud mo la ql p m B H HL D R RL U UL UK Q B' H' HL' D' R' RL' U' UL' UK' Q') (P : eP w n k mo ql p m B H HL Q dl dc DS SC) (S0 : mo = 0 ∧ m = -1 ∧ ql = 0) : eO (fun post => wpX_editKey post (nI w, nI hh, nI rr, nI n, nI k, nI hc, nI nav, nI dn, nI kc, nI y, nI ud, nI mo, nI la, ac, nI ql, m, nI p, nI dl, nI dc, nI (dc / w), nI (dc % w), B, H, HL, D, R, RL, U, UL, UK, Q, DS, SC) 21) := by
  obtain ⟨⟨⟨hw1, hw2⟩, ⟨hh1, hh2⟩, ⟨hr1, hr2⟩, ⟨hn, hk⟩, ⟨hhc, hnav⟩, hdn, hkc, hud, hql⟩, hB, hH, hD, hR, hU, hQ, hL, hS⟩ := id C
  by_cases c : k = 0
  · subst c
    exact eO_0 (nI w, nI hh, nI rr, nI n, nI 0, nI hc, nI nav, nI dn, nI kc, nI y, nI ud, nI mo, nI la, ac, nI ql, m, nI p, nI dl, nI dc, nI (dc / w), nI (dc % w), B, H, HL, D, R, RL, U, UL, UK, Q, DS, SC) (e_I C P) (fun post hp => by unfold wpX_editKey; exact xp_f (Or.inl (by decide)) (br_t rfl (br_f (by decide) (br_f (by decide) (br_f (by decide) (br_f (by decide) (br_f (by decide) (br_f (by decide) (br_f (by decide) (br_t rfl (br_f (by decide) (br_t rfl ( en_lt 0 0 (by omega) hp )))))))))))))
  · obtain ⟨e, rfl⟩ : ∃ e, k = 0 + e := ⟨k, by omega⟩
    refine eO_n (e_kb (st := 0) (e := e) (dl := dl) (dc := dc) (DS := DS) (SC := SC) (ac := ac) C (by omega) (by omega) S0) (fun post r u hq hp => ?_)
    · obtain ⟨f_width, f_historyCap, f_ringCap, f_length, f_cursor, f_historyCount, f_nav, f_draftLength, f_ringCount, f_yankIndex, f_undoDepth, f_mode, f_last, f_accepted, f_queryLength, f_match, f_matchStart, f_displayLength, f_displayCursor, f_terminalRow, f_terminalCol, a_buffer, a_history, a_historyLengths, a_draft, a_ring, a_ringLengths, a_undoTexts, a_undoLengths, a_undoCursors, a_query, a_display, a_screen⟩ := u
      unfold wpX_editKey
      exact xp_f (Or.inl (by decide)) (br_t rfl (br_f (by decide) (br_f (by decide) (br_f (by decide) (br_f (by decide) (br_f (by decide) (br_f (by decide) (br_f (by decide) (br_t rfl (br_f (by decide) (br_t rfl ( hq _ hp ))))))))))))
theorem e_kwb (C : eC w hh rr n k hc nav dn kc y ud mo la ql p m B H HL D R RL U UL UK Q B' H' HL' D' R' RL' U' UL' UK' Q') (P : eP w n k mo ql p m B H HL Q dl dc DS SC) (S0 : mo = 0 ∧ m = -1 ∧ ql = 0) : eO (fun post => wpX_editKey post (nI w, nI hh, nI rr, nI n, nI k, nI hc, nI nav, nI dn, nI kc, nI y, nI ud, nI mo, nI la, ac, nI ql, m, nI p, nI dl, nI dc, nI (dc / w), nI (dc % w), B, H, HL, D, R, RL, U, UL, UK, Q, DS, SC) 23) := by
  obtain ⟨⟨⟨hw1, hw2⟩, ⟨hh1, hh2⟩, ⟨hr1, hr2⟩, ⟨hn, hk⟩, ⟨hhc, hnav⟩, hdn, hkc, hud, hql⟩, hB, hH, hD, hR, hU, hQ, hL, hS⟩ := id C
  have ec : ewl B' k = ewl B k := (ewl_c (fun j hj => (eg_at hB (by omega)).1)).symm
  have hle := ewl_le B k
  obtain ⟨st, hst⟩ : ∃ st, ewl B k = st := ⟨_, rfl⟩
  rw [hst] at ec hle
  obtain ⟨e, rfl⟩ : ∃ e, k = st + e := ⟨k - st, by omega⟩
  by_cases c : e = 0
  · subst c
    exact eO_0 (nI w, nI hh, nI rr, nI n, nI (st + 0), nI hc, nI nav, nI dn, nI kc, nI y, nI ud, nI mo, nI la, ac, nI ql, m, nI p, nI dl, nI dc, nI (dc / w), nI (dc % w), B, H, HL, D, R, RL, U, UL, UK, Q, DS, SC) (e_I C P) (fun post hp => by unfold wpX_editKey; exact xp_f (Or.inl (by decide)) (br_t rfl (br_f (by decide) (br_f (by decide) (br_f (by decide) (br_f (by decide) (br_f (by decide) (br_f (by decide) (br_f (by decide) (br_f (by decide) (br_t rfl (br_f (by decide) (br_f (by decide) (br_t rfl ( xwl (by omega) (by rw [hst]; exact en_lt st st (by omega) hp) )))))))))))))))
  · refine eO_n (e_kb (st := st) (e := e) (dl := dl) (dc := dc) (DS := DS) (SC := SC) (ac := ac) C (by omega) (by omega) S0) (fun post r u hq hp => ?_)
    · obtain ⟨f_width, f_historyCap, f_ringCap, f_length, f_cursor, f_historyCount, f_nav, f_draftLength, f_ringCount, f_yankIndex, f_undoDepth, f_mode, f_last, f_accepted, f_queryLength, f_match, f_matchStart, f_displayLength, f_displayCursor, f_terminalRow, f_terminalCol, a_buffer, a_history, a_historyLengths, a_draft, a_ring, a_ringLengths, a_undoTexts, a_undoLengths, a_undoCursors, a_query, a_display, a_screen⟩ := u
      unfold wpX_editKey
      exact xp_f (Or.inl (by decide)) (br_t rfl (br_f (by decide) (br_f (by decide) (br_f (by decide) (br_f (by decide) (br_f (by decide) (br_f (by decide) (br_f (by decide) (br_f (by decide) (br_t rfl (br_f (by decide) (br_f (by decide) (br_t rfl ( xwl (by omega) (by rw [hst]; exact hq _ hp) ))))))))))))))
theorem e_yank (C : eC w hh rr n k hc nav dn kc y ud mo la ql p m B H HL D R RL U UL UK Q B' H' HL' D' R' RL' U' UL' UK' Q') (P : eP w n k mo ql p m B H HL Q dl dc DS SC) (S0 : mo = 0 ∧ m = -1 ∧ ql = 0) : eO (fun post => wpX_editKey post (nI w, nI hh, nI rr, nI n, nI k, nI hc, nI nav, nI dn, nI kc, nI y, nI ud, nI mo, nI la, ac, nI ql, m, nI p, nI dl, nI dc, nI (dc / w), nI (dc % w), B, H, HL, D, R, RL, U, UL, UK, Q, DS, SC) 25) := by
  obtain ⟨⟨⟨hw1, hw2⟩, ⟨hh1, hh2⟩, ⟨hr1, hr2⟩, ⟨hn, hk⟩, ⟨hhc, hnav⟩, hdn, hkc, hud, hql⟩, hB, hH, hD, hR, hU, hQ, hL, hS⟩ := id C
  by_cases c : kc = 0
  · subst c
    exact eO_0 (nI w, nI hh, nI rr, nI n, nI k, nI hc, nI nav, nI dn, nI 0, nI y, nI ud, nI mo, nI la, ac, nI ql, m, nI p, nI dl, nI dc, nI (dc / w), nI (dc % w), B, H, HL, D, R, RL, U, UL, UK, Q, DS, SC) (e_I C P) (fun post hp => by unfold wpX_editKey; exact xp_f (Or.inl (by decide)) (br_t rfl (br_f (by decide) (br_f (by decide) (br_f (by decide) (br_f (by decide) (br_f (by decide) (br_f (by decide) (br_f (by decide) (br_f (by decide) (br_f (by decide) (br_t rfl ( ey_eq 0 0 rfl hp )))))))))))))
  · obtain ⟨l, hl, hlx, hly, hg⟩ := hR 0 (by omega)
    rw [Nat.zero_mul] at hg
    have hx : nI n + RL' 0 = nI (n + l) := by rw [hly]; exact nI_add n l
    by_cases c2 : n + l ≤ 32
    · have hud2 := ep_le hud
      exact eO_1 (nI w, nI hh, nI rr, nI (n + l), nI (k + l), nI hc, nI nav, nI dn, nI kc, nI 0, nI (ep_n ud), nI mo, 3, ac, nI ql, m, nI p, nI dl, nI dc, nI (dc / w), nI (dc % w), ec_cp R ((kc - 1 - 0) * 32) (ec_cp B k B (k + l) (n - k)) k l, H, HL, D, R, RL, ep_U B U n ud, ep_L UL (nI n) ud, ep_L UK (nI k) ud, Q, DS, SC) (e_K (B' := ec_cp R' 0 (ec_cp B' k B' (k + l) (n - k)) k l) (H' := H') (HL' := HL') (D' := D') (R' := R') (RL' := RL') (U' := ep_U B' U' 32 ud) (UL' := ep_L UL' (nI n) ud) (UK' := ep_L UK' (nI k) ud) (Q' := Q') (la := 3) (y := 0) ⟨⟨⟨hw1, hw2⟩, ⟨hh1, hh2⟩, ⟨hr1, hr2⟩, ⟨by omega, by omega⟩, ⟨by omega, by omega⟩, by omega, by omega, by omega, by omega⟩, eg_ins hB hk hg, hH, hD, hR, ep_eu hU hud hn hk hB, hQ, eL_3 (by omega) hly (by omega), Or.inl S0⟩) (fun post hp => by unfold wpX_editKey; exact xp_f (Or.inl (by decide)) (br_t rfl (br_f (by decide) (br_f (by decide) (br_f (by decide) (br_f (by decide) (br_f (by decide) (br_f (by decide) (br_f (by decide) (br_f (by decide) (br_f (by decide) (br_t rfl ( en_eq kc 0 c (xkl kc 0 l (by omega) (by omega) hlx (ey_le (n + l) 32 c2 (xpu hn hud (xik kc 0 l n k (by omega) (by omega) c2 hk hlx hp)))) )))))))))))))
    · exact eO_0 (nI w, nI hh, nI rr, nI n, nI k, nI hc, nI nav, nI dn, nI kc, nI y, nI ud, nI mo, nI la, ac, nI ql, m, nI p, nI dl, nI dc, nI (dc / w), nI (dc % w), B, H, HL, D, R, RL, U, UL, UK, Q, DS, SC) (e_I C P) (fun post hp => by unfold wpX_editKey; exact xp_f (Or.inl (by decide)) (br_t rfl (br_f (by decide) (br_f (by decide) (br_f (by decide) (br_f (by decide) (br_f (by decide) (br_f (by decide) (br_f (by decide) (br_f (by decide) (br_f (by decide) (br_t rfl ( en_eq kc 0 c (xkl kc 0 l (by omega) (by omega) hlx (en_le (n + l) 32 (by omega) hp)) )))))))))))))
theorem e_pop (C : eC w hh rr n k hc nav dn kc y ud mo la ql p m B H HL D R RL U UL UK Q B' H' HL' D' R' RL' U' UL' UK' Q') (P : eP w n k mo ql p m B H HL Q dl dc DS SC) (S0 : mo = 0 ∧ m = -1 ∧ ql = 0) : eO (fun post => wpX_editKey post (nI w, nI hh, nI rr, nI n, nI k, nI hc, nI nav, nI dn, nI kc, nI y, nI ud, nI mo, nI la, ac, nI ql, m, nI p, nI dl, nI dc, nI (dc / w), nI (dc % w), B, H, HL, D, R, RL, U, UL, UK, Q, DS, SC) 203) := by
  obtain ⟨⟨⟨hw1, hw2⟩, ⟨hh1, hh2⟩, ⟨hr1, hr2⟩, ⟨hn, hk⟩, ⟨hhc, hnav⟩, hdn, hkc, hud, hql⟩, hB, hH, hD, hR, hU, hQ, hL, hS⟩ := id C
  have hla := hL.1
  by_cases c : la = 3
  · subst c
    obtain ⟨hy, l, hly, hlk⟩ := hL.2.2 rfl
    obtain ⟨a, rfl⟩ : ∃ a, k = a + l := ⟨k - l, by omega⟩
    obtain ⟨l2, hl, hlx, hly2, _⟩ := hR y hy
    obtain rfl : l2 = l := (nI_eq (by omega) (by omega)).mp (hly2.symm.trans hly)
    obtain ⟨z, hz⟩ : ∃ z, (y + 1) % kc = z := ⟨_, rfl⟩
    have hzc : z < kc := by rw [← hz]; exact Nat.mod_lt _ (by omega)
    have hrem : (nI y + 1) - (nI y + 1) / nI kc * nI kc = nI z := by rw [nI_1, pk_rem (by omega) (by omega) (by omega), hz]
    obtain ⟨s, hs, hsx, hsy, hg⟩ := hR z hzc
    have hne : ¬ nI kc = 0 := nI_ne0 (by omega) (by omega)
    have hdel : eg (ec_cp B (a + l2) B a (n - a - l2)) (ez B' n a l2) 0 0 (n - l2) := eg_del hB hk (ez_p l2 hk)
    have e1 : nI (a + l2) - nI l2 = nI a := by rw [pk_sub (by omega)]; exact congrArg nI (by omega)
    by_cases c2 : n - l2 + s ≤ 32
    · exact eO_1 (nI w, nI hh, nI rr, nI (n - l2 + s), nI (a + s), nI hc, nI nav, nI dn, nI kc, nI z, nI ud, nI mo, 3, ac, nI ql, m, nI p, nI dl, nI dc, nI (dc / w), nI (dc % w), ec_cp R ((kc - 1 - z) * 32) (ec_cp (ec_cp B (a + l2) B a (n - a - l2)) a (ec_cp B (a + l2) B a (n - a - l2)) (a + s) (n - l2 - a)) a s, H, HL, D, R, RL, U, UL, UK, Q, DS, SC) (e_K (B' := ec_cp R' (z * 32) (ec_cp (ez B' n a l2) a (ez B' n a l2) (a + s) (n - l2 - a)) a s) (H' := H') (HL' := HL') (D' := D') (R' := R') (RL' := RL') (U' := U') (UL' := UL') (UK' := UK') (Q' := Q') (la := 3) (y := z) ⟨⟨⟨hw1, hw2⟩, ⟨hh1, hh2⟩, ⟨hr1, hr2⟩, ⟨by omega, by omega⟩, ⟨by omega, by omega⟩, by omega, by omega, by omega, by omega⟩, eg_ins hdel (by omega) hg, hH, hD, hR, hU, hQ, eL_3 hzc hsy (by omega), Or.inl S0⟩) (fun post hp => by unfold wpX_editKey; exact xp_f (Or.inr (by decide)) (br_t rfl (br_f (by decide) (br_f (by decide) (br_f (by decide) (br_f (by decide) (br_f (by decide) (br_f (by decide) (br_f (by decide) (br_f (by decide) (br_f (by decide) (br_f (by decide) (br_f (by decide) (br_f (by decide) (br_t rfl ( br_t rfl (en_eq kc 0 (by omega) ⟨hne, nm_r hrem (xkl kc y l2 hy (by omega) hlx (xkl kc z s hzc (by omega) hsx (ey_le (n - l2 + s) 32 c2 (nm_r e1 (xcg a l2 n hn hk (xik kc z s (n - l2) a hzc (by omega) c2 (by omega) hsx hp))))))⟩) ))))))))))))))))
    · exact eO_0 (nI w, nI hh, nI rr, nI n, nI (a + l2), nI hc, nI nav, nI dn, nI kc, nI y, nI ud, nI mo, nI 3, ac, nI ql, m, nI p, nI dl, nI dc, nI (dc / w), nI (dc % w), B, H, HL, D, R, RL, U, UL, UK, Q, DS, SC) (e_I C P) (fun post hp => by unfold wpX_editKey; exact xp_f (Or.inr (by decide)) (br_t rfl (br_f (by decide) (br_f (by decide) (br_f (by decide) (br_f (by decide) (br_f (by decide) (br_f (by decide) (br_f (by decide) (br_f (by decide) (br_f (by decide) (br_f (by decide) (br_f (by decide) (br_f (by decide) (br_t rfl ( br_t rfl (en_eq kc 0 (by omega) ⟨hne, nm_r hrem (xkl kc y l2 hy (by omega) hlx (xkl kc z s hzc (by omega) hsx (en_le (n - l2 + s) 32 (by omega) hp)))⟩) ))))))))))))))))
  · exact eO_0 (nI w, nI hh, nI rr, nI n, nI k, nI hc, nI nav, nI dn, nI kc, nI y, nI ud, nI mo, nI la, ac, nI ql, m, nI p, nI dl, nI dc, nI (dc / w), nI (dc % w), B, H, HL, D, R, RL, U, UL, UK, Q, DS, SC) (e_I C P) (fun post hp => by unfold wpX_editKey; exact xp_f (Or.inr (by decide)) (br_t rfl (br_f (by decide) (br_f (by decide) (br_f (by decide) (br_f (by decide) (br_f (by decide) (br_f (by decide) (br_f (by decide) (br_f (by decide) (br_f (by decide) (br_f (by decide) (br_f (by decide) (br_f (by decide) (br_t rfl ( en_eq la 3 c hp ))))))))))))))))
end
end
section
/-! V: undo, history steps, enter, search -/
section
variable {w hh rr n k hc nav dn kc y ud mo la ql p dl dc : Nat} {m ac xdl xdc xtr xtc : Int32} {B H HL D R RL U UL UK Q DS SC B' H' HL' D' R' RL' U' UL' UK' Q' : Nat → Int32}
theorem e_undo (C : eC w hh rr n k hc nav dn kc y ud mo la ql p m B H HL D R RL U UL UK Q B' H' HL' D' R' RL' U' UL' UK' Q') (P : eP w n k mo ql p m B H HL Q dl dc DS SC) (S0 : mo = 0 ∧ m = -1 ∧ ql = 0) : eO (fun post => wpX_editKey post (nI w, nI hh, nI rr, nI n, nI k, nI hc, nI nav, nI dn, nI kc, nI y, nI ud, nI mo, nI la, ac, nI ql, m, nI p, nI dl, nI dc, nI (dc / w), nI (dc % w), B, H, HL, D, R, RL, U, UL, UK, Q, DS, SC) 31) := by
  obtain ⟨⟨⟨hw1, hw2⟩, ⟨hh1, hh2⟩, ⟨hr1, hr2⟩, ⟨hn, hk⟩, ⟨hhc, hnav⟩, hdn, hkc, hud, hql⟩, hB, hH, hD, hR, hU, hQ, hL, hS⟩ := id C
  by_cases c : ud = 0
  · subst c
    exact eO_0 (nI w, nI hh, nI rr, nI n, nI k, nI hc, nI nav, nI dn, nI kc, nI y, nI 0, nI mo, nI la, ac, nI ql, m, nI p, nI dl, nI dc, nI (dc / w), nI (dc % w), B, H, HL, D, R, RL, U, UL, UK, Q, DS, SC) (e_I C P) (fun post hp => by unfold wpX_editKey; exact xp_f (Or.inl (by decide)) (br_t rfl (br_f (by decide) (br_f (by decide) (br_f (by decide) (br_f (by decide) (br_f (by decide) (br_f (by decide) (br_f (by decide) (br_f (by decide) (br_f (by decide) (br_f (by decide) (br_t rfl ( ey_eq 0 0 rfl hp ))))))))))))))
  · obtain ⟨v, rfl⟩ : ∃ v, ud = v + 1 := ⟨ud - 1, by omega⟩
    obtain ⟨l, t, hl, ht, a1, a2, a3, a4, hg⟩ := hU v (by omega)
    exact eO_1 (nI w, nI hh, nI rr, nI l, nI t, nI hc, nI nav, nI dn, nI kc, nI y, nI v, nI mo, 0, ac, nI ql, m, nI p, nI dl, nI dc, nI (dc / w), nI (dc % w), ec_cp U (v * 32) B 0 l, H, HL, D, R, RL, U, UL, UK, Q, DS, SC) (e_K (B' := ec_cp U' (v * 32) B' 0 32) (H' := H') (HL' := HL') (D' := D') (R' := R') (RL' := RL') (U' := U') (UL' := UL') (UK' := UK') (Q' := Q') (la := 0) ⟨⟨⟨hw1, hw2⟩, ⟨hh1, hh2⟩, ⟨hr1, hr2⟩, ⟨by omega, by omega⟩, ⟨by omega, by omega⟩, by omega, by omega, by omega, by omega⟩, eg_cp hg (Nat.le_refl _) hl, hH, hD, hR, eu_le hU (by omega), hQ, eL_0, Or.inl S0⟩) (fun post hp => by unfold wpX_editKey; exact xp_f (Or.inl (by decide)) (br_t rfl (br_f (by decide) (br_f (by decide) (br_f (by decide) (br_f (by decide) (br_f (by decide) (br_f (by decide) (br_f (by decide) (br_f (by decide) (br_f (by decide) (br_f (by decide) (br_t rfl ( en_eq (v + 1) 0 (by omega) (xus0 v ⟨en_in v (by omega), nm_r ((en_g v).trans a1) (xc_10 (v * 32) 0 l (by omega) (by omega) ⟨en_in v (by omega), nm_r ((en_g v).trans a3) (nm_r (nI_pred v) hp)⟩)⟩) ))))))))))))))
theorem e_prev (C : eC w hh rr n k hc nav dn kc y ud mo la ql p m B H HL D R RL U UL UK Q B' H' HL' D' R' RL' U' UL' UK' Q') (P : eP w n k mo ql p m B H HL Q dl dc DS SC) (S0 : mo = 0 ∧ m = -1 ∧ ql = 0) : eO (fun post => wpX_editKey post (nI w, nI hh, nI rr, nI n, nI k, nI hc, nI nav, nI dn, nI kc, nI y, nI ud, nI mo, nI la, ac, nI ql, m, nI p, nI dl, nI dc, nI (dc / w), nI (dc % w), B, H, HL, D, R, RL, U, UL, UK, Q, DS, SC) 16) := by
  obtain ⟨⟨⟨hw1, hw2⟩, ⟨hh1, hh2⟩, ⟨hr1, hr2⟩, ⟨hn, hk⟩, ⟨hhc, hnav⟩, hdn, hkc, hud, hql⟩, hB, hH, hD, hR, hU, hQ, hL, hS⟩ := id C
  by_cases c : nav = 0
  · subst c
    exact eO_0 (nI w, nI hh, nI rr, nI n, nI k, nI hc, nI 0, nI dn, nI kc, nI y, nI ud, nI mo, nI la, ac, nI ql, m, nI p, nI dl, nI dc, nI (dc / w), nI (dc % w), B, H, HL, D, R, RL, U, UL, UK, Q, DS, SC) (e_I C P) (fun post hp => by unfold wpX_editKey; exact xp_f (Or.inl (by decide)) (br_t rfl (br_f (by decide) (br_f (by decide) (br_f (by decide) (br_f (by decide) (br_f (by decide) (br_t rfl ( ey_eq 0 0 rfl hp )))))))))
  · obtain ⟨v, rfl⟩ : ∃ v, nav = v + 1 := ⟨nav - 1, by omega⟩
    obtain ⟨l, hl, a1, a2, hg⟩ := hH v (by omega)
    by_cases c2 : v + 1 = hc
    · subst c2
      exact eO_1 (nI w, nI hh, nI rr, nI l, nI l, nI (v + 1), nI v, nI n, nI kc, nI y, 0, nI mo, 0, ac, nI ql, m, nI p, nI dl, nI dc, nI (dc / w), nI (dc % w), ec_cp H (v * 32) B 0 l, H, HL, ec_cp B 0 D 0 n, R, RL, U, UL, UK, Q, DS, SC) (e_K (B' := ec_cp H' (v * 32) B' 0 32) (H' := H') (HL' := HL') (D' := ec_cp B' 0 D' 0 32) (R' := R') (RL' := RL') (U' := U') (UL' := UL') (UK' := UK') (Q' := Q') (la := 0) (ud := 0) ⟨⟨⟨hw1, hw2⟩, ⟨hh1, hh2⟩, ⟨hr1, hr2⟩, ⟨by omega, by omega⟩, ⟨by omega, by omega⟩, by omega, by omega, by omega, by omega⟩, eg_cp hg (Nat.le_refl _) hl, hH, eg_cp hB (Nat.le_refl _) hn, hR, eu_0, hQ, eL_0, Or.inl S0⟩) (fun post hp => by unfold wpX_editKey; exact xp_f (Or.inl (by decide)) (br_t rfl (br_f (by decide) (br_f (by decide) (br_f (by decide) (br_f (by decide) (br_f (by decide) (br_t rfl ( en_eq (v + 1) 0 (by omega) (ey_eq (v + 1) (v + 1) rfl (xc_11 0 0 n (by omega) (by omega) (nm_r (nI_pred v) (xlh v l (by omega) hl a1 hp)))) )))))))))
    · exact eO_1 (nI w, nI hh, nI rr, nI l, nI l, nI hc, nI v, nI dn, nI kc, nI y, 0, nI mo, 0, ac, nI ql, m, nI p, nI dl, nI dc, nI (dc / w), nI (dc % w), ec_cp H (v * 32) B 0 l, H, HL, D, R, RL, U, UL, UK, Q, DS, SC) (e_K (B' := ec_cp H' (v * 32) B' 0 32) (H' := H') (HL' := HL') (D' := D') (R' := R') (RL' := RL') (U' := U') (UL' := UL') (UK' := UK') (Q' := Q') (la := 0) (ud := 0) ⟨⟨⟨hw1, hw2⟩, ⟨hh1, hh2⟩, ⟨hr1, hr2⟩, ⟨by omega, by omega⟩, ⟨by omega, by omega⟩, by omega, by omega, by omega, by omega⟩, eg_cp hg (Nat.le_refl _) hl, hH, hD, hR, eu_0, hQ, eL_0, Or.inl S0⟩) (fun post hp => by unfold wpX_editKey; exact xp_f (Or.inl (by decide)) (br_t rfl (br_f (by decide) (br_f (by decide) (br_f (by decide) (br_f (by decide) (br_f (by decide) (br_t rfl ( en_eq (v + 1) 0 (by omega) (en_eq (v + 1) hc c2 (nm_r (nI_pred v) (xlh v l (by omega) hl a1 hp))) )))))))))
theorem e_next (C : eC w hh rr n k hc nav dn kc y ud mo la ql p m B H HL D R RL U UL UK Q B' H' HL' D' R' RL' U' UL' UK' Q') (P : eP w n k mo ql p m B H HL Q dl dc DS SC) (S0 : mo = 0 ∧ m = -1 ∧ ql = 0) : eO (fun post => wpX_editKey post (nI w, nI hh, nI rr, nI n, nI k, nI hc, nI nav, nI dn, nI kc, nI y, nI ud, nI mo, nI la, ac, nI ql, m, nI p, nI dl, nI dc, nI (dc / w), nI (dc % w), B, H, HL, D, R, RL, U, UL, UK, Q, DS, SC) 14) := by
  obtain ⟨⟨⟨hw1, hw2⟩, ⟨hh1, hh2⟩, ⟨hr1, hr2⟩, ⟨hn, hk⟩, ⟨hhc, hnav⟩, hdn, hkc, hud, hql⟩, hB, hH, hD, hR, hU, hQ, hL, hS⟩ := id C
  by_cases c : nav = hc
  · subst c
    exact eO_0 (nI w, nI hh, nI rr, nI n, nI k, nI nav, nI nav, nI dn, nI kc, nI y, nI ud, nI mo, nI la, ac, nI ql, m, nI p, nI dl, nI dc, nI (dc / w), nI (dc % w), B, H, HL, D, R, RL, U, UL, UK, Q, DS, SC) (e_I C P) (fun post hp => by unfold wpX_editKey; exact xp_f (Or.inl (by decide)) (br_t rfl (br_f (by decide) (br_f (by decide) (br_f (by decide) (br_f (by decide) (br_t rfl ( ey_eq nav nav rfl hp ))))))))
  · by_cases c2 : nav + 1 = hc
    · exact eO_1 (nI w, nI hh, nI rr, nI dn, nI dn, nI hc, nI (nav + 1), 0, nI kc, nI y, 0, nI mo, 0, ac, nI ql, m, nI p, nI dl, nI dc, nI (dc / w), nI (dc % w), ec_cp D 0 B 0 dn, H, HL, D, R, RL, U, UL, UK, Q, DS, SC) (e_K (B' := ec_cp D' 0 B' 0 32) (H' := H') (HL' := HL') (D' := D') (R' := R') (RL' := RL') (U' := U') (UL' := UL') (UK' := UK') (Q' := Q') (la := 0) (ud := 0) (dn := 0) ⟨⟨⟨hw1, hw2⟩, ⟨hh1, hh2⟩, ⟨hr1, hr2⟩, ⟨by omega, by omega⟩, ⟨by omega, by omega⟩, by omega, by omega, by omega, by omega⟩, eg_cp hD (Nat.le_refl _) hdn, hH, eg_0, hR, eu_0, hQ, eL_0, Or.inl S0⟩) (fun post hp => by unfold wpX_editKey; exact xp_f (Or.inl (by decide)) (br_t rfl (br_f (by decide) (br_f (by decide) (br_f (by decide) (br_f (by decide) (br_t rfl ( en_eq nav hc c (nm_r (nI_1 nav) (ey_eq (nav + 1) hc c2 (xld hdn hp))) ))))))))
    · obtain ⟨l, hl, a1, a2, hg⟩ := hH (nav + 1) (by omega)
      exact eO_1 (nI w, nI hh, nI rr, nI l, nI l, nI hc, nI (nav + 1), nI dn, nI kc, nI y, 0, nI mo, 0, ac, nI ql, m, nI p, nI dl, nI dc, nI (dc / w), nI (dc % w), ec_cp H ((nav + 1) * 32) B 0 l, H, HL, D, R, RL, U, UL, UK, Q, DS, SC) (e_K (B' := ec_cp H' ((nav + 1) * 32) B' 0 32) (H' := H') (HL' := HL') (D' := D') (R' := R') (RL' := RL') (U' := U') (UL' := UL') (UK' := UK') (Q' := Q') (la := 0) (ud := 0) ⟨⟨⟨hw1, hw2⟩, ⟨hh1, hh2⟩, ⟨hr1, hr2⟩, ⟨by omega, by omega⟩, ⟨by omega, by omega⟩, by omega, by omega, by omega, by omega⟩, eg_cp hg (Nat.le_refl _) hl, hH, hD, hR, eu_0, hQ, eL_0, Or.inl S0⟩) (fun post hp => by unfold wpX_editKey; exact xp_f (Or.inl (by decide)) (br_t rfl (br_f (by decide) (br_f (by decide) (br_f (by decide) (br_f (by decide) (br_t rfl ( en_eq nav hc c (nm_r (nI_1 nav) (en_eq (nav + 1) hc c2 (xlh (nav + 1) l (by omega) hl a1 hp))) ))))))))
theorem e_enter (C : eC w hh rr n k hc nav dn kc y ud mo la ql p m B H HL D R RL U UL UK Q B' H' HL' D' R' RL' U' UL' UK' Q') (P : eP w n k mo ql p m B H HL Q dl dc DS SC) (S0 : mo = 0 ∧ m = -1 ∧ ql = 0) : eO (fun post => wpX_editKey post (nI w, nI hh, nI rr, nI n, nI k, nI hc, nI nav, nI dn, nI kc, nI y, nI ud, nI mo, nI la, ac, nI ql, m, nI p, nI dl, nI dc, nI (dc / w), nI (dc % w), B, H, HL, D, R, RL, U, UL, UK, Q, DS, SC) 13) := by
  obtain ⟨⟨⟨hw1, hw2⟩, ⟨hh1, hh2⟩, ⟨hr1, hr2⟩, ⟨hn, hk⟩, ⟨hhc, hnav⟩, hdn, hkc, hud, hql⟩, hB, hH, hD, hR, hU, hQ, hL, hS⟩ := id C
  by_cases c : n = 0
  · subst c
    exact eO_1 (nI w, nI hh, nI rr, 0, 0, nI hc, nI hc, 0, nI kc, nI y, 0, nI mo, 0, ac + 1, nI ql, m, nI p, nI dl, nI dc, nI (dc / w), nI (dc % w), B, H, HL, D, R, RL, U, UL, UK, Q, DS, SC) (e_K (B' := B') (H' := H') (HL' := HL') (D' := D') (R' := R') (RL' := RL') (U' := U') (UL' := UL') (UK' := UK') (Q' := Q') (la := 0) (ud := 0) (dn := 0) (n := 0) (k := 0) ⟨⟨⟨hw1, hw2⟩, ⟨hh1, hh2⟩, ⟨hr1, hr2⟩, ⟨by omega, by omega⟩, ⟨by omega, by omega⟩, by omega, by omega, by omega, by omega⟩, eg_0, hH, eg_0, hR, eu_0, hQ, eL_0, Or.inl S0⟩) (fun post hp => by unfold wpX_editKey; exact xp_f (Or.inl (by decide)) (br_t rfl (br_f (by decide) (br_f (by decide) (br_f (by decide) (br_t rfl ( ey_le 0 0 (by omega) (nm_e hp) )))))))
  · have hle := ea_le hhc
    exact eO_1 (nI w, nI hh, nI rr, 0, 0, nI (ea_n hc hh), nI (ea_n hc hh), 0, nI kc, nI y, 0, nI mo, 0, ac + 1, nI ql, m, nI p, nI dl, nI dc, nI (dc / w), nI (dc % w), B, ea_H B H n hc hh, ea_L HL (nI n) hc hh, D, R, RL, U, UL, UK, Q, DS, SC) (e_K (B' := B') (H' := ea_H B' H' 32 hc hh) (HL' := ea_L HL' (nI n) hc hh) (D' := D') (R' := R') (RL' := RL') (U' := U') (UL' := UL') (UK' := UK') (Q' := Q') (la := 0) (ud := 0) (dn := 0) (n := 0) (k := 0) ⟨⟨⟨hw1, hw2⟩, ⟨hh1, hh2⟩, ⟨hr1, hr2⟩, ⟨by omega, by omega⟩, ⟨by omega, by omega⟩, by omega, by omega, by omega, by omega⟩, eg_0, ea_eh hH hh1 hn hB, eg_0, hR, eu_0, hQ, eL_0, Or.inl S0⟩) (fun post hp => by unfold wpX_editKey; exact xp_f (Or.inl (by decide)) (br_t rfl (br_f (by decide) (br_f (by decide) (br_f (by decide) (br_t rfl ( en_le n 0 (by omega) (xah hn hh1 hh2 hhc (nm_e hp)) )))))))
theorem e_find (C : eC w hh rr n k hc nav dn kc y ud mo la ql p m B H HL D R RL U UL UK Q B' H' HL' D' R' RL' U' UL' UK' Q') (P : eP w n k mo ql p m B H HL Q dl dc DS SC) (S0 : mo = 0 ∧ m = -1 ∧ ql = 0) : eO (fun post => wpX_editKey post (nI w, nI hh, nI rr, nI n, nI k, nI hc, nI nav, nI dn, nI kc, nI y, nI ud, nI mo, nI la, ac, nI ql, m, nI p, nI dl, nI dc, nI (dc / w), nI (dc % w), B, H, HL, D, R, RL, U, UL, UK, Q, DS, SC) 18) := by
  obtain ⟨⟨⟨hw1, hw2⟩, ⟨hh1, hh2⟩, ⟨hr1, hr2⟩, ⟨hn, hk⟩, ⟨hhc, hnav⟩, hdn, hkc, hud, hql⟩, hB, hH, hD, hR, hU, hQ, hL, hS⟩ := id C
  by_cases c : hc = 0
  · subst c
    exact eO_0 (nI w, nI hh, nI rr, nI n, nI k, nI 0, nI nav, nI dn, nI kc, nI y, nI ud, nI mo, nI la, ac, nI ql, m, nI p, nI dl, nI dc, nI (dc / w), nI (dc % w), B, H, HL, D, R, RL, U, UL, UK, Q, DS, SC) (e_I C P) (fun post hp => by unfold wpX_editKey; exact xp_f (Or.inl (by decide)) (br_t rfl (br_f (by decide) (br_f (by decide) (br_f (by decide) (br_f (by decide) (br_f (by decide) (br_f (by decide) (br_t rfl ( ey_eq 0 0 rfl hp ))))))))))
  · exact eO_1 (nI w, nI hh, nI rr, nI n, nI k, nI hc, nI nav, nI dn, nI kc, nI y, nI ud, 1, 0, ac, 0, (-1), nI p, nI dl, nI dc, nI (dc / w), nI (dc % w), B, H, HL, D, R, RL, U, UL, UK, Q, DS, SC) (e_K (B' := B') (H' := H') (HL' := HL') (D' := D') (R' := R') (RL' := RL') (U' := U') (UL' := UL') (UK' := UK') (Q' := Q') (la := 0) (mo := 1) (ql := 0) (m := -1) ⟨⟨⟨hw1, hw2⟩, ⟨hh1, hh2⟩, ⟨hr1, hr2⟩, ⟨by omega, by omega⟩, ⟨by omega, by omega⟩, by omega, by omega, by omega, by omega⟩, hB, hH, hD, hR, hU, eg_0, eL_0, Or.inr ⟨rfl, rfl, Or.inl ⟨rfl, rfl⟩⟩⟩) (fun post hp => by unfold wpX_editKey; exact xp_f (Or.inl (by decide)) (br_t rfl (br_f (by decide) (br_f (by decide) (br_f (by decide) (br_f (by decide) (br_f (by decide) (br_f (by decide) (br_t rfl ( en_eq hc 0 c hp ))))))))))
/-- any other code -/
theorem e_other (C : eC w hh rr n k hc nav dn kc y ud mo la ql p m B H HL D R RL U UL UK Q B' H' HL' D' R' RL' U' UL' UK' Q') (P : eP w n k mo ql p m B H HL Q dl dc DS SC) {c : Int32} (c0 : c < 32 ∨ 126 < c) (n1 : c ≠ 1) (n2 : c ≠ 2) (n4 : c ≠ 4) (n5 : c ≠ 5) (n6 : c ≠ 6) (n8 : c ≠ 8) (n11 : c ≠ 11) (n13 : c ≠ 13) (n14 : c ≠ 14) (n16 : c ≠ 16) (n18 : c ≠ 18) (n21 : c ≠ 21) (n23 : c ≠ 23) (n25 : c ≠ 25) (n31 : c ≠ 31) (n200 : c ≠ 200) (n201 : c ≠ 201) (n202 : c ≠ 202) (n203 : c ≠ 203) : eO (fun post => wpX_editKey post (nI w, nI hh, nI rr, nI n, nI k, nI hc, nI nav, nI dn, nI kc, nI y, nI ud, nI mo, nI la, ac, nI ql, m, nI p, nI dl, nI dc, nI (dc / w), nI (dc % w), B, H, HL, D, R, RL, U, UL, UK, Q, DS, SC) c) := by
  refine eO_0 (nI w, nI hh, nI rr, nI n, nI k, nI hc, nI nav, nI dn, nI kc, nI y, nI ud, nI mo, nI la, ac, nI ql, m, nI p, nI dl, nI dc, nI (dc / w), nI (dc % w), B, H, HL, D, R, RL, U, UL, UK, Q, DS, SC) (e_I C P) (fun post hp => ?_)
  · unfold wpX_editKey
    exact xp_f c0 (br_t rfl (br_f n4 (br_f n8 (br_f n11 (br_f n13 (br_f n14 (br_f n16 (br_f n18 (br_f n21 (br_f n23 (br_f n25 (br_f n31 (br_f n202 (br_f n203 (br_f n1 (br_f n2 (br_f n5 (br_f n6 (br_f n200 (br_f n201 hp))))))))))))))))))))
theorem e_edit (C : eC w hh rr n k hc nav dn kc y ud mo la ql p m B H HL D R RL U UL UK Q B' H' HL' D' R' RL' U' UL' UK' Q') (P : eP w n k mo ql p m B H HL Q dl dc DS SC) (S0 : mo = 0 ∧ m = -1 ∧ ql = 0) (c : Int32) : eO (fun post => wpX_editKey post (nI w, nI hh, nI rr, nI n, nI k, nI hc, nI nav, nI dn, nI kc, nI y, nI ud, nI mo, nI la, ac, nI ql, m, nI p, nI dl, nI dc, nI (dc / w), nI (dc % w), B, H, HL, D, R, RL, U, UL, UK, Q, DS, SC) c) := by
  by_cases c0 : c < 32 ∨ 126 < c
  · by_cases n1 : c = 1
    · subst n1; exact e_home C P S0
    by_cases n2 : c = 2
    · subst n2; exact e_left C P S0
    by_cases n4 : c = 4
    · subst n4; exact e_del C P S0
    by_cases n5 : c = 5
    · subst n5; exact e_end C P S0
    by_cases n6 : c = 6
    · subst n6; exact e_right C P S0
    by_cases n8 : c = 8
    · subst n8; exact e_back C P S0
    by_cases n11 : c = 11
    · subst n11; exact e_kend C P S0
    by_cases n13 : c = 13
    · subst n13; exact e_enter C P S0
    by_cases n14 : c = 14
    · subst n14; exact e_next C P S0
    by_cases n16 : c = 16
    · subst n16; exact e_prev C P S0
    by_cases n18 : c = 18
    · subst n18; exact e_find C P S0
    by_cases n21 : c = 21
    · subst n21; exact e_kst C P S0
    by_cases n23 : c = 23
    · subst n23; exact e_kwb C P S0
    by_cases n25 : c = 25
    · subst n25; exact e_yank C P S0
    by_cases n31 : c = 31
    · subst n31; exact e_undo C P S0
    by_cases n200 : c = 200
    · subst n200; exact e_wl C P S0
    by_cases n201 : c = 201
    · subst n201; exact e_wr C P S0
    by_cases n202 : c = 202
    · subst n202; exact e_kwf C P S0
    by_cases n203 : c = 203
    · subst n203; exact e_pop C P S0
    exact e_other C P c0 n1 n2 n4 n5 n6 n8 n11 n13 n14 n16 n18 n21 n23 n25 n31 n200 n201 n202 n203
  · exact e_type C P S0 (fun z => c0 (Or.inl z)) (fun z => c0 (Or.inr z))
end
end
section
/-! W: search mode -/
theorem eh_L {F L G M : Nat → Int32} {c : Nat} (h : eh F L G M c) : ∀ i, i < c → ∃ l, l ≤ 32 ∧ L i = nI l := fun i hi => by
  obtain ⟨l, hl, a, _, _⟩ := h i hi
  exact ⟨l, hl, a⟩
theorem eh_M {F L G M : Nat → Int32} {c : Nat} (h : eh F L G M c) : ∀ i, i < c → ∃ l, l ≤ 32 ∧ M i = nI l := fun i hi => by
  obtain ⟨l, hl, _, a, _⟩ := h i hi
  exact ⟨l, hl, a⟩
theorem eg_q {Q P : Nat → Int32} {q : Nat} {c : Int32} (h : eg Q P 0 0 q) (hc : ¬ c < 0) : eg (upd Q q c) (upd P q c) 0 0 (q + 1) := by
  have h1 : eg (upd Q q c) (upd P q c) 0 0 q := eg_u h (by omega) (by omega)
  have h2 : eg (upd Q q c) (upd P q c) (0 + q) (0 + q) 1 := by
    rw [Nat.zero_add]
    exact eg_1 hc
  exact eg_app h1 h2
section
variable {w hh rr n k hc nav dn kc y ud mo la ql p dl dc : Nat} {m ac xdl xdc xtr xtc : Int32} {B H HL D R RL U UL UK Q DS SC B' H' HL' D' R' RL' U' UL' UK' Q' : Nat → Int32}
theorem s_cancel (C : eC w hh rr n k hc nav dn kc y ud mo la ql p m B H HL D R RL U UL UK Q B' H' HL' D' R' RL' U' UL' UK' Q') (P : eP w n k mo ql p m B H HL Q dl dc DS SC) (S1 : mo = 1 ∧ la = 0 ∧ ((m = -1 ∧ ql = 0) ∨ ∃ i l, m = nI i ∧ i < hc ∧ HL' i = nI l ∧ l ≤ 32 ∧ p + ql ≤ l ∧ ex H' Q' (i * 32 + p) ql)) : eO (fun post => wpX_searchKey post (nI w, nI hh, nI rr, nI n, nI k, nI hc, nI nav, nI dn, nI kc, nI y, nI ud, nI mo, nI la, ac, nI ql, m, nI p, nI dl, nI dc, nI (dc / w), nI (dc % w), B, H, HL, D, R, RL, U, UL, UK, Q, DS, SC) 7) := by
  obtain ⟨⟨⟨hw1, hw2⟩, ⟨hh1, hh2⟩, ⟨hr1, hr2⟩, ⟨hn, hk⟩, ⟨hhc, hnav⟩, hdn, hkc, hud, hql⟩, hB, hH, hD, hR, hU, hQ, hL, hS⟩ := id C
  exact eO_1 (nI w, nI hh, nI rr, nI n, nI k, nI hc, nI nav, nI dn, nI kc, nI y, nI ud, 0, nI la, ac, 0, (-1), nI p, nI dl, nI dc, nI (dc / w), nI (dc % w), B, H, HL, D, R, RL, U, UL, UK, Q, DS, SC) (e_K (B' := B') (H' := H') (HL' := HL') (D' := D') (R' := R') (RL' := RL') (U' := U') (UL' := UL') (UK' := UK') (Q' := Q') (mo := 0) (ql := 0) (m := -1) ⟨⟨⟨hw1, hw2⟩, ⟨hh1, hh2⟩, ⟨hr1, hr2⟩, ⟨by omega, by omega⟩, ⟨by omega, by omega⟩, by omega, by omega, by omega, by omega⟩, hB, hH, hD, hR, hU, eg_0, hL, Or.inl ⟨rfl, rfl, rfl⟩⟩) (fun post hp => by unfold wpX_searchKey; exact xp_f (Or.inl (by decide)) (br_t rfl (br_t rfl hp)))
theorem s_enter (C : eC w hh rr n k hc nav dn kc y ud mo la ql p m B H HL D R RL U UL UK Q B' H' HL' D' R' RL' U' UL' UK' Q') (P : eP w n k mo ql p m B H HL Q dl dc DS SC) (S1 : mo = 1 ∧ la = 0 ∧ ((m = -1 ∧ ql = 0) ∨ ∃ i l, m = nI i ∧ i < hc ∧ HL' i = nI l ∧ l ≤ 32 ∧ p + ql ≤ l ∧ ex H' Q' (i * 32 + p) ql)) : eO (fun post => wpX_searchKey post (nI w, nI hh, nI rr, nI n, nI k, nI hc, nI nav, nI dn, nI kc, nI y, nI ud, nI mo, nI la, ac, nI ql, m, nI p, nI dl, nI dc, nI (dc / w), nI (dc % w), B, H, HL, D, R, RL, U, UL, UK, Q, DS, SC) 13) := by
  obtain ⟨⟨⟨hw1, hw2⟩, ⟨hh1, hh2⟩, ⟨hr1, hr2⟩, ⟨hn, hk⟩, ⟨hhc, hnav⟩, hdn, hkc, hud, hql⟩, hB, hH, hD, hR, hU, hQ, hL, hS⟩ := id C
  obtain ⟨rfl, rfl, ⟨rfl, rfl⟩ | ⟨i, l, rfl, hi, hly, hl, hpl, hx⟩⟩ := S1
  · exact eO_1 (nI w, nI hh, nI rr, nI n, nI k, nI hc, nI nav, nI dn, nI kc, nI y, nI ud, 0, nI 0, ac, 0, (-1), nI p, nI dl, nI dc, nI (dc / w), nI (dc % w), B, H, HL, D, R, RL, U, UL, UK, Q, DS, SC) (e_K (B' := B') (H' := H') (HL' := HL') (D' := D') (R' := R') (RL' := RL') (U' := U') (UL' := UL') (UK' := UK') (Q' := Q') (mo := 0) (ql := 0) (m := -1) ⟨⟨⟨hw1, hw2⟩, ⟨hh1, hh2⟩, ⟨hr1, hr2⟩, ⟨by omega, by omega⟩, ⟨by omega, by omega⟩, by omega, by omega, by omega, by omega⟩, hB, hH, hD, hR, hU, eg_0, hL, Or.inl ⟨rfl, rfl, rfl⟩⟩) (fun post hp => by unfold wpX_searchKey; exact xp_f (Or.inl (by decide)) (br_t rfl (br_f (by decide) (br_f (by decide) (br_t rfl (br_t (by decide) hp))))))
  · obtain ⟨l2, _, a1, a2, hg⟩ := hH i hi
    obtain rfl : l2 = l := (nI_eq (by omega) (by omega)).mp (a2.symm.trans hly)
    exact eO_1 (nI w, nI hh, nI rr, nI l2, nI p, nI hc, nI nav, nI dn, nI kc, nI y, 0, 0, nI 0, ac, 0, (-1), nI p, nI dl, nI dc, nI (dc / w), nI (dc % w), ec_cp H (i * 32) B 0 l2, H, HL, D, R, RL, U, UL, UK, Q, DS, SC) (e_K (B' := ec_cp H' (i * 32) B' 0 32) (H' := H') (HL' := HL') (D' := D') (R' := R') (RL' := RL') (U' := U') (UL' := UL') (UK' := UK') (Q' := Q') (mo := 0) (ql := 0) (m := -1) (ud := 0) (la := 0) ⟨⟨⟨hw1, hw2⟩, ⟨hh1, hh2⟩, ⟨hr1, hr2⟩, ⟨by omega, by omega⟩, ⟨by omega, by omega⟩, by omega, by omega, by omega, by omega⟩, eg_cp hg (Nat.le_refl _) hl, hH, hD, hR, eu_0, eg_0, eL_0, Or.inl ⟨rfl, rfl, rfl⟩⟩) (fun post hp => by unfold wpX_searchKey; exact xp_f (Or.inl (by decide)) (br_t rfl (br_f (by decide) (br_f (by decide) (br_t rfl (br_f (nI_pos (by omega)) (xlh i l2 (by omega) hl a1 hp)))))))
theorem s_back (C : eC w hh rr n k hc nav dn kc y ud mo la ql p m B H HL D R RL U UL UK Q B' H' HL' D' R' RL' U' UL' UK' Q') (P : eP w n k mo ql p m B H HL Q dl dc DS SC) (S1 : mo = 1 ∧ la = 0 ∧ ((m = -1 ∧ ql = 0) ∨ ∃ i l, m = nI i ∧ i < hc ∧ HL' i = nI l ∧ l ≤ 32 ∧ p + ql ≤ l ∧ ex H' Q' (i * 32 + p) ql)) : eO (fun post => wpX_searchKey post (nI w, nI hh, nI rr, nI n, nI k, nI hc, nI nav, nI dn, nI kc, nI y, nI ud, nI mo, nI la, ac, nI ql, m, nI p, nI dl, nI dc, nI (dc / w), nI (dc % w), B, H, HL, D, R, RL, U, UL, UK, Q, DS, SC) 8) := by
  obtain ⟨⟨⟨hw1, hw2⟩, ⟨hh1, hh2⟩, ⟨hr1, hr2⟩, ⟨hn, hk⟩, ⟨hhc, hnav⟩, hdn, hkc, hud, hql⟩, hB, hH, hD, hR, hU, hQ, hL, hS⟩ := id C
  by_cases c : ql = 0
  · subst c
    exact eO_0 (nI w, nI hh, nI rr, nI n, nI k, nI hc, nI nav, nI dn, nI kc, nI y, nI ud, nI mo, nI la, ac, nI 0, m, nI p, nI dl, nI dc, nI (dc / w), nI (dc % w), B, H, HL, D, R, RL, U, UL, UK, Q, DS, SC) (e_I C P) (fun post hp => by unfold wpX_searchKey; exact xp_f (Or.inl (by decide)) (br_t rfl (br_f (by decide) (br_t rfl (ey_eq 0 0 rfl hp)))))
  · obtain ⟨rfl, rfl, ⟨rfl, h0⟩ | ⟨i, l, rfl, hi, hly, hl, hpl, hx⟩⟩ := S1
    · exact absurd h0 c
    · obtain ⟨l2, _, a1, a2, hg⟩ := hH i hi
      obtain rfl : l2 = l := (nI_eq (by omega) (by omega)).mp (a2.symm.trans hly)
      obtain ⟨t, ht⟩ := ei_less (y := ql - 1) hl a2 hpl hx (by omega)
      have hX : ei H HL Q (ql - 1) i = some t := (ei_c hH hi (fun j hj => (eg_at hQ (by omega)).1)).trans ht
      have hf := ei_some hl a2 ht
      exact eO_1 (nI w, nI hh, nI rr, nI n, nI k, nI hc, nI nav, nI dn, nI kc, nI y, nI ud, nI 1, nI 0, ac, nI (ql - 1), nI i, nI t, nI dl, nI dc, nI (dc / w), nI (dc % w), B, H, HL, D, R, RL, U, UL, UK, Q, DS, SC) (e_K (B' := B') (H' := H') (HL' := HL') (D' := D') (R' := R') (RL' := RL') (U' := U') (UL' := UL') (UK' := UK') (Q' := Q') (mo := 1) (la := 0) ⟨⟨⟨hw1, hw2⟩, ⟨hh1, hh2⟩, ⟨hr1, hr2⟩, ⟨by omega, by omega⟩, ⟨by omega, by omega⟩, by omega, by omega, by omega, by omega⟩, hB, hH, hD, hR, hU, eg_le hQ (by omega), eL_0, Or.inr ⟨rfl, rfl, Or.inr ⟨i, l2, rfl, hi, a2, hl, hf.1, hf.2⟩⟩⟩) (fun post hp => by unfold wpX_searchKey; exact xp_f (Or.inl (by decide)) (br_t rfl (br_f (by decide) (br_t rfl (en_eq ql 0 c (br_t (nI_pos' (by omega)) (nm_r (en_s1 (by omega)) (xsi i (ql - 1) l2 (by omega) hl (by omega) a1 (by rw [hX]; exact hp)))))))))
/-- the next older entry, from below f -/
theorem s_22 (C : eC w hh rr n k hc nav dn kc y ud mo la ql p m B H HL D R RL U UL UK Q B' H' HL' D' R' RL' U' UL' UK' Q') (P : eP w n k mo ql p m B H HL Q dl dc DS SC) (hmo : mo = 1) (hla : la = 0) {f : Nat} (hf : f ≤ hc) : eO (fun post => wX_searchOlder_22 post (nI f - 1) (nI w) (nI hh) (nI rr) (nI n) (nI k) (nI hc) (nI nav) (nI dn) (nI kc) (nI y) (nI ud) (nI mo) (nI la) ac (nI ql) m (nI p) (nI dl) (nI dc) (nI (dc / w)) (nI (dc % w)) B H HL D R RL U UL UK Q DS SC) := by
  obtain ⟨⟨⟨hw1, hw2⟩, ⟨hh1, hh2⟩, ⟨hr1, hr2⟩, ⟨hn, hk⟩, ⟨hhc, hnav⟩, hdn, hkc, hud, hql⟩, hB, hH, hD, hR, hU, hQ, hL, hS⟩ := id C
  have hef : ef H HL Q ql f = ef H' HL' Q' ql f := ef_c hH (fun j hj => (eg_at hQ hj).1) f hf
  cases hs : ef H' HL' Q' ql f with
  | none =>
    rw [hs] at hef
    exact eO_0 (nI w, nI hh, nI rr, nI n, nI k, nI hc, nI nav, nI dn, nI kc, nI y, nI ud, nI mo, nI la, ac, nI ql, m, nI p, nI dl, nI dc, nI (dc / w), nI (dc % w), B, H, HL, D, R, RL, U, UL, UK, Q, DS, SC) (e_I C P) (fun post hp => xsk f ql hc (by omega) hql (eh_L hH) hf (fun _ => hp) (fun m s h => absurd (h.symm.trans hef) (by simp)) rfl)
  | some q =>
    obtain ⟨j, s⟩ := q
    rw [hs] at hef
    have hj := ef_some f hs
    obtain ⟨l, hl, a1, a2, hg⟩ := hH j (by omega)
    have hi := ei_some hl a2 hj.2
    exact eO_1 (nI w, nI hh, nI rr, nI n, nI k, nI hc, nI nav, nI dn, nI kc, nI y, nI ud, nI mo, nI la, ac, nI ql, nI j, nI s, nI dl, nI dc, nI (dc / w), nI (dc % w), B, H, HL, D, R, RL, U, UL, UK, Q, DS, SC) (e_K (B' := B') (H' := H') (HL' := HL') (D' := D') (R' := R') (RL' := RL') (U' := U') (UL' := UL') (UK' := UK') (Q' := Q') ⟨⟨⟨hw1, hw2⟩, ⟨hh1, hh2⟩, ⟨hr1, hr2⟩, ⟨by omega, by omega⟩, ⟨by omega, by omega⟩, by omega, by omega, by omega, by omega⟩, hB, hH, hD, hR, hU, hQ, hL, Or.inr ⟨hmo, hla, Or.inr ⟨j, l, rfl, by omega, a2, hl, hi.1, hi.2⟩⟩⟩) (fun post hp => xsk f ql hc (by omega) hql (eh_L hH) hf (fun h => absurd (h.symm.trans hef) (by simp)) (fun m' s' h => by
        obtain ⟨rfl, rfl⟩ := Prod.mk.inj (Option.some.inj (hef.symm.trans h))
        exact hp) rfl)
theorem s_older (C : eC w hh rr n k hc nav dn kc y ud mo la ql p m B H HL D R RL U UL UK Q B' H' HL' D' R' RL' U' UL' UK' Q') (P : eP w n k mo ql p m B H HL Q dl dc DS SC) (S1 : mo = 1 ∧ la = 0 ∧ ((m = -1 ∧ ql = 0) ∨ ∃ i l, m = nI i ∧ i < hc ∧ HL' i = nI l ∧ l ≤ 32 ∧ p + ql ≤ l ∧ ex H' Q' (i * 32 + p) ql)) : eO (fun post => wpX_searchKey post (nI w, nI hh, nI rr, nI n, nI k, nI hc, nI nav, nI dn, nI kc, nI y, nI ud, nI mo, nI la, ac, nI ql, m, nI p, nI dl, nI dc, nI (dc / w), nI (dc % w), B, H, HL, D, R, RL, U, UL, UK, Q, DS, SC) 18) := by
  obtain ⟨⟨⟨hw1, hw2⟩, ⟨hh1, hh2⟩, ⟨hr1, hr2⟩, ⟨hn, hk⟩, ⟨hhc, hnav⟩, hdn, hkc, hud, hql⟩, hB, hH, hD, hR, hU, hQ, hL, hS⟩ := id C
  obtain ⟨hmo, hla, ⟨rfl, rfl⟩ | ⟨i, l, rfl, hi, hly, hl, hpl, hx⟩⟩ := S1
  · refine eO_n (s_22 (ac := ac) C P hmo hla (f := hc) (Nat.le_refl _)) (fun post r u hq hp => ?_)
    · obtain ⟨f_width, f_historyCap, f_ringCap, f_length, f_cursor, f_historyCount, f_nav, f_draftLength, f_ringCount, f_yankIndex, f_undoDepth, f_mode, f_last, f_accepted, f_queryLength, f_match, f_matchStart, f_displayLength, f_displayCursor, f_terminalRow, f_terminalCol, a_buffer, a_history, a_historyLengths, a_draft, a_ring, a_ringLengths, a_undoTexts, a_undoLengths, a_undoCursors, a_query, a_display, a_screen⟩ := u
      unfold wpX_searchKey
      exact xp_f (Or.inl (by decide)) (br_t rfl (br_f (by decide) (br_f (by decide) (br_f (by decide) (br_t rfl (br_t (by decide) (hq _ hp)))))))
  · refine eO_n (s_22 (ac := ac) C P hmo hla (f := i) (by omega)) (fun post r u hq hp => ?_)
    · obtain ⟨f_width, f_historyCap, f_ringCap, f_length, f_cursor, f_historyCount, f_nav, f_draftLength, f_ringCount, f_yankIndex, f_undoDepth, f_mode, f_last, f_accepted, f_queryLength, f_match, f_matchStart, f_displayLength, f_displayCursor, f_terminalRow, f_terminalCol, a_buffer, a_history, a_historyLengths, a_draft, a_ring, a_ringLengths, a_undoTexts, a_undoLengths, a_undoCursors, a_query, a_display, a_screen⟩ := u
      unfold wpX_searchKey
      exact xp_f (Or.inl (by decide)) (br_t rfl (br_f (by decide) (br_f (by decide) (br_f (by decide) (br_t rfl (br_f (nI_pos (by omega)) (hq _ hp)))))))
/-- one char more -/
theorem s_41 (C : eC w hh rr n k hc nav dn kc y ud mo la ql p m B H HL D R RL U UL UK Q B' H' HL' D' R' RL' U' UL' UK' Q') (P : eP w n k mo ql p m B H HL Q dl dc DS SC) (S1 : mo = 1 ∧ la = 0 ∧ ((m = -1 ∧ ql = 0) ∨ ∃ i l, m = nI i ∧ i < hc ∧ HL' i = nI l ∧ l ≤ 32 ∧ p + ql ≤ l ∧ ex H' Q' (i * 32 + p) ql)) {f : Nat} {c : Int32} (hc0 : ¬ c < 0) (hq16 : ql < 16) (hf : f ≤ hc) : eO (fun post => wX_growQuery_41 post (nI f - 1) (nI w) (nI hh) (nI rr) (nI n) (nI k) (nI hc) (nI nav) (nI dn) (nI kc) (nI y) (nI ud) (nI mo) (nI la) ac (nI ql) m (nI p) (nI dl) (nI dc) (nI (dc / w)) (nI (dc % w)) B H HL D R RL U UL UK (upd Q ql c) DS SC) := by
  obtain ⟨⟨⟨hw1, hw2⟩, ⟨hh1, hh2⟩, ⟨hr1, hr2⟩, ⟨hn, hk⟩, ⟨hhc, hnav⟩, hdn, hkc, hud, hql⟩, hB, hH, hD, hR, hU, hQ, hL, hS⟩ := id C
  have hQ1 := eg_q hQ hc0
  have hef : ef H HL (upd Q ql c) (ql + 1) f = ef H' HL' (upd Q' ql c) (ql + 1) f := ef_c hH (fun j hj => (eg_at hQ1 hj).1) f hf
  cases hs : ef H' HL' (upd Q' ql c) (ql + 1) f with
  | none =>
    rw [hs] at hef
    have C1 : eC w hh rr n k hc nav dn kc y ud mo la ql p m B H HL D R RL U UL UK (upd Q ql c) B' H' HL' D' R' RL' U' UL' UK' (upd Q' ql c) := by
      refine ⟨⟨⟨hw1, hw2⟩, ⟨hh1, hh2⟩, ⟨hr1, hr2⟩, ⟨by omega, by omega⟩, ⟨by omega, by omega⟩, by omega, by omega, by omega, by omega⟩, hB, hH, hD, hR, hU, eg_le hQ1 (by omega), hL, Or.inr ⟨S1.1, S1.2.1, ?_⟩⟩
      rcases S1.2.2 with h | ⟨i, l, e, hi, hly, hl, hpl, hx⟩
      · exact Or.inl h
      · exact Or.inr ⟨i, l, e, hi, hly, hl, hpl, fun j hj => (hx j hj).trans (ec_un (by omega)).symm⟩
    have P1 : eP w n k mo ql p m B H HL (upd Q ql c) dl dc DS SC := by
      obtain ⟨p1, p2, p3, h | ⟨e, p4, p5, p6⟩⟩ := P
      · exact ⟨p1, p2, p3, Or.inl h⟩
      · exact ⟨p1, p2, p3, Or.inr ⟨e, p4, fun j hj => (p5 j hj).trans (ec_un (by omega)).symm, p6⟩⟩
    exact eO_0 (nI w, nI hh, nI rr, nI n, nI k, nI hc, nI nav, nI dn, nI kc, nI y, nI ud, nI mo, nI la, ac, nI ql, m, nI p, nI dl, nI dc, nI (dc / w), nI (dc % w), B, H, HL, D, R, RL, U, UL, UK, upd Q ql c, DS, SC) (e_I C1 P1) (fun post hp => xsk f (ql + 1) hc (by omega) (by omega) (eh_L hH) hf (fun _ => hp) (fun m s h => absurd (h.symm.trans hef) (by simp)) rfl)
  | some q =>
    obtain ⟨j, s⟩ := q
    rw [hs] at hef
    have hj := ef_some f hs
    obtain ⟨l, hl, a1, a2, hg⟩ := hH j (by omega)
    have hi := ei_some hl a2 hj.2
    exact eO_1 (nI w, nI hh, nI rr, nI n, nI k, nI hc, nI nav, nI dn, nI kc, nI y, nI ud, nI mo, nI la, ac, nI (ql + 1), nI j, nI s, nI dl, nI dc, nI (dc / w), nI (dc % w), B, H, HL, D, R, RL, U, UL, UK, upd Q ql c, DS, SC) (e_K (B' := B') (H' := H') (HL' := HL') (D' := D') (R' := R') (RL' := RL') (U' := U') (UL' := UL') (UK' := UK') (Q' := upd Q' ql c) ⟨⟨⟨hw1, hw2⟩, ⟨hh1, hh2⟩, ⟨hr1, hr2⟩, ⟨by omega, by omega⟩, ⟨by omega, by omega⟩, by omega, by omega, by omega, by omega⟩, hB, hH, hD, hR, hU, hQ1, hL, Or.inr ⟨S1.1, S1.2.1, Or.inr ⟨j, l, rfl, by omega, a2, hl, hi.1, hi.2⟩⟩⟩) (fun post hp => xsk f (ql + 1) hc (by omega) (by omega) (eh_L hH) hf (fun h => absurd (h.symm.trans hef) (by simp)) (fun m' s' h => by
        obtain ⟨rfl, rfl⟩ := Prod.mk.inj (Option.some.inj (hef.symm.trans h))
        exact hp) rfl)
theorem s_grow (C : eC w hh rr n k hc nav dn kc y ud mo la ql p m B H HL D R RL U UL UK Q B' H' HL' D' R' RL' U' UL' UK' Q') (P : eP w n k mo ql p m B H HL Q dl dc DS SC) (S1 : mo = 1 ∧ la = 0 ∧ ((m = -1 ∧ ql = 0) ∨ ∃ i l, m = nI i ∧ i < hc ∧ HL' i = nI l ∧ l ≤ 32 ∧ p + ql ≤ l ∧ ex H' Q' (i * 32 + p) ql)) {c : Int32} (c1 : ¬ c < 32) (c2 : ¬ 126 < c) : eO (fun post => wpX_searchKey post (nI w, nI hh, nI rr, nI n, nI k, nI hc, nI nav, nI dn, nI kc, nI y, nI ud, nI mo, nI la, ac, nI ql, m, nI p, nI dl, nI dc, nI (dc / w), nI (dc % w), B, H, HL, D, R, RL, U, UL, UK, Q, DS, SC) c) := by
  obtain ⟨⟨⟨hw1, hw2⟩, ⟨hh1, hh2⟩, ⟨hr1, hr2⟩, ⟨hn, hk⟩, ⟨hhc, hnav⟩, hdn, hkc, hud, hql⟩, hB, hH, hD, hR, hU, hQ, hL, hS⟩ := id C
  have cp : ¬ c < 0 := en_ge (Int32.not_lt.mp c1) (by decide)
  by_cases c3 : ql = 16
  · subst c3
    exact eO_0 (nI w, nI hh, nI rr, nI n, nI k, nI hc, nI nav, nI dn, nI kc, nI y, nI ud, nI mo, nI la, ac, nI 16, m, nI p, nI dl, nI dc, nI (dc / w), nI (dc % w), B, H, HL, D, R, RL, U, UL, UK, Q, DS, SC) (e_I C P) (fun post hp => by unfold wpX_searchKey; exact xp_t c1 c2 (br_f (by decide) (en_lt 16 16 (by omega) hp)))
  · rcases S1.2.2 with ⟨rfl, h0⟩ | ⟨i, l, rfl, hi, hly, hl, hpl, hx⟩
    · refine eO_n (s_41 (ac := ac) C P S1 cp (by omega) (f := hc) (Nat.le_refl _)) (fun post r u hq hp => ?_)
      · obtain ⟨f_width, f_historyCap, f_ringCap, f_length, f_cursor, f_historyCount, f_nav, f_draftLength, f_ringCount, f_yankIndex, f_undoDepth, f_mode, f_last, f_accepted, f_queryLength, f_match, f_matchStart, f_displayLength, f_displayCursor, f_terminalRow, f_terminalCol, a_buffer, a_history, a_historyLengths, a_draft, a_ring, a_ringLengths, a_undoTexts, a_undoLengths, a_undoCursors, a_query, a_display, a_screen⟩ := u
        unfold wpX_searchKey
        exact xp_t c1 c2 (br_f (by decide) (ey_lt ql 16 (by omega) ⟨en_in ql (by omega), nm_r (en_u ql) (br_t (by decide) (hq _ hp))⟩))
    · have h41 := s_41 (ac := ac) C P S1 cp (by omega) (f := i + 1) (by omega)
      rw [nI_pred] at h41
      refine eO_n h41 (fun post r u hq hp => ?_)
      · obtain ⟨f_width, f_historyCap, f_ringCap, f_length, f_cursor, f_historyCount, f_nav, f_draftLength, f_ringCount, f_yankIndex, f_undoDepth, f_mode, f_last, f_accepted, f_queryLength, f_match, f_matchStart, f_displayLength, f_displayCursor, f_terminalRow, f_terminalCol, a_buffer, a_history, a_historyLengths, a_draft, a_ring, a_ringLengths, a_undoTexts, a_undoLengths, a_undoCursors, a_query, a_display, a_screen⟩ := u
        unfold wpX_searchKey
        exact xp_t c1 c2 (br_f (by decide) (ey_lt ql 16 (by omega) ⟨en_in ql (by omega), nm_r (en_u ql) (br_f (nI_pos (by omega)) (hq _ hp))⟩))
theorem e_srch (C : eC w hh rr n k hc nav dn kc y ud mo la ql p m B H HL D R RL U UL UK Q B' H' HL' D' R' RL' U' UL' UK' Q') (P : eP w n k mo ql p m B H HL Q dl dc DS SC) (S1 : mo = 1 ∧ la = 0 ∧ ((m = -1 ∧ ql = 0) ∨ ∃ i l, m = nI i ∧ i < hc ∧ HL' i = nI l ∧ l ≤ 32 ∧ p + ql ≤ l ∧ ex H' Q' (i * 32 + p) ql)) (c : Int32) : eO (fun post => wpX_searchKey post (nI w, nI hh, nI rr, nI n, nI k, nI hc, nI nav, nI dn, nI kc, nI y, nI ud, nI mo, nI la, ac, nI ql, m, nI p, nI dl, nI dc, nI (dc / w), nI (dc % w), B, H, HL, D, R, RL, U, UL, UK, Q, DS, SC) c) := by
  by_cases c0 : c < 32 ∨ 126 < c
  · by_cases n7 : c = 7
    · subst n7; exact s_cancel C P S1
    by_cases n8 : c = 8
    · subst n8; exact s_back C P S1
    by_cases n13 : c = 13
    · subst n13; exact s_enter C P S1
    by_cases n18 : c = 18
    · subst n18; exact s_older C P S1
    refine eO_0 (nI w, nI hh, nI rr, nI n, nI k, nI hc, nI nav, nI dn, nI kc, nI y, nI ud, nI mo, nI la, ac, nI ql, m, nI p, nI dl, nI dc, nI (dc / w), nI (dc % w), B, H, HL, D, R, RL, U, UL, UK, Q, DS, SC) (e_I C P) (fun post hp => ?_)
    · unfold wpX_searchKey
      exact xp_f c0 (br_t rfl (br_f n7 (br_f n8 (br_f n13 (br_f n18 hp)))))
  · exact s_grow C P S1 (fun z => c0 (Or.inl z)) (fun z => c0 (Or.inr z))
end
end
section
/-! X: key, the picture's check, the law -/
theorem en_ix {r c w : Nat} (hr : r < 16) (hc : c < w) : r * w + c < 16 * w := by
  have h := Nat.mul_le_mul_right w (show r + 1 ≤ 16 by omega)
  rw [Nat.succ_mul] at h
  omega
section
variable {w hh rr n k hc nav dn kc y ud mo la ql p dl dc : Nat} {m ac xdl xdc xtr xtc : Int32} {B H HL D R RL U UL UK Q DS SC B' H' HL' D' R' RL' U' UL' UK' Q' : Nat → Int32}
theorem e_ref {u : St2} (h : eK u) : ∃ u' : St2, eI u' ∧ ∀ post : St2 → Prop, post u' → wpX_refresh post u := by
  obtain ⟨w, hh, rr, n, k, hc, nav, dn, kc, y, ud, mo, la, ql, p, m, ac, xdl, xdc, xtr, xtc, B, H, HL, D, R, RL, U, UL, UK, Q, DS0, SC0, B', H', HL', D', R', RL', U', UL', UK', Q', rfl, C⟩ := h
  obtain ⟨⟨⟨hw1, hw2⟩, ⟨hh1, hh2⟩, ⟨hr1, hr2⟩, ⟨hn, hk⟩, ⟨hhc, hnav⟩, hdn, hkc, hud, hql⟩, hB, hH, hD, hR, hU, hQ, hL, hS⟩ := id C
  have hm : mo = 0 ∨ (mo = 1 ∧ (m = -1 ∨ ∃ i l, m = nI i ∧ i < 8 ∧ l ≤ 32 ∧ HL i = nI l ∧ p ≤ l)) := by
    rcases hS with ⟨h0, _, _⟩ | ⟨h0, _, ⟨h1, _⟩ | ⟨i, l, h1, hi, a, hl, hpl, _⟩⟩
    · exact Or.inl h0
    · exact Or.inr ⟨h0, Or.inl h1⟩
    · obtain ⟨l2, hl2, a1, a2, _⟩ := hH i hi
      obtain rfl : l2 = l := (nI_eq (by omega) (by omega)).mp (a2.symm.trans a)
      exact Or.inr ⟨h0, Or.inr ⟨i, l2, h1, by omega, hl2, a1, by omega⟩⟩
  obtain ⟨dl, dc, DS, SC, P, hx⟩ := xrf (f_historyCap := nI hh) (f_ringCap := nI rr) (f_historyCount := nI hc) (f_nav := nI nav) (f_draftLength := nI dn) (f_ringCount := nI kc) (f_yankIndex := nI y) (f_undoDepth := nI ud) (f_last := nI la) (f_accepted := ac) (f_displayLength := xdl) (f_displayCursor := xdc) (f_terminalRow := xtr) (f_terminalCol := xtc) (a_buffer := B) (a_history := H) (a_historyLengths := HL) (a_draft := D) (a_ring := R) (a_ringLengths := RL) (a_undoTexts := U) (a_undoLengths := UL) (a_undoCursors := UK) (a_query := Q) (a_display := DS0) (a_screen := SC0) hw1 hw2 hn hk hql hm
  exact ⟨(nI w, nI hh, nI rr, nI n, nI k, nI hc, nI nav, nI dn, nI kc, nI y, nI ud, nI mo, nI la, ac, nI ql, m, nI p, nI dl, nI dc, nI (dc / w), nI (dc % w), B, H, HL, D, R, RL, U, UL, UK, Q, DS, SC), e_I C P, hx⟩
theorem e_key {u : St2} (I : eI u) (c : Int32) : ∃ (r : Int32) (u' : St2), eI u' ∧ ∀ post : Int32 → St2 → Prop, post r u' → wpX_key post u c := by
  obtain ⟨w, hh, rr, n, k, hc, nav, dn, kc, y, ud, mo, la, ql, p, dl, dc, m, ac, B, H, HL, D, R, RL, U, UL, UK, Q, DS, SC, B', H', HL', D', R', RL', U', UL', UK', Q', rfl, C, P⟩ := I
  rcases C.2.2.2.2.2.2.2.2 with S | S
  · obtain ⟨r, u2, g, hx⟩ := e_edit (ac := ac) C P S c
    obtain ⟨f_width, f_historyCap, f_ringCap, f_length, f_cursor, f_historyCount, f_nav, f_draftLength, f_ringCount, f_yankIndex, f_undoDepth, f_mode, f_last, f_accepted, f_queryLength, f_match, f_matchStart, f_displayLength, f_displayCursor, f_terminalRow, f_terminalCol, a_buffer, a_history, a_historyLengths, a_draft, a_ring, a_ringLengths, a_undoTexts, a_undoLengths, a_undoCursors, a_query, a_display, a_screen⟩ := u2
    have hm : mo ≠ 1 := by omega
    have hm0 : mo < 2 := by omega
    rcases g with ⟨rfl, gK⟩ | ⟨rfl, gI⟩
    · obtain ⟨u3, gI, hr⟩ := e_ref gK
      obtain ⟨f_width, f_historyCap, f_ringCap, f_length, f_cursor, f_historyCount, f_nav, f_draftLength, f_ringCount, f_yankIndex, f_undoDepth, f_mode, f_last, f_accepted, f_queryLength, f_match, f_matchStart, f_displayLength, f_displayCursor, f_terminalRow, f_terminalCol, a_buffer, a_history, a_historyLengths, a_draft, a_ring, a_ringLengths, a_undoTexts, a_undoLengths, a_undoCursors, a_query, a_display, a_screen⟩ := u3
      exact ⟨1, _, gI, fun post hp => en_eq mo 1 hm (hx _ (br_t rfl (hr _ hp)))⟩
    · exact ⟨0, _, gI, fun post hp => en_eq mo 1 hm (hx _ (br_f (by decide) hp))⟩
  · obtain ⟨r, u2, g, hx⟩ := e_srch (ac := ac) C P S c
    obtain ⟨f_width, f_historyCap, f_ringCap, f_length, f_cursor, f_historyCount, f_nav, f_draftLength, f_ringCount, f_yankIndex, f_undoDepth, f_mode, f_last, f_accepted, f_queryLength, f_match, f_matchStart, f_displayLength, f_displayCursor, f_terminalRow, f_terminalCol, a_buffer, a_history, a_historyLengths, a_draft, a_ring, a_ringLengths, a_undoTexts, a_undoLengths, a_undoCursors, a_query, a_display, a_screen⟩ := u2
    have hm : mo = 1 := S.1
    rcases g with ⟨rfl, gK⟩ | ⟨rfl, gI⟩
    · obtain ⟨u3, gI, hr⟩ := e_ref gK
      obtain ⟨f_width, f_historyCap, f_ringCap, f_length, f_cursor, f_historyCount, f_nav, f_draftLength, f_ringCount, f_yankIndex, f_undoDepth, f_mode, f_last, f_accepted, f_queryLength, f_match, f_matchStart, f_displayLength, f_displayCursor, f_terminalRow, f_terminalCol, a_buffer, a_history, a_historyLengths, a_draft, a_ring, a_ringLengths, a_undoTexts, a_undoLengths, a_undoCursors, a_query, a_display, a_screen⟩ := u3
      exact ⟨1, _, gI, fun post hp => ey_eq mo 1 hm (hx _ (br_t rfl (hr _ hp)))⟩
    · exact ⟨0, _, gI, fun post hp => ey_eq mo 1 hm (hx _ (br_f (by decide) hp))⟩
end
section
variable {f_width f_historyCap f_ringCap f_length f_cursor f_historyCount f_nav f_draftLength f_ringCount f_yankIndex f_undoDepth f_mode f_last f_accepted f_queryLength f_match f_matchStart f_displayLength f_displayCursor f_terminalRow f_terminalCol : Int32} {a_buffer a_history a_historyLengths a_draft a_ring a_ringLengths a_undoTexts a_undoLengths a_undoCursors a_query a_display a_screen : Nat → Int32}
theorem xq_i12 {post : Int32 → Prop} (h : post f_displayLength) : wpX_info post (f_width, f_historyCap, f_ringCap, f_length, f_cursor, f_historyCount, f_nav, f_draftLength, f_ringCount, f_yankIndex, f_undoDepth, f_mode, f_last, f_accepted, f_queryLength, f_match, f_matchStart, f_displayLength, f_displayCursor, f_terminalRow, f_terminalCol, a_buffer, a_history, a_historyLengths, a_draft, a_ring, a_ringLengths, a_undoTexts, a_undoLengths, a_undoCursors, a_query, a_display, a_screen) 12 := br_f (by decide) (br_f (by decide) (br_f (by decide) (br_f (by decide) (br_f (by decide) (br_f (by decide) (br_f (by decide) (br_f (by decide) (br_f (by decide) (br_f (by decide) (br_f (by decide) (br_f (by decide) (br_f (by decide) (br_f (by decide) (br_t rfl h))))))))))))))
theorem xq_i13 {post : Int32 → Prop} (h : post f_displayCursor) : wpX_info post (f_width, f_historyCap, f_ringCap, f_length, f_cursor, f_historyCount, f_nav, f_draftLength, f_ringCount, f_yankIndex, f_undoDepth, f_mode, f_last, f_accepted, f_queryLength, f_match, f_matchStart, f_displayLength, f_displayCursor, f_terminalRow, f_terminalCol, a_buffer, a_history, a_historyLengths, a_draft, a_ring, a_ringLengths, a_undoTexts, a_undoLengths, a_undoCursors, a_query, a_display, a_screen) 13 := br_f (by decide) (br_f (by decide) (br_f (by decide) (br_f (by decide) (br_f (by decide) (br_f (by decide) (br_f (by decide) (br_f (by decide) (br_f (by decide) (br_f (by decide) (br_f (by decide) (br_f (by decide) (br_f (by decide) (br_f (by decide) (br_f (by decide) (br_t rfl h)))))))))))))))
theorem xq_i14 {post : Int32 → Prop} (h : post f_width) : wpX_info post (f_width, f_historyCap, f_ringCap, f_length, f_cursor, f_historyCount, f_nav, f_draftLength, f_ringCount, f_yankIndex, f_undoDepth, f_mode, f_last, f_accepted, f_queryLength, f_match, f_matchStart, f_displayLength, f_displayCursor, f_terminalRow, f_terminalCol, a_buffer, a_history, a_historyLengths, a_draft, a_ring, a_ringLengths, a_undoTexts, a_undoLengths, a_undoCursors, a_query, a_display, a_screen) 14 := br_f (by decide) (br_f (by decide) (br_f (by decide) (br_f (by decide) (br_f (by decide) (br_f (by decide) (br_f (by decide) (br_f (by decide) (br_f (by decide) (br_f (by decide) (br_f (by decide) (br_f (by decide) (br_f (by decide) (br_f (by decide) (br_f (by decide) (br_f (by decide) (br_t rfl h))))))))))))))))
theorem xq_dch {post : Int32 → Prop} {x dl : Nat} (hx : x < dl) (hd : dl ≤ 51) (h : post (a_display x)) : wpX_displayChar post (f_width, f_historyCap, f_ringCap, f_length, f_cursor, f_historyCount, f_nav, f_draftLength, f_ringCount, f_yankIndex, f_undoDepth, f_mode, f_last, f_accepted, f_queryLength, f_match, f_matchStart, nI dl, f_displayCursor, f_terminalRow, f_terminalCol, a_buffer, a_history, a_historyLengths, a_draft, a_ring, a_ringLengths, a_undoTexts, a_undoLengths, a_undoCursors, a_query, a_display, a_screen) (nI x) := by
  have q : post (a_display (nI x).toNatClampNeg) := by rw [nI_clamp (by omega)]; exact h
  unfold wpX_displayChar
  exact xw_t x dl hx (br_f (by decide) ⟨en_in x (by omega), q⟩)
theorem xq_sch {post : Int32 → Prop} {r s w x : Nat} (hr : r < 16) (hs : s < w) (hw : w ≤ 16) (hx : r * w + s = x) (h : post (a_screen x)) : wpX_screenChar post (nI w, f_historyCap, f_ringCap, f_length, f_cursor, f_historyCount, f_nav, f_draftLength, f_ringCount, f_yankIndex, f_undoDepth, f_mode, f_last, f_accepted, f_queryLength, f_match, f_matchStart, f_displayLength, f_displayCursor, f_terminalRow, f_terminalCol, a_buffer, a_history, a_historyLengths, a_draft, a_ring, a_ringLengths, a_undoTexts, a_undoLengths, a_undoCursors, a_query, a_display, a_screen) (nI r) (nI s) := by
  have hlt := en_ix hr hs
  have e : nI r * nI w + nI s = nI x := by rw [pk_mul, nI_add, hx]
  rw [hx] at hlt
  have q : post (a_screen (nI r * nI w + nI s).toNatClampNeg) := by rw [e, nI_clamp (by omega)]; exact h
  unfold wpX_screenChar
  exact xw_t r 16 hr (br_f (by decide) (xw_t s w hs (br_f (by decide) ⟨en_in x (by omega) e, q⟩)))
theorem lq_47 {post : Int32 → Prop} {J : Int32 → Prop} {w dl dc r : Nat} {x3 : Int32} (hw : w ≤ 16) (hd : dl ≤ 51) (hr : r < 16) (hS : ∀ i, i < 16 * w → a_screen i = if i < dl then a_display i else 32) (hJ : J (nI (r + 1))) : ∀ d s, s + d = w → wL_screenOk_47 post J (nI w) (nI dl) x3 (nI r) (nI w) f_historyCap f_ringCap f_length f_cursor f_historyCount f_nav f_draftLength f_ringCount f_yankIndex f_undoDepth f_mode f_last f_accepted f_queryLength f_match f_matchStart (nI dl) f_displayCursor f_terminalRow f_terminalCol a_buffer a_history a_historyLengths a_draft a_ring a_ringLengths a_undoTexts a_undoLengths a_undoCursors a_query a_display a_screen (d + 1) (nI s) := by
  intro d
  induction d with
  | zero => intro s hs; exact ey_le w s (by omega) (nm_r (nI_1 r) hJ)
  | succ d ih =>
    intro s hs
    obtain ⟨x, hx⟩ : ∃ x, r * w + s = x := ⟨_, rfl⟩
    have hlt := en_ix (c := s) (w := w) hr (by omega)
    rw [hx] at hlt
    have e : nI r * nI w + nI s = nI x := by rw [pk_mul, nI_add, hx]
    have hs2 := hS x hlt
    by_cases c : x < dl
    · rw [if_pos c] at hs2
      exact en_le w s (by omega) (nm_r e (en_le dl x c (xq_dch c hd (xq_sch hr (by omega) hw hx (br_t hs2 (nm_r (nI_1 s) (ih (s + 1) (by omega))))))))
    · rw [if_neg c] at hs2
      exact en_le w s (by omega) (nm_r e (ey_le dl x (by omega) (xq_sch hr (by omega) hw hx (br_t hs2 (nm_r (nI_1 s) (ih (s + 1) (by omega)))))))
theorem lq_37 {post : Int32 → Prop} {w dl dc : Nat} (hw1 : 4 ≤ w) (hw : w ≤ 16) (hd : dl ≤ 51) (hdc : dc ≤ dl) (hS : ∀ i, i < 16 * w → a_screen i = if i < dl then a_display i else 32) (h : post 1) : ∀ d r, r + d = 16 → wL_screenOk_37 post (nI w) (nI dl) (nI dc) (nI w) f_historyCap f_ringCap f_length f_cursor f_historyCount f_nav f_draftLength f_ringCount f_yankIndex f_undoDepth f_mode f_last f_accepted f_queryLength f_match f_matchStart (nI dl) (nI dc) (nI (dc / w)) (nI (dc % w)) a_buffer a_history a_historyLengths a_draft a_ring a_ringLengths a_undoTexts a_undoLengths a_undoCursors a_query a_display a_screen (d + 1) (nI r) := by
  intro d
  induction d with
  | zero =>
    intro r hr
    obtain rfl : r = 16 := by omega
    have m1 := Nat.mod_lt dc (show 0 < w by omega)
    have m2 : dc / w < 16 := Nat.div_lt_of_lt_mul (by omega)
    have m3 := Nat.div_add_mod' dc w
    have e : nI (dc / w) * nI w + nI (dc % w) = nI dc := by rw [pk_mul, nI_add, m3]
    exact ey_le 16 16 (Nat.le_refl _) (br_f (nI_pos (by omega)) (br_t (nI_lt m1 (by omega)) (br_f (nI_pos (by omega)) (br_t (nI_lt (b := 16) m2 (by omega)) (br_t e h)))))
  | succ d ih =>
    intro r hr
    exact en_le 16 r (by omega) ⟨w + 1, lq_47 (dc := dc) hw hd (by omega) hS (ih (r + 1) (by omega)) w 0 (by omega)⟩
end
theorem lq_ok {u : St2} {post : Int32 → Prop} (I : eI u) (h : post 1) : wpL_screenOk post u := by
  obtain ⟨w, hh, rr, n, k, hc, nav, dn, kc, y, ud, mo, la, ql, p, dl, dc, m, ac, B, H, HL, D, R, RL, U, UL, UK, Q, DS, SC, B', H', HL', D', R', RL', U', UL', UK', Q', rfl, C, P⟩ := I
  have hN := C.1
  have hw1 : 4 ≤ w := hN.1.1
  have hw2 : w ≤ 16 := hN.1.2
  unfold wpL_screenOk
  exact xq_i14 (xq_i12 (xq_i13 (en_lt w 4 hw1 (ey_le w 16 hw2 ⟨17, lq_37 hw1 hw2 P.1 P.2.1 P.2.2.1 h 16 0 (by omega)⟩))))
theorem lq_small (x : Int32) : ∃ c : Int32, ∀ post : Int32 → Prop, post c → wpL_small post () x := by
  by_cases a : x < 0
  · exact ⟨46, fun post h => br_t a h⟩
  by_cases b : 4 < x
  · exact ⟨46, fun post h => br_f a (br_t b h)⟩
  by_cases n0 : x = 0
  · exact ⟨97, fun post h => br_f a (br_f b (br_t n0 h))⟩
  by_cases n1 : x = 1
  · exact ⟨98, fun post h => br_f a (br_f b (br_f n0 (br_t n1 h)))⟩
  by_cases n2 : x = 2
  · exact ⟨99, fun post h => br_f a (br_f b (br_f n0 (br_f n1 (br_t n2 h))))⟩
  by_cases n3 : x = 3
  · exact ⟨32, fun post h => br_f a (br_f b (br_f n0 (br_f n1 (br_f n2 (br_t n3 h)))))⟩
  by_cases n4 : x = 4
  · exact ⟨97, fun post h => br_f a (br_f b (br_f n0 (br_f n1 (br_f n2 (br_f n3 (br_t n4 h))))))⟩
  exact ⟨0, fun post h => br_f a (br_f b (br_f n0 (br_f n1 (br_f n2 (br_f n3 (br_f n4 (trivial)))))))⟩
theorem lq_spec (x : Int32) : ∃ c : Int32, ∀ post : Int32 → Prop, post c → wpL_special post () x := by
  by_cases a : x < 0
  · exact ⟨203, fun post h => br_t a h⟩
  by_cases b : 18 < x
  · exact ⟨203, fun post h => br_f a (br_t b h)⟩
  by_cases n0 : x = 0
  · exact ⟨1, fun post h => br_f a (br_f b (br_t n0 h))⟩
  by_cases n1 : x = 1
  · exact ⟨2, fun post h => br_f a (br_f b (br_f n0 (br_t n1 h)))⟩
  by_cases n2 : x = 2
  · exact ⟨4, fun post h => br_f a (br_f b (br_f n0 (br_f n1 (br_t n2 h))))⟩
  by_cases n3 : x = 3
  · exact ⟨5, fun post h => br_f a (br_f b (br_f n0 (br_f n1 (br_f n2 (br_t n3 h)))))⟩
  by_cases n4 : x = 4
  · exact ⟨6, fun post h => br_f a (br_f b (br_f n0 (br_f n1 (br_f n2 (br_f n3 (br_t n4 h))))))⟩
  by_cases n5 : x = 5
  · exact ⟨7, fun post h => br_f a (br_f b (br_f n0 (br_f n1 (br_f n2 (br_f n3 (br_f n4 (br_t n5 h)))))))⟩
  by_cases n6 : x = 6
  · exact ⟨8, fun post h => br_f a (br_f b (br_f n0 (br_f n1 (br_f n2 (br_f n3 (br_f n4 (br_f n5 (br_t n6 h))))))))⟩
  by_cases n7 : x = 7
  · exact ⟨11, fun post h => br_f a (br_f b (br_f n0 (br_f n1 (br_f n2 (br_f n3 (br_f n4 (br_f n5 (br_f n6 (br_t n7 h)))))))))⟩
  by_cases n8 : x = 8
  · exact ⟨13, fun post h => br_f a (br_f b (br_f n0 (br_f n1 (br_f n2 (br_f n3 (br_f n4 (br_f n5 (br_f n6 (br_f n7 (br_t n8 h))))))))))⟩
  by_cases n9 : x = 9
  · exact ⟨14, fun post h => br_f a (br_f b (br_f n0 (br_f n1 (br_f n2 (br_f n3 (br_f n4 (br_f n5 (br_f n6 (br_f n7 (br_f n8 (br_t n9 h)))))))))))⟩
  by_cases n10 : x = 10
  · exact ⟨16, fun post h => br_f a (br_f b (br_f n0 (br_f n1 (br_f n2 (br_f n3 (br_f n4 (br_f n5 (br_f n6 (br_f n7 (br_f n8 (br_f n9 (br_t n10 h))))))))))))⟩
  by_cases n11 : x = 11
  · exact ⟨18, fun post h => br_f a (br_f b (br_f n0 (br_f n1 (br_f n2 (br_f n3 (br_f n4 (br_f n5 (br_f n6 (br_f n7 (br_f n8 (br_f n9 (br_f n10 (br_t n11 h)))))))))))))⟩
  by_cases n12 : x = 12
  · exact ⟨21, fun post h => br_f a (br_f b (br_f n0 (br_f n1 (br_f n2 (br_f n3 (br_f n4 (br_f n5 (br_f n6 (br_f n7 (br_f n8 (br_f n9 (br_f n10 (br_f n11 (br_t n12 h))))))))))))))⟩
  by_cases n13 : x = 13
  · exact ⟨23, fun post h => br_f a (br_f b (br_f n0 (br_f n1 (br_f n2 (br_f n3 (br_f n4 (br_f n5 (br_f n6 (br_f n7 (br_f n8 (br_f n9 (br_f n10 (br_f n11 (br_f n12 (br_t n13 h)))))))))))))))⟩
  by_cases n14 : x = 14
  · exact ⟨25, fun post h => br_f a (br_f b (br_f n0 (br_f n1 (br_f n2 (br_f n3 (br_f n4 (br_f n5 (br_f n6 (br_f n7 (br_f n8 (br_f n9 (br_f n10 (br_f n11 (br_f n12 (br_f n13 (br_t n14 h))))))))))))))))⟩
  by_cases n15 : x = 15
  · exact ⟨31, fun post h => br_f a (br_f b (br_f n0 (br_f n1 (br_f n2 (br_f n3 (br_f n4 (br_f n5 (br_f n6 (br_f n7 (br_f n8 (br_f n9 (br_f n10 (br_f n11 (br_f n12 (br_f n13 (br_f n14 (br_t n15 h)))))))))))))))))⟩
  by_cases n16 : x = 16
  · exact ⟨200, fun post h => br_f a (br_f b (br_f n0 (br_f n1 (br_f n2 (br_f n3 (br_f n4 (br_f n5 (br_f n6 (br_f n7 (br_f n8 (br_f n9 (br_f n10 (br_f n11 (br_f n12 (br_f n13 (br_f n14 (br_f n15 (br_t n16 h))))))))))))))))))⟩
  by_cases n17 : x = 17
  · exact ⟨201, fun post h => br_f a (br_f b (br_f n0 (br_f n1 (br_f n2 (br_f n3 (br_f n4 (br_f n5 (br_f n6 (br_f n7 (br_f n8 (br_f n9 (br_f n10 (br_f n11 (br_f n12 (br_f n13 (br_f n14 (br_f n15 (br_f n16 (br_t n17 h)))))))))))))))))))⟩
  by_cases n18 : x = 18
  · exact ⟨202, fun post h => br_f a (br_f b (br_f n0 (br_f n1 (br_f n2 (br_f n3 (br_f n4 (br_f n5 (br_f n6 (br_f n7 (br_f n8 (br_f n9 (br_f n10 (br_f n11 (br_f n12 (br_f n13 (br_f n14 (br_f n15 (br_f n16 (br_f n17 (br_t n18 h))))))))))))))))))))⟩
  exact ⟨0, fun post h => br_f a (br_f b (br_f n0 (br_f n1 (br_f n2 (br_f n3 (br_f n4 (br_f n5 (br_f n6 (br_f n7 (br_f n8 (br_f n9 (br_f n10 (br_f n11 (br_f n12 (br_f n13 (br_f n14 (br_f n15 (br_f n16 (br_f n17 (br_f n18 (trivial)))))))))))))))))))))⟩
theorem lq_key (v : Int32) : ∃ c : Int32, ∀ post : Int32 → Prop, post c → wpL_keyOf post () v := by
  obtain ⟨j, hj, e⟩ := pk_andE v (m := 63) 6 (by decide)
  have hj2 : j < 64 := hj
  by_cases c22 : j < 22
  · obtain ⟨c, hc⟩ := lq_small (((v.toUInt32 >>> ((6 : Int32).toUInt32 &&& Int32.toUInt32 31)).toInt32) - ((v.toUInt32 >>> ((6 : Int32).toUInt32 &&& Int32.toUInt32 31)).toInt32) / 6 * 6)
    exact ⟨c, fun post h => nm_r e (nm_e (en_le 22 j c22 ⟨by decide, hc _ h⟩))⟩
  by_cases c28 : j < 28
  · exact ⟨_, fun post h => nm_r e (nm_e (ey_le 22 j (by omega) (en_le 28 j c28 ⟨by decide, h⟩)))⟩
  by_cases c48 : j < 48
  · obtain ⟨c, hc⟩ := lq_spec (nI j - 28)
    exact ⟨c, fun post h => nm_r e (nm_e (ey_le 22 j (by omega) (ey_le 28 j (by omega) (en_le 48 j c48 (hc _ h)))))⟩
  by_cases c56 : j < 56
  · exact ⟨13, fun post h => nm_r e (nm_e (ey_le 22 j (by omega) (ey_le 28 j (by omega) (ey_le 48 j (by omega) (en_le 56 j c56 h)))))⟩
  by_cases c59 : j < 59
  · exact ⟨18, fun post h => nm_r e (nm_e (ey_le 22 j (by omega) (ey_le 28 j (by omega) (ey_le 48 j (by omega) (ey_le 56 j (by omega) (en_le 59 j c59 h))))))⟩
  by_cases c63 : j < 63
  · exact ⟨16, fun post h => nm_r e (nm_e (ey_le 22 j (by omega) (ey_le 28 j (by omega) (ey_le 48 j (by omega) (ey_le 56 j (by omega) (ey_le 59 j (by omega) (en_le 63 j c63 h)))))))⟩
  · exact ⟨v, fun post h => nm_r e (nm_e (ey_le 22 j (by omega) (ey_le 28 j (by omega) (ey_le 48 j (by omega) (ey_le 56 j (by omega) (ey_le 59 j (by omega) (ey_le 63 j (by omega) h)))))))⟩
theorem lq_cell (xs : Nat → Int32) {L : Nat} (hL : L ≤ 260) (i : Nat) (hi : i ≤ 3) : ∃ v : Int32, ∀ post : Int32 → Prop, post v → wpL_cell post L xs () (nI i) := by
  by_cases c : L ≤ i
  · exact ⟨0, fun post h => ey_le L i c h⟩
  · exact ⟨_, fun post h => en_le L i (by omega) ⟨en_in i (by omega), h⟩⟩
section
variable {f_width f_historyCap f_ringCap f_length f_cursor f_historyCount f_nav f_draftLength f_ringCount f_yankIndex f_undoDepth f_mode f_last f_accepted f_queryLength f_match f_matchStart f_displayLength f_displayCursor f_terminalRow f_terminalCol : Int32} {a_buffer a_history a_historyLengths a_draft a_ring a_ringLengths a_undoTexts a_undoLengths a_undoCursors a_query a_display a_screen : Nat → Int32}
theorem lq_58 {post : Int32 → Prop} (xs : Nat → Int32) {L kc ks : Nat} (hL : L ≤ 260) (h : post 1) : ∀ d i (u : St2), L ≤ i + d → i ≤ 300 → eI u → (match u with | (f_width, f_historyCap, f_ringCap, f_length, f_cursor, f_historyCount, f_nav, f_draftLength, f_ringCount, f_yankIndex, f_undoDepth, f_mode, f_last, f_accepted, f_queryLength, f_match, f_matchStart, f_displayLength, f_displayCursor, f_terminalRow, f_terminalCol, a_buffer, a_history, a_historyLengths, a_draft, a_ring, a_ringLengths, a_undoTexts, a_undoLengths, a_undoCursors, a_query, a_display, a_screen) => wL_law_58 post L xs kc ks (d + 1) (nI i) f_width f_historyCap f_ringCap f_length f_cursor f_historyCount f_nav f_draftLength f_ringCount f_yankIndex f_undoDepth f_mode f_last f_accepted f_queryLength f_match f_matchStart f_displayLength f_displayCursor f_terminalRow f_terminalCol a_buffer a_history a_historyLengths a_draft a_ring a_ringLengths a_undoTexts a_undoLengths a_undoCursors a_query a_display a_screen) := by
  intro d
  induction d with
  | zero =>
    intro i u h1 h2 I
    obtain ⟨f_width, f_historyCap, f_ringCap, f_length, f_cursor, f_historyCount, f_nav, f_draftLength, f_ringCount, f_yankIndex, f_undoDepth, f_mode, f_last, f_accepted, f_queryLength, f_match, f_matchStart, f_displayLength, f_displayCursor, f_terminalRow, f_terminalCol, a_buffer, a_history, a_historyLengths, a_draft, a_ring, a_ringLengths, a_undoTexts, a_undoLengths, a_undoCursors, a_query, a_display, a_screen⟩ := u
    exact ey_le L i (by omega) h
  | succ d ih =>
    intro i u h1 h2 I
    by_cases c : L ≤ i
    · obtain ⟨f_width, f_historyCap, f_ringCap, f_length, f_cursor, f_historyCount, f_nav, f_draftLength, f_ringCount, f_yankIndex, f_undoDepth, f_mode, f_last, f_accepted, f_queryLength, f_match, f_matchStart, f_displayLength, f_displayCursor, f_terminalRow, f_terminalCol, a_buffer, a_history, a_historyLengths, a_draft, a_ring, a_ringLengths, a_undoTexts, a_undoLengths, a_undoCursors, a_query, a_display, a_screen⟩ := u
      exact ey_le L i c h
    · obtain ⟨v, hv⟩ := lq_key (xs (nI i).toNatClampNeg)
      obtain ⟨r, u2, I2, hx⟩ := e_key I v
      have ih2 := ih (i + 1) u2 (by omega) (by omega) I2
      obtain ⟨f_width, f_historyCap, f_ringCap, f_length, f_cursor, f_historyCount, f_nav, f_draftLength, f_ringCount, f_yankIndex, f_undoDepth, f_mode, f_last, f_accepted, f_queryLength, f_match, f_matchStart, f_displayLength, f_displayCursor, f_terminalRow, f_terminalCol, a_buffer, a_history, a_historyLengths, a_draft, a_ring, a_ringLengths, a_undoTexts, a_undoLengths, a_undoCursors, a_query, a_display, a_screen⟩ := u
      obtain ⟨f_width, f_historyCap, f_ringCap, f_length, f_cursor, f_historyCount, f_nav, f_draftLength, f_ringCount, f_yankIndex, f_undoDepth, f_mode, f_last, f_accepted, f_queryLength, f_match, f_matchStart, f_displayLength, f_displayCursor, f_terminalRow, f_terminalCol, a_buffer, a_history, a_historyLengths, a_draft, a_ring, a_ringLengths, a_undoTexts, a_undoLengths, a_undoCursors, a_query, a_display, a_screen⟩ := u2
      exact en_le L i (by omega) ⟨en_in i (by omega), hv _ (hx _ (lq_ok I2 (br_f (by decide) (nm_r (nI_1 i) ih2))))⟩
end
theorem e_cl (lo hi : Nat) (h : lo ≤ hi) (hb : hi < 2 ^ 31) (x : Int32) : ∃ j, lo ≤ j ∧ j ≤ hi ∧ ∀ A : Int32 → Prop, A (nI j) → ((nI lo ≤ x → ((x ≤ nI hi → A x) ∧ (¬ x ≤ nI hi → A (nI hi)))) ∧ (¬ nI lo ≤ x → A (nI lo))) := by
  by_cases c : nI lo ≤ x
  · by_cases c2 : x ≤ nI hi
    · obtain ⟨j, hj, rfl⟩ := nI_of (x := x) (en_ge c (nI_pos' (by omega)))
      exact ⟨j, (nI_leI (by omega) hj).mp c, (nI_leI hj hb).mp c2, fun A hA => br_t c (br_t c2 hA)⟩
    · exact ⟨hi, h, Nat.le_refl _, fun A hA => br_t c (br_f c2 hA)⟩
  · exact ⟨lo, Nat.le_refl _, h, fun A hA => br_f c hA⟩
theorem i_vc (xs : Nat → Int32) (L : Nat) (hL : L ≤ 260) : wpL_law (fun r => r = 1) L xs := by
  obtain ⟨v0, q0⟩ := lq_cell xs hL 0 (by omega)
  obtain ⟨v1, q1⟩ := lq_cell xs hL 1 (by omega)
  obtain ⟨v2, q2⟩ := lq_cell xs hL 2 (by omega)
  obtain ⟨w, w1, w2, hw⟩ := e_cl 4 16 (by omega) (by omega) ((v0 &&& 15) + 2)
  obtain ⟨hh, h1, h2, hhh⟩ := e_cl 1 8 (by omega) (by omega) ((v1 &&& 15) - 2)
  obtain ⟨rr, r1, r2, hrr⟩ := e_cl 1 4 (by omega) (by omega) ((v2 &&& 7) - 1)
  obtain ⟨u, gI, hr⟩ := e_ref (e_K (w := w) (hh := hh) (rr := rr) (n := 0) (k := 0) (hc := 0) (nav := 0) (dn := 0) (kc := 0) (y := 0) (ud := 0) (mo := 0) (la := 0) (ql := 0) (p := 0) (m := -1) (ac := 0) (xdl := 0) (xdc := 0) (xtr := 0) (xtc := 0) (B := fun _ => 0) (H := fun _ => 0) (HL := fun _ => 0) (D := fun _ => 0) (R := fun _ => 0) (RL := fun _ => 0) (U := fun _ => 0) (UL := fun _ => 0) (UK := fun _ => 0) (Q := fun _ => 0) (DS := fun _ => 0) (SC := fun _ => 0) (B' := fun _ => 0) (H' := fun _ => 0) (HL' := fun _ => 0) (D' := fun _ => 0) (R' := fun _ => 0) (RL' := fun _ => 0) (U' := fun _ => 0) (UL' := fun _ => 0) (UK' := fun _ => 0) (Q' := fun _ => 0) ⟨⟨⟨w1, w2⟩, ⟨h1, h2⟩, ⟨r1, r2⟩, ⟨by omega, by omega⟩, ⟨by omega, by omega⟩, by omega, by omega, by omega, by omega⟩, eg_0, eh_0, eg_0, ej_0, eu_0, eg_0, eL_0, Or.inl ⟨rfl, rfl, rfl⟩⟩)
  have l58 := lq_58 (post := fun r => r = 1) (kc := 13) (ks := 1088) xs hL rfl L 3 u (by omega) (by omega) gI
  obtain ⟨f_width, f_historyCap, f_ringCap, f_length, f_cursor, f_historyCount, f_nav, f_draftLength, f_ringCount, f_yankIndex, f_undoDepth, f_mode, f_last, f_accepted, f_queryLength, f_match, f_matchStart, f_displayLength, f_displayCursor, f_terminalRow, f_terminalCol, a_buffer, a_history, a_historyLengths, a_draft, a_ring, a_ringLengths, a_undoTexts, a_undoLengths, a_undoCursors, a_query, a_display, a_screen⟩ := u
  have cw : ∀ A : Int32 → Prop, A (nI w) → wpX_clamp A () ((v0 &&& 15) + 2) 4 16 := hw
  have ch : ∀ A : Int32 → Prop, A (nI hh) → wpX_clamp A () ((v1 &&& 15) - 2) 1 8 := hhh
  have cr : ∀ A : Int32 → Prop, A (nI rr) → wpX_clamp A () ((v2 &&& 7) - 1) 1 4 := hrr
  have ok : wpL_screenOk (fun r_70 => (r_70 = 0 → (0 : Int32) = 1) ∧ (¬ r_70 = 0 → ∃ z, wL_law_58 (fun r => r = 1) L xs 13 1088 z 3 f_width f_historyCap f_ringCap f_length f_cursor f_historyCount f_nav f_draftLength f_ringCount f_yankIndex f_undoDepth f_mode f_last f_accepted f_queryLength f_match f_matchStart f_displayLength f_displayCursor f_terminalRow f_terminalCol a_buffer a_history a_historyLengths a_draft a_ring a_ringLengths a_undoTexts a_undoLengths a_undoCursors a_query a_display a_screen)) (f_width, f_historyCap, f_ringCap, f_length, f_cursor, f_historyCount, f_nav, f_draftLength, f_ringCount, f_yankIndex, f_undoDepth, f_mode, f_last, f_accepted, f_queryLength, f_match, f_matchStart, f_displayLength, f_displayCursor, f_terminalRow, f_terminalCol, a_buffer, a_history, a_historyLengths, a_draft, a_ring, a_ringLengths, a_undoTexts, a_undoLengths, a_undoCursors, a_query, a_display, a_screen) := lq_ok gI (br_f (by decide) ⟨_, l58⟩)
  unfold wpL_law
  refine q0 _ (nm_e (q1 _ (nm_e (q2 _ (nm_e ⟨12, 1055, by omega, by omega, ?_⟩)))))
  refine ⟨by omega, by omega, by omega, by omega, by omega, by omega, by omega, by omega, by omega, by omega, by omega, by omega, by omega, by omega, by omega, by omega, by omega, by omega, by omega, by omega, by omega, by omega, by omega, by omega, ?_⟩
  refine cw _ ?_
  refine ch _ ?_
  refine cr _ ?_
  exact hr _ ok
end
