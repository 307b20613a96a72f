section
/-! rows of kit/rows (pasted), and branches by naturals -/
theorem pk_sub {a b : Nat} (h : b ≤ a) : nI a - nI b = nI (a - b) := by
  obtain ⟨c, rfl⟩ : ∃ c, a = c + b := ⟨a - b, by omega⟩
  rw [← nI_add, Int32.add_sub_cancel, Nat.add_sub_cancel]
theorem pk_m1 (n : Nat) : nI (n + 1) + (-1) = nI n := by
  rw [← nI_1, Int32.add_assoc, show (1 : Int32) + (-1) = 0 from rfl, Int32.add_zero]
theorem pk_mul (a b : Nat) : nI a * nI b = nI (a * b) := (Int32.ofNat_mul a b).symm
theorem pk_div {a d : Nat} (ha : a < 2 ^ 31) (h0 : 0 < d) (hd : d < 2 ^ 31) : nI a / nI d = nI (a / d) := by
  apply Int32.toInt_inj.mp
  rw [lg_idiv_nonneg (by rw [nI_toInt ha]; omega) (by rw [nI_toInt hd]; omega), nI_toInt ha, nI_toInt hd, nI_toInt (Nat.lt_of_le_of_lt (Nat.div_le_self a d) ha)]
  first | rfl | exact (Int.natCast_ediv _ _).symm
theorem pk_rem {a d : Nat} (ha : a < 2 ^ 31) (h0 : 0 < d) (hd : d < 2 ^ 31) : nI a - nI a / nI d * nI d = nI (a % d) := by
  rw [pk_div ha h0 hd, pk_mul, pk_sub (Nat.div_mul_le_self a d)]
  exact congrArg nI (by have := Nat.div_add_mod' a d; omega)
theorem pk_sub_toInt {a b : Nat} (ha : a < 2 ^ 30) (hb : b < 2 ^ 30) : (nI a - nI b).toInt = (a : Int) - b := by
  rw [Int32.toInt_sub, nI_toInt (by omega), nI_toInt (by omega)]
  exact Int.bmod_eq_of_le (by omega) (by omega)
theorem pk_sneg {a b : Nat} (hb : b < 2 ^ 30) (h : a < b) : nI a - nI b < 0 := by
  rw [Int32.lt_iff_toInt_lt, pk_sub_toInt (by omega) hb, show (0 : Int32).toInt = 0 from by decide]
  omega
theorem pk_ix (x : Int32) {n : Nat} (hn : n < 2 ^ 31) : x < 0 ∨ nI n ≤ x ∨ ∃ j : Nat, j < n ∧ x = nI j := by
  by_cases h : x < 0
  · exact Or.inl h
  · obtain ⟨j, hj, rfl⟩ := nI_of h
    by_cases h2 : j < n
    · exact Or.inr (Or.inr ⟨j, h2, rfl⟩)
    · exact Or.inr (Or.inl (nI_le (by omega) hj))
theorem en_32 (a : Nat) : nI a * 32 = nI (a * 32) := pk_mul a 32
theorem en_m1 {a : Nat} (h : 1 ≤ a) : nI a + (-1) = nI (a - 1) := by
  obtain ⟨b, rfl⟩ : ∃ b, a = b + 1 := ⟨a - 1, by omega⟩
  exact pk_m1 b
theorem en_s1 {a : Nat} (h : 1 ≤ a) : nI a - 1 = nI (a - 1) := pk_sub (b := 1) h
theorem en_a2 (a : Nat) : 2 + nI a = nI (2 + a) := nI_add 2 a
theorem en_a3 (a : Nat) : 3 + nI a = nI (3 + a) := nI_add 3 a
theorem en_p32 (a : Nat) : nI a + 32 = nI (a + 32) := nI_add a 32
theorem en_s32 {a : Nat} (h : 32 ≤ a) : nI a - 32 = nI (a - 32) := pk_sub (b := 32) h
theorem en_p2 (a : Nat) : nI a + 2 = nI (a + 2) := nI_add a 2
theorem en_s2 {a : Nat} (h : 2 ≤ a) : nI a - 2 = nI (a - 2) := pk_sub (b := 2) h
theorem en_s3 {a : Nat} (h : 3 ≤ a) : nI a - 3 = nI (a - 3) := pk_sub (b := 3) h
theorem ey_le {x y : Int32} {A B : Prop} (a b : Nat) (h : a ≤ b) (p : A) (hx : x = nI a := by first | with_reducible rfl | (simp (disch := omega) only [nI_add, nI_1, en_m1, en_s1, pk_sub, pk_mul, en_32, en_a2, en_a3, en_p32, en_s32, en_p2, en_s2, en_s3] <;> exact congrArg nI (by omega)) | exact congrArg nI (by omega) | rfl) (hy : y = nI b := by first | with_reducible rfl | (simp (disch := omega) only [nI_add, nI_1, en_m1, en_s1, pk_sub, pk_mul, en_32, en_a2, en_a3, en_p32, en_s32, en_p2, en_s2, en_s3] <;> exact congrArg nI (by omega)) | exact congrArg nI (by omega) | rfl) (hb : b < 2 ^ 31 := by omega) : (x ≤ y → A) ∧ (¬ x ≤ y → B) := by
  subst hx hy
  exact br_t (nI_le h hb) p
theorem en_le {x y : Int32} {A B : Prop} (a b : Nat) (h : b < a) (p : B) (hx : x = nI a := by first | with_reducible rfl | (simp (disch := omega) only [nI_add, nI_1, en_m1, en_s1, pk_sub, pk_mul, en_32, en_a2, en_a3, en_p32, en_s32, en_p2, en_s2, en_s3] <;> exact congrArg nI (by omega)) | exact congrArg nI (by omega) | rfl) (hy : y = nI b := by first | with_reducible rfl | (simp (disch := omega) only [nI_add, nI_1, en_m1, en_s1, pk_sub, pk_mul, en_32, en_a2, en_a3, en_p32, en_s32, en_p2, en_s2, en_s3] <;> exact congrArg nI (by omega)) | exact congrArg nI (by omega) | rfl) (ha : a < 2 ^ 31 := by omega) : (x ≤ y → A) ∧ (¬ x ≤ y → B) := by
  subst hx hy
  exact br_f (nI_ge h ha) p
theorem ey_lt {x y : Int32} {A B : Prop} (a b : Nat) (h : a < b) (p : A) (hx : x = nI a := by first | with_reducible rfl | (simp (disch := omega) only [nI_add, nI_1, en_m1, en_s1, pk_sub, pk_mul, en_32, en_a2, en_a3, en_p32, en_s32, en_p2, en_s2, en_s3] <;> exact congrArg nI (by omega)) | exact congrArg nI (by omega) | rfl) (hy : y = nI b := by first | with_reducible rfl | (simp (disch := omega) only [nI_add, nI_1, en_m1, en_s1, pk_sub, pk_mul, en_32, en_a2, en_a3, en_p32, en_s32, en_p2, en_s2, en_s3] <;> exact congrArg nI (by omega)) | exact congrArg nI (by omega) | rfl) (hb : b < 2 ^ 31 := by omega) : (x < y → A) ∧ (¬ x < y → B) := by
  subst hx hy
  exact br_t (nI_lt h hb) p
theorem en_lt {x y : Int32} {A B : Prop} (a b : Nat) (h : b ≤ a) (p : B) (hx : x = nI a := by first | with_reducible rfl | (simp (disch := omega) only [nI_add, nI_1, en_m1, en_s1, pk_sub, pk_mul, en_32, en_a2, en_a3, en_p32, en_s32, en_p2, en_s2, en_s3] <;> exact congrArg nI (by omega)) | exact congrArg nI (by omega) | rfl) (hy : y = nI b := by first | with_reducible rfl | (simp (disch := omega) only [nI_add, nI_1, en_m1, en_s1, pk_sub, pk_mul, en_32, en_a2, en_a3, en_p32, en_s32, en_p2, en_s2, en_s3] <;> exact congrArg nI (by omega)) | exact congrArg nI (by omega) | rfl) (ha : a < 2 ^ 31 := by omega) : (x < y → A) ∧ (¬ x < y → B) := by
  subst hx hy
  exact br_f (nI_nlt h ha) p
theorem ey_eq {x y : Int32} {A B : Prop} (a b : Nat) (h : a = b) (p : A) (hx : x = nI a := by first | with_reducible rfl | (simp (disch := omega) only [nI_add, nI_1, en_m1, en_s1, pk_sub, pk_mul, en_32, en_a2, en_a3, en_p32, en_s32, en_p2, en_s2, en_s3] <;> exact congrArg nI (by omega)) | exact congrArg nI (by omega) | rfl) (hy : y = nI b := by first | with_reducible rfl | (simp (disch := omega) only [nI_add, nI_1, en_m1, en_s1, pk_sub, pk_mul, en_32, en_a2, en_a3, en_p32, en_s32, en_p2, en_s2, en_s3] <;> exact congrArg nI (by omega)) | exact congrArg nI (by omega) | rfl) : (x = y → A) ∧ (¬ x = y → B) := by
  subst hx hy h
  exact br_t rfl p
theorem en_eq {x y : Int32} {A B : Prop} (a b : Nat) (h : a ≠ b) (p : B) (hx : x = nI a := by first | with_reducible rfl | (simp (disch := omega) only [nI_add, nI_1, en_m1, en_s1, pk_sub, pk_mul, en_32, en_a2, en_a3, en_p32, en_s32, en_p2, en_s2, en_s3] <;> exact congrArg nI (by omega)) | exact congrArg nI (by omega) | rfl) (hy : y = nI b := by first | with_reducible rfl | (simp (disch := omega) only [nI_add, nI_1, en_m1, en_s1, pk_sub, pk_mul, en_32, en_a2, en_a3, en_p32, en_s32, en_p2, en_s2, en_s3] <;> exact congrArg nI (by omega)) | exact congrArg nI (by omega) | rfl) (ha : a < 2 ^ 31 := by omega) (hb : b < 2 ^ 31 := by omega) : (x = y → A) ∧ (¬ x = y → B) := by
  subst hx hy
  exact br_f (fun z => h ((nI_eq ha hb).mp z)) p
theorem en_in {x : Int32} {N : Nat} (n : Nat) (h : n < N) (hx : x = nI n := by first | with_reducible rfl | (simp (disch := omega) only [nI_add, nI_1, en_m1, en_s1, pk_sub, pk_mul, en_32, en_a2, en_a3, en_p32, en_s32, en_p2, en_s2, en_s3] <;> exact congrArg nI (by omega)) | exact congrArg nI (by omega) | rfl) (hN : N < 2 ^ 31 := by omega) : vp_in x N := by
  subst hx
  exact vp_in_nI h hN
theorem en_g {f : Nat → Int32} {x : Int32} (n : Nat) (hx : x = nI n := by first | with_reducible rfl | (simp (disch := omega) only [nI_add, nI_1, en_m1, en_s1, pk_sub, pk_mul, en_32, en_a2, en_a3, en_p32, en_s32, en_p2, en_s2, en_s3] <;> exact congrArg nI (by omega)) | exact congrArg nI (by omega) | rfl) (h : n < 2 ^ 31 := by omega) : f x.toNatClampNeg = f n := by
  subst hx
  rw [nI_clamp h]
theorem en_u {f : Nat → Int32} {x v v' : Int32} (n : Nat) (hv : v = v' := by rfl) (hx : x = nI n := by first | with_reducible rfl | (simp (disch := omega) only [nI_add, nI_1, en_m1, en_s1, pk_sub, pk_mul, en_32, en_a2, en_a3, en_p32, en_s32, en_p2, en_s2, en_s3] <;> exact congrArg nI (by omega)) | exact congrArg nI (by omega) | rfl) (h : n < 2 ^ 31 := by omega) : upd f x.toNatClampNeg v = upd f n v' := by
  subst hx hv
  rw [nI_clamp h]
theorem en_pos {x : Int32} (n : Nat) (hx : x = nI n := by first | with_reducible rfl | (simp (disch := omega) only [nI_add, nI_1, en_m1, en_s1, pk_sub, pk_mul, en_32, en_a2, en_a3, en_p32, en_s32, en_p2, en_s2, en_s3] <;> exact congrArg nI (by omega)) | exact congrArg nI (by omega) | rfl) (h : n < 2 ^ 31 := by omega) : ¬ x < 0 := by
  subst hx
  exact nI_pos h
end
section
/-! A: copying. c cells of f from a on, laid into g from b on -/
def ec_cp (f : Nat → Int32) (a : Nat) (g : Nat → Int32) (b c : Nat) : Nat → Int32 :=
  fun j => if b ≤ j ∧ j < b + c then f (a + (j - b)) else g j
theorem ec_i {f g : Nat → Int32} {a b c j : Nat} (h1 : b ≤ j) (h2 : j < b + c) : ec_cp f a g b c j = f (a + (j - b)) := if_pos ⟨h1, h2⟩
theorem ec_o {f g : Nat → Int32} {a b c j : Nat} (h : ¬ (b ≤ j ∧ j < b + c)) : ec_cp f a g b c j = g j := if_neg h
theorem ec_k {f g : Nat → Int32} {a b c i : Nat} (h : i < c) : ec_cp f a g b c (b + i) = f (a + i) := by
  rw [ec_i (by omega) (by omega), show b + i - b = i by omega]
theorem ec_us {f : Nat → Int32} {k : Nat} {x : Int32} : upd f k x k = x := if_pos rfl
theorem ec_un {f : Nat → Int32} {k j : Nat} {x : Int32} (h : j ≠ k) : upd f k x j = f j := if_neg h
theorem ec_0 (f : Nat → Int32) (a : Nat) (g : Nat → Int32) (b : Nat) : ec_cp f a g b 0 = g := by
  funext j
  exact ec_o (by omega)
theorem ec_s (f : Nat → Int32) (a : Nat) (g : Nat → Int32) (b c : Nat) : upd (ec_cp f a g b c) (b + c) (f (a + c)) = ec_cp f a g b (c + 1) := by
  funext j
  by_cases h : j = b + c
  · subst h
    rw [ec_us, ec_k (by omega)]
  · rw [ec_un h]
    by_cases h2 : b ≤ j ∧ j < b + c
    · rw [ec_i h2.1 h2.2, ec_i h2.1 (by omega)]
    · rw [ec_o h2, ec_o (by omega)]
/-- the same, downward -/
theorem ec_d (f : Nat → Int32) (a : Nat) (g : Nat → Int32) (b c : Nat) : upd (ec_cp f (a + 1) g (b + 1) c) b (f a) = ec_cp f a g b (c + 1) := by
  funext j
  by_cases h : j = b
  · subst h
    rw [ec_us, ec_i (by omega) (by omega), Nat.sub_self, Nat.add_zero]
  · rw [ec_un h]
    by_cases h2 : b ≤ j ∧ j < b + (c + 1)
    · rw [ec_i (b := b + 1) (by omega) (by omega), ec_i h2.1 h2.2, show a + 1 + (j - (b + 1)) = a + (j - b) by omega]
    · rw [ec_o h2, ec_o (by omega)]
/-- a block ahead of a block -/
theorem ec_j (f : Nat → Int32) (a : Nat) (g : Nat → Int32) (b c d : Nat) : ec_cp f a (ec_cp f (a + c) g (b + c) d) b c = ec_cp f a g b (c + d) := by
  funext j
  by_cases h : b ≤ j ∧ j < b + c
  · rw [ec_i h.1 h.2, ec_i h.1 (by omega)]
  · rw [ec_o h]
    by_cases h2 : b + c ≤ j ∧ j < b + c + d
    · rw [ec_i h2.1 h2.2, ec_i (by omega) (by omega), show a + c + (j - (b + c)) = a + (j - b) by omega]
    · rw [ec_o h2, ec_o (by omega)]
/-- a block behind a block -/
theorem ec_b (f : Nat → Int32) (a : Nat) (g : Nat → Int32) (b c d : Nat) : ec_cp f (a + c) (ec_cp f a g b c) (b + c) d = ec_cp f a g b (c + d) := by
  funext j
  by_cases h : b + c ≤ j ∧ j < b + c + d
  · rw [ec_i h.1 h.2, ec_i (by omega) (by omega), show a + c + (j - (b + c)) = a + (j - b) by omega]
  · rw [ec_o h]
    by_cases h2 : b ≤ j ∧ j < b + c
    · rw [ec_i h2.1 h2.2, ec_i h2.1 (by omega)]
    · rw [ec_o h2, ec_o (by omega)]

/-! B: two texts agree, and hold no negative code -/
def eg (f g : Nat → Int32) (a b n : Nat) : Prop := ∀ j, j < n → f (a + j) = g (b + j) ∧ ¬ g (b + j) < 0
theorem eg_0 {f g : Nat → Int32} {a b : Nat} : eg f g a b 0 := fun _ h => absurd h (by omega)
theorem eg_le {f g : Nat → Int32} {a b n m : Nat} (h : eg f g a b n) (hm : m ≤ n) : eg f g a b m := fun j hj => h j (by omega)
theorem eg_at {f g : Nat → Int32} {n j : Nat} (h : eg f g 0 0 n) (hj : j < n) : f j = g j ∧ ¬ g j < 0 := by
  have := h j hj
  rw [Nat.zero_add] at this
  exact this
theorem eg_sub {f g : Nat → Int32} {a b n i m : Nat} (h : eg f g a b n) (hm : i + m ≤ n) : eg f g (a + i) (b + i) m := by
  intro j hj
  rw [Nat.add_assoc, Nat.add_assoc]
  exact h (i + j) (by omega)
theorem eg_app {f g : Nat → Int32} {a b n m : Nat} (h : eg f g a b n) (h2 : eg f g (a + n) (b + n) m) : eg f g a b (n + m) := by
  intro j hj
  by_cases c : j < n
  · exact h j c
  · have := h2 (j - n) (by omega)
    rw [show a + n + (j - n) = a + j by omega, show b + n + (j - n) = b + j by omega] at this
    exact this
/-- what was copied agrees, as far as both copied it -/
theorem eg_cp {f g F G : Nat → Int32} {a b p q n c d : Nat} (h : eg f g a b n) (hc : n ≤ c) (hd : n ≤ d) : eg (ec_cp f a F p c) (ec_cp g b G q d) p q n := by
  intro j hj
  rw [ec_k (by omega), ec_k (by omega)]
  exact h j hj
/-- what lies outside stays -/
theorem eg_kp {f g F G : Nat → Int32} {a b p q n s t c d : Nat} (h : eg F G p q n) (hp : p + n ≤ s ∨ s + c ≤ p) (hq : q + n ≤ t ∨ t + d ≤ q) : eg (ec_cp f a F s c) (ec_cp g b G t d) p q n := by
  intro j hj
  rw [ec_o (by omega), ec_o (by omega)]
  exact h j hj
theorem eg_u {F G : Nat → Int32} {p q n s t : Nat} {x y : Int32} (h : eg F G p q n) (hp : p + n ≤ s ∨ s < p) (hq : q + n ≤ t ∨ t < q) : eg (upd F s x) (upd G t y) p q n := by
  intro j hj
  rw [ec_un (by omega), ec_un (by omega)]
  exact h j hj
theorem eg_1 {F G : Nat → Int32} {p q : Nat} {x : Int32} (hx : ¬ x < 0) : eg (upd F p x) (upd G q x) p q 1 := by
  intro j hj
  obtain rfl : j = 0 := by omega
  rw [Nat.add_zero, Nat.add_zero, ec_us, ec_us]
  exact ⟨rfl, hx⟩
/-- a gap of c cells opened at k -/
theorem eg_gap {f g : Nat → Int32} {n k c : Nat} (h : eg f g 0 0 n) (hk : k ≤ n) : eg (ec_cp f k f (k + c) (n - k)) (ec_cp g k g (k + c) (n - k)) (k + c) (k + c) (n - k) := by
  refine eg_cp ?_ (by omega) (by omega)
  have := eg_sub (i := k) (m := n - k) h (by omega)
  rw [Nat.zero_add] at this
  exact this
theorem eg_ins {f g s t : Nat → Int32} {n k c a b : Nat} (h : eg f g 0 0 n) (hk : k ≤ n) (hs : eg s t a b c) : eg (ec_cp s a (ec_cp f k f (k + c) (n - k)) k c) (ec_cp t b (ec_cp g k g (k + c) (n - k)) k c) 0 0 (n + c) := by
  have h1 : eg (ec_cp s a (ec_cp f k f (k + c) (n - k)) k c) (ec_cp t b (ec_cp g k g (k + c) (n - k)) k c) 0 0 k := eg_kp (eg_kp (eg_le h hk) (by omega) (by omega)) (by omega) (by omega)
  have h2 : eg (ec_cp s a (ec_cp f k f (k + c) (n - k)) k c) (ec_cp t b (ec_cp g k g (k + c) (n - k)) k c) (0 + k) (0 + k) c := by
    rw [Nat.zero_add]
    exact eg_cp hs (Nat.le_refl _) (Nat.le_refl _)
  have h3 : eg (ec_cp s a (ec_cp f k f (k + c) (n - k)) k c) (ec_cp t b (ec_cp g k g (k + c) (n - k)) k c) (0 + (k + c)) (0 + (k + c)) (n - k) := by
    rw [Nat.zero_add]
    exact eg_kp (eg_gap h hk) (by omega) (by omega)
  have := eg_app (eg_app h1 h2) h3
  rw [show k + c + (n - k) = n + c by omega] at this
  exact this
/-- one char put at k: upd is a copy of one cell -/
theorem ec_u1 (g : Nat → Int32) (k : Nat) (x : Int32) : upd g k x = ec_cp (fun _ => x) 0 g k 1 := by
  have := ec_s (fun _ => x) 0 g k 0
  rw [ec_0, Nat.add_zero] at this
  exact this
theorem eg_ins1 {f g : Nat → Int32} {n k : Nat} {x : Int32} (h : eg f g 0 0 n) (hk : k ≤ n) (hx : ¬ x < 0) : eg (upd (ec_cp f k f (k + 1) (n - k)) k x) (upd (ec_cp g k g (k + 1) (n - k)) k x) 0 0 (n + 1) := by
  rw [ec_u1, ec_u1]
  exact eg_ins h hk (fun _ _ => ⟨rfl, hx⟩)
/-- c cells taken out at a; the one side may hold anything behind -/
theorem eg_del {f g g' : Nat → Int32} {n a c : Nat} (h : eg f g 0 0 n) (ha : a + c ≤ n) (hg : ∀ i, i < n - c → g' i = ec_cp g (a + c) g a (n - a - c) i) : eg (ec_cp f (a + c) f a (n - a - c)) g' 0 0 (n - c) := by
  have h1 : eg (ec_cp f (a + c) f a (n - a - c)) (ec_cp g (a + c) g a (n - a - c)) 0 0 a := eg_kp (eg_le h (by omega)) (by omega) (by omega)
  have h2 : eg (ec_cp f (a + c) f a (n - a - c)) (ec_cp g (a + c) g a (n - a - c)) (0 + a) (0 + a) (n - a - c) := by
    rw [Nat.zero_add]
    refine eg_cp ?_ (by omega) (by omega)
    have := eg_sub (i := a + c) (m := n - a - c) h (by omega)
    rw [Nat.zero_add] at this
    exact this
  have h3 := eg_app h1 h2
  rw [show a + (n - a - c) = n - c by omega] at h3
  intro j hj
  have h4 := h3 j hj
  rw [Nat.zero_add] at h4 ⊢
  rw [hg j hj]
  exact h4
/-- one step of a copy onto itself, towards the front -/
theorem ec_up {f : Nat → Int32} {a b : Nat} (h : b ≤ a) (c : Nat) : upd (ec_cp f a f b c) (b + c) (ec_cp f a f b c (a + c)) = ec_cp f a f b (c + 1) := by
  rw [ec_o (j := a + c) (by omega)]
  exact ec_s f a f b c
/-- .. and away from it, downward -/
theorem ec_dn {f : Nat → Int32} {a b : Nat} (h : a ≤ b) (c : Nat) : upd (ec_cp f (a + 1) f (b + 1) c) b (ec_cp f (a + 1) f (b + 1) c a) = ec_cp f a f b (c + 1) := by
  rw [ec_o (j := a) (by omega)]
  exact ec_d f a f b c
/-- the reference's inserts, one char a time: r from a on, put at k into f of n chars -/
theorem ec_in {f r : Nat → Int32} {n k a j : Nat} (hk : k ≤ n) :
    upd (ec_cp (ec_cp r a (ec_cp f k f (k + j) (n - k)) k j) (k + j) (ec_cp r a (ec_cp f k f (k + j) (n - k)) k j) (k + j + 1) (n - k)) (k + j) (r (a + j))
      = ec_cp r a (ec_cp f k f (k + (j + 1)) (n - k)) k (j + 1) := by
  funext i
  by_cases h : i = k + j
  · subst h
    rw [ec_us, ec_k (by omega)]
  · rw [ec_un h]
    by_cases h1 : k + j + 1 ≤ i ∧ i < k + j + 1 + (n - k)
    · rw [ec_i h1.1 h1.2, ec_o (by omega), ec_i (by omega) (by omega), ec_o (by omega), ec_i (by omega) (by omega)]
      exact congrArg f (by omega)
    · rw [ec_o h1]
      by_cases h2 : k ≤ i ∧ i < k + j
      · rw [ec_i h2.1 h2.2, ec_i (by omega) (by omega)]
      · rw [ec_o h2, ec_o (by omega), ec_o (by omega), ec_o (by omega)]
/-- .. and its removals: below the new length it is one copy -/
theorem ec_re {f g : Nat → Int32} {n a j : Nat} (h : a + j < n) (hg : ∀ i, i < n - j → g i = ec_cp f (a + j) f a (n - a - j) i) :
    ∀ i, i < n - (j + 1) → ec_cp g (a + 1) g a (n - j - 1 - a) i = ec_cp f (a + (j + 1)) f a (n - a - (j + 1)) i := by
  intro i hi
  by_cases h1 : a ≤ i
  · rw [ec_i h1 (by omega), hg _ (by omega), ec_i (by omega) (by omega), ec_i h1 (by omega)]
    exact congrArg f (by omega)
  · rw [ec_o (by omega), hg _ (by omega), ec_o (by omega), ec_o (by omega)]
theorem ec_re0 {f : Nat → Int32} {n a : Nat} : ∀ i, i < n - 0 → f i = ec_cp f (a + 0) f a (n - a - 0) i := by
  intro i hi
  by_cases h1 : a ≤ i ∧ i < a + (n - a - 0)
  · rw [ec_i h1.1 h1.2]
    exact congrArg f (by omega)
  · rw [ec_o h1]
/-- the reference's ring shift: one block of 32 more -/
theorem ec_bl {f : Nat → Int32} {e t : Nat} : ec_cp f (e * 32) (ec_cp f ((e + 1) * 32) f ((e + 1) * 32 + 32) (t * 32)) ((e + 1) * 32) 32 = ec_cp f (e * 32) f ((e + 1) * 32) ((t + 1) * 32) := by
  have h := ec_j f (e * 32) f ((e + 1) * 32) 32 (t * 32)
  rw [show e * 32 + 32 = (e + 1) * 32 by omega, show 32 + t * 32 = (t + 1) * 32 by omega] at h
  exact h
theorem ec_cc (f : Nat → Int32) (a c : Nat) : ec_cp f a f (a + 0) c = f := by
  funext i
  by_cases h : a ≤ i ∧ i < a + c
  · rw [Nat.add_zero, ec_i h.1 h.2]
    exact congrArg f (by omega)
  · exact ec_o h
end
section
/-! C: lists of texts in slots of 32 cells. F, L: the component's texts and lengths; G, M: the reference's. History: the same slots -/
def eh (F L G M : Nat → Int32) (c : Nat) : Prop := ∀ i, i < c → ∃ l, l ≤ 32 ∧ L i = nI l ∧ M i = nI l ∧ eg F G (i * 32) (i * 32) l
theorem eh_0 {F L G M : Nat → Int32} : eh F L G M 0 := fun _ h => absurd h (by omega)
/-- the oldest dropped -/
theorem eh_drop {F L G M : Nat → Int32} {c : Nat} (h : eh F L G M (c + 1)) : eh (ec_cp F 32 F 0 (c * 32)) (ec_cp L 1 L 0 c) (ec_cp G 32 G 0 (c * 32)) (ec_cp M 1 M 0 c) c := by
  intro i hi
  obtain ⟨l, hl, h1, h2, h3⟩ := h (i + 1) (by omega)
  refine ⟨l, hl, ?_, ?_, ?_⟩
  · rw [ec_i (by omega) (by omega), show 1 + (i - 0) = i + 1 by omega, h1]
  · rw [ec_i (by omega) (by omega), show 1 + (i - 0) = i + 1 by omega, h2]
  · intro j hj
    rw [ec_i (by omega) (by omega), ec_i (by omega) (by omega), show 32 + (i * 32 + j - 0) = (i + 1) * 32 + j by omega]
    exact h3 j hj
/-- one appended; the reference copies all 32 cells -/
theorem eh_add {F L G M f g : Nat → Int32} {c n : Nat} (h : eh F L G M c) (hn : n ≤ 32) (hb : eg f g 0 0 n) : eh (ec_cp f 0 F (c * 32) n) (upd L c (nI n)) (ec_cp g 0 G (c * 32) 32) (upd M c (nI n)) (c + 1) := by
  intro i hi
  by_cases e : i = c
  · subst e
    exact ⟨n, hn, ec_us, ec_us, eg_cp hb (by omega) hn⟩
  · obtain ⟨l, hl, h1, h2, h3⟩ := h i (by omega)
    exact ⟨l, hl, (ec_un e).trans h1, (ec_un e).trans h2, eg_kp h3 (by omega) (by omega)⟩
/-- the undo stack: also the cursors -/
def eu (F L K G M P : Nat → Int32) (c : Nat) : Prop := ∀ i, i < c → ∃ l t, l ≤ 32 ∧ t ≤ l ∧ L i = nI l ∧ M i = nI l ∧ K i = nI t ∧ P i = nI t ∧ eg F G (i * 32) (i * 32) l
theorem eu_0 {F L K G M P : Nat → Int32} : eu F L K G M P 0 := fun _ h => absurd h (by omega)
theorem eu_le {F L K G M P : Nat → Int32} {c d : Nat} (h : eu F L K G M P c) (hd : d ≤ c) : eu F L K G M P d := fun i hi => h i (by omega)
theorem eu_drop {F L K G M P : Nat → Int32} {c : Nat} (h : eu F L K G M P (c + 1)) : eu (ec_cp F 32 F 0 (c * 32)) (ec_cp L 1 L 0 c) (ec_cp K 1 K 0 c) (ec_cp G 32 G 0 (c * 32)) (ec_cp M 1 M 0 c) (ec_cp P 1 P 0 c) c := by
  intro i hi
  obtain ⟨l, t, hl, ht, h1, h2, h3, h4, h5⟩ := h (i + 1) (by omega)
  have e : 1 + (i - 0) = i + 1 := by omega
  refine ⟨l, t, hl, ht, ?_, ?_, ?_, ?_, ?_⟩
  · rw [ec_i (by omega) (by omega), e, h1]
  · rw [ec_i (by omega) (by omega), e, h2]
  · rw [ec_i (by omega) (by omega), e, h3]
  · rw [ec_i (by omega) (by omega), e, h4]
  · intro j hj
    rw [ec_i (by omega) (by omega), ec_i (by omega) (by omega), show 32 + (i * 32 + j - 0) = (i + 1) * 32 + j by omega]
    exact h5 j hj
theorem eu_add {F L K G M P f g : Nat → Int32} {c n k : Nat} (h : eu F L K G M P c) (hn : n ≤ 32) (hk : k ≤ n) (hb : eg f g 0 0 n) : eu (ec_cp f 0 F (c * 32) n) (upd L c (nI n)) (upd K c (nI k)) (ec_cp g 0 G (c * 32) 32) (upd M c (nI n)) (upd P c (nI k)) (c + 1) := by
  intro i hi
  by_cases e : i = c
  · subst e
    exact ⟨n, k, hn, hk, ec_us, ec_us, ec_us, ec_us, eg_cp hb (by omega) hn⟩
  · obtain ⟨l, t, hl, ht, h1, h2, h3, h4, h5⟩ := h i (by omega)
    exact ⟨l, t, hl, ht, (ec_un e).trans h1, (ec_un e).trans h2, (ec_un e).trans h3, (ec_un e).trans h4, eg_kp h5 (by omega) (by omega)⟩

/-! D: the kill ring: the component's slot c - 1 - i is the reference's slot i -/
def ej (F L G M : Nat → Int32) (c : Nat) : Prop := ∀ i, i < c → ∃ l, l ≤ 32 ∧ L (c - 1 - i) = nI l ∧ M i = nI l ∧ eg F G ((c - 1 - i) * 32) (i * 32) l
theorem ej_0 {F L G M : Nat → Int32} : ej F L G M 0 := fun _ h => absurd h (by omega)
/-- a new entry, none dropped: the component writes slot c, the reference moves c entries up and writes slot 0 -/
theorem ej_new {F L G M f g : Nat → Int32} {c a n : Nat} (h : ej F L G M c) (hn : n ≤ 32) (hb : eg f g a a n) :
    ej (ec_cp f a F (c * 32) n) (upd (upd L c 0) c (nI n)) (ec_cp g a (ec_cp G 0 G 32 (c * 32)) 0 n) (upd (ec_cp M 0 M 1 c) 0 (nI n)) (c + 1) := by
  intro i hi
  by_cases e : i = 0
  · subst e
    rw [show c + 1 - 1 - 0 = c by omega, Nat.zero_mul]
    exact ⟨n, hn, ec_us, ec_us, eg_cp hb (Nat.le_refl _) (Nat.le_refl _)⟩
  · obtain ⟨l, hl, h1, h2, h3⟩ := h (i - 1) (by omega)
    have e1 : c + 1 - 1 - i = c - 1 - (i - 1) := by omega
    rw [e1]
    refine ⟨l, hl, ?_, ?_, ?_⟩
    · rw [ec_un (by omega), ec_un (by omega), h1]
    · rw [ec_un e, ec_i (by omega) (by omega), show 0 + (i - 1) = i - 1 by omega, h2]
    · intro j hj
      have h4 := h3 j hj
      rw [ec_o (by omega), ec_o (by omega), ec_i (by omega) (by omega), show 0 + (i * 32 + j - 32) = (i - 1) * 32 + j by omega]
      exact h4
/-- the same at a full ring: the component drops slot 0 first, the reference moves c entries of c + 1 -/
theorem ej_full {F L G M f g : Nat → Int32} {c a n : Nat} (h : ej F L G M (c + 1)) (hn : n ≤ 32) (hb : eg f g a a n) :
    ej (ec_cp f a (ec_cp F 32 F 0 (c * 32)) (c * 32) n) (upd (upd (ec_cp L 1 L 0 c) c 0) c (nI n)) (ec_cp g a (ec_cp G 0 G 32 (c * 32)) 0 n) (upd (ec_cp M 0 M 1 c) 0 (nI n)) (c + 1) := by
  refine ej_new ?_ hn hb
  intro i hi
  obtain ⟨l, hl, h1, h2, h3⟩ := h i (by omega)
  have e1 : c + 1 - 1 - i = c - 1 - i + 1 := by omega
  rw [e1] at h1 h3
  refine ⟨l, hl, ?_, h2, ?_⟩
  · rw [ec_i (by omega) (by omega), show 1 + (c - 1 - i - 0) = c - 1 - i + 1 by omega, h1]
  · intro j hj
    have h4 := h3 j hj
    rw [ec_i (by omega) (by omega), show 32 + ((c - 1 - i) * 32 + j - 0) = (c - 1 - i + 1) * 32 + j by omega]
    exact h4
/-- a kill that chains, forward -/
theorem ej_fwd {F L G M f g : Nat → Int32} {c a n s : Nat} (h : ej F L G M (c + 1)) (hs : M 0 = nI s) (hn : s + n ≤ 32) (hb : eg f g a a n) :
    ej (ec_cp f a F (c * 32 + s) n) (upd L c (nI (s + n))) (ec_cp g a G s n) (upd M 0 (nI (s + n))) (c + 1) := by
  intro i hi
  by_cases e : i = 0
  · subst e
    obtain ⟨l, hl, h1, h2, h3⟩ := h 0 (by omega)
    obtain rfl : l = s := (nI_eq (by omega) (by omega)).mp (h2.symm.trans hs)
    rw [show c + 1 - 1 - 0 = c by omega] at h1 h3 ⊢
    rw [Nat.zero_mul] at h3 ⊢
    refine ⟨l + n, hn, ec_us, ec_us, eg_app (eg_kp h3 (by omega) (by omega)) ?_⟩
    rw [Nat.zero_add]
    exact eg_cp hb (Nat.le_refl _) (Nat.le_refl _)
  · obtain ⟨l, hl, h1, h2, h3⟩ := h i (by omega)
    exact ⟨l, hl, (ec_un (by omega)).trans h1, (ec_un e).trans h2, eg_kp h3 (by omega) (by omega)⟩
/-- .. and backward -/
theorem ej_bwd {F L G M f g : Nat → Int32} {c a n s : Nat} (h : ej F L G M (c + 1)) (hs : M 0 = nI s) (hn : s + n ≤ 32) (hb : eg f g a a n) :
    ej (ec_cp f a (ec_cp F (c * 32) F (c * 32 + n) s) (c * 32) n) (upd L c (nI (s + n))) (ec_cp g a (ec_cp G 0 G n s) 0 n) (upd M 0 (nI (s + n))) (c + 1) := by
  intro i hi
  by_cases e : i = 0
  · subst e
    obtain ⟨l, hl, h1, h2, h3⟩ := h 0 (by omega)
    obtain rfl : l = s := (nI_eq (by omega) (by omega)).mp (h2.symm.trans hs)
    rw [show c + 1 - 1 - 0 = c by omega] at h1 h3 ⊢
    rw [Nat.zero_mul] at h3 ⊢
    refine ⟨l + n, hn, ec_us, ec_us, ?_⟩
    rw [Nat.add_comm l n]
    refine eg_app (eg_cp hb (Nat.le_refl _) (Nat.le_refl _)) ?_
    rw [Nat.zero_add]
    exact eg_kp (eg_cp h3 (Nat.le_refl _) (Nat.le_refl _)) (by omega) (by omega)
  · obtain ⟨l, hl, h1, h2, h3⟩ := h i (by omega)
    exact ⟨l, hl, (ec_un (by omega)).trans h1, (ec_un e).trans h2, eg_kp (eg_kp h3 (by omega) (by omega)) (by omega) (by omega)⟩
end
section
/-! E: words. es: downward from t over cells that are (w) word chars; et: upward, d cells left -/
abbrev ew (c : Int32) : Prop := (48 ≤ c ∧ c ≤ 57) ∨ (65 ≤ c ∧ c ≤ 90) ∨ (97 ≤ c ∧ c ≤ 122)
def es (f : Nat → Int32) (w : Bool) : Nat → Nat
  | 0 => 0
  | t + 1 => if decide (ew (f t)) = w then es f w t else t + 1
def et (f : Nat → Int32) (w : Bool) : Nat → Nat → Nat
  | 0, t => t
  | d + 1, t => if decide (ew (f t)) = w then et f w d (t + 1) else t
theorem es_s (f : Nat → Int32) (w : Bool) (t : Nat) : es f w (t + 1) = if decide (ew (f t)) = w then es f w t else t + 1 := rfl
theorem et_s (f : Nat → Int32) (w : Bool) (d t : Nat) : et f w (d + 1) t = if decide (ew (f t)) = w then et f w d (t + 1) else t := rfl
theorem es_le (f : Nat → Int32) (w : Bool) : ∀ t, es f w t ≤ t := by
  intro t
  induction t with
  | zero => exact Nat.le_refl _
  | succ t ih =>
    rw [es_s]
    split
    · omega
    · omega
theorem et_le (f : Nat → Int32) (w : Bool) : ∀ d t, t ≤ et f w d t ∧ et f w d t ≤ t + d := by
  intro d
  induction d with
  | zero => intro t; exact ⟨Nat.le_refl _, Nat.le_refl _⟩
  | succ d ih =>
    intro t
    rw [et_s]
    have := ih (t + 1)
    split
    · omega
    · omega
theorem es_c {f g : Nat → Int32} {w : Bool} : ∀ t, (∀ j, j < t → f j = g j) → es f w t = es g w t := by
  intro t
  induction t with
  | zero => intro _; rfl
  | succ t ih =>
    intro h
    rw [es_s, es_s, h t (by omega), ih (fun j hj => h j (by omega))]
theorem et_c {f g : Nat → Int32} {w : Bool} : ∀ d t, (∀ j, j < t + d → f j = g j) → et f w d t = et g w d t := by
  intro d
  induction d with
  | zero => intro t _; rfl
  | succ d ih =>
    intro t h
    rw [et_s, et_s, h t (by omega), ih (t + 1) (fun j hj => h j (by omega))]
def ewl (f : Nat → Int32) (k : Nat) : Nat := es f true (es f false k)
def ewr (f : Nat → Int32) (n k : Nat) : Nat := et f true (n - et f false (n - k) k) (et f false (n - k) k)
theorem ewl_le (f : Nat → Int32) (k : Nat) : ewl f k ≤ k := Nat.le_trans (es_le f true _) (es_le f false k)
theorem ewr_le {f : Nat → Int32} {n k : Nat} (hk : k ≤ n) : k ≤ ewr f n k ∧ ewr f n k ≤ n := by
  have h1 := et_le f false (n - k) k
  have h2 := et_le f true (n - et f false (n - k) k) (et f false (n - k) k)
  unfold ewr
  omega
theorem ewl_c {f g : Nat → Int32} {k : Nat} (h : ∀ j, j < k → f j = g j) : ewl f k = ewl g k := by
  unfold ewl
  rw [es_c (w := false) k h]
  exact es_c _ (fun j hj => h j (Nat.lt_of_lt_of_le hj (es_le g false k)))
theorem ewr_c {f g : Nat → Int32} {n k : Nat} (hk : k ≤ n) (h : ∀ j, j < n → f j = g j) : ewr f n k = ewr g n k := by
  unfold ewr
  rw [et_c (w := false) (n - k) k (fun j hj => h j (by omega))]
  have h1 := et_le g false (n - k) k
  exact et_c _ _ (fun j hj => h j (by omega))

/-! F: the search. ex: the first z chars of q stand in h from a on; eo: the least start s, d left to try, the entry at a; ef: the newest entry below i -/
abbrev ex (h q : Nat → Int32) (a z : Nat) : Prop := ∀ j, j < z → h (a + j) = q j
def eo (h q : Nat → Int32) (a z : Nat) : Nat → Nat → Option Nat
  | 0, _ => none
  | d + 1, s => if ex h q (a + s) z then some s else eo h q a z d (s + 1)
theorem eo_s (h q : Nat → Int32) (a z d s : Nat) : eo h q a z (d + 1) s = if ex h q (a + s) z then some s else eo h q a z d (s + 1) := rfl
theorem eo_some {h q : Nat → Int32} {a z r : Nat} : ∀ d s, eo h q a z d s = some r → s ≤ r ∧ r < s + d ∧ ex h q (a + r) z := by
  intro d
  induction d with
  | zero => intro s e; exact absurd e (by simp [eo])
  | succ d ih =>
    intro s e
    rw [eo_s] at e
    split at e
    · obtain rfl := Option.some.inj e
      exact ⟨Nat.le_refl _, by omega, by assumption⟩
    · have := ih (s + 1) e
      exact ⟨by omega, by omega, this.2.2⟩
theorem eo_none {h q : Nat → Int32} {a z r : Nat} : ∀ d s, eo h q a z d s = none → s ≤ r → r < s + d → ¬ ex h q (a + r) z := by
  intro d
  induction d with
  | zero => intro s _ h1 h2; omega
  | succ d ih =>
    intro s e h1 h2
    rw [eo_s] at e
    split at e
    · exact absurd e (by simp)
    · by_cases c : r = s
      · subst c; assumption
      · exact ih (s + 1) e (by omega) (by omega)
theorem ex_c {h g q p : Nat → Int32} {a z : Nat} (H : ∀ j, j < z → h (a + j) = g (a + j)) (Q : ∀ j, j < z → q j = p j) : ex h q a z ↔ ex g p a z := by
  constructor
  · intro e j hj
    rw [← H j hj, ← Q j hj]
    exact e j hj
  · intro e j hj
    rw [H j hj, Q j hj]
    exact e j hj
theorem eo_c {h g q p : Nat → Int32} {a z : Nat} (Q : ∀ j, j < z → q j = p j) : ∀ d s, (∀ j, j + 1 < s + d + z → h (a + j) = g (a + j)) → eo h q a z d s = eo g p a z d s := by
  intro d
  induction d with
  | zero => intro s _; rfl
  | succ d ih =>
    intro s H
    have e : ex h q (a + s) z ↔ ex g p (a + s) z := ex_c (fun j hj => by
      have := H (s + j) (by omega)
      rw [← Nat.add_assoc] at this
      exact this) Q
    rw [eo_s, eo_s, ih (s + 1) (fun j hj => H j (by omega))]
    by_cases c : ex h q (a + s) z
    · rw [if_pos c, if_pos (e.mp c)]
    · rw [if_neg c, if_neg (fun z => c (e.mpr z))]
/-- the least start in entry i, whose length stands in L -/
def ei (h L q : Nat → Int32) (z i : Nat) : Option Nat := eo h q (i * 32) z ((L i).toNatClampNeg + 1 - z) 0
def ef (h L q : Nat → Int32) (z : Nat) : Nat → Option (Nat × Nat)
  | 0 => none
  | i + 1 => match ei h L q z i with
    | some s => some (i, s)
    | none => ef h L q z i
theorem ef_s (h L q : Nat → Int32) (z i : Nat) : ef h L q z (i + 1) = match ei h L q z i with
    | some s => some (i, s)
    | none => ef h L q z i := rfl
theorem ef_some {h L q : Nat → Int32} {z m s : Nat} : ∀ i, ef h L q z i = some (m, s) → m < i ∧ ei h L q z m = some s := by
  intro i
  induction i with
  | zero => intro e; exact absurd e (by simp [ef])
  | succ i ih =>
    intro e
    rw [ef_s] at e
    split at e
    · rename_i s' hs
      have e2 := Option.some.inj e
      obtain rfl := congrArg Prod.fst e2
      obtain rfl := congrArg Prod.snd e2
      exact ⟨by omega, hs⟩
    · have := ih e
      exact ⟨by omega, this.2⟩
/-- the answer of a search for a start -/
def er : Option Nat → Int32
  | some s => nI s
  | none => -1
theorem ei_c {H HL G GL q p : Nat → Int32} {c z i : Nat} (h : eh H HL G GL c) (hi : i < c) (Q : ∀ j, j < z → q j = p j) : ei H HL q z i = ei G GL p z i := by
  obtain ⟨l, hl, h1, h2, h3⟩ := h i hi
  unfold ei
  rw [h1, h2, nI_clamp (by omega)]
  by_cases c0 : l + 1 - z = 0
  · rw [c0]; rfl
  · exact eo_c Q _ _ (fun j hj => (h3 j (by omega)).1)
theorem ef_c {H HL G GL q p : Nat → Int32} {c z : Nat} (h : eh H HL G GL c) (Q : ∀ j, j < z → q j = p j) : ∀ i, i ≤ c → ef H HL q z i = ef G GL p z i := by
  intro i
  induction i with
  | zero => intro _; rfl
  | succ i ih =>
    intro hi
    rw [ef_s, ef_s, ei_c h (by omega) Q, ih (by omega)]
/-- what a found start says -/
theorem ei_some {H HL q : Nat → Int32} {z i l s : Nat} (hl : l ≤ 32) (e : HL i = nI l) (h : ei H HL q z i = some s) : s + z ≤ l ∧ ex H q (i * 32 + s) z := by
  unfold ei at h
  rw [e, nI_clamp (by omega)] at h
  have := eo_some _ _ h
  exact ⟨by omega, this.2.2⟩
/-- where the longer query stands the shorter is found -/
theorem ei_less {H HL q : Nat → Int32} {z y i l s : Nat} (hl : l ≤ 32) (e : HL i = nI l) (h : s + z ≤ l) (hx : ex H q (i * 32 + s) z) (hy : y ≤ z) : ∃ t, ei H HL q y i = some t := by
  cases c : ei H HL q y i with
  | some t => exact ⟨t, rfl⟩
  | none =>
    unfold ei at c
    rw [e, nI_clamp (by omega)] at c
    exact absurd (fun j hj => hx j (by omega)) (eo_none (r := s) _ _ c (by omega) (by omega))
end
section
/-! G: the relation. eN bounds; eL what the last key left; eS the search; eC all that both sides keep; eP the component's picture of itself -/
abbrev eN (w hh rr n k hc nav dn kc ud ql : Nat) : Prop := (4 ≤ w ∧ w ≤ 16) ∧ (1 ≤ hh ∧ hh ≤ 8) ∧ (1 ≤ rr ∧ rr ≤ 4) ∧ (n ≤ 32 ∧ k ≤ n) ∧ (hc ≤ hh ∧ nav ≤ hc) ∧ dn ≤ 32 ∧ kc ≤ rr ∧ ud ≤ 8 ∧ ql ≤ 16
def eL (la kc n k y : Nat) (RL' : Nat → Int32) : Prop := la ≤ 3 ∧ (la = 2 → 1 ≤ kc ∧ ∃ s, RL' 0 = nI s ∧ s + n ≤ 32) ∧ (la = 3 → y < kc ∧ ∃ s, RL' y = nI s ∧ s ≤ k)
def eS (mo : Nat) (m : Int32) (hc ql p la : Nat) (H' HL' Q' : Nat → Int32) : Prop := (mo = 0 ∧ m = -1 ∧ ql = 0) ∨ (mo = 1 ∧ la = 0 ∧ ((m = -1 ∧ ql = 0) ∨ ∃ i l, m = nI i ∧ i < hc ∧ HL' i = nI l ∧ l ≤ 32 ∧ p + ql ≤ l ∧ ex H' Q' (i * 32 + p) ql))
def eC (w hh rr n k hc nav dn kc y ud mo la ql p : Nat) (m : Int32) (B H HL D R RL U UL UK Q B' H' HL' D' R' RL' U' UL' UK' Q' : Nat → Int32) : Prop :=
  eN w hh rr n k hc nav dn kc ud ql ∧ eg B B' 0 0 n ∧ eh H HL H' HL' hc ∧ eg D D' 0 0 dn ∧ ej R RL R' RL' kc ∧ eu U UL UK U' UL' UK' ud ∧ eg Q Q' 0 0 ql ∧ eL la kc n k y RL' ∧ eS mo m hc ql p la H' HL' Q'
def eP (w n k mo ql p : Nat) (m : Int32) (B H HL Q : Nat → Int32) (dl dc : Nat) (DS SC : Nat → Int32) : Prop :=
  dl ≤ 51 ∧ dc ≤ dl ∧ (∀ i, i < 16 * w → SC i = if i < dl then DS i else 32) ∧
  ((mo = 0 ∧ dl = 2 + n ∧ dc = 2 + k ∧ DS 0 = 62 ∧ DS 1 = 32 ∧ ∀ j, j < n → DS (2 + j) = B j) ∨
   (mo = 1 ∧ DS 0 = 63 ∧ (∀ j, j < ql → DS (1 + j) = Q j) ∧ DS (1 + ql) = 58 ∧ DS (2 + ql) = 32 ∧
    ((m = -1 ∧ dl = 3 + ql + n ∧ dc = 3 + ql + k ∧ ∀ j, j < n → DS (3 + ql + j) = B j) ∨
     ∃ i l, m = nI i ∧ i < 8 ∧ l ≤ 32 ∧ HL i = nI l ∧ dl = 3 + ql + l ∧ dc = 3 + ql + p ∧ ∀ j, j < l → DS (3 + ql + j) = H (i * 32 + j))))
section
variable {w hh rr n k hc nav dn kc y ud mo la ql p dl dc : Nat} {m ac xdl xdc xtr xtc : Int32} {B H HL D R RL U UL UK Q DS SC B' H' HL' D' R' RL' U' UL' UK' Q' : Nat → Int32}
/-- both sides, the picture apart -/
def eK (u : SX) (v : SY) : Prop := ∃ (w hh rr n k hc nav dn kc y ud mo la ql p : Nat) (m ac xdl xdc xtr xtc : Int32) (B H HL D R RL U UL UK Q DS SC B' H' HL' D' R' RL' U' UL' UK' Q' : Nat → Int32),
  u = (nI w, nI hh, nI rr, nI n, nI k, nI hc, nI nav, nI dn, nI kc, nI y, nI ud, nI mo, nI la, ac, nI ql, m, nI p, xdl, xdc, xtr, xtc, B, H, HL, D, R, RL, U, UL, UK, Q, DS, SC) ∧ v = (nI w, nI hh, nI rr, nI n, nI k, nI hc, nI nav, nI dn, nI kc, nI ud, nI la, nI y, nI mo, nI ql, nI p, ac, m, B', H', HL', D', R', RL', U', UL', UK', Q') ∧ eC w hh rr n k hc nav dn kc y ud mo la ql p m B H HL D R RL U UL UK Q B' H' HL' D' R' RL' U' UL' UK' Q'
def i_Rel (_ : Nat) (u : SX) (v : SY) : Prop := ∃ (w hh rr n k hc nav dn kc y ud mo la ql p dl dc : Nat) (m ac : Int32) (B H HL D R RL U UL UK Q DS SC B' H' HL' D' R' RL' U' UL' UK' Q' : Nat → Int32),
  u = (nI w, nI hh, nI rr, nI n, nI k, nI hc, nI nav, nI dn, nI kc, nI y, nI ud, nI mo, nI la, ac, nI ql, m, nI p, nI dl, nI dc, nI (dc / w), nI (dc % w), B, H, HL, D, R, RL, U, UL, UK, Q, DS, SC) ∧ v = (nI w, nI hh, nI rr, nI n, nI k, nI hc, nI nav, nI dn, nI kc, nI ud, nI la, nI y, nI mo, nI ql, nI p, ac, m, B', H', HL', D', R', RL', U', UL', UK', Q') ∧ eC w hh rr n k hc nav dn kc y ud mo la ql p m B H HL D R RL U UL UK Q B' H' HL' D' R' RL' U' UL' UK' Q' ∧ eP w n k mo ql p m B H HL Q dl dc DS SC
theorem i_up {k : Nat} {u : SX} {v : SY} (h : i_Rel k u v) : i_Rel (k + 3) u v := h
theorem e_K (C : eC w hh rr n k hc nav dn kc y ud mo la ql p m B H HL D R RL U UL UK Q B' H' HL' D' R' RL' U' UL' UK' Q') : eK (nI w, nI hh, nI rr, nI n, nI k, nI hc, nI nav, nI dn, nI kc, nI y, nI ud, nI mo, nI la, ac, nI ql, m, nI p, xdl, xdc, xtr, xtc, B, H, HL, D, R, RL, U, UL, UK, Q, DS, SC) (nI w, nI hh, nI rr, nI n, nI k, nI hc, nI nav, nI dn, nI kc, nI ud, nI la, nI y, nI mo, nI ql, nI p, ac, m, B', H', HL', D', R', RL', U', UL', UK', Q') :=
  ⟨w, hh, rr, n, k, hc, nav, dn, kc, y, ud, mo, la, ql, p, m, ac, xdl, xdc, xtr, xtc, B, H, HL, D, R, RL, U, UL, UK, Q, DS, SC, B', H', HL', D', R', RL', U', UL', UK', Q', rfl, rfl, C⟩
theorem e_I {z : Nat} (C : eC w hh rr n k hc nav dn kc y ud mo la ql p m B H HL D R RL U UL UK Q B' H' HL' D' R' RL' U' UL' UK' Q') (P : eP w n k mo ql p m B H HL Q dl dc DS SC) : i_Rel z (nI w, nI hh, nI rr, nI n, nI k, nI hc, nI nav, nI dn, nI kc, nI y, nI ud, nI mo, nI la, ac, nI ql, m, nI p, nI dl, nI dc, nI (dc / w), nI (dc % w), B, H, HL, D, R, RL, U, UL, UK, Q, DS, SC) (nI w, nI hh, nI rr, nI n, nI k, nI hc, nI nav, nI dn, nI kc, nI ud, nI la, nI y, nI mo, nI ql, nI p, ac, m, B', H', HL', D', R', RL', U', UL', UK', Q') :=
  ⟨w, hh, rr, n, k, hc, nav, dn, kc, y, ud, mo, la, ql, p, dl, dc, m, ac, B, H, HL, D, R, RL, U, UL, UK, Q, DS, SC, B', H', HL', D', R', RL', U', UL', UK', Q', rfl, rfl, C, P⟩
/-- a key's outcome: taken, or refused -/
def eG (r : Int32) (u : SX) (v : SY) : Prop := (r = 1 ∧ eK u v) ∨ (r = 0 ∧ i_Rel 0 u v)
def eO (WX : (Int32 → SX → Prop) → Prop) (WY : (Int32 → SY → Prop) → Prop) : Prop := ∃ (r : Int32) (u : SX) (v : SY), eG r u v ∧ (∀ post, post r u → WX post) ∧ (∀ post, post r v → WY post)
theorem eO_1 {WX : (Int32 → SX → Prop) → Prop} {WY : (Int32 → SY → Prop) → Prop} (u : SX) (v : SY) (h : eK u v) (x : ∀ post, post 1 u → WX post) (y : ∀ post, post 1 v → WY post) : eO WX WY := ⟨1, u, v, Or.inl ⟨rfl, h⟩, x, y⟩
theorem eO_0 {WX : (Int32 → SX → Prop) → Prop} {WY : (Int32 → SY → Prop) → Prop} (u : SX) (v : SY) (h : i_Rel 0 u v) (x : ∀ post, post 0 u → WX post) (y : ∀ post, post 0 v → WY post) : eO WX WY := ⟨0, u, v, Or.inr ⟨rfl, h⟩, x, y⟩
theorem eO_m {WX VX : (Int32 → SX → Prop) → Prop} {WY VY : (Int32 → SY → Prop) → Prop} (h : eO WX WY) (x : ∀ post, WX post → VX post) (y : ∀ post, WY post → VY post) : eO VX VY := by
  obtain ⟨r, u, v, g, hx, hy⟩ := h
  exact ⟨r, u, v, g, fun post hp => x post (hx post hp), fun post hp => y post (hy post hp)⟩
/-- what a key other than a kill or a yank leaves -/
theorem eL_0 {kc n k y : Nat} {RL' : Nat → Int32} : eL 0 kc n k y RL' := ⟨by omega, fun h => absurd h (by omega), fun h => absurd h (by omega)⟩
theorem eL_1 {kc n k y : Nat} {RL' : Nat → Int32} : eL 1 kc n k y RL' := ⟨by omega, fun h => absurd h (by omega), fun h => absurd h (by omega)⟩
theorem eL_2 {kc n k y s : Nat} {RL' : Nat → Int32} (hk : 1 ≤ kc) (h : RL' 0 = nI s) (hs : s + n ≤ 32) : eL 2 kc n k y RL' := ⟨by omega, fun _ => ⟨hk, s, h, hs⟩, fun h => absurd h (by omega)⟩
theorem eL_3 {kc n k y s : Nat} {RL' : Nat → Int32} (hk : y < kc) (h : RL' y = nI s) (hs : s ≤ k) : eL 3 kc n k y RL' := ⟨by omega, fun h => absurd h (by omega), fun _ => ⟨hk, s, h, hs⟩⟩
/-- the slot of the ring's entry i -/
theorem ej_at {F L G M : Nat → Int32} {c i : Nat} (h : ej F L G M c) (hi : i < c) : ∃ l, l ≤ 32 ∧ L (c - 1 - i) = nI l ∧ M i = nI l ∧ eg F G ((c - 1 - i) * 32) (i * 32) l := h i hi
end
end
section
/-! H: copyCells, once for each pair of arrays (written by wip/whole/gen05.py) -/
section
variable {f_width f_historyCap f_ringCap f_length f_cursor f_historyCount f_nav f_draftLength f_ringCount f_yankIndex f_undoDepth f_mode f_last f_accepted f_queryLength f_match f_matchStart f_displayLength f_displayCursor f_terminalRow f_terminalCol : Int32} {a_buffer a_history a_historyLengths a_draft a_ring a_ringLengths a_undoTexts a_undoLengths a_undoCursors a_query a_display a_screen : Nat → Int32}
theorem xc_query_display_l {post : SX → Prop} {a b c : Nat} (ha : a + c ≤ 16) (hb : b + c ≤ 51) (h : post (f_width, f_historyCap, f_ringCap, f_length, f_cursor, f_historyCount, f_nav, f_draftLength, f_ringCount, f_yankIndex, f_undoDepth, f_mode, f_last, f_accepted, f_queryLength, f_match, f_matchStart, f_displayLength, f_displayCursor, f_terminalRow, f_terminalCol, a_buffer, a_history, a_historyLengths, a_draft, a_ring, a_ringLengths, a_undoTexts, a_undoLengths, a_undoCursors, a_query, ec_cp a_query a a_display b c, a_screen)) : ∀ d i, i + d = c → wX_copyCells__query_display_3 post (nI a) (nI b) (nI c) f_width f_historyCap f_ringCap f_length f_cursor f_historyCount f_nav f_draftLength f_ringCount f_yankIndex f_undoDepth f_mode f_last f_accepted f_queryLength f_match f_matchStart f_displayLength f_displayCursor f_terminalRow f_terminalCol (d + 1) (nI i) a_buffer a_history a_historyLengths a_draft a_ring a_ringLengths a_undoTexts a_undoLengths a_undoCursors a_query (ec_cp a_query a a_display b i) a_screen := by
  intro d
  induction d with
  | zero =>
    intro i hi
    obtain rfl : i = c := by omega
    exact ey_le i i (Nat.le_refl _) h
  | succ d ih =>
    intro i hi
    exact en_le c i (by omega) ⟨en_in (a + i) (by omega), en_in (b + i) (by omega), nm_r ((en_u (b + i) (en_g (a + i))).trans (ec_s a_query a a_display b i)) (nm_r (nI_1 i) (ih (i + 1) (by omega)))⟩
theorem xc_query_display {post : SX → Prop} {x1 x3 x4 : Int32} (a b c : Nat) (ha : a + c ≤ 16) (hb : b + c ≤ 51) (h : post (f_width, f_historyCap, f_ringCap, f_length, f_cursor, f_historyCount, f_nav, f_draftLength, f_ringCount, f_yankIndex, f_undoDepth, f_mode, f_last, f_accepted, f_queryLength, f_match, f_matchStart, f_displayLength, f_displayCursor, f_terminalRow, f_terminalCol, a_buffer, a_history, a_historyLengths, a_draft, a_ring, a_ringLengths, a_undoTexts, a_undoLengths, a_undoCursors, a_query, ec_cp a_query a a_display b c, a_screen)) (h1 : x1 = nI a := by first | with_reducible rfl | (simp (disch := omega) only [nI_add, nI_1, en_m1, en_s1, pk_sub, pk_mul, en_32, en_a2, en_a3, en_p32, en_s32, en_p2, en_s2, en_s3] <;> exact congrArg nI (by omega)) | exact congrArg nI (by omega) | rfl) (h3 : x3 = nI b := by first | with_reducible rfl | (simp (disch := omega) only [nI_add, nI_1, en_m1, en_s1, pk_sub, pk_mul, en_32, en_a2, en_a3, en_p32, en_s32, en_p2, en_s2, en_s3] <;> exact congrArg nI (by omega)) | exact congrArg nI (by omega) | rfl) (h4 : x4 = nI c := by first | with_reducible rfl | (simp (disch := omega) only [nI_add, nI_1, en_m1, en_s1, pk_sub, pk_mul, en_32, en_a2, en_a3, en_p32, en_s32, en_p2, en_s2, en_s3] <;> exact congrArg nI (by omega)) | exact congrArg nI (by omega) | rfl) : wpX_copyCells__query_display post (f_width, f_historyCap, f_ringCap, f_length, f_cursor, f_historyCount, f_nav, f_draftLength, f_ringCount, f_yankIndex, f_undoDepth, f_mode, f_last, f_accepted, f_queryLength, f_match, f_matchStart, f_displayLength, f_displayCursor, f_terminalRow, f_terminalCol, a_buffer, a_history, a_historyLengths, a_draft, a_ring, a_ringLengths, a_undoTexts, a_undoLengths, a_undoCursors, a_query, a_display, a_screen) x1 x3 x4 := by
  subst h1 h3 h4
  refine ⟨c + 1, ?_⟩
  have := xc_query_display_l ha hb h c 0 (by omega)
  rw [ec_0] at this
  exact this
theorem xc_buffer_display_l {post : SX → Prop} {a b c : Nat} (ha : a + c ≤ 32) (hb : b + c ≤ 51) (h : post (f_width, f_historyCap, f_ringCap, f_length, f_cursor, f_historyCount, f_nav, f_draftLength, f_ringCount, f_yankIndex, f_undoDepth, f_mode, f_last, f_accepted, f_queryLength, f_match, f_matchStart, f_displayLength, f_displayCursor, f_terminalRow, f_terminalCol, a_buffer, a_history, a_historyLengths, a_draft, a_ring, a_ringLengths, a_undoTexts, a_undoLengths, a_undoCursors, a_query, ec_cp a_buffer a a_display b c, a_screen)) : ∀ d i, i + d = c → wX_copyCells__buffer_display_3 post (nI a) (nI b) (nI c) f_width f_historyCap f_ringCap f_length f_cursor f_historyCount f_nav f_draftLength f_ringCount f_yankIndex f_undoDepth f_mode f_last f_accepted f_queryLength f_match f_matchStart f_displayLength f_displayCursor f_terminalRow f_terminalCol (d + 1) (nI i) a_buffer a_history a_historyLengths a_draft a_ring a_ringLengths a_undoTexts a_undoLengths a_undoCursors a_query (ec_cp a_buffer a a_display b i) a_screen := by
  intro d
  induction d with
  | zero =>
    intro i hi
    obtain rfl : i = c := by omega
    exact ey_le i i (Nat.le_refl _) h
  | succ d ih =>
    intro i hi
    exact en_le c i (by omega) ⟨en_in (a + i) (by omega), en_in (b + i) (by omega), nm_r ((en_u (b + i) (en_g (a + i))).trans (ec_s a_buffer a a_display b i)) (nm_r (nI_1 i) (ih (i + 1) (by omega)))⟩
theorem xc_buffer_display {post : SX → Prop} {x1 x3 x4 : Int32} (a b c : Nat) (ha : a + c ≤ 32) (hb : b + c ≤ 51) (h : post (f_width, f_historyCap, f_ringCap, f_length, f_cursor, f_historyCount, f_nav, f_draftLength, f_ringCount, f_yankIndex, f_undoDepth, f_mode, f_last, f_accepted, f_queryLength, f_match, f_matchStart, f_displayLength, f_displayCursor, f_terminalRow, f_terminalCol, a_buffer, a_history, a_historyLengths, a_draft, a_ring, a_ringLengths, a_undoTexts, a_undoLengths, a_undoCursors, a_query, ec_cp a_buffer a a_display b c, a_screen)) (h1 : x1 = nI a := by first | with_reducible rfl | (simp (disch := omega) only [nI_add, nI_1, en_m1, en_s1, pk_sub, pk_mul, en_32, en_a2, en_a3, en_p32, en_s32, en_p2, en_s2, en_s3] <;> exact congrArg nI (by omega)) | exact congrArg nI (by omega) | rfl) (h3 : x3 = nI b := by first | with_reducible rfl | (simp (disch := omega) only [nI_add, nI_1, en_m1, en_s1, pk_sub, pk_mul, en_32, en_a2, en_a3, en_p32, en_s32, en_p2, en_s2, en_s3] <;> exact congrArg nI (by omega)) | exact congrArg nI (by omega) | rfl) (h4 : x4 = nI c := by first | with_reducible rfl | (simp (disch := omega) only [nI_add, nI_1, en_m1, en_s1, pk_sub, pk_mul, en_32, en_a2, en_a3, en_p32, en_s32, en_p2, en_s2, en_s3] <;> exact congrArg nI (by omega)) | exact congrArg nI (by omega) | rfl) : wpX_copyCells__buffer_display post (f_width, f_historyCap, f_ringCap, f_length, f_cursor, f_historyCount, f_nav, f_draftLength, f_ringCount, f_yankIndex, f_undoDepth, f_mode, f_last, f_accepted, f_queryLength, f_match, f_matchStart, f_displayLength, f_displayCursor, f_terminalRow, f_terminalCol, a_buffer, a_history, a_historyLengths, a_draft, a_ring, a_ringLengths, a_undoTexts, a_undoLengths, a_undoCursors, a_query, a_display, a_screen) x1 x3 x4 := by
  subst h1 h3 h4
  refine ⟨c + 1, ?_⟩
  have := xc_buffer_display_l ha hb h c 0 (by omega)
  rw [ec_0] at this
  exact this
theorem xc_history_display_l {post : SX → Prop} {a b c : Nat} (ha : a + c ≤ 256) (hb : b + c ≤ 51) (h : post (f_width, f_historyCap, f_ringCap, f_length, f_cursor, f_historyCount, f_nav, f_draftLength, f_ringCount, f_yankIndex, f_undoDepth, f_mode, f_last, f_accepted, f_queryLength, f_match, f_matchStart, f_displayLength, f_displayCursor, f_terminalRow, f_terminalCol, a_buffer, a_history, a_historyLengths, a_draft, a_ring, a_ringLengths, a_undoTexts, a_undoLengths, a_undoCursors, a_query, ec_cp a_history a a_display b c, a_screen)) : ∀ d i, i + d = c → wX_copyCells__history_display_3 post (nI a) (nI b) (nI c) f_width f_historyCap f_ringCap f_length f_cursor f_historyCount f_nav f_draftLength f_ringCount f_yankIndex f_undoDepth f_mode f_last f_accepted f_queryLength f_match f_matchStart f_displayLength f_displayCursor f_terminalRow f_terminalCol (d + 1) (nI i) a_buffer a_history a_historyLengths a_draft a_ring a_ringLengths a_undoTexts a_undoLengths a_undoCursors a_query (ec_cp a_history a a_display b i) a_screen := by
  intro d
  induction d with
  | zero =>
    intro i hi
    obtain rfl : i = c := by omega
    exact ey_le i i (Nat.le_refl _) h
  | succ d ih =>
    intro i hi
    exact en_le c i (by omega) ⟨en_in (a + i) (by omega), en_in (b + i) (by omega), nm_r ((en_u (b + i) (en_g (a + i))).trans (ec_s a_history a a_display b i)) (nm_r (nI_1 i) (ih (i + 1) (by omega)))⟩
theorem xc_history_display {post : SX → Prop} {x1 x3 x4 : Int32} (a b c : Nat) (ha : a + c ≤ 256) (hb : b + c ≤ 51) (h : post (f_width, f_historyCap, f_ringCap, f_length, f_cursor, f_historyCount, f_nav, f_draftLength, f_ringCount, f_yankIndex, f_undoDepth, f_mode, f_last, f_accepted, f_queryLength, f_match, f_matchStart, f_displayLength, f_displayCursor, f_terminalRow, f_terminalCol, a_buffer, a_history, a_historyLengths, a_draft, a_ring, a_ringLengths, a_undoTexts, a_undoLengths, a_undoCursors, a_query, ec_cp a_history a a_display b c, a_screen)) (h1 : x1 = nI a := by first | with_reducible rfl | (simp (disch := omega) only [nI_add, nI_1, en_m1, en_s1, pk_sub, pk_mul, en_32, en_a2, en_a3, en_p32, en_s32, en_p2, en_s2, en_s3] <;> exact congrArg nI (by omega)) | exact congrArg nI (by omega) | rfl) (h3 : x3 = nI b := by first | with_reducible rfl | (simp (disch := omega) only [nI_add, nI_1, en_m1, en_s1, pk_sub, pk_mul, en_32, en_a2, en_a3, en_p32, en_s32, en_p2, en_s2, en_s3] <;> exact congrArg nI (by omega)) | exact congrArg nI (by omega) | rfl) (h4 : x4 = nI c := by first | with_reducible rfl | (simp (disch := omega) only [nI_add, nI_1, en_m1, en_s1, pk_sub, pk_mul, en_32, en_a2, en_a3, en_p32, en_s32, en_p2, en_s2, en_s3] <;> exact congrArg nI (by omega)) | exact congrArg nI (by omega) | rfl) : wpX_copyCells__history_display post (f_width, f_historyCap, f_ringCap, f_length, f_cursor, f_historyCount, f_nav, f_draftLength, f_ringCount, f_yankIndex, f_undoDepth, f_mode, f_last, f_accepted, f_queryLength, f_match, f_matchStart, f_displayLength, f_displayCursor, f_terminalRow, f_terminalCol, a_buffer, a_history, a_historyLengths, a_draft, a_ring, a_ringLengths, a_undoTexts, a_undoLengths, a_undoCursors, a_query, a_display, a_screen) x1 x3 x4 := by
  subst h1 h3 h4
  refine ⟨c + 1, ?_⟩
  have := xc_history_display_l ha hb h c 0 (by omega)
  rw [ec_0] at this
  exact this
theorem xc_history_buffer_l {post : SX → Prop} {a b c : Nat} (ha : a + c ≤ 256) (hb : b + c ≤ 32) (h : post (f_width, f_historyCap, f_ringCap, f_length, f_cursor, f_historyCount, f_nav, f_draftLength, f_ringCount, f_yankIndex, f_undoDepth, f_mode, f_last, f_accepted, f_queryLength, f_match, f_matchStart, f_displayLength, f_displayCursor, f_terminalRow, f_terminalCol, ec_cp a_history a a_buffer b c, a_history, a_historyLengths, a_draft, a_ring, a_ringLengths, a_undoTexts, a_undoLengths, a_undoCursors, a_query, a_display, a_screen)) : ∀ d i, i + d = c → wX_copyCells__history_buffer_3 post (nI a) (nI b) (nI c) f_width f_historyCap f_ringCap f_length f_cursor f_historyCount f_nav f_draftLength f_ringCount f_yankIndex f_undoDepth f_mode f_last f_accepted f_queryLength f_match f_matchStart f_displayLength f_displayCursor f_terminalRow f_terminalCol (d + 1) (nI i) (ec_cp a_history a a_buffer b i) a_history a_historyLengths a_draft a_ring a_ringLengths a_undoTexts a_undoLengths a_undoCursors a_query a_display a_screen := by
  intro d
  induction d with
  | zero =>
    intro i hi
    obtain rfl : i = c := by omega
    exact ey_le i i (Nat.le_refl _) h
  | succ d ih =>
    intro i hi
    exact en_le c i (by omega) ⟨en_in (a + i) (by omega), en_in (b + i) (by omega), nm_r ((en_u (b + i) (en_g (a + i))).trans (ec_s a_history a a_buffer b i)) (nm_r (nI_1 i) (ih (i + 1) (by omega)))⟩
theorem xc_history_buffer {post : SX → Prop} {x1 x3 x4 : Int32} (a b c : Nat) (ha : a + c ≤ 256) (hb : b + c ≤ 32) (h : post (f_width, f_historyCap, f_ringCap, f_length, f_cursor, f_historyCount, f_nav, f_draftLength, f_ringCount, f_yankIndex, f_undoDepth, f_mode, f_last, f_accepted, f_queryLength, f_match, f_matchStart, f_displayLength, f_displayCursor, f_terminalRow, f_terminalCol, ec_cp a_history a a_buffer b c, a_history, a_historyLengths, a_draft, a_ring, a_ringLengths, a_undoTexts, a_undoLengths, a_undoCursors, a_query, a_display, a_screen)) (h1 : x1 = nI a := by first | with_reducible rfl | (simp (disch := omega) only [nI_add, nI_1, en_m1, en_s1, pk_sub, pk_mul, en_32, en_a2, en_a3, en_p32, en_s32, en_p2, en_s2, en_s3] <;> exact congrArg nI (by omega)) | exact congrArg nI (by omega) | rfl) (h3 : x3 = nI b := by first | with_reducible rfl | (simp (disch := omega) only [nI_add, nI_1, en_m1, en_s1, pk_sub, pk_mul, en_32, en_a2, en_a3, en_p32, en_s32, en_p2, en_s2, en_s3] <;> exact congrArg nI (by omega)) | exact congrArg nI (by omega) | rfl) (h4 : x4 = nI c := by first | with_reducible rfl | (simp (disch := omega) only [nI_add, nI_1, en_m1, en_s1, pk_sub, pk_mul, en_32, en_a2, en_a3, en_p32, en_s32, en_p2, en_s2, en_s3] <;> exact congrArg nI (by omega)) | exact congrArg nI (by omega) | rfl) : wpX_copyCells__history_buffer post (f_width, f_historyCap, f_ringCap, f_length, f_cursor, f_historyCount, f_nav, f_draftLength, f_ringCount, f_yankIndex, f_undoDepth, f_mode, f_last, f_accepted, f_queryLength, f_match, f_matchStart, f_displayLength, f_displayCursor, f_terminalRow, f_terminalCol, a_buffer, a_history, a_historyLengths, a_draft, a_ring, a_ringLengths, a_undoTexts, a_undoLengths, a_undoCursors, a_query, a_display, a_screen) x1 x3 x4 := by
  subst h1 h3 h4
  refine ⟨c + 1, ?_⟩
  have := xc_history_buffer_l ha hb h c 0 (by omega)
  rw [ec_0] at this
  exact this
theorem xc_buffer_undoTexts_l {post : SX → Prop} {a b c : Nat} (ha : a + c ≤ 32) (hb : b + c ≤ 256) (h : post (f_width, f_historyCap, f_ringCap, f_length, f_cursor, f_historyCount, f_nav, f_draftLength, f_ringCount, f_yankIndex, f_undoDepth, f_mode, f_last, f_accepted, f_queryLength, f_match, f_matchStart, f_displayLength, f_displayCursor, f_terminalRow, f_terminalCol, a_buffer, a_history, a_historyLengths, a_draft, a_ring, a_ringLengths, ec_cp a_buffer a a_undoTexts b c, a_undoLengths, a_undoCursors, a_query, a_display, a_screen)) : ∀ d i, i + d = c → wX_copyCells__buffer_undoTexts_3 post (nI a) (nI b) (nI c) f_width f_historyCap f_ringCap f_length f_cursor f_historyCount f_nav f_draftLength f_ringCount f_yankIndex f_undoDepth f_mode f_last f_accepted f_queryLength f_match f_matchStart f_displayLength f_displayCursor f_terminalRow f_terminalCol (d + 1) (nI i) a_buffer a_history a_historyLengths a_draft a_ring a_ringLengths (ec_cp a_buffer a a_undoTexts b i) a_undoLengths a_undoCursors a_query a_display a_screen := by
  intro d
  induction d with
  | zero =>
    intro i hi
    obtain rfl : i = c := by omega
    exact ey_le i i (Nat.le_refl _) h
  | succ d ih =>
    intro i hi
    exact en_le c i (by omega) ⟨en_in (a + i) (by omega), en_in (b + i) (by omega), nm_r ((en_u (b + i) (en_g (a + i))).trans (ec_s a_buffer a a_undoTexts b i)) (nm_r (nI_1 i) (ih (i + 1) (by omega)))⟩
theorem xc_buffer_undoTexts {post : SX → Prop} {x1 x3 x4 : Int32} (a b c : Nat) (ha : a + c ≤ 32) (hb : b + c ≤ 256) (h : post (f_width, f_historyCap, f_ringCap, f_length, f_cursor, f_historyCount, f_nav, f_draftLength, f_ringCount, f_yankIndex, f_undoDepth, f_mode, f_last, f_accepted, f_queryLength, f_match, f_matchStart, f_displayLength, f_displayCursor, f_terminalRow, f_terminalCol, a_buffer, a_history, a_historyLengths, a_draft, a_ring, a_ringLengths, ec_cp a_buffer a a_undoTexts b c, a_undoLengths, a_undoCursors, a_query, a_display, a_screen)) (h1 : x1 = nI a := by first | with_reducible rfl | (simp (disch := omega) only [nI_add, nI_1, en_m1, en_s1, pk_sub, pk_mul, en_32, en_a2, en_a3, en_p32, en_s32, en_p2, en_s2, en_s3] <;> exact congrArg nI (by omega)) | exact congrArg nI (by omega) | rfl) (h3 : x3 = nI b := by first | with_reducible rfl | (simp (disch := omega) only [nI_add, nI_1, en_m1, en_s1, pk_sub, pk_mul, en_32, en_a2, en_a3, en_p32, en_s32, en_p2, en_s2, en_s3] <;> exact congrArg nI (by omega)) | exact congrArg nI (by omega) | rfl) (h4 : x4 = nI c := by first | with_reducible rfl | (simp (disch := omega) only [nI_add, nI_1, en_m1, en_s1, pk_sub, pk_mul, en_32, en_a2, en_a3, en_p32, en_s32, en_p2, en_s2, en_s3] <;> exact congrArg nI (by omega)) | exact congrArg nI (by omega) | rfl) : wpX_copyCells__buffer_undoTexts post (f_width, f_historyCap, f_ringCap, f_length, f_cursor, f_historyCount, f_nav, f_draftLength, f_ringCount, f_yankIndex, f_undoDepth, f_mode, f_last, f_accepted, f_queryLength, f_match, f_matchStart, f_displayLength, f_displayCursor, f_terminalRow, f_terminalCol, a_buffer, a_history, a_historyLengths, a_draft, a_ring, a_ringLengths, a_undoTexts, a_undoLengths, a_undoCursors, a_query, a_display, a_screen) x1 x3 x4 := by
  subst h1 h3 h4
  refine ⟨c + 1, ?_⟩
  have := xc_buffer_undoTexts_l ha hb h c 0 (by omega)
  rw [ec_0] at this
  exact this
theorem xc_undoTexts_undoTexts_l {post : SX → Prop} {a b c : Nat} (ha : a + c ≤ 256) (hb : b + c ≤ 256) (hba : b ≤ a) (h : post (f_width, f_historyCap, f_ringCap, f_length, f_cursor, f_historyCount, f_nav, f_draftLength, f_ringCount, f_yankIndex, f_undoDepth, f_mode, f_last, f_accepted, f_queryLength, f_match, f_matchStart, f_displayLength, f_displayCursor, f_terminalRow, f_terminalCol, a_buffer, a_history, a_historyLengths, a_draft, a_ring, a_ringLengths, ec_cp a_undoTexts a a_undoTexts b c, a_undoLengths, a_undoCursors, a_query, a_display, a_screen)) : ∀ d i, i + d = c → wX_copyCells__undoTexts_undoTexts_3 post (nI a) (nI b) (nI c) f_width f_historyCap f_ringCap f_length f_cursor f_historyCount f_nav f_draftLength f_ringCount f_yankIndex f_undoDepth f_mode f_last f_accepted f_queryLength f_match f_matchStart f_displayLength f_displayCursor f_terminalRow f_terminalCol (d + 1) (nI i) a_buffer a_history a_historyLengths a_draft a_ring a_ringLengths (ec_cp a_undoTexts a a_undoTexts b i) a_undoLengths a_undoCursors a_query a_display a_screen := by
  intro d
  induction d with
  | zero =>
    intro i hi
    obtain rfl : i = c := by omega
    exact ey_le i i (Nat.le_refl _) h
  | succ d ih =>
    intro i hi
    exact en_le c i (by omega) ⟨en_in (a + i) (by omega), en_in (b + i) (by omega), nm_r ((en_u (b + i) (en_g (a + i))).trans (ec_up hba i)) (nm_r (nI_1 i) (ih (i + 1) (by omega)))⟩
theorem xc_undoTexts_undoTexts {post : SX → Prop} {x1 x3 x4 : Int32} (a b c : Nat) (ha : a + c ≤ 256) (hb : b + c ≤ 256) (hba : b ≤ a) (h : post (f_width, f_historyCap, f_ringCap, f_length, f_cursor, f_historyCount, f_nav, f_draftLength, f_ringCount, f_yankIndex, f_undoDepth, f_mode, f_last, f_accepted, f_queryLength, f_match, f_matchStart, f_displayLength, f_displayCursor, f_terminalRow, f_terminalCol, a_buffer, a_history, a_historyLengths, a_draft, a_ring, a_ringLengths, ec_cp a_undoTexts a a_undoTexts b c, a_undoLengths, a_undoCursors, a_query, a_display, a_screen)) (h1 : x1 = nI a := by first | with_reducible rfl | (simp (disch := omega) only [nI_add, nI_1, en_m1, en_s1, pk_sub, pk_mul, en_32, en_a2, en_a3, en_p32, en_s32, en_p2, en_s2, en_s3] <;> exact congrArg nI (by omega)) | exact congrArg nI (by omega) | rfl) (h3 : x3 = nI b := by first | with_reducible rfl | (simp (disch := omega) only [nI_add, nI_1, en_m1, en_s1, pk_sub, pk_mul, en_32, en_a2, en_a3, en_p32, en_s32, en_p2, en_s2, en_s3] <;> exact congrArg nI (by omega)) | exact congrArg nI (by omega) | rfl) (h4 : x4 = nI c := by first | with_reducible rfl | (simp (disch := omega) only [nI_add, nI_1, en_m1, en_s1, pk_sub, pk_mul, en_32, en_a2, en_a3, en_p32, en_s32, en_p2, en_s2, en_s3] <;> exact congrArg nI (by omega)) | exact congrArg nI (by omega) | rfl) : wpX_copyCells__undoTexts_undoTexts post (f_width, f_historyCap, f_ringCap, f_length, f_cursor, f_historyCount, f_nav, f_draftLength, f_ringCount, f_yankIndex, f_undoDepth, f_mode, f_last, f_accepted, f_queryLength, f_match, f_matchStart, f_displayLength, f_displayCursor, f_terminalRow, f_terminalCol, a_buffer, a_history, a_historyLengths, a_draft, a_ring, a_ringLengths, a_undoTexts, a_undoLengths, a_undoCursors, a_query, a_display, a_screen) x1 x3 x4 := by
  subst h1 h3 h4
  refine ⟨c + 1, ?_⟩
  have := xc_undoTexts_undoTexts_l ha hb hba h c 0 (by omega)
  rw [ec_0] at this
  exact this
theorem xc_undoLengths_undoLengths_l {post : SX → Prop} {a b c : Nat} (ha : a + c ≤ 8) (hb : b + c ≤ 8) (hba : b ≤ a) (h : post (f_width, f_historyCap, f_ringCap, f_length, f_cursor, f_historyCount, f_nav, f_draftLength, f_ringCount, f_yankIndex, f_undoDepth, f_mode, f_last, f_accepted, f_queryLength, f_match, f_matchStart, f_displayLength, f_displayCursor, f_terminalRow, f_terminalCol, a_buffer, a_history, a_historyLengths, a_draft, a_ring, a_ringLengths, a_undoTexts, ec_cp a_undoLengths a a_undoLengths b c, a_undoCursors, a_query, a_display, a_screen)) : ∀ d i, i + d = c → wX_copyCells__undoLengths_undoLengths_3 post (nI a) (nI b) (nI c) f_width f_historyCap f_ringCap f_length f_cursor f_historyCount f_nav f_draftLength f_ringCount f_yankIndex f_undoDepth f_mode f_last f_accepted f_queryLength f_match f_matchStart f_displayLength f_displayCursor f_terminalRow f_terminalCol (d + 1) (nI i) a_buffer a_history a_historyLengths a_draft a_ring a_ringLengths a_undoTexts (ec_cp a_undoLengths a a_undoLengths b i) a_undoCursors a_query a_display a_screen := by
  intro d
  induction d with
  | zero =>
    intro i hi
    obtain rfl : i = c := by omega
    exact ey_le i i (Nat.le_refl _) h
  | succ d ih =>
    intro i hi
    exact en_le c i (by omega) ⟨en_in (a + i) (by omega), en_in (b + i) (by omega), nm_r ((en_u (b + i) (en_g (a + i))).trans (ec_up hba i)) (nm_r (nI_1 i) (ih (i + 1) (by omega)))⟩
theorem xc_undoLengths_undoLengths {post : SX → Prop} {x1 x3 x4 : Int32} (a b c : Nat) (ha : a + c ≤ 8) (hb : b + c ≤ 8) (hba : b ≤ a) (h : post (f_width, f_historyCap, f_ringCap, f_length, f_cursor, f_historyCount, f_nav, f_draftLength, f_ringCount, f_yankIndex, f_undoDepth, f_mode, f_last, f_accepted, f_queryLength, f_match, f_matchStart, f_displayLength, f_displayCursor, f_terminalRow, f_terminalCol, a_buffer, a_history, a_historyLengths, a_draft, a_ring, a_ringLengths, a_undoTexts, ec_cp a_undoLengths a a_undoLengths b c, a_undoCursors, a_query, a_display, a_screen)) (h1 : x1 = nI a := by first | with_reducible rfl | (simp (disch := omega) only [nI_add, nI_1, en_m1, en_s1, pk_sub, pk_mul, en_32, en_a2, en_a3, en_p32, en_s32, en_p2, en_s2, en_s3] <;> exact congrArg nI (by omega)) | exact congrArg nI (by omega) | rfl) (h3 : x3 = nI b := by first | with_reducible rfl | (simp (disch := omega) only [nI_add, nI_1, en_m1, en_s1, pk_sub, pk_mul, en_32, en_a2, en_a3, en_p32, en_s32, en_p2, en_s2, en_s3] <;> exact congrArg nI (by omega)) | exact congrArg nI (by omega) | rfl) (h4 : x4 = nI c := by first | with_reducible rfl | (simp (disch := omega) only [nI_add, nI_1, en_m1, en_s1, pk_sub, pk_mul, en_32, en_a2, en_a3, en_p32, en_s32, en_p2, en_s2, en_s3] <;> exact congrArg nI (by omega)) | exact congrArg nI (by omega) | rfl) : wpX_copyCells__undoLengths_undoLengths post (f_width, f_historyCap, f_ringCap, f_length, f_cursor, f_historyCount, f_nav, f_draftLength, f_ringCount, f_yankIndex, f_undoDepth, f_mode, f_last, f_accepted, f_queryLength, f_match, f_matchStart, f_displayLength, f_displayCursor, f_terminalRow, f_terminalCol, a_buffer, a_history, a_historyLengths, a_draft, a_ring, a_ringLengths, a_undoTexts, a_undoLengths, a_undoCursors, a_query, a_display, a_screen) x1 x3 x4 := by
  subst h1 h3 h4
  refine ⟨c + 1, ?_⟩
  have := xc_undoLengths_undoLengths_l ha hb hba h c 0 (by omega)
  rw [ec_0] at this
  exact this
theorem xc_undoCursors_undoCursors_l {post : SX → Prop} {a b c : Nat} (ha : a + c ≤ 8) (hb : b + c ≤ 8) (hba : b ≤ a) (h : post (f_width, f_historyCap, f_ringCap, f_length, f_cursor, f_historyCount, f_nav, f_draftLength, f_ringCount, f_yankIndex, f_undoDepth, f_mode, f_last, f_accepted, f_queryLength, f_match, f_matchStart, f_displayLength, f_displayCursor, f_terminalRow, f_terminalCol, a_buffer, a_history, a_historyLengths, a_draft, a_ring, a_ringLengths, a_undoTexts, a_undoLengths, ec_cp a_undoCursors a a_undoCursors b c, a_query, a_display, a_screen)) : ∀ d i, i + d = c → wX_copyCells__undoCursors_undoCursors_3 post (nI a) (nI b) (nI c) f_width f_historyCap f_ringCap f_length f_cursor f_historyCount f_nav f_draftLength f_ringCount f_yankIndex f_undoDepth f_mode f_last f_accepted f_queryLength f_match f_matchStart f_displayLength f_displayCursor f_terminalRow f_terminalCol (d + 1) (nI i) a_buffer a_history a_historyLengths a_draft a_ring a_ringLengths a_undoTexts a_undoLengths (ec_cp a_undoCursors a a_undoCursors b i) a_query a_display a_screen := by
  intro d
  induction d with
  | zero =>
    intro i hi
    obtain rfl : i = c := by omega
    exact ey_le i i (Nat.le_refl _) h
  | succ d ih =>
    intro i hi
    exact en_le c i (by omega) ⟨en_in (a + i) (by omega), en_in (b + i) (by omega), nm_r ((en_u (b + i) (en_g (a + i))).trans (ec_up hba i)) (nm_r (nI_1 i) (ih (i + 1) (by omega)))⟩
theorem xc_undoCursors_undoCursors {post : SX → Prop} {x1 x3 x4 : Int32} (a b c : Nat) (ha : a + c ≤ 8) (hb : b + c ≤ 8) (hba : b ≤ a) (h : post (f_width, f_historyCap, f_ringCap, f_length, f_cursor, f_historyCount, f_nav, f_draftLength, f_ringCount, f_yankIndex, f_undoDepth, f_mode, f_last, f_accepted, f_queryLength, f_match, f_matchStart, f_displayLength, f_displayCursor, f_terminalRow, f_terminalCol, a_buffer, a_history, a_historyLengths, a_draft, a_ring, a_ringLengths, a_undoTexts, a_undoLengths, ec_cp a_undoCursors a a_undoCursors b c, a_query, a_display, a_screen)) (h1 : x1 = nI a := by first | with_reducible rfl | (simp (disch := omega) only [nI_add, nI_1, en_m1, en_s1, pk_sub, pk_mul, en_32, en_a2, en_a3, en_p32, en_s32, en_p2, en_s2, en_s3] <;> exact congrArg nI (by omega)) | exact congrArg nI (by omega) | rfl) (h3 : x3 = nI b := by first | with_reducible rfl | (simp (disch := omega) only [nI_add, nI_1, en_m1, en_s1, pk_sub, pk_mul, en_32, en_a2, en_a3, en_p32, en_s32, en_p2, en_s2, en_s3] <;> exact congrArg nI (by omega)) | exact congrArg nI (by omega) | rfl) (h4 : x4 = nI c := by first | with_reducible rfl | (simp (disch := omega) only [nI_add, nI_1, en_m1, en_s1, pk_sub, pk_mul, en_32, en_a2, en_a3, en_p32, en_s32, en_p2, en_s2, en_s3] <;> exact congrArg nI (by omega)) | exact congrArg nI (by omega) | rfl) : wpX_copyCells__undoCursors_undoCursors post (f_width, f_historyCap, f_ringCap, f_length, f_cursor, f_historyCount, f_nav, f_draftLength, f_ringCount, f_yankIndex, f_undoDepth, f_mode, f_last, f_accepted, f_queryLength, f_match, f_matchStart, f_displayLength, f_displayCursor, f_terminalRow, f_terminalCol, a_buffer, a_history, a_historyLengths, a_draft, a_ring, a_ringLengths, a_undoTexts, a_undoLengths, a_undoCursors, a_query, a_display, a_screen) x1 x3 x4 := by
  subst h1 h3 h4
  refine ⟨c + 1, ?_⟩
  have := xc_undoCursors_undoCursors_l ha hb hba h c 0 (by omega)
  rw [ec_0] at this
  exact this
theorem xc_ring_buffer_l {post : SX → Prop} {a b c : Nat} (ha : a + c ≤ 128) (hb : b + c ≤ 32) (h : post (f_width, f_historyCap, f_ringCap, f_length, f_cursor, f_historyCount, f_nav, f_draftLength, f_ringCount, f_yankIndex, f_undoDepth, f_mode, f_last, f_accepted, f_queryLength, f_match, f_matchStart, f_displayLength, f_displayCursor, f_terminalRow, f_terminalCol, ec_cp a_ring a a_buffer b c, a_history, a_historyLengths, a_draft, a_ring, a_ringLengths, a_undoTexts, a_undoLengths, a_undoCursors, a_query, a_display, a_screen)) : ∀ d i, i + d = c → wX_copyCells__ring_buffer_3 post (nI a) (nI b) (nI c) f_width f_historyCap f_ringCap f_length f_cursor f_historyCount f_nav f_draftLength f_ringCount f_yankIndex f_undoDepth f_mode f_last f_accepted f_queryLength f_match f_matchStart f_displayLength f_displayCursor f_terminalRow f_terminalCol (d + 1) (nI i) (ec_cp a_ring a a_buffer b i) a_history a_historyLengths a_draft a_ring a_ringLengths a_undoTexts a_undoLengths a_undoCursors a_query a_display a_screen := by
  intro d
  induction d with
  | zero =>
    intro i hi
    obtain rfl : i = c := by omega
    exact ey_le i i (Nat.le_refl _) h
  | succ d ih =>
    intro i hi
    exact en_le c i (by omega) ⟨en_in (a + i) (by omega), en_in (b + i) (by omega), nm_r ((en_u (b + i) (en_g (a + i))).trans (ec_s a_ring a a_buffer b i)) (nm_r (nI_1 i) (ih (i + 1) (by omega)))⟩
theorem xc_ring_buffer {post : SX → Prop} {x1 x3 x4 : Int32} (a b c : Nat) (ha : a + c ≤ 128) (hb : b + c ≤ 32) (h : post (f_width, f_historyCap, f_ringCap, f_length, f_cursor, f_historyCount, f_nav, f_draftLength, f_ringCount, f_yankIndex, f_undoDepth, f_mode, f_last, f_accepted, f_queryLength, f_match, f_matchStart, f_displayLength, f_displayCursor, f_terminalRow, f_terminalCol, ec_cp a_ring a a_buffer b c, a_history, a_historyLengths, a_draft, a_ring, a_ringLengths, a_undoTexts, a_undoLengths, a_undoCursors, a_query, a_display, a_screen)) (h1 : x1 = nI a := by first | with_reducible rfl | (simp (disch := omega) only [nI_add, nI_1, en_m1, en_s1, pk_sub, pk_mul, en_32, en_a2, en_a3, en_p32, en_s32, en_p2, en_s2, en_s3] <;> exact congrArg nI (by omega)) | exact congrArg nI (by omega) | rfl) (h3 : x3 = nI b := by first | with_reducible rfl | (simp (disch := omega) only [nI_add, nI_1, en_m1, en_s1, pk_sub, pk_mul, en_32, en_a2, en_a3, en_p32, en_s32, en_p2, en_s2, en_s3] <;> exact congrArg nI (by omega)) | exact congrArg nI (by omega) | rfl) (h4 : x4 = nI c := by first | with_reducible rfl | (simp (disch := omega) only [nI_add, nI_1, en_m1, en_s1, pk_sub, pk_mul, en_32, en_a2, en_a3, en_p32, en_s32, en_p2, en_s2, en_s3] <;> exact congrArg nI (by omega)) | exact congrArg nI (by omega) | rfl) : wpX_copyCells__ring_buffer post (f_width, f_historyCap, f_ringCap, f_length, f_cursor, f_historyCount, f_nav, f_draftLength, f_ringCount, f_yankIndex, f_undoDepth, f_mode, f_last, f_accepted, f_queryLength, f_match, f_matchStart, f_displayLength, f_displayCursor, f_terminalRow, f_terminalCol, a_buffer, a_history, a_historyLengths, a_draft, a_ring, a_ringLengths, a_undoTexts, a_undoLengths, a_undoCursors, a_query, a_display, a_screen) x1 x3 x4 := by
  subst h1 h3 h4
  refine ⟨c + 1, ?_⟩
  have := xc_ring_buffer_l ha hb h c 0 (by omega)
  rw [ec_0] at this
  exact this
theorem xc_undoTexts_buffer_l {post : SX → Prop} {a b c : Nat} (ha : a + c ≤ 256) (hb : b + c ≤ 32) (h : post (f_width, f_historyCap, f_ringCap, f_length, f_cursor, f_historyCount, f_nav, f_draftLength, f_ringCount, f_yankIndex, f_undoDepth, f_mode, f_last, f_accepted, f_queryLength, f_match, f_matchStart, f_displayLength, f_displayCursor, f_terminalRow, f_terminalCol, ec_cp a_undoTexts a a_buffer b c, a_history, a_historyLengths, a_draft, a_ring, a_ringLengths, a_undoTexts, a_undoLengths, a_undoCursors, a_query, a_display, a_screen)) : ∀ d i, i + d = c → wX_copyCells__undoTexts_buffer_3 post (nI a) (nI b) (nI c) f_width f_historyCap f_ringCap f_length f_cursor f_historyCount f_nav f_draftLength f_ringCount f_yankIndex f_undoDepth f_mode f_last f_accepted f_queryLength f_match f_matchStart f_displayLength f_displayCursor f_terminalRow f_terminalCol (d + 1) (nI i) (ec_cp a_undoTexts a a_buffer b i) a_history a_historyLengths a_draft a_ring a_ringLengths a_undoTexts a_undoLengths a_undoCursors a_query a_display a_screen := by
  intro d
  induction d with
  | zero =>
    intro i hi
    obtain rfl : i = c := by omega
    exact ey_le i i (Nat.le_refl _) h
  | succ d ih =>
    intro i hi
    exact en_le c i (by omega) ⟨en_in (a + i) (by omega), en_in (b + i) (by omega), nm_r ((en_u (b + i) (en_g (a + i))).trans (ec_s a_undoTexts a a_buffer b i)) (nm_r (nI_1 i) (ih (i + 1) (by omega)))⟩
theorem xc_undoTexts_buffer {post : SX → Prop} {x1 x3 x4 : Int32} (a b c : Nat) (ha : a + c ≤ 256) (hb : b + c ≤ 32) (h : post (f_width, f_historyCap, f_ringCap, f_length, f_cursor, f_historyCount, f_nav, f_draftLength, f_ringCount, f_yankIndex, f_undoDepth, f_mode, f_last, f_accepted, f_queryLength, f_match, f_matchStart, f_displayLength, f_displayCursor, f_terminalRow, f_terminalCol, ec_cp a_undoTexts a a_buffer b c, a_history, a_historyLengths, a_draft, a_ring, a_ringLengths, a_undoTexts, a_undoLengths, a_undoCursors, a_query, a_display, a_screen)) (h1 : x1 = nI a := by first | with_reducible rfl | (simp (disch := omega) only [nI_add, nI_1, en_m1, en_s1, pk_sub, pk_mul, en_32, en_a2, en_a3, en_p32, en_s32, en_p2, en_s2, en_s3] <;> exact congrArg nI (by omega)) | exact congrArg nI (by omega) | rfl) (h3 : x3 = nI b := by first | with_reducible rfl | (simp (disch := omega) only [nI_add, nI_1, en_m1, en_s1, pk_sub, pk_mul, en_32, en_a2, en_a3, en_p32, en_s32, en_p2, en_s2, en_s3] <;> exact congrArg nI (by omega)) | exact congrArg nI (by omega) | rfl) (h4 : x4 = nI c := by first | with_reducible rfl | (simp (disch := omega) only [nI_add, nI_1, en_m1, en_s1, pk_sub, pk_mul, en_32, en_a2, en_a3, en_p32, en_s32, en_p2, en_s2, en_s3] <;> exact congrArg nI (by omega)) | exact congrArg nI (by omega) | rfl) : wpX_copyCells__undoTexts_buffer post (f_width, f_historyCap, f_ringCap, f_length, f_cursor, f_historyCount, f_nav, f_draftLength, f_ringCount, f_yankIndex, f_undoDepth, f_mode, f_last, f_accepted, f_queryLength, f_match, f_matchStart, f_displayLength, f_displayCursor, f_terminalRow, f_terminalCol, a_buffer, a_history, a_historyLengths, a_draft, a_ring, a_ringLengths, a_undoTexts, a_undoLengths, a_undoCursors, a_query, a_display, a_screen) x1 x3 x4 := by
  subst h1 h3 h4
  refine ⟨c + 1, ?_⟩
  have := xc_undoTexts_buffer_l ha hb h c 0 (by omega)
  rw [ec_0] at this
  exact this
theorem xc_buffer_draft_l {post : SX → Prop} {a b c : Nat} (ha : a + c ≤ 32) (hb : b + c ≤ 32) (h : post (f_width, f_historyCap, f_ringCap, f_length, f_cursor, f_historyCount, f_nav, f_draftLength, f_ringCount, f_yankIndex, f_undoDepth, f_mode, f_last, f_accepted, f_queryLength, f_match, f_matchStart, f_displayLength, f_displayCursor, f_terminalRow, f_terminalCol, a_buffer, a_history, a_historyLengths, ec_cp a_buffer a a_draft b c, a_ring, a_ringLengths, a_undoTexts, a_undoLengths, a_undoCursors, a_query, a_display, a_screen)) : ∀ d i, i + d = c → wX_copyCells__buffer_draft_3 post (nI a) (nI b) (nI c) f_width f_historyCap f_ringCap f_length f_cursor f_historyCount f_nav f_draftLength f_ringCount f_yankIndex f_undoDepth f_mode f_last f_accepted f_queryLength f_match f_matchStart f_displayLength f_displayCursor f_terminalRow f_terminalCol (d + 1) (nI i) a_buffer a_history a_historyLengths (ec_cp a_buffer a a_draft b i) a_ring a_ringLengths a_undoTexts a_undoLengths a_undoCursors a_query a_display a_screen := by
  intro d
  induction d with
  | zero =>
    intro i hi
    obtain rfl : i = c := by omega
    exact ey_le i i (Nat.le_refl _) h
  | succ d ih =>
    intro i hi
    exact en_le c i (by omega) ⟨en_in (a + i) (by omega), en_in (b + i) (by omega), nm_r ((en_u (b + i) (en_g (a + i))).trans (ec_s a_buffer a a_draft b i)) (nm_r (nI_1 i) (ih (i + 1) (by omega)))⟩
theorem xc_buffer_draft {post : SX → Prop} {x1 x3 x4 : Int32} (a b c : Nat) (ha : a + c ≤ 32) (hb : b + c ≤ 32) (h : post (f_width, f_historyCap, f_ringCap, f_length, f_cursor, f_historyCount, f_nav, f_draftLength, f_ringCount, f_yankIndex, f_undoDepth, f_mode, f_last, f_accepted, f_queryLength, f_match, f_matchStart, f_displayLength, f_displayCursor, f_terminalRow, f_terminalCol, a_buffer, a_history, a_historyLengths, ec_cp a_buffer a a_draft b c, a_ring, a_ringLengths, a_undoTexts, a_undoLengths, a_undoCursors, a_query, a_display, a_screen)) (h1 : x1 = nI a := by first | with_reducible rfl | (simp (disch := omega) only [nI_add, nI_1, en_m1, en_s1, pk_sub, pk_mul, en_32, en_a2, en_a3, en_p32, en_s32, en_p2, en_s2, en_s3] <;> exact congrArg nI (by omega)) | exact congrArg nI (by omega) | rfl) (h3 : x3 = nI b := by first | with_reducible rfl | (simp (disch := omega) only [nI_add, nI_1, en_m1, en_s1, pk_sub, pk_mul, en_32, en_a2, en_a3, en_p32, en_s32, en_p2, en_s2, en_s3] <;> exact congrArg nI (by omega)) | exact congrArg nI (by omega) | rfl) (h4 : x4 = nI c := by first | with_reducible rfl | (simp (disch := omega) only [nI_add, nI_1, en_m1, en_s1, pk_sub, pk_mul, en_32, en_a2, en_a3, en_p32, en_s32, en_p2, en_s2, en_s3] <;> exact congrArg nI (by omega)) | exact congrArg nI (by omega) | rfl) : wpX_copyCells__buffer_draft post (f_width, f_historyCap, f_ringCap, f_length, f_cursor, f_historyCount, f_nav, f_draftLength, f_ringCount, f_yankIndex, f_undoDepth, f_mode, f_last, f_accepted, f_queryLength, f_match, f_matchStart, f_displayLength, f_displayCursor, f_terminalRow, f_terminalCol, a_buffer, a_history, a_historyLengths, a_draft, a_ring, a_ringLengths, a_undoTexts, a_undoLengths, a_undoCursors, a_query, a_display, a_screen) x1 x3 x4 := by
  subst h1 h3 h4
  refine ⟨c + 1, ?_⟩
  have := xc_buffer_draft_l ha hb h c 0 (by omega)
  rw [ec_0] at this
  exact this
theorem xc_draft_buffer_l {post : SX → Prop} {a b c : Nat} (ha : a + c ≤ 32) (hb : b + c ≤ 32) (h : post (f_width, f_historyCap, f_ringCap, f_length, f_cursor, f_historyCount, f_nav, f_draftLength, f_ringCount, f_yankIndex, f_undoDepth, f_mode, f_last, f_accepted, f_queryLength, f_match, f_matchStart, f_displayLength, f_displayCursor, f_terminalRow, f_terminalCol, ec_cp a_draft a a_buffer b c, a_history, a_historyLengths, a_draft, a_ring, a_ringLengths, a_undoTexts, a_undoLengths, a_undoCursors, a_query, a_display, a_screen)) : ∀ d i, i + d = c → wX_copyCells__draft_buffer_3 post (nI a) (nI b) (nI c) f_width f_historyCap f_ringCap f_length f_cursor f_historyCount f_nav f_draftLength f_ringCount f_yankIndex f_undoDepth f_mode f_last f_accepted f_queryLength f_match f_matchStart f_displayLength f_displayCursor f_terminalRow f_terminalCol (d + 1) (nI i) (ec_cp a_draft a a_buffer b i) a_history a_historyLengths a_draft a_ring a_ringLengths a_undoTexts a_undoLengths a_undoCursors a_query a_display a_screen := by
  intro d
  induction d with
  | zero =>
    intro i hi
    obtain rfl : i = c := by omega
    exact ey_le i i (Nat.le_refl _) h
  | succ d ih =>
    intro i hi
    exact en_le c i (by omega) ⟨en_in (a + i) (by omega), en_in (b + i) (by omega), nm_r ((en_u (b + i) (en_g (a + i))).trans (ec_s a_draft a a_buffer b i)) (nm_r (nI_1 i) (ih (i + 1) (by omega)))⟩
theorem xc_draft_buffer {post : SX → Prop} {x1 x3 x4 : Int32} (a b c : Nat) (ha : a + c ≤ 32) (hb : b + c ≤ 32) (h : post (f_width, f_historyCap, f_ringCap, f_length, f_cursor, f_historyCount, f_nav, f_draftLength, f_ringCount, f_yankIndex, f_undoDepth, f_mode, f_last, f_accepted, f_queryLength, f_match, f_matchStart, f_displayLength, f_displayCursor, f_terminalRow, f_terminalCol, ec_cp a_draft a a_buffer b c, a_history, a_historyLengths, a_draft, a_ring, a_ringLengths, a_undoTexts, a_undoLengths, a_undoCursors, a_query, a_display, a_screen)) (h1 : x1 = nI a := by first | with_reducible rfl | (simp (disch := omega) only [nI_add, nI_1, en_m1, en_s1, pk_sub, pk_mul, en_32, en_a2, en_a3, en_p32, en_s32, en_p2, en_s2, en_s3] <;> exact congrArg nI (by omega)) | exact congrArg nI (by omega) | rfl) (h3 : x3 = nI b := by first | with_reducible rfl | (simp (disch := omega) only [nI_add, nI_1, en_m1, en_s1, pk_sub, pk_mul, en_32, en_a2, en_a3, en_p32, en_s32, en_p2, en_s2, en_s3] <;> exact congrArg nI (by omega)) | exact congrArg nI (by omega) | rfl) (h4 : x4 = nI c := by first | with_reducible rfl | (simp (disch := omega) only [nI_add, nI_1, en_m1, en_s1, pk_sub, pk_mul, en_32, en_a2, en_a3, en_p32, en_s32, en_p2, en_s2, en_s3] <;> exact congrArg nI (by omega)) | exact congrArg nI (by omega) | rfl) : wpX_copyCells__draft_buffer post (f_width, f_historyCap, f_ringCap, f_length, f_cursor, f_historyCount, f_nav, f_draftLength, f_ringCount, f_yankIndex, f_undoDepth, f_mode, f_last, f_accepted, f_queryLength, f_match, f_matchStart, f_displayLength, f_displayCursor, f_terminalRow, f_terminalCol, a_buffer, a_history, a_historyLengths, a_draft, a_ring, a_ringLengths, a_undoTexts, a_undoLengths, a_undoCursors, a_query, a_display, a_screen) x1 x3 x4 := by
  subst h1 h3 h4
  refine ⟨c + 1, ?_⟩
  have := xc_draft_buffer_l ha hb h c 0 (by omega)
  rw [ec_0] at this
  exact this
theorem xc_buffer_history_l {post : SX → Prop} {a b c : Nat} (ha : a + c ≤ 32) (hb : b + c ≤ 256) (h : post (f_width, f_historyCap, f_ringCap, f_length, f_cursor, f_historyCount, f_nav, f_draftLength, f_ringCount, f_yankIndex, f_undoDepth, f_mode, f_last, f_accepted, f_queryLength, f_match, f_matchStart, f_displayLength, f_displayCursor, f_terminalRow, f_terminalCol, a_buffer, ec_cp a_buffer a a_history b c, a_historyLengths, a_draft, a_ring, a_ringLengths, a_undoTexts, a_undoLengths, a_undoCursors, a_query, a_display, a_screen)) : ∀ d i, i + d = c → wX_copyCells__buffer_history_3 post (nI a) (nI b) (nI c) f_width f_historyCap f_ringCap f_length f_cursor f_historyCount f_nav f_draftLength f_ringCount f_yankIndex f_undoDepth f_mode f_last f_accepted f_queryLength f_match f_matchStart f_displayLength f_displayCursor f_terminalRow f_terminalCol (d + 1) (nI i) a_buffer (ec_cp a_buffer a a_history b i) a_historyLengths a_draft a_ring a_ringLengths a_undoTexts a_undoLengths a_undoCursors a_query a_display a_screen := by
  intro d
  induction d with
  | zero =>
    intro i hi
    obtain rfl : i = c := by omega
    exact ey_le i i (Nat.le_refl _) h
  | succ d ih =>
    intro i hi
    exact en_le c i (by omega) ⟨en_in (a + i) (by omega), en_in (b + i) (by omega), nm_r ((en_u (b + i) (en_g (a + i))).trans (ec_s a_buffer a a_history b i)) (nm_r (nI_1 i) (ih (i + 1) (by omega)))⟩
theorem xc_buffer_history {post : SX → Prop} {x1 x3 x4 : Int32} (a b c : Nat) (ha : a + c ≤ 32) (hb : b + c ≤ 256) (h : post (f_width, f_historyCap, f_ringCap, f_length, f_cursor, f_historyCount, f_nav, f_draftLength, f_ringCount, f_yankIndex, f_undoDepth, f_mode, f_last, f_accepted, f_queryLength, f_match, f_matchStart, f_displayLength, f_displayCursor, f_terminalRow, f_terminalCol, a_buffer, ec_cp a_buffer a a_history b c, a_historyLengths, a_draft, a_ring, a_ringLengths, a_undoTexts, a_undoLengths, a_undoCursors, a_query, a_display, a_screen)) (h1 : x1 = nI a := by first | with_reducible rfl | (simp (disch := omega) only [nI_add, nI_1, en_m1, en_s1, pk_sub, pk_mul, en_32, en_a2, en_a3, en_p32, en_s32, en_p2, en_s2, en_s3] <;> exact congrArg nI (by omega)) | exact congrArg nI (by omega) | rfl) (h3 : x3 = nI b := by first | with_reducible rfl | (simp (disch := omega) only [nI_add, nI_1, en_m1, en_s1, pk_sub, pk_mul, en_32, en_a2, en_a3, en_p32, en_s32, en_p2, en_s2, en_s3] <;> exact congrArg nI (by omega)) | exact congrArg nI (by omega) | rfl) (h4 : x4 = nI c := by first | with_reducible rfl | (simp (disch := omega) only [nI_add, nI_1, en_m1, en_s1, pk_sub, pk_mul, en_32, en_a2, en_a3, en_p32, en_s32, en_p2, en_s2, en_s3] <;> exact congrArg nI (by omega)) | exact congrArg nI (by omega) | rfl) : wpX_copyCells__buffer_history post (f_width, f_historyCap, f_ringCap, f_length, f_cursor, f_historyCount, f_nav, f_draftLength, f_ringCount, f_yankIndex, f_undoDepth, f_mode, f_last, f_accepted, f_queryLength, f_match, f_matchStart, f_displayLength, f_displayCursor, f_terminalRow, f_terminalCol, a_buffer, a_history, a_historyLengths, a_draft, a_ring, a_ringLengths, a_undoTexts, a_undoLengths, a_undoCursors, a_query, a_display, a_screen) x1 x3 x4 := by
  subst h1 h3 h4
  refine ⟨c + 1, ?_⟩
  have := xc_buffer_history_l ha hb h c 0 (by omega)
  rw [ec_0] at this
  exact this
theorem xc_history_history_l {post : SX → Prop} {a b c : Nat} (ha : a + c ≤ 256) (hb : b + c ≤ 256) (hba : b ≤ a) (h : post (f_width, f_historyCap, f_ringCap, f_length, f_cursor, f_historyCount, f_nav, f_draftLength, f_ringCount, f_yankIndex, f_undoDepth, f_mode, f_last, f_accepted, f_queryLength, f_match, f_matchStart, f_displayLength, f_displayCursor, f_terminalRow, f_terminalCol, a_buffer, ec_cp a_history a a_history b c, a_historyLengths, a_draft, a_ring, a_ringLengths, a_undoTexts, a_undoLengths, a_undoCursors, a_query, a_display, a_screen)) : ∀ d i, i + d = c → wX_copyCells__history_history_3 post (nI a) (nI b) (nI c) f_width f_historyCap f_ringCap f_length f_cursor f_historyCount f_nav f_draftLength f_ringCount f_yankIndex f_undoDepth f_mode f_last f_accepted f_queryLength f_match f_matchStart f_displayLength f_displayCursor f_terminalRow f_terminalCol (d + 1) (nI i) a_buffer (ec_cp a_history a a_history b i) a_historyLengths a_draft a_ring a_ringLengths a_undoTexts a_undoLengths a_undoCursors a_query a_display a_screen := by
  intro d
  induction d with
  | zero =>
    intro i hi
    obtain rfl : i = c := by omega
    exact ey_le i i (Nat.le_refl _) h
  | succ d ih =>
    intro i hi
    exact en_le c i (by omega) ⟨en_in (a + i) (by omega), en_in (b + i) (by omega), nm_r ((en_u (b + i) (en_g (a + i))).trans (ec_up hba i)) (nm_r (nI_1 i) (ih (i + 1) (by omega)))⟩
theorem xc_history_history {post : SX → Prop} {x1 x3 x4 : Int32} (a b c : Nat) (ha : a + c ≤ 256) (hb : b + c ≤ 256) (hba : b ≤ a) (h : post (f_width, f_historyCap, f_ringCap, f_length, f_cursor, f_historyCount, f_nav, f_draftLength, f_ringCount, f_yankIndex, f_undoDepth, f_mode, f_last, f_accepted, f_queryLength, f_match, f_matchStart, f_displayLength, f_displayCursor, f_terminalRow, f_terminalCol, a_buffer, ec_cp a_history a a_history b c, a_historyLengths, a_draft, a_ring, a_ringLengths, a_undoTexts, a_undoLengths, a_undoCursors, a_query, a_display, a_screen)) (h1 : x1 = nI a := by first | with_reducible rfl | (simp (disch := omega) only [nI_add, nI_1, en_m1, en_s1, pk_sub, pk_mul, en_32, en_a2, en_a3, en_p32, en_s32, en_p2, en_s2, en_s3] <;> exact congrArg nI (by omega)) | exact congrArg nI (by omega) | rfl) (h3 : x3 = nI b := by first | with_reducible rfl | (simp (disch := omega) only [nI_add, nI_1, en_m1, en_s1, pk_sub, pk_mul, en_32, en_a2, en_a3, en_p32, en_s32, en_p2, en_s2, en_s3] <;> exact congrArg nI (by omega)) | exact congrArg nI (by omega) | rfl) (h4 : x4 = nI c := by first | with_reducible rfl | (simp (disch := omega) only [nI_add, nI_1, en_m1, en_s1, pk_sub, pk_mul, en_32, en_a2, en_a3, en_p32, en_s32, en_p2, en_s2, en_s3] <;> exact congrArg nI (by omega)) | exact congrArg nI (by omega) | rfl) : wpX_copyCells__history_history post (f_width, f_historyCap, f_ringCap, f_length, f_cursor, f_historyCount, f_nav, f_draftLength, f_ringCount, f_yankIndex, f_undoDepth, f_mode, f_last, f_accepted, f_queryLength, f_match, f_matchStart, f_displayLength, f_displayCursor, f_terminalRow, f_terminalCol, a_buffer, a_history, a_historyLengths, a_draft, a_ring, a_ringLengths, a_undoTexts, a_undoLengths, a_undoCursors, a_query, a_display, a_screen) x1 x3 x4 := by
  subst h1 h3 h4
  refine ⟨c + 1, ?_⟩
  have := xc_history_history_l ha hb hba h c 0 (by omega)
  rw [ec_0] at this
  exact this
theorem xc_historyLengths_historyLengths_l {post : SX → Prop} {a b c : Nat} (ha : a + c ≤ 8) (hb : b + c ≤ 8) (hba : b ≤ a) (h : post (f_width, f_historyCap, f_ringCap, f_length, f_cursor, f_historyCount, f_nav, f_draftLength, f_ringCount, f_yankIndex, f_undoDepth, f_mode, f_last, f_accepted, f_queryLength, f_match, f_matchStart, f_displayLength, f_displayCursor, f_terminalRow, f_terminalCol, a_buffer, a_history, ec_cp a_historyLengths a a_historyLengths b c, a_draft, a_ring, a_ringLengths, a_undoTexts, a_undoLengths, a_undoCursors, a_query, a_display, a_screen)) : ∀ d i, i + d = c → wX_copyCells__historyLengths_historyLengths_3 post (nI a) (nI b) (nI c) f_width f_historyCap f_ringCap f_length f_cursor f_historyCount f_nav f_draftLength f_ringCount f_yankIndex f_undoDepth f_mode f_last f_accepted f_queryLength f_match f_matchStart f_displayLength f_displayCursor f_terminalRow f_terminalCol (d + 1) (nI i) a_buffer a_history (ec_cp a_historyLengths a a_historyLengths b i) a_draft a_ring a_ringLengths a_undoTexts a_undoLengths a_undoCursors a_query a_display a_screen := by
  intro d
  induction d with
  | zero =>
    intro i hi
    obtain rfl : i = c := by omega
    exact ey_le i i (Nat.le_refl _) h
  | succ d ih =>
    intro i hi
    exact en_le c i (by omega) ⟨en_in (a + i) (by omega), en_in (b + i) (by omega), nm_r ((en_u (b + i) (en_g (a + i))).trans (ec_up hba i)) (nm_r (nI_1 i) (ih (i + 1) (by omega)))⟩
theorem xc_historyLengths_historyLengths {post : SX → Prop} {x1 x3 x4 : Int32} (a b c : Nat) (ha : a + c ≤ 8) (hb : b + c ≤ 8) (hba : b ≤ a) (h : post (f_width, f_historyCap, f_ringCap, f_length, f_cursor, f_historyCount, f_nav, f_draftLength, f_ringCount, f_yankIndex, f_undoDepth, f_mode, f_last, f_accepted, f_queryLength, f_match, f_matchStart, f_displayLength, f_displayCursor, f_terminalRow, f_terminalCol, a_buffer, a_history, ec_cp a_historyLengths a a_historyLengths b c, a_draft, a_ring, a_ringLengths, a_undoTexts, a_undoLengths, a_undoCursors, a_query, a_display, a_screen)) (h1 : x1 = nI a := by first | with_reducible rfl | (simp (disch := omega) only [nI_add, nI_1, en_m1, en_s1, pk_sub, pk_mul, en_32, en_a2, en_a3, en_p32, en_s32, en_p2, en_s2, en_s3] <;> exact congrArg nI (by omega)) | exact congrArg nI (by omega) | rfl) (h3 : x3 = nI b := by first | with_reducible rfl | (simp (disch := omega) only [nI_add, nI_1, en_m1, en_s1, pk_sub, pk_mul, en_32, en_a2, en_a3, en_p32, en_s32, en_p2, en_s2, en_s3] <;> exact congrArg nI (by omega)) | exact congrArg nI (by omega) | rfl) (h4 : x4 = nI c := by first | with_reducible rfl | (simp (disch := omega) only [nI_add, nI_1, en_m1, en_s1, pk_sub, pk_mul, en_32, en_a2, en_a3, en_p32, en_s32, en_p2, en_s2, en_s3] <;> exact congrArg nI (by omega)) | exact congrArg nI (by omega) | rfl) : wpX_copyCells__historyLengths_historyLengths post (f_width, f_historyCap, f_ringCap, f_length, f_cursor, f_historyCount, f_nav, f_draftLength, f_ringCount, f_yankIndex, f_undoDepth, f_mode, f_last, f_accepted, f_queryLength, f_match, f_matchStart, f_displayLength, f_displayCursor, f_terminalRow, f_terminalCol, a_buffer, a_history, a_historyLengths, a_draft, a_ring, a_ringLengths, a_undoTexts, a_undoLengths, a_undoCursors, a_query, a_display, a_screen) x1 x3 x4 := by
  subst h1 h3 h4
  refine ⟨c + 1, ?_⟩
  have := xc_historyLengths_historyLengths_l ha hb hba h c 0 (by omega)
  rw [ec_0] at this
  exact this
theorem xc_ring_ring_l {post : SX → Prop} {a b c : Nat} (ha : a + c ≤ 128) (hb : b + c ≤ 128) (hba : b ≤ a) (h : post (f_width, f_historyCap, f_ringCap, f_length, f_cursor, f_historyCount, f_nav, f_draftLength, f_ringCount, f_yankIndex, f_undoDepth, f_mode, f_last, f_accepted, f_queryLength, f_match, f_matchStart, f_displayLength, f_displayCursor, f_terminalRow, f_terminalCol, a_buffer, a_history, a_historyLengths, a_draft, ec_cp a_ring a a_ring b c, a_ringLengths, a_undoTexts, a_undoLengths, a_undoCursors, a_query, a_display, a_screen)) : ∀ d i, i + d = c → wX_copyCells__ring_ring_3 post (nI a) (nI b) (nI c) f_width f_historyCap f_ringCap f_length f_cursor f_historyCount f_nav f_draftLength f_ringCount f_yankIndex f_undoDepth f_mode f_last f_accepted f_queryLength f_match f_matchStart f_displayLength f_displayCursor f_terminalRow f_terminalCol (d + 1) (nI i) a_buffer a_history a_historyLengths a_draft (ec_cp a_ring a a_ring b i) a_ringLengths a_undoTexts a_undoLengths a_undoCursors a_query a_display a_screen := by
  intro d
  induction d with
  | zero =>
    intro i hi
    obtain rfl : i = c := by omega
    exact ey_le i i (Nat.le_refl _) h
  | succ d ih =>
    intro i hi
    exact en_le c i (by omega) ⟨en_in (a + i) (by omega), en_in (b + i) (by omega), nm_r ((en_u (b + i) (en_g (a + i))).trans (ec_up hba i)) (nm_r (nI_1 i) (ih (i + 1) (by omega)))⟩
theorem xc_ring_ring {post : SX → Prop} {x1 x3 x4 : Int32} (a b c : Nat) (ha : a + c ≤ 128) (hb : b + c ≤ 128) (hba : b ≤ a) (h : post (f_width, f_historyCap, f_ringCap, f_length, f_cursor, f_historyCount, f_nav, f_draftLength, f_ringCount, f_yankIndex, f_undoDepth, f_mode, f_last, f_accepted, f_queryLength, f_match, f_matchStart, f_displayLength, f_displayCursor, f_terminalRow, f_terminalCol, a_buffer, a_history, a_historyLengths, a_draft, ec_cp a_ring a a_ring b c, a_ringLengths, a_undoTexts, a_undoLengths, a_undoCursors, a_query, a_display, a_screen)) (h1 : x1 = nI a := by first | with_reducible rfl | (simp (disch := omega) only [nI_add, nI_1, en_m1, en_s1, pk_sub, pk_mul, en_32, en_a2, en_a3, en_p32, en_s32, en_p2, en_s2, en_s3] <;> exact congrArg nI (by omega)) | exact congrArg nI (by omega) | rfl) (h3 : x3 = nI b := by first | with_reducible rfl | (simp (disch := omega) only [nI_add, nI_1, en_m1, en_s1, pk_sub, pk_mul, en_32, en_a2, en_a3, en_p32, en_s32, en_p2, en_s2, en_s3] <;> exact congrArg nI (by omega)) | exact congrArg nI (by omega) | rfl) (h4 : x4 = nI c := by first | with_reducible rfl | (simp (disch := omega) only [nI_add, nI_1, en_m1, en_s1, pk_sub, pk_mul, en_32, en_a2, en_a3, en_p32, en_s32, en_p2, en_s2, en_s3] <;> exact congrArg nI (by omega)) | exact congrArg nI (by omega) | rfl) : wpX_copyCells__ring_ring post (f_width, f_historyCap, f_ringCap, f_length, f_cursor, f_historyCount, f_nav, f_draftLength, f_ringCount, f_yankIndex, f_undoDepth, f_mode, f_last, f_accepted, f_queryLength, f_match, f_matchStart, f_displayLength, f_displayCursor, f_terminalRow, f_terminalCol, a_buffer, a_history, a_historyLengths, a_draft, a_ring, a_ringLengths, a_undoTexts, a_undoLengths, a_undoCursors, a_query, a_display, a_screen) x1 x3 x4 := by
  subst h1 h3 h4
  refine ⟨c + 1, ?_⟩
  have := xc_ring_ring_l ha hb hba h c 0 (by omega)
  rw [ec_0] at this
  exact this
theorem xc_ringLengths_ringLengths_l {post : SX → Prop} {a b c : Nat} (ha : a + c ≤ 4) (hb : b + c ≤ 4) (hba : b ≤ a) (h : post (f_width, f_historyCap, f_ringCap, f_length, f_cursor, f_historyCount, f_nav, f_draftLength, f_ringCount, f_yankIndex, f_undoDepth, f_mode, f_last, f_accepted, f_queryLength, f_match, f_matchStart, f_displayLength, f_displayCursor, f_terminalRow, f_terminalCol, a_buffer, a_history, a_historyLengths, a_draft, a_ring, ec_cp a_ringLengths a a_ringLengths b c, a_undoTexts, a_undoLengths, a_undoCursors, a_query, a_display, a_screen)) : ∀ d i, i + d = c → wX_copyCells__ringLengths_ringLengths_3 post (nI a) (nI b) (nI c) f_width f_historyCap f_ringCap f_length f_cursor f_historyCount f_nav f_draftLength f_ringCount f_yankIndex f_undoDepth f_mode f_last f_accepted f_queryLength f_match f_matchStart f_displayLength f_displayCursor f_terminalRow f_terminalCol (d + 1) (nI i) a_buffer a_history a_historyLengths a_draft a_ring (ec_cp a_ringLengths a a_ringLengths b i) a_undoTexts a_undoLengths a_undoCursors a_query a_display a_screen := by
  intro d
  induction d with
  | zero =>
    intro i hi
    obtain rfl : i = c := by omega
    exact ey_le i i (Nat.le_refl _) h
  | succ d ih =>
    intro i hi
    exact en_le c i (by omega) ⟨en_in (a + i) (by omega), en_in (b + i) (by omega), nm_r ((en_u (b + i) (en_g (a + i))).trans (ec_up hba i)) (nm_r (nI_1 i) (ih (i + 1) (by omega)))⟩
theorem xc_ringLengths_ringLengths {post : SX → Prop} {x1 x3 x4 : Int32} (a b c : Nat) (ha : a + c ≤ 4) (hb : b + c ≤ 4) (hba : b ≤ a) (h : post (f_width, f_historyCap, f_ringCap, f_length, f_cursor, f_historyCount, f_nav, f_draftLength, f_ringCount, f_yankIndex, f_undoDepth, f_mode, f_last, f_accepted, f_queryLength, f_match, f_matchStart, f_displayLength, f_displayCursor, f_terminalRow, f_terminalCol, a_buffer, a_history, a_historyLengths, a_draft, a_ring, ec_cp a_ringLengths a a_ringLengths b c, a_undoTexts, a_undoLengths, a_undoCursors, a_query, a_display, a_screen)) (h1 : x1 = nI a := by first | with_reducible rfl | (simp (disch := omega) only [nI_add, nI_1, en_m1, en_s1, pk_sub, pk_mul, en_32, en_a2, en_a3, en_p32, en_s32, en_p2, en_s2, en_s3] <;> exact congrArg nI (by omega)) | exact congrArg nI (by omega) | rfl) (h3 : x3 = nI b := by first | with_reducible rfl | (simp (disch := omega) only [nI_add, nI_1, en_m1, en_s1, pk_sub, pk_mul, en_32, en_a2, en_a3, en_p32, en_s32, en_p2, en_s2, en_s3] <;> exact congrArg nI (by omega)) | exact congrArg nI (by omega) | rfl) (h4 : x4 = nI c := by first | with_reducible rfl | (simp (disch := omega) only [nI_add, nI_1, en_m1, en_s1, pk_sub, pk_mul, en_32, en_a2, en_a3, en_p32, en_s32, en_p2, en_s2, en_s3] <;> exact congrArg nI (by omega)) | exact congrArg nI (by omega) | rfl) : wpX_copyCells__ringLengths_ringLengths post (f_width, f_historyCap, f_ringCap, f_length, f_cursor, f_historyCount, f_nav, f_draftLength, f_ringCount, f_yankIndex, f_undoDepth, f_mode, f_last, f_accepted, f_queryLength, f_match, f_matchStart, f_displayLength, f_displayCursor, f_terminalRow, f_terminalCol, a_buffer, a_history, a_historyLengths, a_draft, a_ring, a_ringLengths, a_undoTexts, a_undoLengths, a_undoCursors, a_query, a_display, a_screen) x1 x3 x4 := by
  subst h1 h3 h4
  refine ⟨c + 1, ?_⟩
  have := xc_ringLengths_ringLengths_l ha hb hba h c 0 (by omega)
  rw [ec_0] at this
  exact this
theorem xc_buffer_ring_l {post : SX → Prop} {a b c : Nat} (ha : a + c ≤ 32) (hb : b + c ≤ 128) (h : post (f_width, f_historyCap, f_ringCap, f_length, f_cursor, f_historyCount, f_nav, f_draftLength, f_ringCount, f_yankIndex, f_undoDepth, f_mode, f_last, f_accepted, f_queryLength, f_match, f_matchStart, f_displayLength, f_displayCursor, f_terminalRow, f_terminalCol, a_buffer, a_history, a_historyLengths, a_draft, ec_cp a_buffer a a_ring b c, a_ringLengths, a_undoTexts, a_undoLengths, a_undoCursors, a_query, a_display, a_screen)) : ∀ d i, i + d = c → wX_copyCells__buffer_ring_3 post (nI a) (nI b) (nI c) f_width f_historyCap f_ringCap f_length f_cursor f_historyCount f_nav f_draftLength f_ringCount f_yankIndex f_undoDepth f_mode f_last f_accepted f_queryLength f_match f_matchStart f_displayLength f_displayCursor f_terminalRow f_terminalCol (d + 1) (nI i) a_buffer a_history a_historyLengths a_draft (ec_cp a_buffer a a_ring b i) a_ringLengths a_undoTexts a_undoLengths a_undoCursors a_query a_display a_screen := by
  intro d
  induction d with
  | zero =>
    intro i hi
    obtain rfl : i = c := by omega
    exact ey_le i i (Nat.le_refl _) h
  | succ d ih =>
    intro i hi
    exact en_le c i (by omega) ⟨en_in (a + i) (by omega), en_in (b + i) (by omega), nm_r ((en_u (b + i) (en_g (a + i))).trans (ec_s a_buffer a a_ring b i)) (nm_r (nI_1 i) (ih (i + 1) (by omega)))⟩
theorem xc_buffer_ring {post : SX → Prop} {x1 x3 x4 : Int32} (a b c : Nat) (ha : a + c ≤ 32) (hb : b + c ≤ 128) (h : post (f_width, f_historyCap, f_ringCap, f_length, f_cursor, f_historyCount, f_nav, f_draftLength, f_ringCount, f_yankIndex, f_undoDepth, f_mode, f_last, f_accepted, f_queryLength, f_match, f_matchStart, f_displayLength, f_displayCursor, f_terminalRow, f_terminalCol, a_buffer, a_history, a_historyLengths, a_draft, ec_cp a_buffer a a_ring b c, a_ringLengths, a_undoTexts, a_undoLengths, a_undoCursors, a_query, a_display, a_screen)) (h1 : x1 = nI a := by first | with_reducible rfl | (simp (disch := omega) only [nI_add, nI_1, en_m1, en_s1, pk_sub, pk_mul, en_32, en_a2, en_a3, en_p32, en_s32, en_p2, en_s2, en_s3] <;> exact congrArg nI (by omega)) | exact congrArg nI (by omega) | rfl) (h3 : x3 = nI b := by first | with_reducible rfl | (simp (disch := omega) only [nI_add, nI_1, en_m1, en_s1, pk_sub, pk_mul, en_32, en_a2, en_a3, en_p32, en_s32, en_p2, en_s2, en_s3] <;> exact congrArg nI (by omega)) | exact congrArg nI (by omega) | rfl) (h4 : x4 = nI c := by first | with_reducible rfl | (simp (disch := omega) only [nI_add, nI_1, en_m1, en_s1, pk_sub, pk_mul, en_32, en_a2, en_a3, en_p32, en_s32, en_p2, en_s2, en_s3] <;> exact congrArg nI (by omega)) | exact congrArg nI (by omega) | rfl) : wpX_copyCells__buffer_ring post (f_width, f_historyCap, f_ringCap, f_length, f_cursor, f_historyCount, f_nav, f_draftLength, f_ringCount, f_yankIndex, f_undoDepth, f_mode, f_last, f_accepted, f_queryLength, f_match, f_matchStart, f_displayLength, f_displayCursor, f_terminalRow, f_terminalCol, a_buffer, a_history, a_historyLengths, a_draft, a_ring, a_ringLengths, a_undoTexts, a_undoLengths, a_undoCursors, a_query, a_display, a_screen) x1 x3 x4 := by
  subst h1 h3 h4
  refine ⟨c + 1, ?_⟩
  have := xc_buffer_ring_l ha hb h c 0 (by omega)
  rw [ec_0] at this
  exact this
end
end
section
/-! I: the component's small methods and its buffer -/
theorem en_q (x : Int32) : x + (-1) = x - 1 := (Int32.sub_eq_add_neg x 1).symm
theorem en_pl {a b : Nat} (h : a ≤ b) (hb : b < 2 ^ 31) : nI a - 1 < nI b := by
  cases a with
  | zero =>
    rw [Int32.lt_iff_toInt_lt, nI_toInt hb, show (nI 0 - 1).toInt = -1 from by decide]
    omega
  | succ a =>
    rw [nI_pred]
    exact nI_lt (by omega) hb
theorem en_16 (a : Nat) : 16 * nI a = nI (16 * a) := pk_mul 16 a
theorem xw_t {post : Int32 → Prop} {x y : Int32} (i c : Nat) (h : i < c) (p : post 1) (hx : x = nI i := by first | with_reducible rfl | (simp (disch := omega) only [nI_add, nI_1, en_m1, en_s1, pk_sub, pk_mul, en_32, en_a2, en_a3, en_p32, en_s32, en_p2, en_s2, en_s3] <;> exact congrArg nI (by omega)) | exact congrArg nI (by omega) | rfl) (hy : y = nI c := by first | with_reducible rfl | (simp (disch := omega) only [nI_add, nI_1, en_m1, en_s1, pk_sub, pk_mul, en_32, en_a2, en_a3, en_p32, en_s32, en_p2, en_s2, en_s3] <;> exact congrArg nI (by omega)) | exact congrArg nI (by omega) | rfl) (hc : c < 2 ^ 31 := by omega) : wpX_isWithin post x y := by
  subst hx hy
  exact br_f (nI_pos (by omega)) (br_f (nI_ge h hc) p)
theorem xw_f {post : Int32 → Prop} {x y : Int32} (h : x < 0 ∨ y ≤ x) (p : post 0) : wpX_isWithin post x y := by
  by_cases c : x < 0
  · exact br_t c p
  · exact br_f c (br_t (h.resolve_left c) p)
theorem xp_t {post : Int32 → Prop} {c : Int32} (h1 : ¬ c < 32) (h2 : ¬ 126 < c) (p : post 1) : wpX_isPrintable post c := br_f h1 (br_f h2 p)
theorem xp_f {post : Int32 → Prop} {c : Int32} (h : c < 32 ∨ 126 < c) (p : post 0) : wpX_isPrintable post c := by
  by_cases d : c < 32
  · exact br_t d p
  · exact br_f d (br_t (h.resolve_left d) p)
/-- what a push leaves: texts, lengths or cursors, depth -/
def ep_U (B U : Nat → Int32) (n ud : Nat) : Nat → Int32 := if ud = 8 then ec_cp B 0 (ec_cp U 32 U 0 (7 * 32)) (7 * 32) n else ec_cp B 0 U (ud * 32) n
def ep_L (L : Nat → Int32) (v : Int32) (ud : Nat) : Nat → Int32 := if ud = 8 then upd (ec_cp L 1 L 0 7) 7 v else upd L ud v
def ep_n (ud : Nat) : Nat := if ud = 8 then 8 else ud + 1
theorem ep_le {ud : Nat} (h : ud ≤ 8) : ep_n ud ≤ 8 := by
  unfold ep_n
  split <;> omega
theorem ep_eu {F L K G M P f g : Nat → Int32} {c n k : Nat} (h : eu F L K G M P c) (hc : c ≤ 8) (hn : n ≤ 32) (hk : k ≤ n) (hb : eg f g 0 0 n) :
    eu (ep_U f F n c) (ep_L L (nI n) c) (ep_L K (nI k) c) (ep_U g G 32 c) (ep_L M (nI n) c) (ep_L P (nI k) c) (ep_n c) := by
  unfold ep_U ep_L ep_n
  by_cases e : c = 8
  · subst e
    simp only [if_pos]
    exact eu_add (c := 7) (eu_drop h) hn hk hb
  · simp only [if_neg e]
    exact eu_add h hn hk hb
/-- what an appended line leaves of the history -/
def ea_H (B H : Nat → Int32) (n hc hh : Nat) : Nat → Int32 := if hc = hh then ec_cp B 0 (ec_cp H 32 H 0 ((hc - 1) * 32)) ((hc - 1) * 32) n else ec_cp B 0 H (hc * 32) n
def ea_L (L : Nat → Int32) (v : Int32) (hc hh : Nat) : Nat → Int32 := if hc = hh then upd (ec_cp L 1 L 0 (hc - 1)) (hc - 1) v else upd L hc v
def ea_n (hc hh : Nat) : Nat := if hc = hh then hc else hc + 1
theorem ea_le {hc hh : Nat} (h : hc ≤ hh) : ea_n hc hh ≤ hh := by
  unfold ea_n
  split <;> omega
theorem ea_eh {F L G M f g : Nat → Int32} {c n hh : Nat} (h : eh F L G M c) (hc : 1 ≤ hh) (hn : n ≤ 32) (hb : eg f g 0 0 n) :
    eh (ea_H f F n c hh) (ea_L L (nI n) c hh) (ea_H g G 32 c hh) (ea_L M (nI n) c hh) (ea_n c hh) := by
  unfold ea_H ea_L ea_n
  by_cases e : c = hh
  · simp only [if_pos e]
    obtain ⟨d, rfl⟩ : ∃ d, c = d + 1 := ⟨c - 1, by omega⟩
    rw [Nat.add_sub_cancel]
    exact eh_add (eh_drop h) hn hb
  · simp only [if_neg e]
    exact eh_add h hn hb
section
variable {f_width f_historyCap f_ringCap f_length f_cursor f_historyCount f_nav f_draftLength f_ringCount f_yankIndex f_undoDepth f_mode f_last f_accepted f_queryLength f_match f_matchStart f_displayLength f_displayCursor f_terminalRow f_terminalCol : Int32} {a_buffer a_history a_historyLengths a_draft a_ring a_ringLengths a_undoTexts a_undoLengths a_undoCursors a_query a_display a_screen : Nat → Int32}
theorem xog_l {post : SX → Prop} {a c n : Nat} (hn : n + c ≤ 32) (h : post (f_width, f_historyCap, f_ringCap, nI (n + c), f_cursor, f_historyCount, f_nav, f_draftLength, f_ringCount, f_yankIndex, f_undoDepth, f_mode, f_last, f_accepted, f_queryLength, f_match, f_matchStart, f_displayLength, f_displayCursor, f_terminalRow, f_terminalCol, ec_cp a_buffer a a_buffer (a + c) (n - a), a_history, a_historyLengths, a_draft, a_ring, a_ringLengths, a_undoTexts, a_undoLengths, a_undoCursors, a_query, a_display, a_screen)) : ∀ d e, a + d + e = n → wX_openGap_7 post (nI a) (nI c) f_width f_historyCap f_ringCap (nI n) f_cursor f_historyCount f_nav f_draftLength f_ringCount f_yankIndex f_undoDepth f_mode f_last f_accepted f_queryLength f_match f_matchStart f_displayLength f_displayCursor f_terminalRow f_terminalCol (d + 1) (nI (a + d) - 1) (ec_cp a_buffer (a + d) a_buffer (a + c + d) e) a_history a_historyLengths a_draft a_ring a_ringLengths a_undoTexts a_undoLengths a_undoCursors a_query a_display a_screen := by
  intro d
  induction d with
  | zero =>
    intro e he
    obtain rfl : e = n - a := by omega
    exact br_t (en_pl (by omega) (by omega)) (nm_r (nI_add n c) h)
  | succ d ih =>
    intro e he
    rw [show nI (a + (d + 1)) - 1 = nI (a + d) from nI_pred (a + d)]
    exact en_lt (a + d) a (by omega) ⟨en_in (a + d) (by omega), en_in (a + c + d) (by omega), nm_r ((en_u (a + c + d) (en_g (a + d))).trans (ec_dn (a := a + d) (b := a + c + d) (by omega) e)) (nm_r (en_q _) (ih (e + 1) (by omega)))⟩
theorem xog {post : SX → Prop} {x1 x2 : Int32} (a c n : Nat) (hn : n + c ≤ 32) (ha : a ≤ n) (h : post (f_width, f_historyCap, f_ringCap, nI (n + c), f_cursor, f_historyCount, f_nav, f_draftLength, f_ringCount, f_yankIndex, f_undoDepth, f_mode, f_last, f_accepted, f_queryLength, f_match, f_matchStart, f_displayLength, f_displayCursor, f_terminalRow, f_terminalCol, ec_cp a_buffer a a_buffer (a + c) (n - a), a_history, a_historyLengths, a_draft, a_ring, a_ringLengths, a_undoTexts, a_undoLengths, a_undoCursors, a_query, a_display, a_screen)) (h1 : x1 = nI a := by first | with_reducible rfl | (simp (disch := omega) only [nI_add, nI_1, en_m1, en_s1, pk_sub, pk_mul, en_32, en_a2, en_a3, en_p32, en_s32, en_p2, en_s2, en_s3] <;> exact congrArg nI (by omega)) | exact congrArg nI (by omega) | rfl) (h2 : x2 = nI c := by first | with_reducible rfl | (simp (disch := omega) only [nI_add, nI_1, en_m1, en_s1, pk_sub, pk_mul, en_32, en_a2, en_a3, en_p32, en_s32, en_p2, en_s2, en_s3] <;> exact congrArg nI (by omega)) | exact congrArg nI (by omega) | rfl) : wpX_openGap post (f_width, f_historyCap, f_ringCap, nI n, f_cursor, f_historyCount, f_nav, f_draftLength, f_ringCount, f_yankIndex, f_undoDepth, f_mode, f_last, f_accepted, f_queryLength, f_match, f_matchStart, f_displayLength, f_displayCursor, f_terminalRow, f_terminalCol, a_buffer, a_history, a_historyLengths, a_draft, a_ring, a_ringLengths, a_undoTexts, a_undoLengths, a_undoCursors, a_query, a_display, a_screen) x1 x2 := by
  subst h1 h2
  have := xog_l hn h (n - a) 0 (by omega)
  rw [ec_0, show a + (n - a) = n by omega] at this
  exact nm_e ⟨n - a + 1, this⟩
theorem xcg_l {post : SX → Prop} {a c n : Nat} (hn : n ≤ 32) (hc : a + c ≤ n) (h : post (f_width, f_historyCap, f_ringCap, nI (n - c), f_cursor, f_historyCount, f_nav, f_draftLength, f_ringCount, f_yankIndex, f_undoDepth, f_mode, f_last, f_accepted, f_queryLength, f_match, f_matchStart, f_displayLength, f_displayCursor, f_terminalRow, f_terminalCol, ec_cp a_buffer (a + c) a_buffer a (n - a - c), a_history, a_historyLengths, a_draft, a_ring, a_ringLengths, a_undoTexts, a_undoLengths, a_undoCursors, a_query, a_display, a_screen)) : ∀ d i, a + c + i + d = n → wX_closeGap_4 post (nI c) f_width f_historyCap f_ringCap (nI n) f_cursor f_historyCount f_nav f_draftLength f_ringCount f_yankIndex f_undoDepth f_mode f_last f_accepted f_queryLength f_match f_matchStart f_displayLength f_displayCursor f_terminalRow f_terminalCol (d + 1) (nI (a + c + i)) (ec_cp a_buffer (a + c) a_buffer a i) a_history a_historyLengths a_draft a_ring a_ringLengths a_undoTexts a_undoLengths a_undoCursors a_query a_display a_screen := by
  intro d
  induction d with
  | zero =>
    intro i hi
    obtain rfl : i = n - a - c := by omega
    exact ey_le n (a + c + (n - a - c)) (by omega) (nm_r (pk_sub (by omega)) h)
  | succ d ih =>
    intro i hi
    exact en_le n (a + c + i) (by omega) ⟨en_in (a + c + i) (by omega), en_in (a + i) (by omega), nm_r ((en_u (a + i) (en_g (a + c + i))).trans (ec_up (by omega) i)) (nm_r (nI_1 _) (ih (i + 1) (by omega)))⟩
theorem xcg {post : SX → Prop} {x1 x2 : Int32} (a c n : Nat) (hn : n ≤ 32) (hc : a + c ≤ n) (h : post (f_width, f_historyCap, f_ringCap, nI (n - c), f_cursor, f_historyCount, f_nav, f_draftLength, f_ringCount, f_yankIndex, f_undoDepth, f_mode, f_last, f_accepted, f_queryLength, f_match, f_matchStart, f_displayLength, f_displayCursor, f_terminalRow, f_terminalCol, ec_cp a_buffer (a + c) a_buffer a (n - a - c), a_history, a_historyLengths, a_draft, a_ring, a_ringLengths, a_undoTexts, a_undoLengths, a_undoCursors, a_query, a_display, a_screen)) (h1 : x1 = nI a := by first | with_reducible rfl | (simp (disch := omega) only [nI_add, nI_1, en_m1, en_s1, pk_sub, pk_mul, en_32, en_a2, en_a3, en_p32, en_s32, en_p2, en_s2, en_s3] <;> exact congrArg nI (by omega)) | exact congrArg nI (by omega) | rfl) (h2 : x2 = nI c := by first | with_reducible rfl | (simp (disch := omega) only [nI_add, nI_1, en_m1, en_s1, pk_sub, pk_mul, en_32, en_a2, en_a3, en_p32, en_s32, en_p2, en_s2, en_s3] <;> exact congrArg nI (by omega)) | exact congrArg nI (by omega) | rfl) : wpX_closeGap post (f_width, f_historyCap, f_ringCap, nI n, f_cursor, f_historyCount, f_nav, f_draftLength, f_ringCount, f_yankIndex, f_undoDepth, f_mode, f_last, f_accepted, f_queryLength, f_match, f_matchStart, f_displayLength, f_displayCursor, f_terminalRow, f_terminalCol, a_buffer, a_history, a_historyLengths, a_draft, a_ring, a_ringLengths, a_undoTexts, a_undoLengths, a_undoCursors, a_query, a_display, a_screen) x1 x2 := by
  subst h1 h2
  have := xcg_l hn hc h (n - a - c) 0 (by omega)
  rw [ec_0] at this
  exact nm_r (nI_add a c) ⟨n - a - c + 1, this⟩
theorem xpu_53 {post : SX → Prop} (n k ud : Nat) (hn : n ≤ 32) (h8 : ud < 8) (h : post (f_width, f_historyCap, f_ringCap, nI n, nI k, f_historyCount, f_nav, f_draftLength, f_ringCount, f_yankIndex, nI (ud + 1), f_mode, f_last, f_accepted, f_queryLength, f_match, f_matchStart, f_displayLength, f_displayCursor, f_terminalRow, f_terminalCol, a_buffer, a_history, a_historyLengths, a_draft, a_ring, a_ringLengths, ec_cp a_buffer 0 a_undoTexts (ud * 32) n, upd a_undoLengths ud (nI n), upd a_undoCursors ud (nI k), a_query, a_display, a_screen)) : wX_pushUndo_53 post f_width f_historyCap f_ringCap (nI n) (nI k) f_historyCount f_nav f_draftLength f_ringCount f_yankIndex (nI ud) f_mode f_last f_accepted f_queryLength f_match f_matchStart f_displayLength f_displayCursor f_terminalRow f_terminalCol a_buffer a_history a_historyLengths a_draft a_ring a_ringLengths a_undoTexts a_undoLengths a_undoCursors a_query a_display a_screen :=
  xc_buffer_undoTexts 0 (ud * 32) n (by omega) (by omega) ⟨en_in ud h8, nm_r (en_u ud) ⟨en_in ud h8, nm_r (en_u ud) (nm_r (nI_1 ud) h)⟩⟩
theorem xpu {post : SX → Prop} {n k ud : Nat} (hn : n ≤ 32) (h8 : ud ≤ 8) (h : post (f_width, f_historyCap, f_ringCap, nI n, nI k, f_historyCount, f_nav, f_draftLength, f_ringCount, f_yankIndex, nI (ep_n ud), f_mode, f_last, f_accepted, f_queryLength, f_match, f_matchStart, f_displayLength, f_displayCursor, f_terminalRow, f_terminalCol, a_buffer, a_history, a_historyLengths, a_draft, a_ring, a_ringLengths, ep_U a_buffer a_undoTexts n ud, ep_L a_undoLengths (nI n) ud, ep_L a_undoCursors (nI k) ud, a_query, a_display, a_screen)) : wpX_pushUndo post (f_width, f_historyCap, f_ringCap, nI n, nI k, f_historyCount, f_nav, f_draftLength, f_ringCount, f_yankIndex, nI ud, f_mode, f_last, f_accepted, f_queryLength, f_match, f_matchStart, f_displayLength, f_displayCursor, f_terminalRow, f_terminalCol, a_buffer, a_history, a_historyLengths, a_draft, a_ring, a_ringLengths, a_undoTexts, a_undoLengths, a_undoCursors, a_query, a_display, a_screen) := by
  unfold ep_n ep_U ep_L at h
  by_cases e : ud = 8
  · subst e
    simp only [if_pos] at h
    exact ey_eq 8 8 rfl (xc_undoTexts_undoTexts 32 0 (7 * 32) (by omega) (by omega) (by omega) (xc_undoLengths_undoLengths 1 0 7 (by omega) (by omega) (by omega) (xc_undoCursors_undoCursors 1 0 7 (by omega) (by omega) (by omega) (nm_r (e' := nI 7) rfl (xpu_53 n k 7 hn (by omega) h)))))
  · simp only [if_neg e] at h
    exact en_eq ud 8 e (xpu_53 n k ud hn (by omega) h)
theorem xah_36 {post : SX → Prop} (n hc : Nat) (hn : n ≤ 32) (h8 : hc < 8) (h : post (f_width, f_historyCap, f_ringCap, nI n, f_cursor, nI (hc + 1), f_nav, f_draftLength, f_ringCount, f_yankIndex, f_undoDepth, f_mode, f_last, f_accepted, f_queryLength, f_match, f_matchStart, f_displayLength, f_displayCursor, f_terminalRow, f_terminalCol, a_buffer, ec_cp a_buffer 0 a_history (hc * 32) n, upd a_historyLengths hc (nI n), a_draft, a_ring, a_ringLengths, a_undoTexts, a_undoLengths, a_undoCursors, a_query, a_display, a_screen)) : wX_addHistory_36 post f_width f_historyCap f_ringCap (nI n) f_cursor (nI hc) f_nav f_draftLength f_ringCount f_yankIndex f_undoDepth f_mode f_last f_accepted f_queryLength f_match f_matchStart f_displayLength f_displayCursor f_terminalRow f_terminalCol a_buffer a_history a_historyLengths a_draft a_ring a_ringLengths a_undoTexts a_undoLengths a_undoCursors a_query a_display a_screen :=
  xc_buffer_history 0 (hc * 32) n (by omega) (by omega) ⟨en_in hc h8, nm_r (en_u hc) (nm_r (nI_1 hc) h)⟩
theorem xah {post : SX → Prop} {n hc hh : Nat} (hn : n ≤ 32) (h1 : 1 ≤ hh) (h8 : hh ≤ 8) (hc8 : hc ≤ hh) (h : post (f_width, nI hh, f_ringCap, nI n, f_cursor, nI (ea_n hc hh), f_nav, f_draftLength, f_ringCount, f_yankIndex, f_undoDepth, f_mode, f_last, f_accepted, f_queryLength, f_match, f_matchStart, f_displayLength, f_displayCursor, f_terminalRow, f_terminalCol, a_buffer, ea_H a_buffer a_history n hc hh, ea_L a_historyLengths (nI n) hc hh, a_draft, a_ring, a_ringLengths, a_undoTexts, a_undoLengths, a_undoCursors, a_query, a_display, a_screen)) : wpX_addHistory post (f_width, nI hh, f_ringCap, nI n, f_cursor, nI hc, f_nav, f_draftLength, f_ringCount, f_yankIndex, f_undoDepth, f_mode, f_last, f_accepted, f_queryLength, f_match, f_matchStart, f_displayLength, f_displayCursor, f_terminalRow, f_terminalCol, a_buffer, a_history, a_historyLengths, a_draft, a_ring, a_ringLengths, a_undoTexts, a_undoLengths, a_undoCursors, a_query, a_display, a_screen) := by
  unfold ea_n ea_H ea_L at h
  by_cases e : hc = hh
  · subst e
    obtain ⟨c, rfl⟩ : ∃ c, hc = c + 1 := ⟨hc - 1, by omega⟩
    simp only [if_pos, Nat.add_sub_cancel] at h
    exact ey_eq (c + 1) (c + 1) rfl (xc_history_history 32 0 (c * 32) (by omega) (by omega) (by omega) (xc_historyLengths_historyLengths 1 0 c (by omega) (by omega) (by omega) (nm_r (nI_pred c) (xah_36 n c hn (by omega) h))))
  · simp only [if_neg e] at h
    exact en_eq hc hh e (xah_36 n hc hn (by omega) h)
/-- the typed char -/
theorem xty_23 {post : Int32 → SX → Prop} {c : Int32} (n k : Nat) (hn : n < 32) (hk : k ≤ n) (h : post 1 (f_width, f_historyCap, f_ringCap, nI (n + 1), nI (k + 1), f_historyCount, f_nav, f_draftLength, f_ringCount, f_yankIndex, f_undoDepth, f_mode, 1, f_accepted, f_queryLength, f_match, f_matchStart, f_displayLength, f_displayCursor, f_terminalRow, f_terminalCol, upd (ec_cp a_buffer k a_buffer (k + 1) (n - k)) k c, a_history, a_historyLengths, a_draft, a_ring, a_ringLengths, a_undoTexts, a_undoLengths, a_undoCursors, a_query, a_display, a_screen)) : wX_typeChar_23 post c f_width f_historyCap f_ringCap (nI n) (nI k) f_historyCount f_nav f_draftLength f_ringCount f_yankIndex f_undoDepth f_mode f_last f_accepted f_queryLength f_match f_matchStart f_displayLength f_displayCursor f_terminalRow f_terminalCol a_buffer a_history a_historyLengths a_draft a_ring a_ringLengths a_undoTexts a_undoLengths a_undoCursors a_query a_display a_screen :=
  xog k 1 n (by omega) hk ⟨en_in k (by omega), nm_r (en_u k) (nm_r (nI_1 k) h)⟩
/-- a line loaded from the history -/
theorem xlh {post : SX → Prop} {x : Int32} (i l : Nat) (hi : i < 8) (hl : l ≤ 32) (e : a_historyLengths i = nI l) (h : post (f_width, f_historyCap, f_ringCap, nI l, nI l, f_historyCount, f_nav, f_draftLength, f_ringCount, f_yankIndex, 0, f_mode, f_last, f_accepted, f_queryLength, f_match, f_matchStart, f_displayLength, f_displayCursor, f_terminalRow, f_terminalCol, ec_cp a_history (i * 32) a_buffer 0 l, a_history, a_historyLengths, a_draft, a_ring, a_ringLengths, a_undoTexts, a_undoLengths, a_undoCursors, a_query, a_display, a_screen)) (hx : x = nI i := by first | with_reducible rfl | (simp (disch := omega) only [nI_add, nI_1, en_m1, en_s1, pk_sub, pk_mul, en_32, en_a2, en_a3, en_p32, en_s32, en_p2, en_s2, en_s3] <;> exact congrArg nI (by omega)) | exact congrArg nI (by omega) | rfl) : wpX_loadHistory post (f_width, f_historyCap, f_ringCap, f_length, f_cursor, f_historyCount, f_nav, f_draftLength, f_ringCount, f_yankIndex, f_undoDepth, f_mode, f_last, f_accepted, f_queryLength, f_match, f_matchStart, f_displayLength, f_displayCursor, f_terminalRow, f_terminalCol, a_buffer, a_history, a_historyLengths, a_draft, a_ring, a_ringLengths, a_undoTexts, a_undoLengths, a_undoCursors, a_query, a_display, a_screen) x := by
  subst hx
  exact ⟨en_in i hi, nm_r ((en_g i).trans e) (xc_history_buffer (i * 32) 0 l (by omega) (by omega) h)⟩
theorem xld {post : SX → Prop} {d : Nat} (hd : d ≤ 32) (h : post (f_width, f_historyCap, f_ringCap, nI d, nI d, f_historyCount, f_nav, 0, f_ringCount, f_yankIndex, 0, f_mode, f_last, f_accepted, f_queryLength, f_match, f_matchStart, f_displayLength, f_displayCursor, f_terminalRow, f_terminalCol, ec_cp a_draft 0 a_buffer 0 d, a_history, a_historyLengths, a_draft, a_ring, a_ringLengths, a_undoTexts, a_undoLengths, a_undoCursors, a_query, a_display, a_screen)) : wpX_loadDraft post (f_width, f_historyCap, f_ringCap, f_length, f_cursor, f_historyCount, f_nav, nI d, f_ringCount, f_yankIndex, f_undoDepth, f_mode, f_last, f_accepted, f_queryLength, f_match, f_matchStart, f_displayLength, f_displayCursor, f_terminalRow, f_terminalCol, a_buffer, a_history, a_historyLengths, a_draft, a_ring, a_ringLengths, a_undoTexts, a_undoLengths, a_undoCursors, a_query, a_display, a_screen) :=
  xc_draft_buffer 0 0 d (by omega) (by omega) h
end
end
section
/-! J: the component's words, ring, search -/
theorem en_gt {a b c : Int32} (h : b ≤ c) (hab : a < b) : ¬ c ≤ a := by
  rw [Int32.le_iff_toInt_le] at *
  rw [Int32.lt_iff_toInt_lt] at hab
  omega
theorem en_ge {a b c : Int32} (h : b ≤ c) (hab : a ≤ b) : ¬ c < a := by
  rw [Int32.le_iff_toInt_le] at h hab
  rw [Int32.lt_iff_toInt_lt]
  omega
theorem xiw_t {post : Int32 → Prop} {c : Int32} (hw : ew c) (p : post 1) : wpX_isWordChar post c := by
  rcases hw with h | h | h
  · exact br_f (en_ge h.1 (by decide)) (br_t h.2 p)
  · exact br_f (en_ge h.1 (by decide)) (br_f (en_gt h.1 (by decide)) (br_f (en_ge h.1 (by decide)) (br_t h.2 p)))
  · exact br_f (en_ge h.1 (by decide)) (br_f (en_gt h.1 (by decide)) (br_f (en_ge h.1 (by decide)) (br_f (en_gt h.1 (by decide)) (br_f (en_ge h.1 (by decide)) (br_f (Int32.not_lt.mpr h.2) p)))))
theorem xiw_24 {post : Int32 → Prop} {c : Int32} (hw : ¬ ew c) (p : post 0) : wX_isWordChar_24 post c := by
  by_cases h : c < 97
  · exact br_t h p
  · by_cases h2 : 122 < c
    · exact br_f h (br_t h2 p)
    · exact absurd (Or.inr (Or.inr ⟨Int32.not_lt.mp h, Int32.not_lt.mp h2⟩)) hw
theorem xiw_12 {post : Int32 → Prop} {c : Int32} (hw : ¬ ew c) (p : post 0) : wX_isWordChar_12 post c := by
  by_cases h : c < 65
  · exact br_t h (xiw_24 hw p)
  · exact br_f h (br_f (fun z => hw (Or.inr (Or.inl ⟨Int32.not_lt.mp h, z⟩))) (xiw_24 hw p))
theorem xiw_f {post : Int32 → Prop} {c : Int32} (hw : ¬ ew c) (p : post 0) : wpX_isWordChar post c := by
  by_cases h : c < 48
  · exact br_t h (xiw_12 hw p)
  · exact br_f h (br_f (fun z => hw (Or.inl ⟨Int32.not_lt.mp h, z⟩)) (xiw_12 hw p))
section
variable {f_width f_historyCap f_ringCap f_length f_cursor f_historyCount f_nav f_draftLength f_ringCount f_yankIndex f_undoDepth f_mode f_last f_accepted f_queryLength f_match f_matchStart f_displayLength f_displayCursor f_terminalRow f_terminalCol : Int32} {a_buffer a_history a_historyLengths a_draft a_ring a_ringLengths a_undoTexts a_undoLengths a_undoCursors a_query a_display a_screen : Nat → Int32}
theorem xwl_29 {post : Int32 → Prop} : ∀ t, t ≤ 32 → post (nI (es a_buffer true t)) → wX_wordLeft_29 post f_width f_historyCap f_ringCap f_length f_cursor f_historyCount f_nav f_draftLength f_ringCount f_yankIndex f_undoDepth f_mode f_last f_accepted f_queryLength f_match f_matchStart f_displayLength f_displayCursor f_terminalRow f_terminalCol a_buffer a_history a_historyLengths a_draft a_ring a_ringLengths a_undoTexts a_undoLengths a_undoCursors a_query a_display a_screen (t + 1) (nI t) := by
  intro t
  induction t with
  | zero => intro _ h; exact br_t (by decide) h
  | succ t ih =>
    intro ht h
    have ec : a_buffer (nI (t + 1) - 1).toNatClampNeg = a_buffer t := en_g t (nI_pred t)
    have hi : vp_in (nI (t + 1) - 1) 32 := en_in t (by omega) (nI_pred t)
    by_cases hw : ew (a_buffer t)
    · rw [es_s, if_pos (decide_eq_true hw)] at h
      exact br_f (nI_nle (by omega) (by omega)) ⟨hi, xiw_t (by rw [ec]; exact hw) (br_f (by decide) (nm_r (pk_m1 t) (ih (by omega) h)))⟩
    · rw [es_s, if_neg (fun z => hw (of_decide_eq_true z))] at h
      exact br_f (nI_nle (by omega) (by omega)) ⟨hi, xiw_f (by rw [ec]; exact hw) (br_t rfl h)⟩
theorem xwl_5 {post : Int32 → Prop} : ∀ t, t ≤ 32 → post (nI (es a_buffer true (es a_buffer false t))) → wX_wordLeft_5 post f_width f_historyCap f_ringCap f_length f_cursor f_historyCount f_nav f_draftLength f_ringCount f_yankIndex f_undoDepth f_mode f_last f_accepted f_queryLength f_match f_matchStart f_displayLength f_displayCursor f_terminalRow f_terminalCol a_buffer a_history a_historyLengths a_draft a_ring a_ringLengths a_undoTexts a_undoLengths a_undoCursors a_query a_display a_screen (t + 1) (nI t) := by
  intro t
  induction t with
  | zero => intro _ h; exact br_t (by decide) ⟨1, xwl_29 0 (by omega) h⟩
  | succ t ih =>
    intro ht h
    have ec : a_buffer (nI (t + 1) - 1).toNatClampNeg = a_buffer t := en_g t (nI_pred t)
    have hi : vp_in (nI (t + 1) - 1) 32 := en_in t (by omega) (nI_pred t)
    by_cases hw : ew (a_buffer t)
    · rw [es_s a_buffer false, if_neg (fun z => of_decide_eq_false z hw)] at h
      exact br_f (nI_nle (by omega) (by omega)) ⟨hi, xiw_t (by rw [ec]; exact hw) (br_f (by decide) ⟨t + 2, xwl_29 (t + 1) (by omega) h⟩)⟩
    · rw [es_s a_buffer false, if_pos (decide_eq_false hw)] at h
      exact br_f (nI_nle (by omega) (by omega)) ⟨hi, xiw_f (by rw [ec]; exact hw) (br_t rfl (nm_r (pk_m1 t) (ih (by omega) h)))⟩
theorem xwl {post : Int32 → Prop} {k : Nat} (hk : k ≤ 32) (h : post (nI (ewl a_buffer k))) : wpX_wordLeft post (f_width, f_historyCap, f_ringCap, f_length, nI k, f_historyCount, f_nav, f_draftLength, f_ringCount, f_yankIndex, f_undoDepth, f_mode, f_last, f_accepted, f_queryLength, f_match, f_matchStart, f_displayLength, f_displayCursor, f_terminalRow, f_terminalCol, a_buffer, a_history, a_historyLengths, a_draft, a_ring, a_ringLengths, a_undoTexts, a_undoLengths, a_undoCursors, a_query, a_display, a_screen) := ⟨k + 1, xwl_5 k hk h⟩
theorem xwr_31 {post : Int32 → Prop} {n : Nat} (hn : n ≤ 32) : ∀ d t, t + d = n → post (nI (et a_buffer true d t)) → wX_wordRight_31 post f_width f_historyCap f_ringCap (nI n) f_cursor f_historyCount f_nav f_draftLength f_ringCount f_yankIndex f_undoDepth f_mode f_last f_accepted f_queryLength f_match f_matchStart f_displayLength f_displayCursor f_terminalRow f_terminalCol a_buffer a_history a_historyLengths a_draft a_ring a_ringLengths a_undoTexts a_undoLengths a_undoCursors a_query a_display a_screen (d + 1) (nI t) := by
  intro d
  induction d with
  | zero => intro t ht h; exact ey_le n t (by omega) h
  | succ d ih =>
    intro t ht h
    have ec : a_buffer (nI t).toNatClampNeg = a_buffer t := en_g t
    by_cases hw : ew (a_buffer t)
    · rw [et_s, if_pos (decide_eq_true hw)] at h
      exact en_le n t (by omega) ⟨en_in t (by omega), xiw_t (by rw [ec]; exact hw) (br_f (by decide) (nm_r (nI_1 t) (ih (t + 1) (by omega) h)))⟩
    · rw [et_s, if_neg (fun z => hw (of_decide_eq_true z))] at h
      exact en_le n t (by omega) ⟨en_in t (by omega), xiw_f (by rw [ec]; exact hw) (br_t rfl h)⟩
theorem xwr_5 {post : Int32 → Prop} {n : Nat} (hn : n ≤ 32) : ∀ d t, t + d = n → post (nI (et a_buffer true (n - et a_buffer false d t) (et a_buffer false d t))) → wX_wordRight_5 post f_width f_historyCap f_ringCap (nI n) f_cursor f_historyCount f_nav f_draftLength f_ringCount f_yankIndex f_undoDepth f_mode f_last f_accepted f_queryLength f_match f_matchStart f_displayLength f_displayCursor f_terminalRow f_terminalCol a_buffer a_history a_historyLengths a_draft a_ring a_ringLengths a_undoTexts a_undoLengths a_undoCursors a_query a_display a_screen (d + 1) (nI t) := by
  intro d
  induction d with
  | zero =>
    intro t ht h
    have e : n - t = 0 := by omega
    have h2 : post (nI (et a_buffer true (n - t) t)) := h
    rw [e] at h2
    exact ey_le n t (by omega) ⟨1, xwr_31 hn 0 t (by omega) h2⟩
  | succ d ih =>
    intro t ht h
    have ec : a_buffer (nI t).toNatClampNeg = a_buffer t := en_g t
    by_cases hw : ew (a_buffer t)
    · rw [et_s a_buffer false, if_neg (fun z => of_decide_eq_false z hw)] at h
      rw [show n - t = d + 1 by omega] at h
      exact en_le n t (by omega) ⟨en_in t (by omega), xiw_t (by rw [ec]; exact hw) (br_f (by decide) ⟨d + 2, xwr_31 hn (d + 1) t (by omega) h⟩)⟩
    · rw [et_s a_buffer false, if_pos (decide_eq_false hw)] at h
      exact en_le n t (by omega) ⟨en_in t (by omega), xiw_f (by rw [ec]; exact hw) (br_t rfl (nm_r (nI_1 t) (ih (t + 1) (by omega) h)))⟩
theorem xwr {post : Int32 → Prop} {n k : Nat} (hn : n ≤ 32) (hk : k ≤ n) (h : post (nI (ewr a_buffer n k))) : wpX_wordRight post (f_width, f_historyCap, f_ringCap, nI n, nI k, f_historyCount, f_nav, f_draftLength, f_ringCount, f_yankIndex, f_undoDepth, f_mode, f_last, f_accepted, f_queryLength, f_match, f_matchStart, f_displayLength, f_displayCursor, f_terminalRow, f_terminalCol, a_buffer, a_history, a_historyLengths, a_draft, a_ring, a_ringLengths, a_undoTexts, a_undoLengths, a_undoCursors, a_query, a_display, a_screen) := ⟨n - k + 1, xwr_5 hn (n - k) k (by omega) h⟩
end
end
section
/-! K: the component's search -/
theorem en_sl {l z s : Nat} (hl : l < 2 ^ 30) (hz : z < 2 ^ 30) (hs : s < 2 ^ 30) (h : l < s + z) : nI l - nI z < nI s := by
  rw [Int32.lt_iff_toInt_lt, pk_sub_toInt hl hz, nI_toInt (by omega)]
  omega
theorem en_sn {l z s : Nat} (hl : l < 2 ^ 30) (hz : z < 2 ^ 30) (hs : s < 2 ^ 30) (h : s + z ≤ l) : ¬ nI l - nI z < nI s := by
  rw [Int32.lt_iff_toInt_lt, pk_sub_toInt hl hz, nI_toInt (by omega)]
  omega
section
variable {f_width f_historyCap f_ringCap f_length f_cursor f_historyCount f_nav f_draftLength f_ringCount f_yankIndex f_undoDepth f_mode f_last f_accepted f_queryLength f_match f_matchStart f_displayLength f_displayCursor f_terminalRow f_terminalCol : Int32} {a_buffer a_history a_historyLengths a_draft a_ring a_ringLengths a_undoTexts a_undoLengths a_undoCursors a_query a_display a_screen : Nat → Int32}
theorem xqs_2 {post : Int32 → Prop} {a z : Nat} (ha : a + z ≤ 256) (hz : z ≤ 16) (p1 : ex a_history a_query a z → post 1) (p0 : ¬ ex a_history a_query a z → post 0) : ∀ d i, i + d = z → (∀ j, j < i → a_history (a + j) = a_query j) → wX_queryStandsAt_2 post (nI a) (nI z) f_width f_historyCap f_ringCap f_length f_cursor f_historyCount f_nav f_draftLength f_ringCount f_yankIndex f_undoDepth f_mode f_last f_accepted f_queryLength f_match f_matchStart f_displayLength f_displayCursor f_terminalRow f_terminalCol a_buffer a_history a_historyLengths a_draft a_ring a_ringLengths a_undoTexts a_undoLengths a_undoCursors a_query a_display a_screen (d + 1) (nI i) := by
  intro d
  induction d with
  | zero =>
    intro i hi H
    obtain rfl : i = z := by omega
    exact ey_le i i (Nat.le_refl _) (p1 H)
  | succ d ih =>
    intro i hi H
    refine en_le z i (by omega) ⟨en_in (a + i) (by omega), en_in i (by omega), ?_⟩
    by_cases c : a_history (a + i) = a_query i
    · exact br_t ((en_g (a + i)).trans (c.trans (en_g i).symm)) (nm_r (nI_1 i) (ih (i + 1) (by omega) (lt_s H c)))
    · exact br_f (fun w => c (((en_g (a + i)).symm.trans w).trans (en_g i))) (p0 (fun w => c (w i (by omega))))
theorem xqs {post : Int32 → Prop} {x1 x2 : Int32} (a z : Nat) (ha : a + z ≤ 256) (hz : z ≤ 16) (p1 : ex a_history a_query a z → post 1) (p0 : ¬ ex a_history a_query a z → post 0) (h1 : x1 = nI a := by first | with_reducible rfl | (simp (disch := omega) only [nI_add, nI_1, en_m1, en_s1, pk_sub, pk_mul, en_32, en_a2, en_a3, en_p32, en_s32, en_p2, en_s2, en_s3] <;> exact congrArg nI (by omega)) | exact congrArg nI (by omega) | rfl) (h2 : x2 = nI z := by first | with_reducible rfl | (simp (disch := omega) only [nI_add, nI_1, en_m1, en_s1, pk_sub, pk_mul, en_32, en_a2, en_a3, en_p32, en_s32, en_p2, en_s2, en_s3] <;> exact congrArg nI (by omega)) | exact congrArg nI (by omega) | rfl) : wpX_queryStandsAt post (f_width, f_historyCap, f_ringCap, f_length, f_cursor, f_historyCount, f_nav, f_draftLength, f_ringCount, f_yankIndex, f_undoDepth, f_mode, f_last, f_accepted, f_queryLength, f_match, f_matchStart, f_displayLength, f_displayCursor, f_terminalRow, f_terminalCol, a_buffer, a_history, a_historyLengths, a_draft, a_ring, a_ringLengths, a_undoTexts, a_undoLengths, a_undoCursors, a_query, a_display, a_screen) x1 x2 := by
  subst h1 h2
  exact ⟨z + 1, xqs_2 ha hz p1 p0 z 0 (by omega) lt_0⟩
theorem xsi_18 {post : Int32 → Prop} {i z l : Nat} (hi : i < 8) (hl : l ≤ 32) (hz : z ≤ 16) : ∀ d s, s ≤ 40 → d = l + 1 - z - s → post (er (eo a_history a_query (i * 32) z d s)) → wX_startInEntry_18 post (nI z) (nI (i * 32)) (nI l - nI z) f_width f_historyCap f_ringCap f_length f_cursor f_historyCount f_nav f_draftLength f_ringCount f_yankIndex f_undoDepth f_mode f_last f_accepted f_queryLength f_match f_matchStart f_displayLength f_displayCursor f_terminalRow f_terminalCol a_buffer a_history a_historyLengths a_draft a_ring a_ringLengths a_undoTexts a_undoLengths a_undoCursors a_query a_display a_screen (d + 1) (nI s) := by
  intro d
  induction d with
  | zero => intro s hs hd h; exact br_t (en_sl (by omega) (by omega) (by omega) (by omega)) h
  | succ d ih =>
    intro s hs hd h
    refine br_f (en_sn (by omega) (by omega) (by omega) (by omega)) (xqs (i * 32 + s) z (by omega) hz (fun e => ?_) (fun e => ?_))
    · rw [eo_s, if_pos e] at h
      exact br_f (by decide) h
    · rw [eo_s, if_neg e] at h
      exact br_t rfl (nm_r (nI_1 s) (ih (s + 1) (by omega) (by omega) h))
theorem xsi {post : Int32 → Prop} {x0 x1 : Int32} (i z l : Nat) (hi : i < 8) (hl : l ≤ 32) (hz : z ≤ 16) (e : a_historyLengths i = nI l) (h : post (er (ei a_history a_historyLengths a_query z i))) (h0 : x0 = nI i := by first | with_reducible rfl | (simp (disch := omega) only [nI_add, nI_1, en_m1, en_s1, pk_sub, pk_mul, en_32, en_a2, en_a3, en_p32, en_s32, en_p2, en_s2, en_s3] <;> exact congrArg nI (by omega)) | exact congrArg nI (by omega) | rfl) (h1 : x1 = nI z := by first | with_reducible rfl | (simp (disch := omega) only [nI_add, nI_1, en_m1, en_s1, pk_sub, pk_mul, en_32, en_a2, en_a3, en_p32, en_s32, en_p2, en_s2, en_s3] <;> exact congrArg nI (by omega)) | exact congrArg nI (by omega) | rfl) : wpX_startInEntry post (f_width, f_historyCap, f_ringCap, f_length, f_cursor, f_historyCount, f_nav, f_draftLength, f_ringCount, f_yankIndex, f_undoDepth, f_mode, f_last, f_accepted, f_queryLength, f_match, f_matchStart, f_displayLength, f_displayCursor, f_terminalRow, f_terminalCol, a_buffer, a_history, a_historyLengths, a_draft, a_ring, a_ringLengths, a_undoTexts, a_undoLengths, a_undoCursors, a_query, a_display, a_screen) x0 x1 := by
  subst h0 h1
  unfold ei at h
  rw [e, nI_clamp (by omega)] at h
  exact nm_r (en_32 i) ⟨en_in i hi, nm_r (congrArg (fun y => y - nI z) ((en_g i).trans e)) ⟨_, xsi_18 hi hl hz (l + 1 - z) 0 (by omega) (by omega) h⟩⟩
theorem xsk_2 {post : Int32 → SX → Prop} {z c : Nat} (hc : c ≤ 8) (hz : z ≤ 16) (L : ∀ i, i < c → ∃ l, l ≤ 32 ∧ a_historyLengths i = nI l) : ∀ f, f ≤ c → (ef a_history a_historyLengths a_query z f = none → post 0 (f_width, f_historyCap, f_ringCap, f_length, f_cursor, f_historyCount, f_nav, f_draftLength, f_ringCount, f_yankIndex, f_undoDepth, f_mode, f_last, f_accepted, f_queryLength, f_match, f_matchStart, f_displayLength, f_displayCursor, f_terminalRow, f_terminalCol, a_buffer, a_history, a_historyLengths, a_draft, a_ring, a_ringLengths, a_undoTexts, a_undoLengths, a_undoCursors, a_query, a_display, a_screen)) → (∀ m s, ef a_history a_historyLengths a_query z f = some (m, s) → post 1 (f_width, f_historyCap, f_ringCap, f_length, f_cursor, f_historyCount, f_nav, f_draftLength, f_ringCount, f_yankIndex, f_undoDepth, f_mode, f_last, f_accepted, nI z, nI m, nI s, f_displayLength, f_displayCursor, f_terminalRow, f_terminalCol, a_buffer, a_history, a_historyLengths, a_draft, a_ring, a_ringLengths, a_undoTexts, a_undoLengths, a_undoCursors, a_query, a_display, a_screen)) → wX_seek_2 post (nI z) f_width f_historyCap f_ringCap f_length f_cursor f_historyCount f_nav f_draftLength f_ringCount f_yankIndex f_undoDepth f_mode f_last f_accepted f_queryLength f_match f_matchStart f_displayLength f_displayCursor f_terminalRow f_terminalCol a_buffer a_history a_historyLengths a_draft a_ring a_ringLengths a_undoTexts a_undoLengths a_undoCursors a_query a_display a_screen (f + 1) (nI f - 1) := by
  intro f
  induction f with
  | zero => intro _ p0 _; exact br_t (by decide) (p0 rfl)
  | succ f ih =>
    intro hf p0 p1
    obtain ⟨l, hl, e⟩ := L f (by omega)
    rw [nI_pred f]
    refine br_f (nI_pos (by omega)) (xsi f z l (by omega) hl hz e ?_)
    cases c2 : ei a_history a_historyLengths a_query z f with
    | none => exact br_t (by decide) (nm_r (en_q _) (ih (by omega) (fun h => p0 (by rw [ef_s, c2]; exact h)) (fun m s h => p1 m s (by rw [ef_s, c2]; exact h))))
    | some s =>
      have hs := ei_some hl e c2
      exact br_f (nI_pos (n := s) (by omega)) (p1 f s (by rw [ef_s, c2]))
theorem xsk {post : Int32 → SX → Prop} {x0 x1 : Int32} (f z c : Nat) (hc : c ≤ 8) (hz : z ≤ 16) (L : ∀ i, i < c → ∃ l, l ≤ 32 ∧ a_historyLengths i = nI l) (hf : f ≤ c) (p0 : ef a_history a_historyLengths a_query z f = none → post 0 (f_width, f_historyCap, f_ringCap, f_length, f_cursor, f_historyCount, f_nav, f_draftLength, f_ringCount, f_yankIndex, f_undoDepth, f_mode, f_last, f_accepted, f_queryLength, f_match, f_matchStart, f_displayLength, f_displayCursor, f_terminalRow, f_terminalCol, a_buffer, a_history, a_historyLengths, a_draft, a_ring, a_ringLengths, a_undoTexts, a_undoLengths, a_undoCursors, a_query, a_display, a_screen)) (p1 : ∀ m s, ef a_history a_historyLengths a_query z f = some (m, s) → post 1 (f_width, f_historyCap, f_ringCap, f_length, f_cursor, f_historyCount, f_nav, f_draftLength, f_ringCount, f_yankIndex, f_undoDepth, f_mode, f_last, f_accepted, nI z, nI m, nI s, f_displayLength, f_displayCursor, f_terminalRow, f_terminalCol, a_buffer, a_history, a_historyLengths, a_draft, a_ring, a_ringLengths, a_undoTexts, a_undoLengths, a_undoCursors, a_query, a_display, a_screen)) (h0 : x0 = nI f - 1) (h1 : x1 = nI z := by first | with_reducible rfl | (simp (disch := omega) only [nI_add, nI_1, en_m1, en_s1, pk_sub, pk_mul, en_32, en_a2, en_a3, en_p32, en_s32, en_p2, en_s2, en_s3] <;> exact congrArg nI (by omega)) | exact congrArg nI (by omega) | rfl) : wpX_seek post (f_width, f_historyCap, f_ringCap, f_length, f_cursor, f_historyCount, f_nav, f_draftLength, f_ringCount, f_yankIndex, f_undoDepth, f_mode, f_last, f_accepted, f_queryLength, f_match, f_matchStart, f_displayLength, f_displayCursor, f_terminalRow, f_terminalCol, a_buffer, a_history, a_historyLengths, a_draft, a_ring, a_ringLengths, a_undoTexts, a_undoLengths, a_undoCursors, a_query, a_display, a_screen) x0 x1 := by
  subst h0 h1
  exact ⟨f + 1, xsk_2 hc hz L f hf p0 p1⟩
end
end
section
/-! L: the component's kill ring -/
section
variable {f_width f_historyCap f_ringCap f_length f_cursor f_historyCount f_nav f_draftLength f_ringCount f_yankIndex f_undoDepth f_mode f_last f_accepted f_queryLength f_match f_matchStart f_displayLength f_displayCursor f_terminalRow f_terminalCol : Int32} {a_buffer a_history a_historyLengths a_draft a_ring a_ringLengths a_undoTexts a_undoLengths a_undoCursors a_query a_display a_screen : Nat → Int32}
theorem xrs {post : Int32 → Prop} {x : Int32} (c i : Nat) (hi : i < c) (p : post (nI (c - 1 - i))) (hx : x = nI i := by first | with_reducible rfl | (simp (disch := omega) only [nI_add, nI_1, en_m1, en_s1, pk_sub, pk_mul, en_32, en_a2, en_a3, en_p32, en_s32, en_p2, en_s2, en_s3] <;> exact congrArg nI (by omega)) | exact congrArg nI (by omega) | rfl) : wpX_ringSlot post (f_width, f_historyCap, f_ringCap, f_length, f_cursor, f_historyCount, f_nav, f_draftLength, nI c, f_yankIndex, f_undoDepth, f_mode, f_last, f_accepted, f_queryLength, f_match, f_matchStart, f_displayLength, f_displayCursor, f_terminalRow, f_terminalCol, a_buffer, a_history, a_historyLengths, a_draft, a_ring, a_ringLengths, a_undoTexts, a_undoLengths, a_undoCursors, a_query, a_display, a_screen) x := by
  subst hx
  have e : (nI c - 1) - nI i = nI (c - 1 - i) := by rw [en_s1 (by omega), pk_sub (by omega)]
  have q : post ((nI c - 1) - nI i) := by rw [e]; exact p
  exact q
theorem xrs0 {post : Int32 → Prop} (c : Nat) (p : post (nI c)) : wpX_ringSlot post (f_width, f_historyCap, f_ringCap, f_length, f_cursor, f_historyCount, f_nav, f_draftLength, nI (c + 1), f_yankIndex, f_undoDepth, f_mode, f_last, f_accepted, f_queryLength, f_match, f_matchStart, f_displayLength, f_displayCursor, f_terminalRow, f_terminalCol, a_buffer, a_history, a_historyLengths, a_draft, a_ring, a_ringLengths, a_undoTexts, a_undoLengths, a_undoCursors, a_query, a_display, a_screen) 0 := by
  have e : (nI (c + 1) - 1) - 0 = nI c := by rw [nI_pred, Int32.sub_zero]
  have q : post ((nI (c + 1) - 1) - 0) := by rw [e]; exact p
  exact q
theorem xus {post : Int32 → Prop} {x : Int32} (c i : Nat) (hi : i < c) (p : post (nI (c - 1 - i))) (hx : x = nI i := by first | with_reducible rfl | (simp (disch := omega) only [nI_add, nI_1, en_m1, en_s1, pk_sub, pk_mul, en_32, en_a2, en_a3, en_p32, en_s32, en_p2, en_s2, en_s3] <;> exact congrArg nI (by omega)) | exact congrArg nI (by omega) | rfl) : wpX_undoSlot post (f_width, f_historyCap, f_ringCap, f_length, f_cursor, f_historyCount, f_nav, f_draftLength, f_ringCount, f_yankIndex, nI c, f_mode, f_last, f_accepted, f_queryLength, f_match, f_matchStart, f_displayLength, f_displayCursor, f_terminalRow, f_terminalCol, a_buffer, a_history, a_historyLengths, a_draft, a_ring, a_ringLengths, a_undoTexts, a_undoLengths, a_undoCursors, a_query, a_display, a_screen) x := by
  subst hx
  have e : (nI c - 1) - nI i = nI (c - 1 - i) := by rw [en_s1 (by omega), pk_sub (by omega)]
  have q : post ((nI c - 1) - nI i) := by rw [e]; exact p
  exact q
theorem xus0 {post : Int32 → Prop} (c : Nat) (p : post (nI c)) : wpX_undoSlot post (f_width, f_historyCap, f_ringCap, f_length, f_cursor, f_historyCount, f_nav, f_draftLength, f_ringCount, f_yankIndex, nI (c + 1), f_mode, f_last, f_accepted, f_queryLength, f_match, f_matchStart, f_displayLength, f_displayCursor, f_terminalRow, f_terminalCol, a_buffer, a_history, a_historyLengths, a_draft, a_ring, a_ringLengths, a_undoTexts, a_undoLengths, a_undoCursors, a_query, a_display, a_screen) 0 := by
  have e : (nI (c + 1) - 1) - 0 = nI c := by rw [nI_pred, Int32.sub_zero]
  have q : post ((nI (c + 1) - 1) - 0) := by rw [e]; exact p
  exact q
theorem xkl {post : Int32 → Prop} {x : Int32} (c i l : Nat) (hi : i < c) (hc : c ≤ 4) (e : a_ringLengths (c - 1 - i) = nI l) (p : post (nI l)) (hx : x = nI i := by first | with_reducible rfl | (simp (disch := omega) only [nI_add, nI_1, en_m1, en_s1, pk_sub, pk_mul, en_32, en_a2, en_a3, en_p32, en_s32, en_p2, en_s2, en_s3] <;> exact congrArg nI (by omega)) | exact congrArg nI (by omega) | rfl) : wpX_killLength post (f_width, f_historyCap, f_ringCap, f_length, f_cursor, f_historyCount, f_nav, f_draftLength, nI c, f_yankIndex, f_undoDepth, f_mode, f_last, f_accepted, f_queryLength, f_match, f_matchStart, f_displayLength, f_displayCursor, f_terminalRow, f_terminalCol, a_buffer, a_history, a_historyLengths, a_draft, a_ring, a_ringLengths, a_undoTexts, a_undoLengths, a_undoCursors, a_query, a_display, a_screen) x := by
  subst hx
  have q : post (a_ringLengths (nI (c - 1 - i)).toNatClampNeg) := by rw [nI_clamp (by omega), e]; exact p
  unfold wpX_killLength
  exact xrs c i hi ⟨en_in (c - 1 - i) (by omega), q⟩
theorem xgk_77 {post : SX → Prop} (st e s c q : Nat) (h1 : st + e ≤ 32) (h2 : q + e ≤ 128) (hc : c < 4) (h : post (f_width, f_historyCap, f_ringCap, f_length, f_cursor, f_historyCount, f_nav, f_draftLength, f_ringCount, f_yankIndex, f_undoDepth, f_mode, f_last, f_accepted, f_queryLength, f_match, f_matchStart, f_displayLength, f_displayCursor, f_terminalRow, f_terminalCol, a_buffer, a_history, a_historyLengths, a_draft, ec_cp a_buffer st a_ring q e, upd a_ringLengths c (nI (s + e)), a_undoTexts, a_undoLengths, a_undoCursors, a_query, a_display, a_screen)) : wX_growKill_77 post (nI st) (nI e) (nI c) (nI s) (nI q) f_width f_historyCap f_ringCap f_length f_cursor f_historyCount f_nav f_draftLength f_ringCount f_yankIndex f_undoDepth f_mode f_last f_accepted f_queryLength f_match f_matchStart f_displayLength f_displayCursor f_terminalRow f_terminalCol a_buffer a_history a_historyLengths a_draft a_ring a_ringLengths a_undoTexts a_undoLengths a_undoCursors a_query a_display a_screen :=
  xc_buffer_ring st q e h1 h2 ⟨en_in c hc, nm_r (en_u c (nI_add s e)) h⟩
theorem xgk_40 {post : SX → Prop} {st e s c b : Nat} (h1 : st + e ≤ 32) (h2 : b + s + e ≤ 128) (hc : c < 4) (h : post (f_width, f_historyCap, f_ringCap, f_length, f_cursor, f_historyCount, f_nav, f_draftLength, f_ringCount, f_yankIndex, f_undoDepth, f_mode, f_last, f_accepted, f_queryLength, f_match, f_matchStart, f_displayLength, f_displayCursor, f_terminalRow, f_terminalCol, a_buffer, a_history, a_historyLengths, a_draft, ec_cp a_buffer st (ec_cp a_ring b a_ring (b + e) s) b e, upd a_ringLengths c (nI (s + e)), a_undoTexts, a_undoLengths, a_undoCursors, a_query, a_display, a_screen)) : ∀ d t, d + t = s → wX_growKill_40 post (nI st) (nI e) (nI c) (nI b) (nI s) f_width f_historyCap f_ringCap f_length f_cursor f_historyCount f_nav f_draftLength f_ringCount f_yankIndex f_undoDepth f_mode f_last f_accepted f_queryLength f_match f_matchStart f_displayLength f_displayCursor f_terminalRow f_terminalCol (d + 1) (nI d - 1) a_buffer a_history a_historyLengths a_draft (ec_cp a_ring (b + d) a_ring (b + e + d) t) a_ringLengths a_undoTexts a_undoLengths a_undoCursors a_query a_display a_screen := by
  intro d
  induction d with
  | zero =>
    intro t ht
    obtain rfl : t = s := by omega
    exact br_t (by decide) (xgk_77 st e t c b h1 (by omega) hc h)
  | succ d ih =>
    intro t ht
    rw [nI_pred d]
    exact br_f (nI_pos (by omega)) ⟨en_in (b + d) (by omega), en_in (b + e + d) (by omega), nm_r ((en_u (b + e + d) (en_g (b + d))).trans (ec_dn (a := b + d) (b := b + e + d) (by omega) t)) (nm_r (en_q _) (ih (t + 1) (by omega)))⟩
theorem xgk_f {post : SX → Prop} {x0 x1 : Int32} (st e s c : Nat) (h1 : st + e ≤ 32) (h2 : s + e ≤ 32) (hc : c < 4) (hl : a_ringLengths c = nI s) (h : post (f_width, f_historyCap, f_ringCap, f_length, f_cursor, f_historyCount, f_nav, f_draftLength, nI (c + 1), f_yankIndex, f_undoDepth, f_mode, f_last, f_accepted, f_queryLength, f_match, f_matchStart, f_displayLength, f_displayCursor, f_terminalRow, f_terminalCol, a_buffer, a_history, a_historyLengths, a_draft, ec_cp a_buffer st a_ring (c * 32 + s) e, upd a_ringLengths c (nI (s + e)), a_undoTexts, a_undoLengths, a_undoCursors, a_query, a_display, a_screen)) (hx0 : x0 = nI st := by first | with_reducible rfl | (simp (disch := omega) only [nI_add, nI_1, en_m1, en_s1, pk_sub, pk_mul, en_32, en_a2, en_a3, en_p32, en_s32, en_p2, en_s2, en_s3] <;> exact congrArg nI (by omega)) | exact congrArg nI (by omega) | rfl) (hx1 : x1 = nI e := by first | with_reducible rfl | (simp (disch := omega) only [nI_add, nI_1, en_m1, en_s1, pk_sub, pk_mul, en_32, en_a2, en_a3, en_p32, en_s32, en_p2, en_s2, en_s3] <;> exact congrArg nI (by omega)) | exact congrArg nI (by omega) | rfl) : wpX_growKill post (f_width, f_historyCap, f_ringCap, f_length, f_cursor, f_historyCount, f_nav, f_draftLength, nI (c + 1), f_yankIndex, f_undoDepth, f_mode, f_last, f_accepted, f_queryLength, f_match, f_matchStart, f_displayLength, f_displayCursor, f_terminalRow, f_terminalCol, a_buffer, a_history, a_historyLengths, a_draft, a_ring, a_ringLengths, a_undoTexts, a_undoLengths, a_undoCursors, a_query, a_display, a_screen) x0 x1 1 := by
  subst hx0 hx1
  unfold wpX_growKill
  exact xrs0 c (nm_r (en_32 c) ⟨en_in c hc, nm_r ((en_g c).trans hl) (nm_r (nI_add (c * 32) s) (br_f (by decide) (xgk_77 st e s c (c * 32 + s) h1 (by omega) hc h)))⟩)
theorem xgk_b {post : SX → Prop} {x0 x1 : Int32} (st e s c : Nat) (h1 : st + e ≤ 32) (h2 : s + e ≤ 32) (hc : c < 4) (hl : a_ringLengths c = nI s) (h : post (f_width, f_historyCap, f_ringCap, f_length, f_cursor, f_historyCount, f_nav, f_draftLength, nI (c + 1), f_yankIndex, f_undoDepth, f_mode, f_last, f_accepted, f_queryLength, f_match, f_matchStart, f_displayLength, f_displayCursor, f_terminalRow, f_terminalCol, a_buffer, a_history, a_historyLengths, a_draft, ec_cp a_buffer st (ec_cp a_ring (c * 32) a_ring (c * 32 + e) s) (c * 32) e, upd a_ringLengths c (nI (s + e)), a_undoTexts, a_undoLengths, a_undoCursors, a_query, a_display, a_screen)) (hx0 : x0 = nI st := by first | with_reducible rfl | (simp (disch := omega) only [nI_add, nI_1, en_m1, en_s1, pk_sub, pk_mul, en_32, en_a2, en_a3, en_p32, en_s32, en_p2, en_s2, en_s3] <;> exact congrArg nI (by omega)) | exact congrArg nI (by omega) | rfl) (hx1 : x1 = nI e := by first | with_reducible rfl | (simp (disch := omega) only [nI_add, nI_1, en_m1, en_s1, pk_sub, pk_mul, en_32, en_a2, en_a3, en_p32, en_s32, en_p2, en_s2, en_s3] <;> exact congrArg nI (by omega)) | exact congrArg nI (by omega) | rfl) : wpX_growKill post (f_width, f_historyCap, f_ringCap, f_length, f_cursor, f_historyCount, f_nav, f_draftLength, nI (c + 1), f_yankIndex, f_undoDepth, f_mode, f_last, f_accepted, f_queryLength, f_match, f_matchStart, f_displayLength, f_displayCursor, f_terminalRow, f_terminalCol, a_buffer, a_history, a_historyLengths, a_draft, a_ring, a_ringLengths, a_undoTexts, a_undoLengths, a_undoCursors, a_query, a_display, a_screen) x0 x1 0 := by
  subst hx0 hx1
  have := xgk_40 (b := c * 32) h1 (by omega) hc h s 0 (by omega)
  rw [ec_0] at this
  unfold wpX_growKill
  exact xrs0 c (nm_r (en_32 c) ⟨en_in c hc, nm_r ((en_g c).trans hl) (nm_r (nI_add (c * 32) s) (br_t rfl (nm_e ⟨s + 1, this⟩)))⟩)
theorem xk_f {post : Int32 → SX → Prop} (st e s c n : Nat) (hn : n ≤ 32) (h1 : st + e ≤ n) (h2 : s + e ≤ 32) (hc : c < 4) (hl : a_ringLengths c = nI s) (h : post 1 (f_width, f_historyCap, f_ringCap, nI (n - e), nI st, f_historyCount, f_nav, f_draftLength, nI (c + 1), f_yankIndex, f_undoDepth, f_mode, 2, f_accepted, f_queryLength, f_match, f_matchStart, f_displayLength, f_displayCursor, f_terminalRow, f_terminalCol, ec_cp a_buffer (st + e) a_buffer st (n - st - e), a_history, a_historyLengths, a_draft, ec_cp a_buffer st a_ring (c * 32 + s) e, upd a_ringLengths c (nI (s + e)), a_undoTexts, a_undoLengths, a_undoCursors, a_query, a_display, a_screen)) : wX_killKey_121 post (nI st) (nI (st + e)) 1 f_width f_historyCap f_ringCap (nI n) f_cursor f_historyCount f_nav f_draftLength (nI (c + 1)) f_yankIndex f_undoDepth f_mode f_last f_accepted f_queryLength f_match f_matchStart f_displayLength f_displayCursor f_terminalRow f_terminalCol a_buffer a_history a_historyLengths a_draft a_ring a_ringLengths a_undoTexts a_undoLengths a_undoCursors a_query a_display a_screen :=
  xgk_f st e s c (by omega) h2 hc hl (xcg st e n hn h1 h)
theorem xk_b {post : Int32 → SX → Prop} (st e s c n : Nat) (hn : n ≤ 32) (h1 : st + e ≤ n) (h2 : s + e ≤ 32) (hc : c < 4) (hl : a_ringLengths c = nI s) (h : post 1 (f_width, f_historyCap, f_ringCap, nI (n - e), nI st, f_historyCount, f_nav, f_draftLength, nI (c + 1), f_yankIndex, f_undoDepth, f_mode, 2, f_accepted, f_queryLength, f_match, f_matchStart, f_displayLength, f_displayCursor, f_terminalRow, f_terminalCol, ec_cp a_buffer (st + e) a_buffer st (n - st - e), a_history, a_historyLengths, a_draft, ec_cp a_buffer st (ec_cp a_ring (c * 32) a_ring (c * 32 + e) s) (c * 32) e, upd a_ringLengths c (nI (s + e)), a_undoTexts, a_undoLengths, a_undoCursors, a_query, a_display, a_screen)) : wX_killKey_121 post (nI st) (nI (st + e)) 0 f_width f_historyCap f_ringCap (nI n) f_cursor f_historyCount f_nav f_draftLength (nI (c + 1)) f_yankIndex f_undoDepth f_mode f_last f_accepted f_queryLength f_match f_matchStart f_displayLength f_displayCursor f_terminalRow f_terminalCol a_buffer a_history a_historyLengths a_draft a_ring a_ringLengths a_undoTexts a_undoLengths a_undoCursors a_query a_display a_screen :=
  xgk_b st e s c (by omega) h2 hc hl (xcg st e n hn h1 h)
theorem xae_36 {post : SX → Prop} (c : Nat) (hc : c < 4) (h : post (f_width, f_historyCap, f_ringCap, f_length, f_cursor, f_historyCount, f_nav, f_draftLength, nI (c + 1), f_yankIndex, f_undoDepth, f_mode, f_last, f_accepted, f_queryLength, f_match, f_matchStart, f_displayLength, f_displayCursor, f_terminalRow, f_terminalCol, a_buffer, a_history, a_historyLengths, a_draft, a_ring, upd a_ringLengths c 0, a_undoTexts, a_undoLengths, a_undoCursors, a_query, a_display, a_screen)) : wX_addEmptyKill_36 post f_width f_historyCap f_ringCap f_length f_cursor f_historyCount f_nav f_draftLength (nI c) f_yankIndex f_undoDepth f_mode f_last f_accepted f_queryLength f_match f_matchStart f_displayLength f_displayCursor f_terminalRow f_terminalCol a_buffer a_history a_historyLengths a_draft a_ring a_ringLengths a_undoTexts a_undoLengths a_undoCursors a_query a_display a_screen :=
  ⟨en_in c hc, nm_r (en_u c) (nm_r (nI_1 c) h)⟩
theorem xae_n {post : SX → Prop} (c r : Nat) (hc : c < r) (hr : r ≤ 4) (h : post (f_width, f_historyCap, nI r, f_length, f_cursor, f_historyCount, f_nav, f_draftLength, nI (c + 1), f_yankIndex, f_undoDepth, f_mode, f_last, f_accepted, f_queryLength, f_match, f_matchStart, f_displayLength, f_displayCursor, f_terminalRow, f_terminalCol, a_buffer, a_history, a_historyLengths, a_draft, a_ring, upd a_ringLengths c 0, a_undoTexts, a_undoLengths, a_undoCursors, a_query, a_display, a_screen)) : wpX_addEmptyKill post (f_width, f_historyCap, nI r, f_length, f_cursor, f_historyCount, f_nav, f_draftLength, nI c, f_yankIndex, f_undoDepth, f_mode, f_last, f_accepted, f_queryLength, f_match, f_matchStart, f_displayLength, f_displayCursor, f_terminalRow, f_terminalCol, a_buffer, a_history, a_historyLengths, a_draft, a_ring, a_ringLengths, a_undoTexts, a_undoLengths, a_undoCursors, a_query, a_display, a_screen) :=
  en_eq c r (by omega) (xae_36 c (by omega) h)
theorem xae_f {post : SX → Prop} (c : Nat) (hc : c < 4) (h : post (f_width, f_historyCap, nI (c + 1), f_length, f_cursor, f_historyCount, f_nav, f_draftLength, nI (c + 1), f_yankIndex, f_undoDepth, f_mode, f_last, f_accepted, f_queryLength, f_match, f_matchStart, f_displayLength, f_displayCursor, f_terminalRow, f_terminalCol, a_buffer, a_history, a_historyLengths, a_draft, ec_cp a_ring 32 a_ring 0 (c * 32), upd (ec_cp a_ringLengths 1 a_ringLengths 0 c) c 0, a_undoTexts, a_undoLengths, a_undoCursors, a_query, a_display, a_screen)) : wpX_addEmptyKill post (f_width, f_historyCap, nI (c + 1), f_length, f_cursor, f_historyCount, f_nav, f_draftLength, nI (c + 1), f_yankIndex, f_undoDepth, f_mode, f_last, f_accepted, f_queryLength, f_match, f_matchStart, f_displayLength, f_displayCursor, f_terminalRow, f_terminalCol, a_buffer, a_history, a_historyLengths, a_draft, a_ring, a_ringLengths, a_undoTexts, a_undoLengths, a_undoCursors, a_query, a_display, a_screen) :=
  ey_eq (c + 1) (c + 1) rfl (xc_ring_ring 32 0 (c * 32) (by omega) (by omega) (by omega) (xc_ringLengths_ringLengths 1 0 c (by omega) (by omega) (by omega) (nm_r (nI_pred c) (xae_36 c hc h))))
/-- the ring's entry i put in at the cursor -/
theorem xik {post : SX → Prop} {x : Int32} (c i l n k : Nat) (hi : i < c) (hc : c ≤ 4) (hl : n + l ≤ 32) (hk : k ≤ n) (e : a_ringLengths (c - 1 - i) = nI l) (h : post (f_width, f_historyCap, f_ringCap, nI (n + l), nI (k + l), f_historyCount, f_nav, f_draftLength, nI c, nI i, f_undoDepth, f_mode, f_last, f_accepted, f_queryLength, f_match, f_matchStart, f_displayLength, f_displayCursor, f_terminalRow, f_terminalCol, ec_cp a_ring ((c - 1 - i) * 32) (ec_cp a_buffer k a_buffer (k + l) (n - k)) k l, a_history, a_historyLengths, a_draft, a_ring, a_ringLengths, a_undoTexts, a_undoLengths, a_undoCursors, a_query, a_display, a_screen)) (hx : x = nI i := by first | with_reducible rfl | (simp (disch := omega) only [nI_add, nI_1, en_m1, en_s1, pk_sub, pk_mul, en_32, en_a2, en_a3, en_p32, en_s32, en_p2, en_s2, en_s3] <;> exact congrArg nI (by omega)) | exact congrArg nI (by omega) | rfl) : wpX_insertKill post (f_width, f_historyCap, f_ringCap, nI n, nI k, f_historyCount, f_nav, f_draftLength, nI c, f_yankIndex, f_undoDepth, f_mode, f_last, f_accepted, f_queryLength, f_match, f_matchStart, f_displayLength, f_displayCursor, f_terminalRow, f_terminalCol, a_buffer, a_history, a_historyLengths, a_draft, a_ring, a_ringLengths, a_undoTexts, a_undoLengths, a_undoCursors, a_query, a_display, a_screen) x := by
  subst hx
  unfold wpX_insertKill
  exact xrs c i hi ⟨en_in (c - 1 - i) (by omega), nm_r ((en_g (c - 1 - i)).trans e) (xog k l n hl hk (xc_ring_buffer ((c - 1 - i) * 32) k l (by omega) (by omega) (nm_r (nI_add k l) h)))⟩
end
end
section
/-! M: the component's picture -/
def ed_S (D S : Nat → Int32) (dl c : Nat) : Nat → Int32 := fun j => if j < c then (if j < dl then D j else 32) else S j
theorem ed_0 (D S : Nat → Int32) (dl : Nat) : ed_S D S dl 0 = S := by
  funext j
  exact if_neg (by omega)
theorem ed_1 {D S : Nat → Int32} {dl c : Nat} {x : Int32} (h : (if c < dl then D c else 32) = x) : upd (ed_S D S dl c) c x = ed_S D S dl (c + 1) := by
  funext j
  by_cases e : j = c
  · subst e
    rw [ec_us]
    unfold ed_S
    rw [if_pos (show j < j + 1 by omega), h]
  · rw [ec_un e]
    unfold ed_S
    by_cases e2 : j < c
    · rw [if_pos e2, if_pos (show j < c + 1 by omega)]
    · rw [if_neg e2, if_neg (show ¬ j < c + 1 by omega)]
theorem ed_e {B D : Nat → Int32} {n : Nat} : ec_cp B 0 (upd (upd D 0 62) 1 32) 2 n 0 = 62 ∧ ec_cp B 0 (upd (upd D 0 62) 1 32) 2 n 1 = 32 ∧ ∀ j, j < n → ec_cp B 0 (upd (upd D 0 62) 1 32) 2 n (2 + j) = B j := by
  refine ⟨?_, ?_, fun j hj => ?_⟩
  · rw [ec_o (by omega), ec_un (by omega), ec_us]
  · rw [ec_o (by omega), ec_us]
  · rw [ec_k hj, Nat.zero_add]
theorem ed_f {T Q D : Nat → Int32} {a q l : Nat} {F : Nat → Int32} (hF : F = ec_cp T a (upd (upd (ec_cp Q 0 (upd D 0 63) 1 q) (1 + q) 58) (1 + q + 1) 32) (1 + q + 1 + 1) l) :
    F 0 = 63 ∧ (∀ j, j < q → F (1 + j) = Q j) ∧ F (1 + q) = 58 ∧ F (2 + q) = 32 ∧ ∀ j, j < l → F (3 + q + j) = T (a + j) := by
  subst hF
  refine ⟨?_, fun j hj => ?_, ?_, ?_, fun j hj => ?_⟩
  · rw [ec_o (by omega), ec_un (by omega), ec_un (by omega), ec_o (by omega), ec_us]
  · rw [ec_o (by omega), ec_un (by omega), ec_un (by omega), ec_k hj, Nat.zero_add]
  · rw [ec_o (by omega), ec_un (by omega), ec_us]
  · rw [show 2 + q = 1 + q + 1 by omega, ec_o (by omega), ec_us]
  · rw [show 3 + q + j = 1 + q + 1 + 1 + j by omega, ec_k hj]
section
variable {f_width f_historyCap f_ringCap f_length f_cursor f_historyCount f_nav f_draftLength f_ringCount f_yankIndex f_undoDepth f_mode f_last f_accepted f_queryLength f_match f_matchStart f_displayLength f_displayCursor f_terminalRow f_terminalCol : Int32} {a_buffer a_history a_historyLengths a_draft a_ring a_ringLengths a_undoTexts a_undoLengths a_undoCursors a_query a_display a_screen : Nat → Int32}
theorem xsc {post : SX → Prop} {c : Int32} (L : Nat) (hL : L < 51) (h : post (f_width, f_historyCap, f_ringCap, f_length, f_cursor, f_historyCount, f_nav, f_draftLength, f_ringCount, f_yankIndex, f_undoDepth, f_mode, f_last, f_accepted, f_queryLength, f_match, f_matchStart, nI (L + 1), f_displayCursor, f_terminalRow, f_terminalCol, a_buffer, a_history, a_historyLengths, a_draft, a_ring, a_ringLengths, a_undoTexts, a_undoLengths, a_undoCursors, a_query, upd a_display L c, a_screen)) : wpX_showChar post (f_width, f_historyCap, f_ringCap, f_length, f_cursor, f_historyCount, f_nav, f_draftLength, f_ringCount, f_yankIndex, f_undoDepth, f_mode, f_last, f_accepted, f_queryLength, f_match, f_matchStart, nI L, f_displayCursor, f_terminalRow, f_terminalCol, a_buffer, a_history, a_historyLengths, a_draft, a_ring, a_ringLengths, a_undoTexts, a_undoLengths, a_undoCursors, a_query, a_display, a_screen) c :=
  ⟨en_in L hL, nm_r (en_u L) (nm_r (nI_1 L) h)⟩
theorem xst_b {post : SX → Prop} {x1 x2 : Int32} (a c L : Nat) (h1 : a + c ≤ 32) (h2 : L + c ≤ 51) (h : post (f_width, f_historyCap, f_ringCap, f_length, f_cursor, f_historyCount, f_nav, f_draftLength, f_ringCount, f_yankIndex, f_undoDepth, f_mode, f_last, f_accepted, f_queryLength, f_match, f_matchStart, nI (L + c), f_displayCursor, f_terminalRow, f_terminalCol, a_buffer, a_history, a_historyLengths, a_draft, a_ring, a_ringLengths, a_undoTexts, a_undoLengths, a_undoCursors, a_query, ec_cp a_buffer a a_display L c, a_screen)) (e1 : x1 = nI a := by first | with_reducible rfl | (simp (disch := omega) only [nI_add, nI_1, en_m1, en_s1, pk_sub, pk_mul, en_32, en_a2, en_a3, en_p32, en_s32, en_p2, en_s2, en_s3] <;> exact congrArg nI (by omega)) | exact congrArg nI (by omega) | rfl) (e2 : x2 = nI c := by first | with_reducible rfl | (simp (disch := omega) only [nI_add, nI_1, en_m1, en_s1, pk_sub, pk_mul, en_32, en_a2, en_a3, en_p32, en_s32, en_p2, en_s2, en_s3] <;> exact congrArg nI (by omega)) | exact congrArg nI (by omega) | rfl) : wpX_showText__buffer post (f_width, f_historyCap, f_ringCap, f_length, f_cursor, f_historyCount, f_nav, f_draftLength, f_ringCount, f_yankIndex, f_undoDepth, f_mode, f_last, f_accepted, f_queryLength, f_match, f_matchStart, nI L, f_displayCursor, f_terminalRow, f_terminalCol, a_buffer, a_history, a_historyLengths, a_draft, a_ring, a_ringLengths, a_undoTexts, a_undoLengths, a_undoCursors, a_query, a_display, a_screen) x1 x2 := by
  subst e1 e2
  exact xc_buffer_display a L c h1 h2 (nm_r (nI_add L c) h)
theorem xst_q {post : SX → Prop} {x1 x2 : Int32} (a c L : Nat) (h1 : a + c ≤ 16) (h2 : L + c ≤ 51) (h : post (f_width, f_historyCap, f_ringCap, f_length, f_cursor, f_historyCount, f_nav, f_draftLength, f_ringCount, f_yankIndex, f_undoDepth, f_mode, f_last, f_accepted, f_queryLength, f_match, f_matchStart, nI (L + c), f_displayCursor, f_terminalRow, f_terminalCol, a_buffer, a_history, a_historyLengths, a_draft, a_ring, a_ringLengths, a_undoTexts, a_undoLengths, a_undoCursors, a_query, ec_cp a_query a a_display L c, a_screen)) (e1 : x1 = nI a := by first | with_reducible rfl | (simp (disch := omega) only [nI_add, nI_1, en_m1, en_s1, pk_sub, pk_mul, en_32, en_a2, en_a3, en_p32, en_s32, en_p2, en_s2, en_s3] <;> exact congrArg nI (by omega)) | exact congrArg nI (by omega) | rfl) (e2 : x2 = nI c := by first | with_reducible rfl | (simp (disch := omega) only [nI_add, nI_1, en_m1, en_s1, pk_sub, pk_mul, en_32, en_a2, en_a3, en_p32, en_s32, en_p2, en_s2, en_s3] <;> exact congrArg nI (by omega)) | exact congrArg nI (by omega) | rfl) : wpX_showText__query post (f_width, f_historyCap, f_ringCap, f_length, f_cursor, f_historyCount, f_nav, f_draftLength, f_ringCount, f_yankIndex, f_undoDepth, f_mode, f_last, f_accepted, f_queryLength, f_match, f_matchStart, nI L, f_displayCursor, f_terminalRow, f_terminalCol, a_buffer, a_history, a_historyLengths, a_draft, a_ring, a_ringLengths, a_undoTexts, a_undoLengths, a_undoCursors, a_query, a_display, a_screen) x1 x2 := by
  subst e1 e2
  exact xc_query_display a L c h1 h2 (nm_r (nI_add L c) h)
theorem xst_h {post : SX → Prop} {x1 x2 : Int32} (a c L : Nat) (h1 : a + c ≤ 256) (h2 : L + c ≤ 51) (h : post (f_width, f_historyCap, f_ringCap, f_length, f_cursor, f_historyCount, f_nav, f_draftLength, f_ringCount, f_yankIndex, f_undoDepth, f_mode, f_last, f_accepted, f_queryLength, f_match, f_matchStart, nI (L + c), f_displayCursor, f_terminalRow, f_terminalCol, a_buffer, a_history, a_historyLengths, a_draft, a_ring, a_ringLengths, a_undoTexts, a_undoLengths, a_undoCursors, a_query, ec_cp a_history a a_display L c, a_screen)) (e1 : x1 = nI a := by first | with_reducible rfl | (simp (disch := omega) only [nI_add, nI_1, en_m1, en_s1, pk_sub, pk_mul, en_32, en_a2, en_a3, en_p32, en_s32, en_p2, en_s2, en_s3] <;> exact congrArg nI (by omega)) | exact congrArg nI (by omega) | rfl) (e2 : x2 = nI c := by first | with_reducible rfl | (simp (disch := omega) only [nI_add, nI_1, en_m1, en_s1, pk_sub, pk_mul, en_32, en_a2, en_a3, en_p32, en_s32, en_p2, en_s2, en_s3] <;> exact congrArg nI (by omega)) | exact congrArg nI (by omega) | rfl) : wpX_showText__history post (f_width, f_historyCap, f_ringCap, f_length, f_cursor, f_historyCount, f_nav, f_draftLength, f_ringCount, f_yankIndex, f_undoDepth, f_mode, f_last, f_accepted, f_queryLength, f_match, f_matchStart, nI L, f_displayCursor, f_terminalRow, f_terminalCol, a_buffer, a_history, a_historyLengths, a_draft, a_ring, a_ringLengths, a_undoTexts, a_undoLengths, a_undoCursors, a_query, a_display, a_screen) x1 x2 := by
  subst e1 e2
  exact xc_history_display a L c h1 h2 (nm_r (nI_add L c) h)
theorem xce {post : SX → Prop} {n k : Nat} (hn : n ≤ 32) (h : post (f_width, f_historyCap, f_ringCap, nI n, nI k, f_historyCount, f_nav, f_draftLength, f_ringCount, f_yankIndex, f_undoDepth, f_mode, f_last, f_accepted, f_queryLength, f_match, f_matchStart, nI (2 + n), nI (2 + k), f_terminalRow, f_terminalCol, a_buffer, a_history, a_historyLengths, a_draft, a_ring, a_ringLengths, a_undoTexts, a_undoLengths, a_undoCursors, a_query, ec_cp a_buffer 0 (upd (upd a_display 0 62) 1 32) 2 n, a_screen)) : wpX_composeEdit post (f_width, f_historyCap, f_ringCap, nI n, nI k, f_historyCount, f_nav, f_draftLength, f_ringCount, f_yankIndex, f_undoDepth, f_mode, f_last, f_accepted, f_queryLength, f_match, f_matchStart, 0, f_displayCursor, f_terminalRow, f_terminalCol, a_buffer, a_history, a_historyLengths, a_draft, a_ring, a_ringLengths, a_undoTexts, a_undoLengths, a_undoCursors, a_query, a_display, a_screen) := by
  unfold wpX_composeEdit
  exact xsc 0 (by omega) (xsc 1 (by omega) (nm_r (nI_add 2 k) (xst_b 0 n 2 (by omega) (by omega) h)))
theorem xcs_b {post : SX → Prop} {n k q : Nat} (hn : n ≤ 32) (hq : q ≤ 16) (h : post (f_width, f_historyCap, f_ringCap, nI n, nI k, f_historyCount, f_nav, f_draftLength, f_ringCount, f_yankIndex, f_undoDepth, f_mode, f_last, f_accepted, nI q, (-1), f_matchStart, nI (1 + q + 1 + 1 + n), nI (1 + q + 1 + 1 + k), f_terminalRow, f_terminalCol, a_buffer, a_history, a_historyLengths, a_draft, a_ring, a_ringLengths, a_undoTexts, a_undoLengths, a_undoCursors, a_query, ec_cp a_buffer 0 (upd (upd (ec_cp a_query 0 (upd a_display 0 63) 1 q) (1 + q) 58) (1 + q + 1) 32) (1 + q + 1 + 1) n, a_screen)) : wpX_composeSearch post (f_width, f_historyCap, f_ringCap, nI n, nI k, f_historyCount, f_nav, f_draftLength, f_ringCount, f_yankIndex, f_undoDepth, f_mode, f_last, f_accepted, nI q, (-1), f_matchStart, 0, f_displayCursor, f_terminalRow, f_terminalCol, a_buffer, a_history, a_historyLengths, a_draft, a_ring, a_ringLengths, a_undoTexts, a_undoLengths, a_undoCursors, a_query, a_display, a_screen) := by
  unfold wpX_composeSearch
  exact xsc 0 (by omega) (xst_q 0 q 1 (by omega) (by omega) (xsc (1 + q) (by omega) (xsc (1 + q + 1) (by omega) (br_t (by decide) (nm_r (nI_add (1 + q + 1 + 1) k) (xst_b 0 n (1 + q + 1 + 1) (by omega) (by omega) h))))))
theorem xcs_h {post : SX → Prop} {i l p q : Nat} (hi : i < 8) (hl : l ≤ 32) (hq : q ≤ 16) (e : a_historyLengths i = nI l) (h : post (f_width, f_historyCap, f_ringCap, f_length, f_cursor, f_historyCount, f_nav, f_draftLength, f_ringCount, f_yankIndex, f_undoDepth, f_mode, f_last, f_accepted, nI q, nI i, nI p, nI (1 + q + 1 + 1 + l), nI (1 + q + 1 + 1 + p), f_terminalRow, f_terminalCol, a_buffer, a_history, a_historyLengths, a_draft, a_ring, a_ringLengths, a_undoTexts, a_undoLengths, a_undoCursors, a_query, ec_cp a_history (i * 32) (upd (upd (ec_cp a_query 0 (upd a_display 0 63) 1 q) (1 + q) 58) (1 + q + 1) 32) (1 + q + 1 + 1) l, a_screen)) : wpX_composeSearch post (f_width, f_historyCap, f_ringCap, f_length, f_cursor, f_historyCount, f_nav, f_draftLength, f_ringCount, f_yankIndex, f_undoDepth, f_mode, f_last, f_accepted, nI q, nI i, nI p, 0, f_displayCursor, f_terminalRow, f_terminalCol, a_buffer, a_history, a_historyLengths, a_draft, a_ring, a_ringLengths, a_undoTexts, a_undoLengths, a_undoCursors, a_query, a_display, a_screen) := by
  unfold wpX_composeSearch
  exact xsc 0 (by omega) (xst_q 0 q 1 (by omega) (by omega) (xsc (1 + q) (by omega) (xsc (1 + q + 1) (by omega) (br_f (nI_pos (by omega)) (nm_r (nI_add (1 + q + 1 + 1) p) ⟨en_in i hi, xst_h (i * 32) l (1 + q + 1 + 1) (by omega) (by omega) h (en_32 i) ((en_g i).trans e)⟩)))))
theorem xds_10 {post : SX → Prop} {w dl dc : Nat} (hw : 4 ≤ w) (hw2 : w ≤ 16) (hdl : dl ≤ 51) (hdc : dc ≤ 51) (h : post (nI w, f_historyCap, f_ringCap, f_length, f_cursor, f_historyCount, f_nav, f_draftLength, f_ringCount, f_yankIndex, f_undoDepth, f_mode, f_last, f_accepted, f_queryLength, f_match, f_matchStart, nI dl, nI dc, nI (dc / w), nI (dc % w), a_buffer, a_history, a_historyLengths, a_draft, a_ring, a_ringLengths, a_undoTexts, a_undoLengths, a_undoCursors, a_query, a_display, ed_S a_display a_screen dl (16 * w))) : ∀ d i, i + d = 16 * w → wX_drawScreen_10 post (nI (16 * w)) (nI w) f_historyCap f_ringCap f_length f_cursor f_historyCount f_nav f_draftLength f_ringCount f_yankIndex f_undoDepth f_mode f_last f_accepted f_queryLength f_match f_matchStart (nI dl) (nI dc) f_terminalRow f_terminalCol (d + 1) (nI i) a_buffer a_history a_historyLengths a_draft a_ring a_ringLengths a_undoTexts a_undoLengths a_undoCursors a_query a_display (ed_S a_display a_screen dl i) := by
  intro d
  induction d with
  | zero =>
    intro i hi
    obtain rfl : i = 16 * w := by omega
    have w0 : ¬ nI w = 0 := nI_ne0 (by omega) (by omega)
    exact ey_le (16 * w) (16 * w) (Nat.le_refl _) ⟨w0, nm_r (pk_div (by omega) (by omega) (by omega)) ⟨w0, nm_r (pk_rem (by omega) (by omega) (by omega)) h⟩⟩
  | succ d ih =>
    intro i hi
    refine en_le (16 * w) i (by omega) ?_
    by_cases c : i < dl
    · exact en_le dl i c ⟨en_in i (by omega), en_in i (by omega), nm_r ((en_u i (en_g i)).trans (ed_1 (if_pos c))) (nm_r (nI_1 i) (ih (i + 1) (by omega)))⟩
    · exact ey_le dl i (by omega) ⟨en_in i (by omega), nm_r ((en_u i).trans (ed_1 (if_neg c))) (nm_r (nI_1 i) (ih (i + 1) (by omega)))⟩
theorem xdr {post : SX → Prop} {w dl dc : Nat} (hw : 4 ≤ w) (hw2 : w ≤ 16) (hdl : dl ≤ 51) (hdc : dc ≤ 51) (h : post (nI w, f_historyCap, f_ringCap, f_length, f_cursor, f_historyCount, f_nav, f_draftLength, f_ringCount, f_yankIndex, f_undoDepth, f_mode, f_last, f_accepted, f_queryLength, f_match, f_matchStart, nI dl, nI dc, nI (dc / w), nI (dc % w), a_buffer, a_history, a_historyLengths, a_draft, a_ring, a_ringLengths, a_undoTexts, a_undoLengths, a_undoCursors, a_query, a_display, ed_S a_display a_screen dl (16 * w))) : wpX_drawScreen post (nI w, f_historyCap, f_ringCap, f_length, f_cursor, f_historyCount, f_nav, f_draftLength, f_ringCount, f_yankIndex, f_undoDepth, f_mode, f_last, f_accepted, f_queryLength, f_match, f_matchStart, nI dl, nI dc, f_terminalRow, f_terminalCol, a_buffer, a_history, a_historyLengths, a_draft, a_ring, a_ringLengths, a_undoTexts, a_undoLengths, a_undoCursors, a_query, a_display, a_screen) := by
  have := xds_10 (f_terminalRow := f_terminalRow) (f_terminalCol := f_terminalCol) hw hw2 hdl hdc h (16 * w) 0 (by omega)
  rw [ed_0] at this
  exact nm_r (en_16 w) ⟨16 * w + 1, this⟩
/-- the picture, made anew -/
theorem xrf {w n k mo ql p : Nat} {m : Int32} (hw : 4 ≤ w) (hw2 : w ≤ 16) (hn : n ≤ 32) (hk : k ≤ n) (hq : ql ≤ 16)
    (hm : mo = 0 ∨ (mo = 1 ∧ (m = -1 ∨ ∃ i l, m = nI i ∧ i < 8 ∧ l ≤ 32 ∧ a_historyLengths i = nI l ∧ p ≤ l))) :
    ∃ (dl dc : Nat) (DS SC : Nat → Int32), eP w n k mo ql p m a_buffer a_history a_historyLengths a_query dl dc DS SC ∧
      ∀ post : SX → Prop, post (nI w, f_historyCap, f_ringCap, nI n, nI k, f_historyCount, f_nav, f_draftLength, f_ringCount, f_yankIndex, f_undoDepth, nI mo, f_last, f_accepted, nI ql, m, nI p, nI dl, nI dc, nI (dc / w), nI (dc % w), a_buffer, a_history, a_historyLengths, a_draft, a_ring, a_ringLengths, a_undoTexts, a_undoLengths, a_undoCursors, a_query, DS, SC) → wpX_refresh post (nI w, f_historyCap, f_ringCap, nI n, nI k, f_historyCount, f_nav, f_draftLength, f_ringCount, f_yankIndex, f_undoDepth, nI mo, f_last, f_accepted, nI ql, m, nI p, f_displayLength, f_displayCursor, f_terminalRow, f_terminalCol, a_buffer, a_history, a_historyLengths, a_draft, a_ring, a_ringLengths, a_undoTexts, a_undoLengths, a_undoCursors, a_query, a_display, a_screen) := by
  rcases hm with rfl | ⟨rfl, rfl | ⟨i, l, rfl, hi, hl, e, hp⟩⟩
  · refine ⟨2 + n, 2 + k, ec_cp a_buffer 0 (upd (upd a_display 0 62) 1 32) 2 n, ed_S (ec_cp a_buffer 0 (upd (upd a_display 0 62) 1 32) 2 n) a_screen (2 + n) (16 * w), ⟨by omega, by omega, fun j hj => if_pos hj, Or.inl ⟨rfl, rfl, rfl, ed_e.1, ed_e.2.1, ed_e.2.2⟩⟩, fun post hp => ?_⟩
    exact en_eq 0 1 (by omega) (xce hn (xdr hw hw2 (by omega) (by omega) hp))
  · have F := ed_f (T := a_buffer) (Q := a_query) (D := a_display) (a := 0) (q := ql) (l := n) rfl
    refine ⟨1 + ql + 1 + 1 + n, 1 + ql + 1 + 1 + k, ec_cp a_buffer 0 (upd (upd (ec_cp a_query 0 (upd a_display 0 63) 1 ql) (1 + ql) 58) (1 + ql + 1) 32) (1 + ql + 1 + 1) n, ed_S (ec_cp a_buffer 0 (upd (upd (ec_cp a_query 0 (upd a_display 0 63) 1 ql) (1 + ql) 58) (1 + ql + 1) 32) (1 + ql + 1 + 1) n) a_screen (1 + ql + 1 + 1 + n) (16 * w), ⟨by omega, by omega, fun j hj => if_pos hj, Or.inr ⟨rfl, F.1, F.2.1, F.2.2.1, F.2.2.2.1, Or.inl ⟨rfl, by omega, by omega, fun j hj => (F.2.2.2.2 j hj).trans (congrArg a_buffer (Nat.zero_add j))⟩⟩⟩, fun post hp => ?_⟩
    exact ey_eq 1 1 rfl (xcs_b hn hq (xdr hw hw2 (by omega) (by omega) hp))
  · have F := ed_f (T := a_history) (Q := a_query) (D := a_display) (a := i * 32) (q := ql) (l := l) rfl
    refine ⟨1 + ql + 1 + 1 + l, 1 + ql + 1 + 1 + p, ec_cp a_history (i * 32) (upd (upd (ec_cp a_query 0 (upd a_display 0 63) 1 ql) (1 + ql) 58) (1 + ql + 1) 32) (1 + ql + 1 + 1) l, ed_S (ec_cp a_history (i * 32) (upd (upd (ec_cp a_query 0 (upd a_display 0 63) 1 ql) (1 + ql) 58) (1 + ql + 1) 32) (1 + ql + 1 + 1) l) a_screen (1 + ql + 1 + 1 + l) (16 * w), ⟨by omega, by omega, fun j hj => if_pos hj, Or.inr ⟨rfl, F.1, F.2.1, F.2.2.1, F.2.2.2.1, Or.inr ⟨i, l, rfl, hi, hl, e, by omega, by omega, F.2.2.2.2⟩⟩⟩, fun post hp => ?_⟩
    exact ey_eq 1 1 rfl (xcs_h hi hl hq e (xdr hw hw2 (by omega) (by omega) hp))
end
end
section
/-! N: the reference's buffer and undo stack -/
section
variable {g_w g_hh g_rr g_n g_k g_hc g_nav g_dn g_kc g_ud g_last g_y g_mode g_ql g_p g_accepted g_m : Int32} {b_buf b_hist b_histL b_draft b_ring b_ringL b_und b_undL b_undK b_q : Nat → Int32}
theorem yin_27 {post : SY → Prop} {a n : Nat} {c : Int32} (hn : n < 32) (h : post (g_w, g_hh, g_rr, nI (n + 1), g_k, g_hc, g_nav, g_dn, g_kc, g_ud, g_last, g_y, g_mode, g_ql, g_p, g_accepted, g_m, upd (ec_cp b_buf a b_buf (a + 1) (n - a)) a c, b_hist, b_histL, b_draft, b_ring, b_ringL, b_und, b_undL, b_undK, b_q)) : ∀ d e, a + d + e = n → wY_insertChar_27 post (nI a) c g_w g_hh g_rr (nI n) g_k g_hc g_nav g_dn g_kc g_ud g_last g_y g_mode g_ql g_p g_accepted g_m (d + 1) (nI (a + d)) (ec_cp b_buf (a + d) b_buf (a + d + 1) e) b_hist b_histL b_draft b_ring b_ringL b_und b_undL b_undK b_q := by
  intro d
  induction d with
  | zero =>
    intro e he
    obtain rfl : e = n - a := by omega
    exact ey_le a a (Nat.le_refl _) ⟨en_in a (by omega), nm_r (en_u a) (nm_r (nI_1 n) h)⟩
  | succ d ih =>
    intro e he
    exact en_le (a + d + 1) a (by omega) ⟨en_in (a + d) (by omega) (nI_pred (a + d)), en_in (a + d + 1) (by omega), nm_r ((en_u (a + d + 1) (en_g (a + d) (nI_pred (a + d)))).trans (ec_dn (a := a + d) (b := a + d + 1) (by omega) e)) (nm_r (pk_m1 (a + d)) (ih (e + 1) (by omega)))⟩
theorem yin {post : SY → Prop} {x c : Int32} (a n : Nat) (hn : n < 32) (ha : a ≤ n) (h : post (g_w, g_hh, g_rr, nI (n + 1), g_k, g_hc, g_nav, g_dn, g_kc, g_ud, g_last, g_y, g_mode, g_ql, g_p, g_accepted, g_m, upd (ec_cp b_buf a b_buf (a + 1) (n - a)) a c, b_hist, b_histL, b_draft, b_ring, b_ringL, b_und, b_undL, b_undK, b_q)) (hx : x = nI a := by first | with_reducible rfl | (simp (disch := omega) only [nI_add, nI_1, en_m1, en_s1, pk_sub, pk_mul, en_32, en_a2, en_a3, en_p32, en_s32, en_p2, en_s2, en_s3] <;> exact congrArg nI (by omega)) | exact congrArg nI (by omega) | rfl) : wpY_insertChar post (g_w, g_hh, g_rr, nI n, g_k, g_hc, g_nav, g_dn, g_kc, g_ud, g_last, g_y, g_mode, g_ql, g_p, g_accepted, g_m, b_buf, b_hist, b_histL, b_draft, b_ring, b_ringL, b_und, b_undL, b_undK, b_q) x c := by
  subst hx
  have := yin_27 hn h (n - a) 0 (by omega)
  rw [ec_0, show a + (n - a) = n by omega] at this
  exact en_le 32 n (by omega) (br_f (nI_pos (by omega)) (ey_le a n ha ⟨n - a + 1, this⟩))
theorem yrm_15 {post : SY → Prop} {a n : Nat} (hn : n ≤ 32) (ha : a < n) (h : post (g_w, g_hh, g_rr, nI (n - 1), g_k, g_hc, g_nav, g_dn, g_kc, g_ud, g_last, g_y, g_mode, g_ql, g_p, g_accepted, g_m, ec_cp b_buf (a + 1) b_buf a (n - 1 - a), b_hist, b_histL, b_draft, b_ring, b_ringL, b_und, b_undL, b_undK, b_q)) : ∀ d i, a + i + d = n - 1 → wY_removeAt_15 post g_w g_hh g_rr (nI n) g_k g_hc g_nav g_dn g_kc g_ud g_last g_y g_mode g_ql g_p g_accepted g_m (d + 1) (nI (a + i)) (ec_cp b_buf (a + 1) b_buf a i) b_hist b_histL b_draft b_ring b_ringL b_und b_undL b_undK b_q := by
  intro d
  induction d with
  | zero =>
    intro i hi
    obtain rfl : i = n - 1 - a := by omega
    exact ey_le (n - 1) (a + (n - 1 - a)) (by omega) (nm_r (en_s1 (by omega)) h)
  | succ d ih =>
    intro i hi
    exact en_le (n - 1) (a + i) (by omega) ⟨en_in (a + 1 + i) (by omega), en_in (a + i) (by omega), nm_r ((en_u (a + i) (en_g (a + 1 + i))).trans (ec_up (by omega) i)) (nm_r (nI_1 _) (ih (i + 1) (by omega)))⟩
theorem yrm {post : SY → Prop} {x : Int32} (a n : Nat) (hn : n ≤ 32) (ha : a < n) (h : post (g_w, g_hh, g_rr, nI (n - 1), g_k, g_hc, g_nav, g_dn, g_kc, g_ud, g_last, g_y, g_mode, g_ql, g_p, g_accepted, g_m, ec_cp b_buf (a + 1) b_buf a (n - 1 - a), b_hist, b_histL, b_draft, b_ring, b_ringL, b_und, b_undL, b_undK, b_q)) (hx : x = nI a := by first | with_reducible rfl | (simp (disch := omega) only [nI_add, nI_1, en_m1, en_s1, pk_sub, pk_mul, en_32, en_a2, en_a3, en_p32, en_s32, en_p2, en_s2, en_s3] <;> exact congrArg nI (by omega)) | exact congrArg nI (by omega) | rfl) : wpY_removeAt post (g_w, g_hh, g_rr, nI n, g_k, g_hc, g_nav, g_dn, g_kc, g_ud, g_last, g_y, g_mode, g_ql, g_p, g_accepted, g_m, b_buf, b_hist, b_histL, b_draft, b_ring, b_ringL, b_und, b_undL, b_undK, b_q) x := by
  subst hx
  have := yrm_15 hn ha h (n - 1 - a) 0 (by omega)
  rw [ec_0] at this
  exact br_f (nI_pos (by omega)) (ey_lt a n ha ⟨n - 1 - a + 1, this⟩)
theorem ypu_98 {post : SY → Prop} {ud : Nat} (h8 : ud < 8) (h : post (g_w, g_hh, g_rr, g_n, g_k, g_hc, g_nav, g_dn, g_kc, nI (ud + 1), g_last, g_y, g_mode, g_ql, g_p, g_accepted, g_m, b_buf, b_hist, b_histL, b_draft, b_ring, b_ringL, ec_cp b_buf 0 b_und (ud * 32) 32, upd b_undL ud g_n, upd b_undK ud g_k, b_q)) : ∀ d i, i + d = 32 → wY_push_98 post g_w g_hh g_rr g_n g_k g_hc g_nav g_dn g_kc (nI ud) g_last g_y g_mode g_ql g_p g_accepted g_m (d + 1) (nI i) b_buf b_hist b_histL b_draft b_ring b_ringL (ec_cp b_buf 0 b_und (ud * 32) i) b_undL b_undK b_q := by
  intro d
  induction d with
  | zero =>
    intro i hi
    obtain rfl : i = 32 := by omega
    exact ey_le 32 32 (Nat.le_refl _) ⟨en_in ud h8, nm_r (en_u ud) ⟨en_in ud h8, nm_r (en_u ud) (nm_r (nI_1 ud) h)⟩⟩
  | succ d ih =>
    intro i hi
    exact en_le 32 i (by omega) ⟨en_in i (by omega), en_in (ud * 32 + i) (by omega), nm_r ((en_u (ud * 32 + i) (en_g (0 + i))).trans (ec_s b_buf 0 b_und (ud * 32) i)) (nm_r (nI_1 i) (ih (i + 1) (by omega)))⟩
theorem ypu_98' {post : SY → Prop} {ud : Nat} (h8 : ud < 8) (h : post (g_w, g_hh, g_rr, g_n, g_k, g_hc, g_nav, g_dn, g_kc, nI (ud + 1), g_last, g_y, g_mode, g_ql, g_p, g_accepted, g_m, b_buf, b_hist, b_histL, b_draft, b_ring, b_ringL, ec_cp b_buf 0 b_und (ud * 32) 32, upd b_undL ud g_n, upd b_undK ud g_k, b_q)) : wY_push_98 post g_w g_hh g_rr g_n g_k g_hc g_nav g_dn g_kc (nI ud) g_last g_y g_mode g_ql g_p g_accepted g_m 33 0 b_buf b_hist b_histL b_draft b_ring b_ringL b_und b_undL b_undK b_q := by
  have := ypu_98 h8 h 32 0 (by omega)
  rw [ec_0] at this
  exact this
theorem ypu_19 {post : SY → Prop} {J : Int32 → (Nat → Int32) → (Nat → Int32) → (Nat → Int32) → (Nat → Int32) → (Nat → Int32) → (Nat → Int32) → (Nat → Int32) → (Nat → Int32) → (Nat → Int32) → (Nat → Int32) → Prop} {s : Nat} (hs : s < 7) (h : J (nI (s + 1)) b_buf b_hist b_histL b_draft b_ring b_ringL (ec_cp b_und 32 b_und 0 (s * 32 + 32)) (ec_cp b_undL 1 b_undL 0 (s + 1)) (ec_cp b_undK 1 b_undK 0 (s + 1)) b_q) : ∀ d j, j + d = 32 → wY_push_19 post J (nI s) g_w g_hh g_rr g_n g_k g_hc g_nav g_dn g_kc g_ud g_last g_y g_mode g_ql g_p g_accepted g_m (d + 1) (nI j) b_buf b_hist b_histL b_draft b_ring b_ringL (ec_cp b_und 32 b_und 0 (s * 32 + j)) (ec_cp b_undL 1 b_undL 0 s) (ec_cp b_undK 1 b_undK 0 s) b_q := by
  intro d
  induction d with
  | zero =>
    intro j hj
    obtain rfl : j = 32 := by omega
    exact ey_le 32 32 (Nat.le_refl _) ⟨en_in (s + 1) (by omega), en_in s (by omega), nm_r ((en_u (0 + s) (en_g (1 + s))).trans (ec_up (by omega) s)) ⟨en_in (s + 1) (by omega), en_in s (by omega), nm_r ((en_u (0 + s) (en_g (1 + s))).trans (ec_up (by omega) s)) (nm_r (nI_1 s) h)⟩⟩
  | succ d ih =>
    intro j hj
    exact en_le 32 j (by omega) ⟨en_in (s * 32 + 32 + j) (by omega), en_in (s * 32 + j) (by omega), nm_r ((en_u (0 + (s * 32 + j)) (en_g (32 + (s * 32 + j)))).trans (ec_up (by omega) (s * 32 + j))) (nm_r (nI_1 j) (ih (j + 1) (by omega)))⟩
theorem ypu_11 {post : SY → Prop} (h : post (g_w, g_hh, g_rr, g_n, g_k, g_hc, g_nav, g_dn, g_kc, nI 8, g_last, g_y, g_mode, g_ql, g_p, g_accepted, g_m, b_buf, b_hist, b_histL, b_draft, b_ring, b_ringL, ec_cp b_buf 0 (ec_cp b_und 32 b_und 0 (7 * 32)) (7 * 32) 32, upd (ec_cp b_undL 1 b_undL 0 7) 7 g_n, upd (ec_cp b_undK 1 b_undK 0 7) 7 g_k, b_q)) : ∀ d s, s + d = 7 → wY_push_11 post g_w g_hh g_rr g_n g_k g_hc g_nav g_dn g_kc g_ud g_last g_y g_mode g_ql g_p g_accepted g_m (d + 1) (nI s) b_buf b_hist b_histL b_draft b_ring b_ringL (ec_cp b_und 32 b_und 0 (s * 32)) (ec_cp b_undL 1 b_undL 0 s) (ec_cp b_undK 1 b_undK 0 s) b_q := by
  intro d
  induction d with
  | zero =>
    intro s hs
    obtain rfl : s = 7 := by omega
    exact ey_le 7 7 (Nat.le_refl _) ⟨33, ypu_98' (ud := 7) (by omega) h⟩
  | succ d ih =>
    intro s hs
    have ih2 := ih (s + 1) (by omega)
    rw [show (s + 1) * 32 = s * 32 + 32 by omega] at ih2
    exact en_le 7 s (by omega) ⟨33, ypu_19 (by omega) ih2 32 0 (by omega)⟩
theorem ypu {post : SY → Prop} {ud : Nat} (h8 : ud ≤ 8) (h : post (g_w, g_hh, g_rr, g_n, g_k, g_hc, g_nav, g_dn, g_kc, nI (ep_n ud), g_last, g_y, g_mode, g_ql, g_p, g_accepted, g_m, b_buf, b_hist, b_histL, b_draft, b_ring, b_ringL, ep_U b_buf b_und 32 ud, ep_L b_undL g_n ud, ep_L b_undK g_k ud, b_q)) : wpY_push post (g_w, g_hh, g_rr, g_n, g_k, g_hc, g_nav, g_dn, g_kc, nI ud, g_last, g_y, g_mode, g_ql, g_p, g_accepted, g_m, b_buf, b_hist, b_histL, b_draft, b_ring, b_ringL, b_und, b_undL, b_undK, b_q) := by
  unfold ep_n ep_U ep_L at h
  by_cases e : ud = 8
  · subst e
    simp only [if_pos] at h
    have := ypu_11 (g_ud := nI 8) h 7 0 (by omega)
    rw [Nat.zero_mul, ec_0, ec_0, ec_0] at this
    exact ey_eq 8 8 rfl ⟨8, this⟩
  · simp only [if_neg e] at h
    exact en_eq ud 8 e ⟨33, ypu_98' (by omega) h⟩
theorem ylh_2 {post : SY → Prop} {i l : Nat} (hi : i < 8) (e : b_histL i = nI l) (h : post (g_w, g_hh, g_rr, nI l, nI l, g_hc, g_nav, g_dn, g_kc, g_ud, g_last, g_y, g_mode, g_ql, g_p, g_accepted, g_m, ec_cp b_hist (i * 32) b_buf 0 32, b_hist, b_histL, b_draft, b_ring, b_ringL, b_und, b_undL, b_undK, b_q)) : ∀ d j, j + d = 32 → wY_loadHist_2 post (nI i) g_w g_hh g_rr g_n g_k g_hc g_nav g_dn g_kc g_ud g_last g_y g_mode g_ql g_p g_accepted g_m (d + 1) (nI j) (ec_cp b_hist (i * 32) b_buf 0 j) b_hist b_histL b_draft b_ring b_ringL b_und b_undL b_undK b_q := by
  intro d
  induction d with
  | zero =>
    intro j hj
    obtain rfl : j = 32 := by omega
    exact ey_le 32 32 (Nat.le_refl _) ⟨en_in i hi, nm_r ((en_g i).trans e) h⟩
  | succ d ih =>
    intro j hj
    exact en_le 32 j (by omega) ⟨en_in (i * 32 + j) (by omega), en_in j (by omega), nm_r ((en_u (0 + j) (en_g (i * 32 + j))).trans (ec_s b_hist (i * 32) b_buf 0 j)) (nm_r (nI_1 j) (ih (j + 1) (by omega)))⟩
theorem ylh {post : SY → Prop} {x : Int32} (i l : Nat) (hi : i < 8) (e : b_histL i = nI l) (h : post (g_w, g_hh, g_rr, nI l, nI l, g_hc, g_nav, g_dn, g_kc, g_ud, g_last, g_y, g_mode, g_ql, g_p, g_accepted, g_m, ec_cp b_hist (i * 32) b_buf 0 32, b_hist, b_histL, b_draft, b_ring, b_ringL, b_und, b_undL, b_undK, b_q)) (hx : x = nI i := by first | with_reducible rfl | (simp (disch := omega) only [nI_add, nI_1, en_m1, en_s1, pk_sub, pk_mul, en_32, en_a2, en_a3, en_p32, en_s32, en_p2, en_s2, en_s3] <;> exact congrArg nI (by omega)) | exact congrArg nI (by omega) | rfl) : wpY_loadHist post (g_w, g_hh, g_rr, g_n, g_k, g_hc, g_nav, g_dn, g_kc, g_ud, g_last, g_y, g_mode, g_ql, g_p, g_accepted, g_m, b_buf, b_hist, b_histL, b_draft, b_ring, b_ringL, b_und, b_undL, b_undK, b_q) x := by
  subst hx
  have := ylh_2 (g_n := g_n) (g_k := g_k) hi e h 32 0 (by omega)
  rw [ec_0] at this
  exact ⟨33, this⟩
end
end
section
/-! O: the reference's words (written from 07 by a program) -/
section
variable {g_w g_hh g_rr g_n g_k g_hc g_nav g_dn g_kc g_ud g_last g_y g_mode g_ql g_p g_accepted g_m : Int32} {b_buf b_hist b_histL b_draft b_ring b_ringL b_und b_undL b_undK b_q : Nat → Int32}
theorem yiw_t {post : Int32 → Prop} {c : Int32} (hw : ew c) (p : post 1) : wpY_isW post (g_w, g_hh, g_rr, g_n, g_k, g_hc, g_nav, g_dn, g_kc, g_ud, g_last, g_y, g_mode, g_ql, g_p, g_accepted, g_m, b_buf, b_hist, b_histL, b_draft, b_ring, b_ringL, b_und, b_undL, b_undK, b_q) c := by
  rcases hw with h | h | h
  · exact br_f (en_ge h.1 (by decide)) (br_t h.2 p)
  · exact br_f (en_ge h.1 (by decide)) (br_f (en_gt h.1 (by decide)) (br_f (en_ge h.1 (by decide)) (br_t h.2 p)))
  · exact br_f (en_ge h.1 (by decide)) (br_f (en_gt h.1 (by decide)) (br_f (en_ge h.1 (by decide)) (br_f (en_gt h.1 (by decide)) (br_f (en_ge h.1 (by decide)) (br_f (Int32.not_lt.mpr h.2) p)))))
theorem yiw_24 {post : Int32 → Prop} {c : Int32} (hw : ¬ ew c) (p : post 0) : wY_isW_24 post c g_w g_hh g_rr g_n g_k g_hc g_nav g_dn g_kc g_ud g_last g_y g_mode g_ql g_p g_accepted g_m b_buf b_hist b_histL b_draft b_ring b_ringL b_und b_undL b_undK b_q := by
  by_cases h : c < 97
  · exact br_t h p
  · by_cases h2 : 122 < c
    · exact br_f h (br_t h2 p)
    · exact absurd (Or.inr (Or.inr ⟨Int32.not_lt.mp h, Int32.not_lt.mp h2⟩)) hw
theorem yiw_12 {post : Int32 → Prop} {c : Int32} (hw : ¬ ew c) (p : post 0) : wY_isW_12 post c g_w g_hh g_rr g_n g_k g_hc g_nav g_dn g_kc g_ud g_last g_y g_mode g_ql g_p g_accepted g_m b_buf b_hist b_histL b_draft b_ring b_ringL b_und b_undL b_undK b_q := by
  by_cases h : c < 65
  · exact br_t h (yiw_24 hw p)
  · exact br_f h (br_f (fun z => hw (Or.inr (Or.inl ⟨Int32.not_lt.mp h, z⟩))) (yiw_24 hw p))
theorem yiw_f {post : Int32 → Prop} {c : Int32} (hw : ¬ ew c) (p : post 0) : wpY_isW post (g_w, g_hh, g_rr, g_n, g_k, g_hc, g_nav, g_dn, g_kc, g_ud, g_last, g_y, g_mode, g_ql, g_p, g_accepted, g_m, b_buf, b_hist, b_histL, b_draft, b_ring, b_ringL, b_und, b_undL, b_undK, b_q) c := by
  by_cases h : c < 48
  · exact br_t h (yiw_12 hw p)
  · exact br_f h (br_f (fun z => hw (Or.inl ⟨Int32.not_lt.mp h, z⟩)) (yiw_12 hw p))
end
section
variable {g_w g_hh g_rr g_n g_k g_hc g_nav g_dn g_kc g_ud g_last g_y g_mode g_ql g_p g_accepted g_m : Int32} {b_buf b_hist b_histL b_draft b_ring b_ringL b_und b_undL b_undK b_q : Nat → Int32}
theorem ywl_29 {post : Int32 → Prop} : ∀ t, t ≤ 32 → post (nI (es b_buf true t)) → wY_wl_30 post g_w g_hh g_rr g_n g_k g_hc g_nav g_dn g_kc g_ud g_last g_y g_mode g_ql g_p g_accepted g_m b_buf b_hist b_histL b_draft b_ring b_ringL b_und b_undL b_undK b_q (t + 1) (nI t) := by
  intro t
  induction t with
  | zero => intro _ h; exact br_t (by decide) h
  | succ t ih =>
    intro ht h
    have ec : b_buf (nI (t + 1) - 1).toNatClampNeg = b_buf t := en_g t (nI_pred t)
    have hi : vp_in (nI (t + 1) - 1) 32 := en_in t (by omega) (nI_pred t)
    by_cases hw : ew (b_buf t)
    · rw [es_s, if_pos (decide_eq_true hw)] at h
      exact br_f (nI_nle (by omega) (by omega)) ⟨hi, yiw_t (by rw [ec]; exact hw) (br_f (by decide) (nm_r (pk_m1 t) (ih (by omega) h)))⟩
    · rw [es_s, if_neg (fun z => hw (of_decide_eq_true z))] at h
      exact br_f (nI_nle (by omega) (by omega)) ⟨hi, yiw_f (by rw [ec]; exact hw) (br_t rfl h)⟩
theorem ywl_5 {post : Int32 → Prop} : ∀ t, t ≤ 32 → post (nI (es b_buf true (es b_buf false t))) → wY_wl_5 post g_w g_hh g_rr g_n g_k g_hc g_nav g_dn g_kc g_ud g_last g_y g_mode g_ql g_p g_accepted g_m b_buf b_hist b_histL b_draft b_ring b_ringL b_und b_undL b_undK b_q (t + 1) (nI t) := by
  intro t
  induction t with
  | zero => intro _ h; exact br_t (by decide) ⟨1, ywl_29 0 (by omega) h⟩
  | succ t ih =>
    intro ht h
    have ec : b_buf (nI (t + 1) - 1).toNatClampNeg = b_buf t := en_g t (nI_pred t)
    have hi : vp_in (nI (t + 1) - 1) 32 := en_in t (by omega) (nI_pred t)
    by_cases hw : ew (b_buf t)
    · rw [es_s b_buf false, if_neg (fun z => of_decide_eq_false z hw)] at h
      exact br_f (nI_nle (by omega) (by omega)) ⟨hi, yiw_t (by rw [ec]; exact hw) (br_f (by decide) ⟨t + 2, ywl_29 (t + 1) (by omega) h⟩)⟩
    · rw [es_s b_buf false, if_pos (decide_eq_false hw)] at h
      exact br_f (nI_nle (by omega) (by omega)) ⟨hi, yiw_f (by rw [ec]; exact hw) (br_t rfl (nm_r (pk_m1 t) (ih (by omega) h)))⟩
theorem ywl {post : Int32 → Prop} {k : Nat} (hk : k ≤ 32) (h : post (nI (ewl b_buf k))) : wpY_wl post (g_w, g_hh, g_rr, g_n, nI k, g_hc, g_nav, g_dn, g_kc, g_ud, g_last, g_y, g_mode, g_ql, g_p, g_accepted, g_m, b_buf, b_hist, b_histL, b_draft, b_ring, b_ringL, b_und, b_undL, b_undK, b_q) := ⟨k + 1, ywl_5 k hk h⟩
theorem ywr_31 {post : Int32 → Prop} {n : Nat} (hn : n ≤ 32) : ∀ d t, t + d = n → post (nI (et b_buf true d t)) → wY_wr_32 post g_w g_hh g_rr (nI n) g_k g_hc g_nav g_dn g_kc g_ud g_last g_y g_mode g_ql g_p g_accepted g_m b_buf b_hist b_histL b_draft b_ring b_ringL b_und b_undL b_undK b_q (d + 1) (nI t) := by
  intro d
  induction d with
  | zero => intro t ht h; exact ey_le n t (by omega) h
  | succ d ih =>
    intro t ht h
    have ec : b_buf (nI t).toNatClampNeg = b_buf t := en_g t
    by_cases hw : ew (b_buf t)
    · rw [et_s, if_pos (decide_eq_true hw)] at h
      exact en_le n t (by omega) ⟨en_in t (by omega), yiw_t (by rw [ec]; exact hw) (br_f (by decide) (nm_r (nI_1 t) (ih (t + 1) (by omega) h)))⟩
    · rw [et_s, if_neg (fun z => hw (of_decide_eq_true z))] at h
      exact en_le n t (by omega) ⟨en_in t (by omega), yiw_f (by rw [ec]; exact hw) (br_t rfl h)⟩
theorem ywr_5 {post : Int32 → Prop} {n : Nat} (hn : n ≤ 32) : ∀ d t, t + d = n → post (nI (et b_buf true (n - et b_buf false d t) (et b_buf false d t))) → wY_wr_5 post g_w g_hh g_rr (nI n) g_k g_hc g_nav g_dn g_kc g_ud g_last g_y g_mode g_ql g_p g_accepted g_m b_buf b_hist b_histL b_draft b_ring b_ringL b_und b_undL b_undK b_q (d + 1) (nI t) := by
  intro d
  induction d with
  | zero =>
    intro t ht h
    have e : n - t = 0 := by omega
    have h2 : post (nI (et b_buf true (n - t) t)) := h
    rw [e] at h2
    exact ey_le n t (by omega) ⟨1, ywr_31 hn 0 t (by omega) h2⟩
  | succ d ih =>
    intro t ht h
    have ec : b_buf (nI t).toNatClampNeg = b_buf t := en_g t
    by_cases hw : ew (b_buf t)
    · rw [et_s b_buf false, if_neg (fun z => of_decide_eq_false z hw)] at h
      rw [show n - t = d + 1 by omega] at h
      exact en_le n t (by omega) ⟨en_in t (by omega), yiw_t (by rw [ec]; exact hw) (br_f (by decide) ⟨d + 2, ywr_31 hn (d + 1) t (by omega) h⟩)⟩
    · rw [et_s b_buf false, if_pos (decide_eq_false hw)] at h
      exact en_le n t (by omega) ⟨en_in t (by omega), yiw_f (by rw [ec]; exact hw) (br_t rfl (nm_r (nI_1 t) (ih (t + 1) (by omega) h)))⟩
theorem ywr {post : Int32 → Prop} {n k : Nat} (hn : n ≤ 32) (hk : k ≤ n) (h : post (nI (ewr b_buf n k))) : wpY_wr post (g_w, g_hh, g_rr, nI n, nI k, g_hc, g_nav, g_dn, g_kc, g_ud, g_last, g_y, g_mode, g_ql, g_p, g_accepted, g_m, b_buf, b_hist, b_histL, b_draft, b_ring, b_ringL, b_und, b_undL, b_undK, b_q) := ⟨n - k + 1, ywr_5 hn (n - k) k (by omega) h⟩
end
end
section
/-! P: the reference's search -/
theorem er_n {s : Nat} : er (some s) = nI s := rfl
section
variable {g_w g_hh g_rr g_n g_k g_hc g_nav g_dn g_kc g_ud g_last g_y g_mode g_ql g_p g_accepted g_m : Int32} {b_buf b_hist b_histL b_draft b_ring b_ringL b_und b_undL b_undK b_q : Nat → Int32}
theorem yoc_31 {post : Int32 → Prop} {J : Int32 → Prop} {i z s : Nat} (hi : i < 8) (hs : s + z ≤ 32) (hz : z ≤ 16) (p1 : ex b_hist b_q (i * 32 + s) z → post (nI s)) (p0 : ¬ ex b_hist b_q (i * 32 + s) z → J (nI (s + 1))) : ∀ d j, j + d = z → (∀ t, t < j → b_hist (i * 32 + s + t) = b_q t) → wY_occ_31 post J (nI i) (nI z) (nI s) g_w g_hh g_rr g_n g_k g_hc g_nav g_dn g_kc g_ud g_last g_y g_mode g_ql g_p g_accepted g_m b_buf b_hist b_histL b_draft b_ring b_ringL b_und b_undL b_undK b_q (d + 1) (nI j) := by
  intro d
  induction d with
  | zero =>
    intro j hj H
    obtain rfl : j = z := by omega
    exact ey_le j j (Nat.le_refl _) (ey_eq j j rfl (p1 H))
  | succ d ih =>
    intro j hj H
    refine en_le z j (by omega) ⟨en_in (i * 32 + s + j) (by omega), en_in j (by omega), ?_⟩
    by_cases c : b_hist (i * 32 + s + j) = b_q j
    · exact br_t ((en_g (i * 32 + s + j)).trans (c.trans (en_g j).symm)) (nm_r (nI_1 j) (ih (j + 1) (by omega) (lt_s H c)))
    · exact br_f (fun w => c (((en_g (i * 32 + s + j)).symm.trans w).trans (en_g j))) (en_eq j z (by omega) (nm_r (nI_1 s) (p0 (fun w => c (w j (by omega))))))
theorem yoc_16 {post : Int32 → Prop} {i z l : Nat} (hi : i < 8) (hl : l ≤ 32) (hz : z ≤ 16) (e : b_histL i = nI l) : ∀ d s, s ≤ 40 → d = l + 1 - z - s → post (er (eo b_hist b_q (i * 32) z d s)) → wY_occ_16 post (nI i) (nI z) g_w g_hh g_rr g_n g_k g_hc g_nav g_dn g_kc g_ud g_last g_y g_mode g_ql g_p g_accepted g_m b_buf b_hist b_histL b_draft b_ring b_ringL b_und b_undL b_undK b_q (d + 1) (nI s) := by
  intro d
  have g : b_histL (nI i).toNatClampNeg = nI l := (en_g i).trans e
  induction d with
  | zero => intro s hs hd h; exact ⟨en_in i hi, ey_lt l (s + z) (by omega) h g⟩
  | succ d ih =>
    intro s hs hd h
    refine ⟨en_in i hi, en_lt l (s + z) (by omega) ⟨z + 1, yoc_31 hi (by omega) hz (fun w => ?_) (fun w => ?_) z 0 (by omega) lt_0⟩ g⟩
    · rw [eo_s, if_pos w] at h
      exact h
    · rw [eo_s, if_neg w] at h
      exact ih (s + 1) (by omega) (by omega) h
theorem yoc {post : Int32 → Prop} {x0 x1 : Int32} (i z l c : Nat) (hc : c ≤ 8) (hi : i < c) (hl : l ≤ 32) (hz : z ≤ 16) (e : b_histL i = nI l) (h : post (er (ei b_hist b_histL b_q z i))) (h0 : x0 = nI i := by first | with_reducible rfl | (simp (disch := omega) only [nI_add, nI_1, en_m1, en_s1, pk_sub, pk_mul, en_32, en_a2, en_a3, en_p32, en_s32, en_p2, en_s2, en_s3] <;> exact congrArg nI (by omega)) | exact congrArg nI (by omega) | rfl) (h1 : x1 = nI z := by first | with_reducible rfl | (simp (disch := omega) only [nI_add, nI_1, en_m1, en_s1, pk_sub, pk_mul, en_32, en_a2, en_a3, en_p32, en_s32, en_p2, en_s2, en_s3] <;> exact congrArg nI (by omega)) | exact congrArg nI (by omega) | rfl) : wpY_occ post (g_w, g_hh, g_rr, g_n, g_k, nI c, g_nav, g_dn, g_kc, g_ud, g_last, g_y, g_mode, g_ql, g_p, g_accepted, g_m, b_buf, b_hist, b_histL, b_draft, b_ring, b_ringL, b_und, b_undL, b_undK, b_q) x0 x1 := by
  subst h0 h1
  unfold ei at h
  rw [e, nI_clamp (by omega)] at h
  exact br_f (nI_pos (by omega)) (ey_lt i c hi ⟨_, yoc_16 (by omega) hl hz e (l + 1 - z) 0 (by omega) (by omega) h⟩)
/-- the answer of the search for an entry -/
def eR : Option (Nat × Nat) → Int32
  | some (m, _) => nI m
  | none => -1
theorem yff_2 {post : Int32 → Prop} {z c : Nat} (hc : c ≤ 8) (hz : z ≤ 16) (L : ∀ i, i < c → ∃ l, l ≤ 32 ∧ b_histL i = nI l) : ∀ f, f ≤ c → post (eR (ef b_hist b_histL b_q z f)) → wY_findFrom_2 post (nI z) g_w g_hh g_rr g_n g_k (nI c) g_nav g_dn g_kc g_ud g_last g_y g_mode g_ql g_p g_accepted g_m b_buf b_hist b_histL b_draft b_ring b_ringL b_und b_undL b_undK b_q (f + 1) (nI f - 1) := by
  intro f
  induction f with
  | zero => intro _ h; exact br_t (by decide) h
  | succ f ih =>
    intro hf h
    obtain ⟨l, hl, e⟩ := L f (by omega)
    rw [nI_pred f]
    refine br_f (nI_pos (by omega)) (en_le c f (by omega) (yoc f z l c hc (by omega) hl hz e ?_))
    cases c2 : ei b_hist b_histL b_q z f with
    | none =>
      rw [ef_s, c2] at h
      exact br_t (by decide) (nm_r (en_q _) (ih (by omega) h))
    | some s =>
      have hs := ei_some hl e c2
      rw [ef_s, c2] at h
      exact br_f (nI_pos (n := s) (by omega)) h
theorem yff {post : Int32 → Prop} {x0 x1 : Int32} (f z c : Nat) (hc : c ≤ 8) (hz : z ≤ 16) (L : ∀ i, i < c → ∃ l, l ≤ 32 ∧ b_histL i = nI l) (hf : f ≤ c) (h : post (eR (ef b_hist b_histL b_q z f))) (h0 : x0 = nI f - 1) (h1 : x1 = nI z := by first | with_reducible rfl | (simp (disch := omega) only [nI_add, nI_1, en_m1, en_s1, pk_sub, pk_mul, en_32, en_a2, en_a3, en_p32, en_s32, en_p2, en_s2, en_s3] <;> exact congrArg nI (by omega)) | exact congrArg nI (by omega) | rfl) : wpY_findFrom post (g_w, g_hh, g_rr, g_n, g_k, nI c, g_nav, g_dn, g_kc, g_ud, g_last, g_y, g_mode, g_ql, g_p, g_accepted, g_m, b_buf, b_hist, b_histL, b_draft, b_ring, b_ringL, b_und, b_undL, b_undK, b_q) x0 x1 := by
  subst h0 h1
  exact ⟨f + 1, yff_2 hc hz L f hf h⟩
end
end
section
/-! Q: the reference's kills and yanks -/
/-- what j removals at a leave -/
def ez (f : Nat → Int32) (n a : Nat) : Nat → (Nat → Int32)
  | 0 => f
  | j + 1 => ec_cp (ez f n a j) (a + 1) (ez f n a j) a (n - j - 1 - a)
theorem ez_p {f : Nat → Int32} {n a : Nat} : ∀ c, a + c ≤ n → ∀ i, i < n - c → ez f n a c i = ec_cp f (a + c) f a (n - a - c) i := by
  intro c
  induction c with
  | zero => intro _; exact ec_re0
  | succ c ih => intro h; exact ec_re (by omega) (ih (by omega))
section
variable {g_w g_hh g_rr g_n g_k g_hc g_nav g_dn g_kc g_ud g_last g_y g_mode g_ql g_p g_accepted g_m : Int32} {b_buf b_hist b_histL b_draft b_ring b_ringL b_und b_undL b_undK b_q : Nat → Int32}
theorem yin' {post : SY → Prop} {x c : Int32} {G : Nat → Int32} (a n : Nat) (hn : n < 32) (ha : a ≤ n) (hG : upd (ec_cp b_buf a b_buf (a + 1) (n - a)) a c = G) (h : post (g_w, g_hh, g_rr, nI (n + 1), g_k, g_hc, g_nav, g_dn, g_kc, g_ud, g_last, g_y, g_mode, g_ql, g_p, g_accepted, g_m, G, b_hist, b_histL, b_draft, b_ring, b_ringL, b_und, b_undL, b_undK, b_q)) (hx : x = nI a := by first | with_reducible rfl | (simp (disch := omega) only [nI_add, nI_1, en_m1, en_s1, pk_sub, pk_mul, en_32, en_a2, en_a3, en_p32, en_s32, en_p2, en_s2, en_s3] <;> exact congrArg nI (by omega)) | exact congrArg nI (by omega) | rfl) : wpY_insertChar post (g_w, g_hh, g_rr, nI n, g_k, g_hc, g_nav, g_dn, g_kc, g_ud, g_last, g_y, g_mode, g_ql, g_p, g_accepted, g_m, b_buf, b_hist, b_histL, b_draft, b_ring, b_ringL, b_und, b_undL, b_undK, b_q) x c := by
  subst hG
  exact yin a n hn ha h hx
theorem yrm' {post : SY → Prop} {x : Int32} {G : Nat → Int32} (a n m : Nat) (hn : n ≤ 32) (ha : a < n) (hm : n - 1 = m) (hG : ec_cp b_buf (a + 1) b_buf a (n - 1 - a) = G) (h : post (g_w, g_hh, g_rr, nI m, g_k, g_hc, g_nav, g_dn, g_kc, g_ud, g_last, g_y, g_mode, g_ql, g_p, g_accepted, g_m, G, b_hist, b_histL, b_draft, b_ring, b_ringL, b_und, b_undL, b_undK, b_q)) (hx : x = nI a := by first | with_reducible rfl | (simp (disch := omega) only [nI_add, nI_1, en_m1, en_s1, pk_sub, pk_mul, en_32, en_a2, en_a3, en_p32, en_s32, en_p2, en_s2, en_s3] <;> exact congrArg nI (by omega)) | exact congrArg nI (by omega) | rfl) : wpY_removeAt post (g_w, g_hh, g_rr, nI n, g_k, g_hc, g_nav, g_dn, g_kc, g_ud, g_last, g_y, g_mode, g_ql, g_p, g_accepted, g_m, b_buf, b_hist, b_histL, b_draft, b_ring, b_ringL, b_und, b_undL, b_undK, b_q) x := by
  subst hG hm
  exact yrm a n hn ha h hx
theorem ykr_420 {post : Int32 → SY → Prop} {a c n : Nat} (hn : n ≤ 32) (hc : a + c ≤ n) (h : post 1 (g_w, g_hh, g_rr, nI (n - c), nI a, g_hc, g_nav, g_dn, g_kc, g_ud, 2, g_y, g_mode, g_ql, g_p, g_accepted, g_m, ez b_buf n a c, b_hist, b_histL, b_draft, b_ring, b_ringL, b_und, b_undL, b_undK, b_q)) : ∀ d j, j + d = c → wY_kill_420 post (nI a) (nI c) (d + 1) (nI j) g_w g_hh g_rr (nI (n - j)) g_k g_hc g_nav g_dn g_kc g_ud g_last g_y g_mode g_ql g_p g_accepted g_m (ez b_buf n a j) b_hist b_histL b_draft b_ring b_ringL b_und b_undL b_undK b_q := by
  intro d
  induction d with
  | zero =>
    intro j hj
    obtain rfl : j = c := by omega
    exact ey_le j j (Nat.le_refl _) h
  | succ d ih =>
    intro j hj
    exact en_le c j (by omega) (yrm' a (n - j) (n - (j + 1)) (by omega) (by omega) (by omega) rfl (nm_r (nI_1 j) (ih (j + 1) (by omega))))
theorem ykr {post : Int32 → SY → Prop} {a c n : Nat} (hn : n ≤ 32) (hc : a + c ≤ n) (h : post 1 (g_w, g_hh, g_rr, nI (n - c), nI a, g_hc, g_nav, g_dn, g_kc, g_ud, 2, g_y, g_mode, g_ql, g_p, g_accepted, g_m, ez b_buf n a c, b_hist, b_histL, b_draft, b_ring, b_ringL, b_und, b_undL, b_undK, b_q)) : ∃ z, wY_kill_420 post (nI a) (nI c) z 0 g_w g_hh g_rr (nI n) g_k g_hc g_nav g_dn g_kc g_ud g_last g_y g_mode g_ql g_p g_accepted g_m b_buf b_hist b_histL b_draft b_ring b_ringL b_und b_undL b_undK b_q :=
  ⟨c + 1, ykr_420 (g_k := g_k) (g_last := g_last) hn hc h c 0 (by omega)⟩
theorem yk_359 {post : Int32 → SY → Prop} {a c : Nat} (h1 : a + c ≤ 32) (h : ∀ f : Nat → Int32, f = upd b_ringL 0 (nI c) → (g_rr ≤ g_kc → ∃ z, wY_kill_420 post (nI a) (nI c) z 0 g_w g_hh g_rr g_n g_k g_hc g_nav g_dn g_kc g_ud g_last g_y g_mode g_ql g_p g_accepted g_m b_buf b_hist b_histL b_draft (ec_cp b_buf a b_ring 0 c) f b_und b_undL b_undK b_q) ∧ (¬ g_rr ≤ g_kc → ∀ k, k = g_kc + 1 → ∃ z, wY_kill_420 post (nI a) (nI c) z 0 g_w g_hh g_rr g_n g_k g_hc g_nav g_dn k g_ud g_last g_y g_mode g_ql g_p g_accepted g_m b_buf b_hist b_histL b_draft (ec_cp b_buf a b_ring 0 c) f b_und b_undL b_undK b_q)) : ∀ d j, j + d = c → wY_kill_359 post (nI a) (nI c) g_w g_hh g_rr g_n g_k g_hc g_nav g_dn g_kc g_ud g_last g_y g_mode g_ql g_p g_accepted g_m (d + 1) (nI j) b_buf b_hist b_histL b_draft (ec_cp b_buf a b_ring 0 j) b_ringL b_und b_undL b_undK b_q := by
  intro d
  induction d with
  | zero =>
    intro j hj
    obtain rfl : j = c := by omega
    exact ey_le j j (Nat.le_refl _) h
  | succ d ih =>
    intro j hj
    exact en_le c j (by omega) ⟨en_in (a + j) (by omega), en_in j (by omega), nm_r ((en_u (0 + j) (en_g (a + j))).trans (ec_s b_buf a b_ring 0 j)) (nm_r (nI_1 j) (ih (j + 1) (by omega)))⟩
theorem yk_292 {post : Int32 → SY → Prop} {J : Int32 → (Nat → Int32) → (Nat → Int32) → (Nat → Int32) → (Nat → Int32) → (Nat → Int32) → (Nat → Int32) → (Nat → Int32) → (Nat → Int32) → (Nat → Int32) → (Nat → Int32) → Prop} {x2 x5 : Int32} {e : Nat} {F M : Nat → Int32} (he : e + 1 < 4) (hF : ∀ i, i < (e + 1) * 32 → F i = b_ring i) (h : J (nI e) b_buf b_hist b_histL b_draft (ec_cp b_ring (e * 32) F ((e + 1) * 32) 32) (upd M (e + 1) (M e)) b_und b_undL b_undK b_q) : ∀ d j, j + d = 32 → wY_kill_292 post J x2 x5 (nI (e + 1)) g_w g_hh g_rr g_n g_k g_hc g_nav g_dn g_kc g_ud g_last g_y g_mode g_ql g_p g_accepted g_m (d + 1) (nI j) b_buf b_hist b_histL b_draft (ec_cp b_ring (e * 32) F ((e + 1) * 32) j) M b_und b_undL b_undK b_q := by
  intro d
  induction d with
  | zero =>
    intro j hj
    obtain rfl : j = 32 := by omega
    exact ey_le 32 32 (Nat.le_refl _) ⟨en_in e (by omega), en_in (e + 1) he, nm_r (en_u (e + 1) (en_g e)) (nm_r (pk_m1 e) h)⟩
  | succ d ih =>
    intro j hj
    have rd : ec_cp b_ring (e * 32) F ((e + 1) * 32) j (e * 32 + j) = b_ring (e * 32 + j) := (ec_o (by omega)).trans (hF _ (by omega))
    exact en_le 32 j (by omega) ⟨en_in (e * 32 + j) (by omega), en_in ((e + 1) * 32 + j) (by omega), nm_r ((en_u ((e + 1) * 32 + j) ((en_g (e * 32 + j)).trans rd)).trans (ec_s b_ring (e * 32) F ((e + 1) * 32) j)) (nm_r (nI_1 j) (ih (j + 1) (by omega)))⟩
theorem yk_283 {post : Int32 → SY → Prop} {x2 x5 : Int32} {T : Nat} (hT : T < 4) (h : ∃ z, wY_kill_359 post x2 x5 g_w g_hh g_rr g_n g_k g_hc g_nav g_dn g_kc g_ud g_last g_y g_mode g_ql g_p g_accepted g_m z 0 b_buf b_hist b_histL b_draft (ec_cp b_ring 0 b_ring 32 (T * 32)) (ec_cp b_ringL 0 b_ringL 1 T) b_und b_undL b_undK b_q) : ∀ e t, e + t = T → wY_kill_283 post x2 x5 g_w g_hh g_rr g_n g_k g_hc g_nav g_dn g_kc g_ud g_last g_y g_mode g_ql g_p g_accepted g_m (e + 1) (nI e) b_buf b_hist b_histL b_draft (ec_cp b_ring (e * 32) b_ring ((e + 1) * 32) (t * 32)) (ec_cp b_ringL e b_ringL (e + 1) t) b_und b_undL b_undK b_q := by
  intro e
  induction e with
  | zero =>
    intro t ht
    obtain rfl : t = T := by omega
    exact ey_lt 0 1 (by omega) h
  | succ e ih =>
    intro t ht
    have ih2 := ih (t + 1) (by omega)
    rw [← ec_bl, ← ec_dn (a := e) (b := e + 1) (by omega) t] at ih2
    rw [show (e + 1 + 1) * 32 = (e + 1) * 32 + 32 by omega]
    have := yk_292 (g_w := g_w) (g_hh := g_hh) (g_rr := g_rr) (g_n := g_n) (g_k := g_k) (g_hc := g_hc) (g_nav := g_nav) (g_dn := g_dn) (g_kc := g_kc) (g_ud := g_ud) (g_last := g_last) (g_y := g_y) (g_mode := g_mode) (g_ql := g_ql) (g_p := g_p) (g_accepted := g_accepted) (g_m := g_m) (b_ring := b_ring) (post := post) (x2 := x2) (x5 := x5) (e := e) (by omega) (fun i hi => ec_o (by omega)) ih2 32 0 (by omega)
    rw [ec_0] at this
    exact en_lt (e + 1) 1 (by omega) ⟨33, this⟩
theorem yk_239 {post : Int32 → SY → Prop} {a c s n : Nat} (hn : n ≤ 32) (hc : a + c ≤ n) (hs : b_ringL 0 = nI s) (h : post 1 (g_w, g_hh, g_rr, nI (n - c), nI a, g_hc, g_nav, g_dn, g_kc, g_ud, 2, g_y, g_mode, g_ql, g_p, g_accepted, g_m, ez b_buf n a c, b_hist, b_histL, b_draft, b_ring, upd b_ringL 0 (nI (s + c)), b_und, b_undL, b_undK, b_q)) : wY_kill_239 post (nI a) (nI c) g_w g_hh g_rr (nI n) g_k g_hc g_nav g_dn g_kc g_ud g_last g_y g_mode g_ql g_p g_accepted g_m b_buf b_hist b_histL b_draft b_ring b_ringL b_und b_undL b_undK b_q :=
  nm_r (congrArg (upd b_ringL 0) ((congrArg (fun y => y + nI c) hs).trans (nI_add s c))) (ykr (g_k := g_k) (g_last := g_last) hn hc h)
theorem yk_203 {post : Int32 → SY → Prop} {a c s : Nat} (h1 : a + c ≤ 32) (h2 : s + c ≤ 32) (hs : b_ringL 0 = nI s) (h : wY_kill_239 post (nI a) (nI c) g_w g_hh g_rr g_n g_k g_hc g_nav g_dn g_kc g_ud g_last g_y g_mode g_ql g_p g_accepted g_m b_buf b_hist b_histL b_draft (ec_cp b_buf a b_ring s c) b_ringL b_und b_undL b_undK b_q) : ∀ d j, j + d = c → wY_kill_203 post (nI a) (nI c) g_w g_hh g_rr g_n g_k g_hc g_nav g_dn g_kc g_ud g_last g_y g_mode g_ql g_p g_accepted g_m (d + 1) (nI j) b_buf b_hist b_histL b_draft (ec_cp b_buf a b_ring s j) b_ringL b_und b_undL b_undK b_q := by
  intro d
  induction d with
  | zero =>
    intro j hj
    obtain rfl : j = c := by omega
    exact ey_le j j (Nat.le_refl _) h
  | succ d ih =>
    intro j hj
    have hx : b_ringL 0 + nI j = nI (s + j) := by rw [hs]; exact nI_add s j
    exact en_le c j (by omega) ⟨en_in (a + j) (by omega), en_in (s + j) (by omega) hx, nm_r ((en_u (s + j) (en_g (a + j)) hx).trans (ec_s b_buf a b_ring s j)) (nm_r (nI_1 j) (ih (j + 1) (by omega)))⟩
theorem yk_168 {post : Int32 → SY → Prop} {a c : Nat} (h1 : a + c ≤ 32) (h : wY_kill_239 post (nI a) (nI c) g_w g_hh g_rr g_n g_k g_hc g_nav g_dn g_kc g_ud g_last g_y g_mode g_ql g_p g_accepted g_m b_buf b_hist b_histL b_draft (ec_cp b_buf a b_ring 0 c) b_ringL b_und b_undL b_undK b_q) : ∀ d j, j + d = c → wY_kill_168 post (nI a) (nI c) g_w g_hh g_rr g_n g_k g_hc g_nav g_dn g_kc g_ud g_last g_y g_mode g_ql g_p g_accepted g_m (d + 1) (nI j) b_buf b_hist b_histL b_draft (ec_cp b_buf a b_ring 0 j) b_ringL b_und b_undL b_undK b_q := by
  intro d
  induction d with
  | zero =>
    intro j hj
    obtain rfl : j = c := by omega
    exact ey_le j j (Nat.le_refl _) h
  | succ d ih =>
    intro j hj
    exact en_le c j (by omega) ⟨en_in (a + j) (by omega), en_in j (by omega), nm_r ((en_u (0 + j) (en_g (a + j))).trans (ec_s b_buf a b_ring 0 j)) (nm_r (nI_1 j) (ih (j + 1) (by omega)))⟩
theorem yk_137 {post : Int32 → SY → Prop} {a c s : Nat} (h1 : a + c ≤ 32) (h2 : s + c ≤ 32) (h : wY_kill_239 post (nI a) (nI c) g_w g_hh g_rr g_n g_k g_hc g_nav g_dn g_kc g_ud g_last g_y g_mode g_ql g_p g_accepted g_m b_buf b_hist b_histL b_draft (ec_cp b_buf a (ec_cp b_ring 0 b_ring c s) 0 c) b_ringL b_und b_undL b_undK b_q) : ∀ d t, d + t = s → wY_kill_137 post (nI a) (nI c) g_w g_hh g_rr g_n g_k g_hc g_nav g_dn g_kc g_ud g_last g_y g_mode g_ql g_p g_accepted g_m (d + 1) (nI d - 1) b_buf b_hist b_histL b_draft (ec_cp b_ring d b_ring (c + d) t) b_ringL b_und b_undL b_undK b_q := by
  intro d
  induction d with
  | zero =>
    intro t ht
    obtain rfl : t = s := by omega
    have := yk_168 h1 h c 0 (by omega)
    rw [ec_0] at this
    exact br_t (by decide) ⟨c + 1, this⟩
  | succ d ih =>
    intro t ht
    rw [nI_pred d]
    exact br_f (nI_pos (by omega)) ⟨en_in d (by omega), en_in (c + d) (by omega), nm_r ((en_u (c + d) (en_g d)).trans (ec_dn (a := d) (b := c + d) (by omega) t)) (nm_r (en_q _) (ih (t + 1) (by omega)))⟩
/-- yanks: s chars of the ring from z on, put at the cursor -/
theorem yy_31 {post : Int32 → SY → Prop} {n k s : Nat} (hs : b_ringL 0 = nI s) (hn : n + s ≤ 32) (hk : k ≤ n) (h : post 1 (g_w, g_hh, g_rr, nI (n + s), nI (k + s), g_hc, g_nav, g_dn, g_kc, g_ud, 3, 0, g_mode, g_ql, g_p, g_accepted, g_m, ec_cp b_ring 0 (ec_cp b_buf k b_buf (k + s) (n - k)) k s, b_hist, b_histL, b_draft, b_ring, b_ringL, b_und, b_undL, b_undK, b_q)) : ∀ d j, j + d = s → wY_yank_31 post (d + 1) (nI j) g_w g_hh g_rr (nI (n + j)) (nI k) g_hc g_nav g_dn g_kc g_ud g_last g_y g_mode g_ql g_p g_accepted g_m (ec_cp b_ring 0 (ec_cp b_buf k b_buf (k + j) (n - k)) k j) b_hist b_histL b_draft b_ring b_ringL b_und b_undL b_undK b_q := by
  intro d
  induction d with
  | zero =>
    intro j hj
    obtain rfl : j = s := by omega
    exact ey_le j j (Nat.le_refl _) (nm_r ((congrArg (fun y => nI k + y) hs).trans (nI_add k j)) h) hs
  | succ d ih =>
    intro j hj
    refine en_le s j (by omega) ⟨en_in j (by omega), yin' (k + j) (n + j) (by omega) (by omega) ?_ (nm_r (nI_1 j) (ih (j + 1) (by omega)))⟩ hs
    rw [show n + j - (k + j) = n - k by omega, en_g (f := b_ring) (x := nI j) (0 + j)]
    exact ec_in hk
theorem yp_97 {post : Int32 → SY → Prop} {n k l a z s : Nat} (ha : k = a + l) (hz : z < 4) (hs : s ≤ 32) (hn : n + s ≤ 32) (hk : a ≤ n) (h : post 1 (g_w, g_hh, g_rr, nI (n + s), nI (a + s), g_hc, g_nav, g_dn, g_kc, g_ud, g_last, nI z, g_mode, g_ql, g_p, g_accepted, g_m, ec_cp b_ring (z * 32) (ec_cp b_buf a b_buf (a + s) (n - a)) a s, b_hist, b_histL, b_draft, b_ring, b_ringL, b_und, b_undL, b_undK, b_q)) : ∀ d j, j + d = s → wY_yankPop_97 post (nI z) (nI l) (nI s) (d + 1) (nI j) g_w g_hh g_rr (nI (n + j)) (nI k) g_hc g_nav g_dn g_kc g_ud g_last g_y g_mode g_ql g_p g_accepted g_m (ec_cp b_ring (z * 32) (ec_cp b_buf a b_buf (a + j) (n - a)) a j) b_hist b_histL b_draft b_ring b_ringL b_und b_undL b_undK b_q := by
  intro d
  have hkl : k ≤ 64 → nI k - nI l = nI a := fun _ => by rw [pk_sub (by omega)]; exact congrArg nI (by omega)
  induction d with
  | zero =>
    intro j hj
    obtain rfl : j = s := by omega
    exact ey_le j j (Nat.le_refl _) (nm_r (by rw [pk_sub (by omega), nI_add]; exact congrArg nI (by omega)) h)
  | succ d ih =>
    intro j hj
    refine en_le s j (by omega) ⟨en_in (z * 32 + j) (by omega), yin' (a + j) (n + j) (by omega) (by omega) ?_ (nm_r (nI_1 j) (ih (j + 1) (by omega)))⟩
    rw [show n + j - (a + j) = n - a by omega, en_g (f := b_ring) (z * 32 + j)]
    exact ec_in hk
theorem yp_72 {post : Int32 → SY → Prop} {n k l a z s : Nat} (ha : k = a + l) (hk : k ≤ n) (hz : z < 4) (hs : s ≤ 32) (hn : n ≤ 32) (hns : n - l + s ≤ 32) (h : post 1 (g_w, g_hh, g_rr, nI (n - l + s), nI (a + s), g_hc, g_nav, g_dn, g_kc, g_ud, g_last, nI z, g_mode, g_ql, g_p, g_accepted, g_m, ec_cp b_ring (z * 32) (ec_cp (ez b_buf n a l) a (ez b_buf n a l) (a + s) (n - l - a)) a s, b_hist, b_histL, b_draft, b_ring, b_ringL, b_und, b_undL, b_undK, b_q)) : ∀ d j, j + d = l → wY_yankPop_72 post (nI z) (nI l) (nI s) (d + 1) (nI j) g_w g_hh g_rr (nI (n - j)) (nI k) g_hc g_nav g_dn g_kc g_ud g_last g_y g_mode g_ql g_p g_accepted g_m (ez b_buf n a j) b_hist b_histL b_draft b_ring b_ringL b_und b_undL b_undK b_q := by
  intro d
  induction d with
  | zero =>
    intro j hj
    obtain rfl : j = l := by omega
    have := yp_97 (g_y := g_y) ha hz hs hns (by omega) h s 0 (by omega)
    rw [ec_0, ec_cc] at this
    exact ey_le j j (Nat.le_refl _) ⟨s + 1, this⟩
  | succ d ih =>
    intro j hj
    exact en_le l j (by omega) (yrm' a (n - j) (n - (j + 1)) (by omega) (by omega) (by omega) rfl (nm_r (nI_1 j) (ih (j + 1) (by omega))))
end
end
section
/-! R: the reference's undo, history steps, enter -/
section
variable {g_w g_hh g_rr g_n g_k g_hc g_nav g_dn g_kc g_ud g_last g_y g_mode g_ql g_p g_accepted g_m : Int32} {b_buf b_hist b_histL b_draft b_ring b_ringL b_und b_undL b_undK b_q : Nat → Int32}
theorem yu_387 {post : Int32 → SY → Prop} {u l t : Nat} (hu : u < 8) (hl : b_undL u = nI l) (ht : b_undK u = nI t) (h : post 1 (g_w, g_hh, g_rr, nI l, nI t, g_hc, g_nav, g_dn, g_kc, nI u, 0, g_y, g_mode, g_ql, g_p, g_accepted, g_m, ec_cp b_und (u * 32) b_buf 0 32, b_hist, b_histL, b_draft, b_ring, b_ringL, b_und, b_undL, b_undK, b_q)) : ∀ d j, j + d = 32 → wY_editKey_387 post g_w g_hh g_rr g_n g_k g_hc g_nav g_dn g_kc (nI u) g_last g_y g_mode g_ql g_p g_accepted g_m (d + 1) (nI j) (ec_cp b_und (u * 32) b_buf 0 j) b_hist b_histL b_draft b_ring b_ringL b_und b_undL b_undK b_q := by
  intro d
  induction d with
  | zero =>
    intro j hj
    obtain rfl : j = 32 := by omega
    exact ey_le 32 32 (Nat.le_refl _) ⟨en_in u hu, nm_r ((en_g u).trans hl) ⟨en_in u hu, nm_r ((en_g u).trans ht) h⟩⟩
  | succ d ih =>
    intro j hj
    exact en_le 32 j (by omega) ⟨en_in (u * 32 + j) (by omega), en_in j (by omega), nm_r ((en_u (0 + j) (en_g (u * 32 + j))).trans (ec_s b_und (u * 32) b_buf 0 j)) (nm_r (nI_1 j) (ih (j + 1) (by omega)))⟩
theorem yu {post : Int32 → SY → Prop} {u l t : Nat} (hu : u < 8) (hl : b_undL u = nI l) (ht : b_undK u = nI t) (h : post 1 (g_w, g_hh, g_rr, nI l, nI t, g_hc, g_nav, g_dn, g_kc, nI u, 0, g_y, g_mode, g_ql, g_p, g_accepted, g_m, ec_cp b_und (u * 32) b_buf 0 32, b_hist, b_histL, b_draft, b_ring, b_ringL, b_und, b_undL, b_undK, b_q)) : ∃ z, wY_editKey_387 post g_w g_hh g_rr g_n g_k g_hc g_nav g_dn g_kc (nI u) g_last g_y g_mode g_ql g_p g_accepted g_m z 0 b_buf b_hist b_histL b_draft b_ring b_ringL b_und b_undL b_undK b_q := by
  have := yu_387 (g_n := g_n) (g_k := g_k) (g_last := g_last) hu hl ht h 32 0 (by omega)
  rw [ec_0] at this
  exact ⟨33, this⟩
theorem yh_508 {post : Int32 → SY → Prop} {v l : Nat} (hv : v < 8) (hl : b_histL v = nI l) (h : post 1 (g_w, g_hh, g_rr, nI l, nI l, g_hc, nI v, g_dn, g_kc, 0, 0, g_y, g_mode, g_ql, g_p, g_accepted, g_m, ec_cp b_hist (v * 32) b_buf 0 32, b_hist, b_histL, b_draft, b_ring, b_ringL, b_und, b_undL, b_undK, b_q)) : wY_editKey_508 post g_w g_hh g_rr g_n g_k g_hc (nI (v + 1)) g_dn g_kc g_ud g_last g_y g_mode g_ql g_p g_accepted g_m b_buf b_hist b_histL b_draft b_ring b_ringL b_und b_undL b_undK b_q :=
  nm_r (nI_pred v) (ylh v l hv hl h)
theorem yh_476 {post : Int32 → SY → Prop} (h : wY_editKey_508 post g_w g_hh g_rr g_n g_k g_hc g_nav g_n g_kc g_ud g_last g_y g_mode g_ql g_p g_accepted g_m b_buf b_hist b_histL (ec_cp b_buf 0 b_draft 0 32) b_ring b_ringL b_und b_undL b_undK b_q) : ∀ d j, j + d = 32 → wY_editKey_476 post g_w g_hh g_rr g_n g_k g_hc g_nav g_dn g_kc g_ud g_last g_y g_mode g_ql g_p g_accepted g_m (d + 1) (nI j) b_buf b_hist b_histL (ec_cp b_buf 0 b_draft 0 j) b_ring b_ringL b_und b_undL b_undK b_q := by
  intro d
  induction d with
  | zero =>
    intro j hj
    obtain rfl : j = 32 := by omega
    exact ey_le 32 32 (Nat.le_refl _) h
  | succ d ih =>
    intro j hj
    exact en_le 32 j (by omega) ⟨en_in j (by omega), en_in j (by omega), nm_r ((en_u (0 + j) (en_g (0 + j))).trans (ec_s b_buf 0 b_draft 0 j)) (nm_r (nI_1 j) (ih (j + 1) (by omega)))⟩
theorem yh_d {post : Int32 → SY → Prop} (h : wY_editKey_508 post g_w g_hh g_rr g_n g_k g_hc g_nav g_n g_kc g_ud g_last g_y g_mode g_ql g_p g_accepted g_m b_buf b_hist b_histL (ec_cp b_buf 0 b_draft 0 32) b_ring b_ringL b_und b_undL b_undK b_q) : ∃ z, wY_editKey_476 post g_w g_hh g_rr g_n g_k g_hc g_nav g_dn g_kc g_ud g_last g_y g_mode g_ql g_p g_accepted g_m z 0 b_buf b_hist b_histL b_draft b_ring b_ringL b_und b_undL b_undK b_q := by
  have := yh_476 (g_dn := g_dn) h 32 0 (by omega)
  rw [ec_0] at this
  exact ⟨33, this⟩
theorem yh_576 {post : Int32 → SY → Prop} (h : post 1 (g_w, g_hh, g_rr, g_dn, g_dn, g_hc, g_nav, 0, g_kc, 0, 0, g_y, g_mode, g_ql, g_p, g_accepted, g_m, ec_cp b_draft 0 b_buf 0 32, b_hist, b_histL, b_draft, b_ring, b_ringL, b_und, b_undL, b_undK, b_q)) : ∀ d j, j + d = 32 → wY_editKey_576 post g_w g_hh g_rr g_n g_k g_hc g_nav g_dn g_kc g_ud g_last g_y g_mode g_ql g_p g_accepted g_m (d + 1) (nI j) (ec_cp b_draft 0 b_buf 0 j) b_hist b_histL b_draft b_ring b_ringL b_und b_undL b_undK b_q := by
  intro d
  induction d with
  | zero =>
    intro j hj
    obtain rfl : j = 32 := by omega
    exact ey_le 32 32 (Nat.le_refl _) h
  | succ d ih =>
    intro j hj
    exact en_le 32 j (by omega) ⟨en_in j (by omega), en_in j (by omega), nm_r ((en_u (0 + j) (en_g (0 + j))).trans (ec_s b_draft 0 b_buf 0 j)) (nm_r (nI_1 j) (ih (j + 1) (by omega)))⟩
theorem yh_l {post : Int32 → SY → Prop} (h : post 1 (g_w, g_hh, g_rr, g_dn, g_dn, g_hc, g_nav, 0, g_kc, 0, 0, g_y, g_mode, g_ql, g_p, g_accepted, g_m, ec_cp b_draft 0 b_buf 0 32, b_hist, b_histL, b_draft, b_ring, b_ringL, b_und, b_undL, b_undK, b_q)) : ∃ z, wY_editKey_576 post g_w g_hh g_rr g_n g_k g_hc g_nav g_dn g_kc g_ud g_last g_y g_mode g_ql g_p g_accepted g_m z 0 b_buf b_hist b_histL b_draft b_ring b_ringL b_und b_undL b_undK b_q := by
  have := yh_576 (g_n := g_n) (g_k := g_k) (g_ud := g_ud) (g_last := g_last) h 32 0 (by omega)
  rw [ec_0] at this
  exact ⟨33, this⟩
theorem ye_747 {post : Int32 → SY → Prop} {c : Nat} (h8 : c < 8) (h : post 1 (g_w, g_hh, g_rr, 0, 0, nI (c + 1), nI (c + 1), 0, g_kc, 0, 0, g_y, g_mode, g_ql, g_p, g_accepted + 1, g_m, b_buf, ec_cp b_buf 0 b_hist (c * 32) 32, upd b_histL c g_n, b_draft, b_ring, b_ringL, b_und, b_undL, b_undK, b_q)) : ∀ d i, i + d = 32 → wY_editKey_747 post g_w g_hh g_rr g_n g_k (nI c) g_nav g_dn g_kc g_ud g_last g_y g_mode g_ql g_p g_accepted g_m (d + 1) (nI i) b_buf (ec_cp b_buf 0 b_hist (c * 32) i) b_histL b_draft b_ring b_ringL b_und b_undL b_undK b_q := by
  intro d
  induction d with
  | zero =>
    intro i hi
    obtain rfl : i = 32 := by omega
    exact ey_le 32 32 (Nat.le_refl _) ⟨en_in c h8, nm_r (en_u c) (nm_r (nI_1 c) (nm_e h))⟩
  | succ d ih =>
    intro i hi
    exact en_le 32 i (by omega) ⟨en_in i (by omega), en_in (c * 32 + i) (by omega), nm_r ((en_u (c * 32 + i) (en_g (0 + i))).trans (ec_s b_buf 0 b_hist (c * 32) i)) (nm_r (nI_1 i) (ih (i + 1) (by omega)))⟩
theorem ye_n {post : Int32 → SY → Prop} {c : Nat} (h8 : c < 8) (h : post 1 (g_w, g_hh, g_rr, 0, 0, nI (c + 1), nI (c + 1), 0, g_kc, 0, 0, g_y, g_mode, g_ql, g_p, g_accepted + 1, g_m, b_buf, ec_cp b_buf 0 b_hist (c * 32) 32, upd b_histL c g_n, b_draft, b_ring, b_ringL, b_und, b_undL, b_undK, b_q)) : ∃ z, wY_editKey_747 post g_w g_hh g_rr g_n g_k (nI c) g_nav g_dn g_kc g_ud g_last g_y g_mode g_ql g_p g_accepted g_m z 0 b_buf b_hist b_histL b_draft b_ring b_ringL b_und b_undL b_undK b_q := by
  have := ye_747 (g_k := g_k) (g_nav := g_nav) (g_dn := g_dn) (g_ud := g_ud) (g_last := g_last) h8 h 32 0 (by omega)
  rw [ec_0] at this
  exact ⟨33, this⟩
theorem ye_678 {post : Int32 → SY → Prop} {J : Int32 → (Nat → Int32) → (Nat → Int32) → (Nat → Int32) → (Nat → Int32) → (Nat → Int32) → (Nat → Int32) → (Nat → Int32) → (Nat → Int32) → (Nat → Int32) → (Nat → Int32) → Prop} {s : Nat} (hs : s < 7) (h : J (nI (s + 1)) b_buf (ec_cp b_hist 32 b_hist 0 (s * 32 + 32)) (ec_cp b_histL 1 b_histL 0 (s + 1)) b_draft b_ring b_ringL b_und b_undL b_undK b_q) : ∀ d j, j + d = 32 → wY_editKey_678 post J (nI s) g_w g_hh g_rr g_n g_k g_hc g_nav g_dn g_kc g_ud g_last g_y g_mode g_ql g_p g_accepted g_m (d + 1) (nI j) b_buf (ec_cp b_hist 32 b_hist 0 (s * 32 + j)) (ec_cp b_histL 1 b_histL 0 s) b_draft b_ring b_ringL b_und b_undL b_undK b_q := by
  intro d
  induction d with
  | zero =>
    intro j hj
    obtain rfl : j = 32 := by omega
    exact ey_le 32 32 (Nat.le_refl _) ⟨en_in (s + 1) (by omega), en_in s (by omega), nm_r ((en_u (0 + s) (en_g (1 + s))).trans (ec_up (by omega) s)) (nm_r (nI_1 s) h)⟩
  | succ d ih =>
    intro j hj
    exact en_le 32 j (by omega) ⟨en_in (s * 32 + 32 + j) (by omega), en_in (s * 32 + j) (by omega), nm_r ((en_u (0 + (s * 32 + j)) (en_g (32 + (s * 32 + j)))).trans (ec_up (by omega) (s * 32 + j))) (nm_r (nI_1 j) (ih (j + 1) (by omega)))⟩
theorem ye_666 {post : Int32 → SY → Prop} {c : Nat} (h8 : c < 8) (h : post 1 (g_w, g_hh, g_rr, 0, 0, nI (c + 1), nI (c + 1), 0, g_kc, 0, 0, g_y, g_mode, g_ql, g_p, g_accepted + 1, g_m, b_buf, ec_cp b_buf 0 (ec_cp b_hist 32 b_hist 0 (c * 32)) (c * 32) 32, upd (ec_cp b_histL 1 b_histL 0 c) c g_n, b_draft, b_ring, b_ringL, b_und, b_undL, b_undK, b_q)) : ∀ d s, s + d = c → wY_editKey_666 post g_w g_hh g_rr g_n g_k (nI (c + 1)) g_nav g_dn g_kc g_ud g_last g_y g_mode g_ql g_p g_accepted g_m (d + 1) (nI s) b_buf (ec_cp b_hist 32 b_hist 0 (s * 32)) (ec_cp b_histL 1 b_histL 0 s) b_draft b_ring b_ringL b_und b_undL b_undK b_q := by
  intro d
  induction d with
  | zero =>
    intro s hs
    obtain rfl : s = c := by omega
    exact ey_le s s (Nat.le_refl _) (nm_r (nI_pred s) (ye_n (g_k := g_k) (g_nav := g_nav) (g_dn := g_dn) (g_ud := g_ud) (g_last := g_last) h8 h)) (nI_pred s)
  | succ d ih =>
    intro s hs
    have ih2 := ih (s + 1) (by omega)
    rw [show (s + 1) * 32 = s * 32 + 32 by omega] at ih2
    exact en_le c s (by omega) ⟨33, ye_678 (by omega) ih2 32 0 (by omega)⟩ (nI_pred c)
theorem ye_f {post : Int32 → SY → Prop} {c : Nat} (h8 : c < 8) (h : post 1 (g_w, g_hh, g_rr, 0, 0, nI (c + 1), nI (c + 1), 0, g_kc, 0, 0, g_y, g_mode, g_ql, g_p, g_accepted + 1, g_m, b_buf, ec_cp b_buf 0 (ec_cp b_hist 32 b_hist 0 (c * 32)) (c * 32) 32, upd (ec_cp b_histL 1 b_histL 0 c) c g_n, b_draft, b_ring, b_ringL, b_und, b_undL, b_undK, b_q)) : ∃ z, wY_editKey_666 post g_w g_hh g_rr g_n g_k (nI (c + 1)) g_nav g_dn g_kc g_ud g_last g_y g_mode g_ql g_p g_accepted g_m z 0 b_buf b_hist b_histL b_draft b_ring b_ringL b_und b_undL b_undK b_q := by
  have := ye_666 (g_k := g_k) (g_nav := g_nav) (g_dn := g_dn) (g_ud := g_ud) (g_last := g_last) h8 h c 0 (by omega)
  rw [Nat.zero_mul, ec_0, ec_0] at this
  exact ⟨c + 1, this⟩
end
end
section
/-! S: keys that move, erase, type -/
theorem eO_n {WX VX : (Int32 → SX → Prop) → Prop} {WY VY : (Int32 → SY → Prop) → Prop} (h : eO WX WY) (x : ∀ post r u, (∀ q, q r u → WX q) → post r u → VX post) (y : ∀ post r v, (∀ q, q r v → WY q) → post r v → VY post) : eO VX VY := by
  obtain ⟨r, u, v, g, hx, hy⟩ := h
  exact ⟨r, u, v, g, fun post hp => x post r u hx hp, fun post hp => y post r v hy hp⟩
section
variable {f_width f_historyCap f_ringCap f_length f_cursor f_historyCount f_nav f_draftLength f_ringCount f_yankIndex f_undoDepth f_mode f_last f_accepted f_queryLength f_match f_matchStart f_displayLength f_displayCursor f_terminalRow f_terminalCol : Int32} {a_buffer a_history a_historyLengths a_draft a_ring a_ringLengths a_undoTexts a_undoLengths a_undoCursors a_query a_display a_screen : Nat → Int32}
theorem xm_1 {post : Int32 → SX → Prop} {x : Int32} (t n k : Nat) (hn : n ≤ 32) (hk : k ≤ 32) (h1 : t ≤ n) (h2 : t ≠ k) (h : post 1 (f_width, f_historyCap, f_ringCap, nI n, nI t, f_historyCount, f_nav, f_draftLength, f_ringCount, f_yankIndex, f_undoDepth, f_mode, 0, f_accepted, f_queryLength, f_match, f_matchStart, f_displayLength, f_displayCursor, f_terminalRow, f_terminalCol, a_buffer, a_history, a_historyLengths, a_draft, a_ring, a_ringLengths, a_undoTexts, a_undoLengths, a_undoCursors, a_query, a_display, a_screen)) (hx : x = nI t := by first | with_reducible rfl | (simp (disch := omega) only [nI_add, nI_1, en_m1, en_s1, pk_sub, pk_mul, en_32, en_a2, en_a3, en_p32, en_s32, en_p2, en_s2, en_s3] <;> exact congrArg nI (by omega)) | exact congrArg nI (by omega) | rfl) : wX_moveKey_115 post x f_width f_historyCap f_ringCap (nI n) (nI k) f_historyCount f_nav f_draftLength f_ringCount f_yankIndex f_undoDepth f_mode f_last f_accepted f_queryLength f_match f_matchStart f_displayLength f_displayCursor f_terminalRow f_terminalCol a_buffer a_history a_historyLengths a_draft a_ring a_ringLengths a_undoTexts a_undoLengths a_undoCursors a_query a_display a_screen := by
  subst hx
  exact br_f (nI_pos (by omega)) (en_lt n t h1 (en_eq t k h2 h))
theorem xm_0 {post : Int32 → SX → Prop} {x : Int32} (n k : Nat) (hn : n ≤ 32) (hk : k ≤ n) (h : post 0 (f_width, f_historyCap, f_ringCap, nI n, nI k, f_historyCount, f_nav, f_draftLength, f_ringCount, f_yankIndex, f_undoDepth, f_mode, f_last, f_accepted, f_queryLength, f_match, f_matchStart, f_displayLength, f_displayCursor, f_terminalRow, f_terminalCol, a_buffer, a_history, a_historyLengths, a_draft, a_ring, a_ringLengths, a_undoTexts, a_undoLengths, a_undoCursors, a_query, a_display, a_screen)) (hx : x = nI k := by first | with_reducible rfl | (simp (disch := omega) only [nI_add, nI_1, en_m1, en_s1, pk_sub, pk_mul, en_32, en_a2, en_a3, en_p32, en_s32, en_p2, en_s2, en_s3] <;> exact congrArg nI (by omega)) | exact congrArg nI (by omega) | rfl) : wX_moveKey_115 post x f_width f_historyCap f_ringCap (nI n) (nI k) f_historyCount f_nav f_draftLength f_ringCount f_yankIndex f_undoDepth f_mode f_last f_accepted f_queryLength f_match f_matchStart f_displayLength f_displayCursor f_terminalRow f_terminalCol a_buffer a_history a_historyLengths a_draft a_ring a_ringLengths a_undoTexts a_undoLengths a_undoCursors a_query a_display a_screen := by
  subst hx
  exact br_f (nI_pos (by omega)) (en_lt n k hk (ey_eq k k rfl h))
theorem xer {post : Int32 → SX → Prop} {x : Int32} (a n k ud : Nat) (hn : n ≤ 32) (ha : a < n) (hud : ud ≤ 8) (h : post 1 (f_width, f_historyCap, f_ringCap, nI (n - 1), nI a, f_historyCount, f_nav, f_draftLength, f_ringCount, f_yankIndex, nI (ep_n ud), f_mode, 0, f_accepted, f_queryLength, f_match, f_matchStart, f_displayLength, f_displayCursor, f_terminalRow, f_terminalCol, ec_cp a_buffer (a + 1) a_buffer a (n - a - 1), a_history, a_historyLengths, a_draft, a_ring, a_ringLengths, ep_U a_buffer a_undoTexts n ud, ep_L a_undoLengths (nI n) ud, ep_L a_undoCursors (nI k) ud, a_query, a_display, a_screen)) (hx : x = nI a := by first | with_reducible rfl | (simp (disch := omega) only [nI_add, nI_1, en_m1, en_s1, pk_sub, pk_mul, en_32, en_a2, en_a3, en_p32, en_s32, en_p2, en_s2, en_s3] <;> exact congrArg nI (by omega)) | exact congrArg nI (by omega) | rfl) : wpX_erase post (f_width, f_historyCap, f_ringCap, nI n, nI k, f_historyCount, f_nav, f_draftLength, f_ringCount, f_yankIndex, nI ud, f_mode, f_last, f_accepted, f_queryLength, f_match, f_matchStart, f_displayLength, f_displayCursor, f_terminalRow, f_terminalCol, a_buffer, a_history, a_historyLengths, a_draft, a_ring, a_ringLengths, a_undoTexts, a_undoLengths, a_undoCursors, a_query, a_display, a_screen) x := by
  subst hx
  unfold wpX_erase
  exact xw_t a n ha (br_f (by decide) (xpu hn hud (xcg a 1 n hn (by omega) h)))
end
section
variable {w hh rr n k hc nav dn kc y ud mo la ql p dl dc : Nat} {m ac xdl xdc xtr xtc : Int32} {B H HL D R RL U UL UK Q DS SC B' H' HL' D' R' RL' U' UL' UK' Q' : Nat → Int32}
theorem e_left (C : eC w hh rr n k hc nav dn kc y ud mo la ql p m B H HL D R RL U UL UK Q B' H' HL' D' R' RL' U' UL' UK' Q') (P : eP w n k mo ql p m B H HL Q dl dc DS SC) (S0 : mo = 0 ∧ m = -1 ∧ ql = 0) : eO (fun post => wpX_editKey post (nI w, nI hh, nI rr, nI n, nI k, nI hc, nI nav, nI dn, nI kc, nI y, nI ud, nI mo, nI la, ac, nI ql, m, nI p, nI dl, nI dc, nI (dc / w), nI (dc % w), B, H, HL, D, R, RL, U, UL, UK, Q, DS, SC) 2) (fun post => wpY_editKey post (nI w, nI hh, nI rr, nI n, nI k, nI hc, nI nav, nI dn, nI kc, nI ud, nI la, nI y, nI mo, nI ql, nI p, ac, m, B', H', HL', D', R', RL', U', UL', UK', Q') 2) := by
  obtain ⟨⟨⟨hw1, hw2⟩, ⟨hh1, hh2⟩, ⟨hr1, hr2⟩, ⟨hn, hk⟩, ⟨hhc, hnav⟩, hdn, hkc, hud, hql⟩, hB, hH, hD, hR, hU, hQ, hL, hS⟩ := id C
  by_cases c : k = 0
  · subst c
    exact eO_0 (nI w, nI hh, nI rr, nI n, nI 0, nI hc, nI nav, nI dn, nI kc, nI y, nI ud, nI mo, nI la, ac, nI ql, m, nI p, nI dl, nI dc, nI (dc / w), nI (dc % w), B, H, HL, D, R, RL, U, UL, UK, Q, DS, SC) (nI w, nI hh, nI rr, nI n, nI 0, nI hc, nI nav, nI dn, nI kc, nI ud, nI la, nI y, nI mo, nI ql, nI p, ac, m, B', H', HL', D', R', RL', U', UL', UK', Q') (e_I C P) (fun post hp => by unfold wpX_editKey; exact xp_f (Or.inl (by decide)) (br_t rfl (br_f (by decide) (br_f (by decide) (br_f (by decide) (br_f (by decide) (br_f (by decide) (br_f (by decide) (br_f (by decide) (br_f (by decide) (br_f (by decide) (br_f (by decide) (br_f (by decide) (br_f (by decide) (br_f (by decide) (br_f (by decide) (br_t rfl ( nm_e (br_t (by decide) hp) )))))))))))))))))) (fun post hp => br_t (by decide) (br_t rfl ( ey_eq 0 0 rfl hp )))
  · obtain ⟨t, rfl⟩ : ∃ t, k = t + 1 := ⟨k - 1, by omega⟩
    exact eO_1 (nI w, nI hh, nI rr, nI n, nI t, nI hc, nI nav, nI dn, nI kc, nI y, nI ud, nI mo, 0, ac, nI ql, m, nI p, nI dl, nI dc, nI (dc / w), nI (dc % w), B, H, HL, D, R, RL, U, UL, UK, Q, DS, SC) (nI w, nI hh, nI rr, nI n, nI t, nI hc, nI nav, nI dn, nI kc, nI ud, 0, nI y, nI mo, nI ql, nI p, ac, m, B', H', HL', D', R', RL', U', UL', UK', Q') (e_K (la := 0) ⟨⟨⟨hw1, hw2⟩, ⟨hh1, hh2⟩, ⟨hr1, hr2⟩, ⟨by omega, by omega⟩, ⟨by omega, by omega⟩, by omega, by omega, by omega, by omega⟩, hB, hH, hD, hR, hU, hQ, eL_0, Or.inl S0⟩) (fun post hp => by unfold wpX_editKey; exact xp_f (Or.inl (by decide)) (br_t rfl (br_f (by decide) (br_f (by decide) (br_f (by decide) (br_f (by decide) (br_f (by decide) (br_f (by decide) (br_f (by decide) (br_f (by decide) (br_f (by decide) (br_f (by decide) (br_f (by decide) (br_f (by decide) (br_f (by decide) (br_f (by decide) (br_t rfl ( nm_r (nI_pred t) (xm_1 t n (t + 1) hn (by omega) (by omega) (by omega) hp) )))))))))))))))))) (fun post hp => br_t (by decide) (br_t rfl ( en_eq (t + 1) 0 (by omega) (nm_r (nI_pred t) hp) )))
theorem e_right (C : eC w hh rr n k hc nav dn kc y ud mo la ql p m B H HL D R RL U UL UK Q B' H' HL' D' R' RL' U' UL' UK' Q') (P : eP w n k mo ql p m B H HL Q dl dc DS SC) (S0 : mo = 0 ∧ m = -1 ∧ ql = 0) : eO (fun post => wpX_editKey post (nI w, nI hh, nI rr, nI n, nI k, nI hc, nI nav, nI dn, nI kc, nI y, nI ud, nI mo, nI la, ac, nI ql, m, nI p, nI dl, nI dc, nI (dc / w), nI (dc % w), B, H, HL, D, R, RL, U, UL, UK, Q, DS, SC) 6) (fun post => wpY_editKey post (nI w, nI hh, nI rr, nI n, nI k, nI hc, nI nav, nI dn, nI kc, nI ud, nI la, nI y, nI mo, nI ql, nI p, ac, m, B', H', HL', D', R', RL', U', UL', UK', Q') 6) := by
  obtain ⟨⟨⟨hw1, hw2⟩, ⟨hh1, hh2⟩, ⟨hr1, hr2⟩, ⟨hn, hk⟩, ⟨hhc, hnav⟩, hdn, hkc, hud, hql⟩, hB, hH, hD, hR, hU, hQ, hL, hS⟩ := id C
  by_cases c : k = n
  · subst c
    exact eO_0 (nI w, nI hh, nI rr, nI k, nI k, nI hc, nI nav, nI dn, nI kc, nI y, nI ud, nI mo, nI la, ac, nI ql, m, nI p, nI dl, nI dc, nI (dc / w), nI (dc % w), B, H, HL, D, R, RL, U, UL, UK, Q, DS, SC) (nI w, nI hh, nI rr, nI k, nI k, nI hc, nI nav, nI dn, nI kc, nI ud, nI la, nI y, nI mo, nI ql, nI p, ac, m, B', H', HL', D', R', RL', U', UL', UK', Q') (e_I C P) (fun post hp => by unfold wpX_editKey; exact xp_f (Or.inl (by decide)) (br_t rfl (br_f (by decide) (br_f (by decide) (br_f (by decide) (br_f (by decide) (br_f (by decide) (br_f (by decide) (br_f (by decide) (br_f (by decide) (br_f (by decide) (br_f (by decide) (br_f (by decide) (br_f (by decide) (br_f (by decide) (br_f (by decide) (br_f (by decide) (br_f (by decide) (br_t rfl ( nm_r (nI_1 k) (br_f (nI_pos (by omega)) (ey_lt k (k + 1) (by omega) hp)) )))))))))))))))))))) (fun post hp => br_t (by decide) (br_f (by decide) (br_t rfl ( ey_eq k k rfl hp ))))
  · exact eO_1 (nI w, nI hh, nI rr, nI n, nI (k + 1), nI hc, nI nav, nI dn, nI kc, nI y, nI ud, nI mo, 0, ac, nI ql, m, nI p, nI dl, nI dc, nI (dc / w), nI (dc % w), B, H, HL, D, R, RL, U, UL, UK, Q, DS, SC) (nI w, nI hh, nI rr, nI n, nI (k + 1), nI hc, nI nav, nI dn, nI kc, nI ud, 0, nI y, nI mo, nI ql, nI p, ac, m, B', H', HL', D', R', RL', U', UL', UK', Q') (e_K (la := 0) ⟨⟨⟨hw1, hw2⟩, ⟨hh1, hh2⟩, ⟨hr1, hr2⟩, ⟨by omega, by omega⟩, ⟨by omega, by omega⟩, by omega, by omega, by omega, by omega⟩, hB, hH, hD, hR, hU, hQ, eL_0, Or.inl S0⟩) (fun post hp => by unfold wpX_editKey; exact xp_f (Or.inl (by decide)) (br_t rfl (br_f (by decide) (br_f (by decide) (br_f (by decide) (br_f (by decide) (br_f (by decide) (br_f (by decide) (br_f (by decide) (br_f (by decide) (br_f (by decide) (br_f (by decide) (br_f (by decide) (br_f (by decide) (br_f (by decide) (br_f (by decide) (br_f (by decide) (br_f (by decide) (br_t rfl ( nm_r (nI_1 k) (xm_1 (k + 1) n k hn (by omega) (by omega) (by omega) hp) )))))))))))))))))))) (fun post hp => br_t (by decide) (br_f (by decide) (br_t rfl ( en_eq k n c (nm_r (nI_1 k) hp) ))))
theorem e_home (C : eC w hh rr n k hc nav dn kc y ud mo la ql p m B H HL D R RL U UL UK Q B' H' HL' D' R' RL' U' UL' UK' Q') (P : eP w n k mo ql p m B H HL Q dl dc DS SC) (S0 : mo = 0 ∧ m = -1 ∧ ql = 0) : eO (fun post => wpX_editKey post (nI w, nI hh, nI rr, nI n, nI k, nI hc, nI nav, nI dn, nI kc, nI y, nI ud, nI mo, nI la, ac, nI ql, m, nI p, nI dl, nI dc, nI (dc / w), nI (dc % w), B, H, HL, D, R, RL, U, UL, UK, Q, DS, SC) 1) (fun post => wpY_editKey post (nI w, nI hh, nI rr, nI n, nI k, nI hc, nI nav, nI dn, nI kc, nI ud, nI la, nI y, nI mo, nI ql, nI p, ac, m, B', H', HL', D', R', RL', U', UL', UK', Q') 1) := by
  obtain ⟨⟨⟨hw1, hw2⟩, ⟨hh1, hh2⟩, ⟨hr1, hr2⟩, ⟨hn, hk⟩, ⟨hhc, hnav⟩, hdn, hkc, hud, hql⟩, hB, hH, hD, hR, hU, hQ, hL, hS⟩ := id C
  by_cases c : k = 0
  · subst c
    exact eO_0 (nI w, nI hh, nI rr, nI n, nI 0, nI hc, nI nav, nI dn, nI kc, nI y, nI ud, nI mo, nI la, ac, nI ql, m, nI p, nI dl, nI dc, nI (dc / w), nI (dc % w), B, H, HL, D, R, RL, U, UL, UK, Q, DS, SC) (nI w, nI hh, nI rr, nI n, nI 0, nI hc, nI nav, nI dn, nI kc, nI ud, nI la, nI y, nI mo, nI ql, nI p, ac, m, B', H', HL', D', R', RL', U', UL', UK', Q') (e_I C P) (fun post hp => by unfold wpX_editKey; exact xp_f (Or.inl (by decide)) (br_t rfl (br_f (by decide) (br_f (by decide) (br_f (by decide) (br_f (by decide) (br_f (by decide) (br_f (by decide) (br_f (by decide) (br_f (by decide) (br_f (by decide) (br_f (by decide) (br_f (by decide) (br_f (by decide) (br_f (by decide) (br_t rfl ( xm_0 n 0 hn (by omega) hp ))))))))))))))))) (fun post hp => br_t (by decide) (br_f (by decide) (br_f (by decide) (br_t rfl ( ey_eq 0 0 rfl hp )))))
  · exact eO_1 (nI w, nI hh, nI rr, nI n, nI 0, nI hc, nI nav, nI dn, nI kc, nI y, nI ud, nI mo, 0, ac, nI ql, m, nI p, nI dl, nI dc, nI (dc / w), nI (dc % w), B, H, HL, D, R, RL, U, UL, UK, Q, DS, SC) (nI w, nI hh, nI rr, nI n, nI 0, nI hc, nI nav, nI dn, nI kc, nI ud, 0, nI y, nI mo, nI ql, nI p, ac, m, B', H', HL', D', R', RL', U', UL', UK', Q') (e_K (la := 0) ⟨⟨⟨hw1, hw2⟩, ⟨hh1, hh2⟩, ⟨hr1, hr2⟩, ⟨by omega, by omega⟩, ⟨by omega, by omega⟩, by omega, by omega, by omega, by omega⟩, hB, hH, hD, hR, hU, hQ, eL_0, Or.inl S0⟩) (fun post hp => by unfold wpX_editKey; exact xp_f (Or.inl (by decide)) (br_t rfl (br_f (by decide) (br_f (by decide) (br_f (by decide) (br_f (by decide) (br_f (by decide) (br_f (by decide) (br_f (by decide) (br_f (by decide) (br_f (by decide) (br_f (by decide) (br_f (by decide) (br_f (by decide) (br_f (by decide) (br_t rfl ( xm_1 0 n k hn (by omega) (by omega) (by omega) hp ))))))))))))))))) (fun post hp => br_t (by decide) (br_f (by decide) (br_f (by decide) (br_t rfl ( en_eq k 0 c hp )))))
theorem e_end (C : eC w hh rr n k hc nav dn kc y ud mo la ql p m B H HL D R RL U UL UK Q B' H' HL' D' R' RL' U' UL' UK' Q') (P : eP w n k mo ql p m B H HL Q dl dc DS SC) (S0 : mo = 0 ∧ m = -1 ∧ ql = 0) : eO (fun post => wpX_editKey post (nI w, nI hh, nI rr, nI n, nI k, nI hc, nI nav, nI dn, nI kc, nI y, nI ud, nI mo, nI la, ac, nI ql, m, nI p, nI dl, nI dc, nI (dc / w), nI (dc % w), B, H, HL, D, R, RL, U, UL, UK, Q, DS, SC) 5) (fun post => wpY_editKey post (nI w, nI hh, nI rr, nI n, nI k, nI hc, nI nav, nI dn, nI kc, nI ud, nI la, nI y, nI mo, nI ql, nI p, ac, m, B', H', HL', D', R', RL', U', UL', UK', Q') 5) := by
  obtain ⟨⟨⟨hw1, hw2⟩, ⟨hh1, hh2⟩, ⟨hr1, hr2⟩, ⟨hn, hk⟩, ⟨hhc, hnav⟩, hdn, hkc, hud, hql⟩, hB, hH, hD, hR, hU, hQ, hL, hS⟩ := id C
  by_cases c : k = n
  · subst c
    exact eO_0 (nI w, nI hh, nI rr, nI k, nI k, nI hc, nI nav, nI dn, nI kc, nI y, nI ud, nI mo, nI la, ac, nI ql, m, nI p, nI dl, nI dc, nI (dc / w), nI (dc % w), B, H, HL, D, R, RL, U, UL, UK, Q, DS, SC) (nI w, nI hh, nI rr, nI k, nI k, nI hc, nI nav, nI dn, nI kc, nI ud, nI la, nI y, nI mo, nI ql, nI p, ac, m, B', H', HL', D', R', RL', U', UL', UK', Q') (e_I C P) (fun post hp => by unfold wpX_editKey; exact xp_f (Or.inl (by decide)) (br_t rfl (br_f (by decide) (br_f (by decide) (br_f (by decide) (br_f (by decide) (br_f (by decide) (br_f (by decide) (br_f (by decide) (br_f (by decide) (br_f (by decide) (br_f (by decide) (br_f (by decide) (br_f (by decide) (br_f (by decide) (br_f (by decide) (br_f (by decide) (br_t rfl ( xm_0 k k hn (by omega) hp ))))))))))))))))))) (fun post hp => br_t (by decide) (br_f (by decide) (br_f (by decide) (br_f (by decide) (br_t rfl ( ey_eq k k rfl hp ))))))
  · exact eO_1 (nI w, nI hh, nI rr, nI n, nI n, nI hc, nI nav, nI dn, nI kc, nI y, nI ud, nI mo, 0, ac, nI ql, m, nI p, nI dl, nI dc, nI (dc / w), nI (dc % w), B, H, HL, D, R, RL, U, UL, UK, Q, DS, SC) (nI w, nI hh, nI rr, nI n, nI n, nI hc, nI nav, nI dn, nI kc, nI ud, 0, nI y, nI mo, nI ql, nI p, ac, m, B', H', HL', D', R', RL', U', UL', UK', Q') (e_K (la := 0) ⟨⟨⟨hw1, hw2⟩, ⟨hh1, hh2⟩, ⟨hr1, hr2⟩, ⟨by omega, by omega⟩, ⟨by omega, by omega⟩, by omega, by omega, by omega, by omega⟩, hB, hH, hD, hR, hU, hQ, eL_0, Or.inl S0⟩) (fun post hp => by unfold wpX_editKey; exact xp_f (Or.inl (by decide)) (br_t rfl (br_f (by decide) (br_f (by decide) (br_f (by decide) (br_f (by decide) (br_f (by decide) (br_f (by decide) (br_f (by decide) (br_f (by decide) (br_f (by decide) (br_f (by decide) (br_f (by decide) (br_f (by decide) (br_f (by decide) (br_f (by decide) (br_f (by decide) (br_t rfl ( xm_1 n n k hn (by omega) (by omega) (by omega) hp ))))))))))))))))))) (fun post hp => br_t (by decide) (br_f (by decide) (br_f (by decide) (br_f (by decide) (br_t rfl ( en_eq k n c hp ))))))
theorem e_wl (C : eC w hh rr n k hc nav dn kc y ud mo la ql p m B H HL D R RL U UL UK Q B' H' HL' D' R' RL' U' UL' UK' Q') (P : eP w n k mo ql p m B H HL Q dl dc DS SC) (S0 : mo = 0 ∧ m = -1 ∧ ql = 0) : eO (fun post => wpX_editKey post (nI w, nI hh, nI rr, nI n, nI k, nI hc, nI nav, nI dn, nI kc, nI y, nI ud, nI mo, nI la, ac, nI ql, m, nI p, nI dl, nI dc, nI (dc / w), nI (dc % w), B, H, HL, D, R, RL, U, UL, UK, Q, DS, SC) 200) (fun post => wpY_editKey post (nI w, nI hh, nI rr, nI n, nI k, nI hc, nI nav, nI dn, nI kc, nI ud, nI la, nI y, nI mo, nI ql, nI p, ac, m, B', H', HL', D', R', RL', U', UL', UK', Q') 200) := by
  obtain ⟨⟨⟨hw1, hw2⟩, ⟨hh1, hh2⟩, ⟨hr1, hr2⟩, ⟨hn, hk⟩, ⟨hhc, hnav⟩, hdn, hkc, hud, hql⟩, hB, hH, hD, hR, hU, hQ, hL, hS⟩ := id C
  have ec : ewl B' k = ewl B k := (ewl_c (fun j hj => (eg_at hB (by omega)).1)).symm
  have hle := ewl_le B k
  by_cases c : ewl B k = k
  · exact eO_0 (nI w, nI hh, nI rr, nI n, nI k, nI hc, nI nav, nI dn, nI kc, nI y, nI ud, nI mo, nI la, ac, nI ql, m, nI p, nI dl, nI dc, nI (dc / w), nI (dc % w), B, H, HL, D, R, RL, U, UL, UK, Q, DS, SC) (nI w, nI hh, nI rr, nI n, nI k, nI hc, nI nav, nI dn, nI kc, nI ud, nI la, nI y, nI mo, nI ql, nI p, ac, m, B', H', HL', D', R', RL', U', UL', UK', Q') (e_I C P) (fun post hp => by unfold wpX_editKey; exact xp_f (Or.inr (by decide)) (br_t rfl (br_f (by decide) (br_f (by decide) (br_f (by decide) (br_f (by decide) (br_f (by decide) (br_f (by decide) (br_f (by decide) (br_f (by decide) (br_f (by decide) (br_f (by decide) (br_f (by decide) (br_f (by decide) (br_f (by decide) (br_f (by decide) (br_f (by decide) (br_f (by decide) (br_f (by decide) (br_t rfl ( xwl (by omega) (xm_0 n k hn hk hp (congrArg nI c)) ))))))))))))))))))))) (fun post hp => br_f (by decide) (br_t (by decide) (br_f (by decide) (br_f (by decide) (br_f (by decide) (br_f (by decide) (br_t rfl ( ywl (by omega) (ey_eq (ewl B' k) k (ec.trans c) hp) ))))))))
  · exact eO_1 (nI w, nI hh, nI rr, nI n, nI (ewl B k), nI hc, nI nav, nI dn, nI kc, nI y, nI ud, nI mo, 0, ac, nI ql, m, nI p, nI dl, nI dc, nI (dc / w), nI (dc % w), B, H, HL, D, R, RL, U, UL, UK, Q, DS, SC) (nI w, nI hh, nI rr, nI n, nI (ewl B k), nI hc, nI nav, nI dn, nI kc, nI ud, 0, nI y, nI mo, nI ql, nI p, ac, m, B', H', HL', D', R', RL', U', UL', UK', Q') (e_K (la := 0) ⟨⟨⟨hw1, hw2⟩, ⟨hh1, hh2⟩, ⟨hr1, hr2⟩, ⟨by omega, by omega⟩, ⟨by omega, by omega⟩, by omega, by omega, by omega, by omega⟩, hB, hH, hD, hR, hU, hQ, eL_0, Or.inl S0⟩) (fun post hp => by unfold wpX_editKey; exact xp_f (Or.inr (by decide)) (br_t rfl (br_f (by decide) (br_f (by decide) (br_f (by decide) (br_f (by decide) (br_f (by decide) (br_f (by decide) (br_f (by decide) (br_f (by decide) (br_f (by decide) (br_f (by decide) (br_f (by decide) (br_f (by decide) (br_f (by decide) (br_f (by decide) (br_f (by decide) (br_f (by decide) (br_f (by decide) (br_t rfl ( xwl (by omega) (xm_1 (ewl B k) n k hn (by omega) (by omega) c hp) ))))))))))))))))))))) (fun post hp => br_f (by decide) (br_t (by decide) (br_f (by decide) (br_f (by decide) (br_f (by decide) (br_f (by decide) (br_t rfl ( ywl (by omega) (by rw [ec]; exact en_eq (ewl B k) k c hp) ))))))))
theorem e_wr (C : eC w hh rr n k hc nav dn kc y ud mo la ql p m B H HL D R RL U UL UK Q B' H' HL' D' R' RL' U' UL' UK' Q') (P : eP w n k mo ql p m B H HL Q dl dc DS SC) (S0 : mo = 0 ∧ m = -1 ∧ ql = 0) : eO (fun post => wpX_editKey post (nI w, nI hh, nI rr, nI n, nI k, nI hc, nI nav, nI dn, nI kc, nI y, nI ud, nI mo, nI la, ac, nI ql, m, nI p, nI dl, nI dc, nI (dc / w), nI (dc % w), B, H, HL, D, R, RL, U, UL, UK, Q, DS, SC) 201) (fun post => wpY_editKey post (nI w, nI hh, nI rr, nI n, nI k, nI hc, nI nav, nI dn, nI kc, nI ud, nI la, nI y, nI mo, nI ql, nI p, ac, m, B', H', HL', D', R', RL', U', UL', UK', Q') 201) := by
  obtain ⟨⟨⟨hw1, hw2⟩, ⟨hh1, hh2⟩, ⟨hr1, hr2⟩, ⟨hn, hk⟩, ⟨hhc, hnav⟩, hdn, hkc, hud, hql⟩, hB, hH, hD, hR, hU, hQ, hL, hS⟩ := id C
  have ec : ewr B' n k = ewr B n k := (ewr_c hk (fun j hj => (eg_at hB (by omega)).1)).symm
  have hle := ewr_le (f := B) hk
  by_cases c : ewr B n k = k
  · exact eO_0 (nI w, nI hh, nI rr, nI n, nI k, nI hc, nI nav, nI dn, nI kc, nI y, nI ud, nI mo, nI la, ac, nI ql, m, nI p, nI dl, nI dc, nI (dc / w), nI (dc % w), B, H, HL, D, R, RL, U, UL, UK, Q, DS, SC) (nI w, nI hh, nI rr, nI n, nI k, nI hc, nI nav, nI dn, nI kc, nI ud, nI la, nI y, nI mo, nI ql, nI p, ac, m, B', H', HL', D', R', RL', U', UL', UK', Q') (e_I C P) (fun post hp => by unfold wpX_editKey; exact xp_f (Or.inr (by decide)) (br_t rfl (br_f (by decide) (br_f (by decide) (br_f (by decide) (br_f (by decide) (br_f (by decide) (br_f (by decide) (br_f (by decide) (br_f (by decide) (br_f (by decide) (br_f (by decide) (br_f (by decide) (br_f (by decide) (br_f (by decide) (br_f (by decide) (br_f (by decide) (br_f (by decide) (br_f (by decide) (br_f (by decide) (br_t rfl ( xwr hn hk (xm_0 n k hn hk hp (congrArg nI c)) )))))))))))))))))))))) (fun post hp => br_f (by decide) (br_t (by decide) (br_f (by decide) (br_f (by decide) (br_f (by decide) (br_f (by decide) (br_f (by decide) (br_t rfl ( ywr hn hk (ey_eq (ewr B' n k) k (ec.trans c) hp) )))))))))
  · exact eO_1 (nI w, nI hh, nI rr, nI n, nI (ewr B n k), nI hc, nI nav, nI dn, nI kc, nI y, nI ud, nI mo, 0, ac, nI ql, m, nI p, nI dl, nI dc, nI (dc / w), nI (dc % w), B, H, HL, D, R, RL, U, UL, UK, Q, DS, SC) (nI w, nI hh, nI rr, nI n, nI (ewr B n k), nI hc, nI nav, nI dn, nI kc, nI ud, 0, nI y, nI mo, nI ql, nI p, ac, m, B', H', HL', D', R', RL', U', UL', UK', Q') (e_K (la := 0) ⟨⟨⟨hw1, hw2⟩, ⟨hh1, hh2⟩, ⟨hr1, hr2⟩, ⟨by omega, by omega⟩, ⟨by omega, by omega⟩, by omega, by omega, by omega, by omega⟩, hB, hH, hD, hR, hU, hQ, eL_0, Or.inl S0⟩) (fun post hp => by unfold wpX_editKey; exact xp_f (Or.inr (by decide)) (br_t rfl (br_f (by decide) (br_f (by decide) (br_f (by decide) (br_f (by decide) (br_f (by decide) (br_f (by decide) (br_f (by decide) (br_f (by decide) (br_f (by decide) (br_f (by decide) (br_f (by decide) (br_f (by decide) (br_f (by decide) (br_f (by decide) (br_f (by decide) (br_f (by decide) (br_f (by decide) (br_f (by decide) (br_t rfl ( xwr hn hk (xm_1 (ewr B n k) n k hn (by omega) (by omega) c hp) )))))))))))))))))))))) (fun post hp => br_f (by decide) (br_t (by decide) (br_f (by decide) (br_f (by decide) (br_f (by decide) (br_f (by decide) (br_f (by decide) (br_t rfl ( ywr hn hk (by rw [ec]; exact en_eq (ewr B n k) k c hp) )))))))))
theorem e_back (C : eC w hh rr n k hc nav dn kc y ud mo la ql p m B H HL D R RL U UL UK Q B' H' HL' D' R' RL' U' UL' UK' Q') (P : eP w n k mo ql p m B H HL Q dl dc DS SC) (S0 : mo = 0 ∧ m = -1 ∧ ql = 0) : eO (fun post => wpX_editKey post (nI w, nI hh, nI rr, nI n, nI k, nI hc, nI nav, nI dn, nI kc, nI y, nI ud, nI mo, nI la, ac, nI ql, m, nI p, nI dl, nI dc, nI (dc / w), nI (dc % w), B, H, HL, D, R, RL, U, UL, UK, Q, DS, SC) 8) (fun post => wpY_editKey post (nI w, nI hh, nI rr, nI n, nI k, nI hc, nI nav, nI dn, nI kc, nI ud, nI la, nI y, nI mo, nI ql, nI p, ac, m, B', H', HL', D', R', RL', U', UL', UK', Q') 8) := by
  obtain ⟨⟨⟨hw1, hw2⟩, ⟨hh1, hh2⟩, ⟨hr1, hr2⟩, ⟨hn, hk⟩, ⟨hhc, hnav⟩, hdn, hkc, hud, hql⟩, hB, hH, hD, hR, hU, hQ, hL, hS⟩ := id C
  by_cases c : k = 0
  · subst c
    exact eO_0 (nI w, nI hh, nI rr, nI n, nI 0, nI hc, nI nav, nI dn, nI kc, nI y, nI ud, nI mo, nI la, ac, nI ql, m, nI p, nI dl, nI dc, nI (dc / w), nI (dc % w), B, H, HL, D, R, RL, U, UL, UK, Q, DS, SC) (nI w, nI hh, nI rr, nI n, nI 0, nI hc, nI nav, nI dn, nI kc, nI ud, nI la, nI y, nI mo, nI ql, nI p, ac, m, B', H', HL', D', R', RL', U', UL', UK', Q') (e_I C P) (fun post hp => by unfold wpX_editKey; exact xp_f (Or.inl (by decide)) (br_t rfl (br_f (by decide) (br_t rfl ( by unfold wpX_erase; exact xw_f (Or.inl (by decide)) (br_t rfl hp) ))))) (fun post hp => br_t (by decide) (br_f (by decide) (br_f (by decide) (br_f (by decide) (br_f (by decide) (br_f (by decide) (br_f (by decide) (br_t rfl ( ey_eq 0 0 rfl hp )))))))))
  · obtain ⟨a, rfl⟩ : ∃ a, k = a + 1 := ⟨k - 1, by omega⟩
    have hud2 := ep_le hud
    exact eO_1 (nI w, nI hh, nI rr, nI (n - 1), nI a, nI hc, nI nav, nI dn, nI kc, nI y, nI (ep_n ud), nI mo, 0, ac, nI ql, m, nI p, nI dl, nI dc, nI (dc / w), nI (dc % w), ec_cp B (a + 1) B a (n - a - 1), H, HL, D, R, RL, ep_U B U n ud, ep_L UL (nI n) ud, ep_L UK (nI (a + 1)) ud, Q, DS, SC) (nI w, nI hh, nI rr, nI (n - 1), nI a, nI hc, nI nav, nI dn, nI kc, nI (ep_n ud), 0, nI y, nI mo, nI ql, nI p, ac, m, ec_cp B' (a + 1) B' a (n - 1 - a), H', HL', D', R', RL', ep_U B' U' 32 ud, ep_L UL' (nI n) ud, ep_L UK' (nI (a + 1)) ud, Q')
      (e_K (la := 0) ⟨⟨⟨hw1, hw2⟩, ⟨hh1, hh2⟩, ⟨hr1, hr2⟩, ⟨by omega, by omega⟩, ⟨by omega, by omega⟩, by omega, by omega, by omega, by omega⟩, eg_del (c := 1) hB (by omega) (fun i _ => by rw [show n - 1 - a = n - a - 1 by omega]), hH, hD, hR, ep_eu hU hud hn hk hB, hQ, eL_0, Or.inl S0⟩)
      (fun post hp => by unfold wpX_editKey; exact xp_f (Or.inl (by decide)) (br_t rfl (br_f (by decide) (br_t rfl ( xer a n (a + 1) ud hn (by omega) hud hp )))))
      (fun post hp => br_t (by decide) (br_f (by decide) (br_f (by decide) (br_f (by decide) (br_f (by decide) (br_f (by decide) (br_f (by decide) (br_t rfl ( en_eq (a + 1) 0 (by omega) (ypu hud (yrm a n hn (by omega) (nm_r (nI_pred a) hp))) )))))))))
theorem e_del (C : eC w hh rr n k hc nav dn kc y ud mo la ql p m B H HL D R RL U UL UK Q B' H' HL' D' R' RL' U' UL' UK' Q') (P : eP w n k mo ql p m B H HL Q dl dc DS SC) (S0 : mo = 0 ∧ m = -1 ∧ ql = 0) : eO (fun post => wpX_editKey post (nI w, nI hh, nI rr, nI n, nI k, nI hc, nI nav, nI dn, nI kc, nI y, nI ud, nI mo, nI la, ac, nI ql, m, nI p, nI dl, nI dc, nI (dc / w), nI (dc % w), B, H, HL, D, R, RL, U, UL, UK, Q, DS, SC) 4) (fun post => wpY_editKey post (nI w, nI hh, nI rr, nI n, nI k, nI hc, nI nav, nI dn, nI kc, nI ud, nI la, nI y, nI mo, nI ql, nI p, ac, m, B', H', HL', D', R', RL', U', UL', UK', Q') 4) := by
  obtain ⟨⟨⟨hw1, hw2⟩, ⟨hh1, hh2⟩, ⟨hr1, hr2⟩, ⟨hn, hk⟩, ⟨hhc, hnav⟩, hdn, hkc, hud, hql⟩, hB, hH, hD, hR, hU, hQ, hL, hS⟩ := id C
  by_cases c : k = n
  · subst c
    exact eO_0 (nI w, nI hh, nI rr, nI k, nI k, nI hc, nI nav, nI dn, nI kc, nI y, nI ud, nI mo, nI la, ac, nI ql, m, nI p, nI dl, nI dc, nI (dc / w), nI (dc % w), B, H, HL, D, R, RL, U, UL, UK, Q, DS, SC) (nI w, nI hh, nI rr, nI k, nI k, nI hc, nI nav, nI dn, nI kc, nI ud, nI la, nI y, nI mo, nI ql, nI p, ac, m, B', H', HL', D', R', RL', U', UL', UK', Q') (e_I C P) (fun post hp => by unfold wpX_editKey; exact xp_f (Or.inl (by decide)) (br_t rfl (br_t rfl ( by unfold wpX_erase; exact xw_f (Or.inr (nI_le (Nat.le_refl _) (by omega))) (br_t rfl hp) )))) (fun post hp => br_t (by decide) (br_f (by decide) (br_f (by decide) (br_f (by decide) (br_f (by decide) (br_f (by decide) (br_f (by decide) (br_f (by decide) (br_t rfl ( ey_eq k k rfl hp ))))))))))
  · have hud2 := ep_le hud
    exact eO_1 (nI w, nI hh, nI rr, nI (n - 1), nI k, nI hc, nI nav, nI dn, nI kc, nI y, nI (ep_n ud), nI mo, 0, ac, nI ql, m, nI p, nI dl, nI dc, nI (dc / w), nI (dc % w), ec_cp B (k + 1) B k (n - k - 1), H, HL, D, R, RL, ep_U B U n ud, ep_L UL (nI n) ud, ep_L UK (nI k) ud, Q, DS, SC) (nI w, nI hh, nI rr, nI (n - 1), nI k, nI hc, nI nav, nI dn, nI kc, nI (ep_n ud), 0, nI y, nI mo, nI ql, nI p, ac, m, ec_cp B' (k + 1) B' k (n - 1 - k), H', HL', D', R', RL', ep_U B' U' 32 ud, ep_L UL' (nI n) ud, ep_L UK' (nI k) ud, Q')
      (e_K (la := 0) ⟨⟨⟨hw1, hw2⟩, ⟨hh1, hh2⟩, ⟨hr1, hr2⟩, ⟨by omega, by omega⟩, ⟨by omega, by omega⟩, by omega, by omega, by omega, by omega⟩, eg_del (c := 1) hB (by omega) (fun i _ => by rw [show n - 1 - k = n - k - 1 by omega]), hH, hD, hR, ep_eu hU hud hn hk hB, hQ, eL_0, Or.inl S0⟩)
      (fun post hp => by unfold wpX_editKey; exact xp_f (Or.inl (by decide)) (br_t rfl (br_t rfl ( xer k n k ud hn (by omega) hud hp ))))
      (fun post hp => br_t (by decide) (br_f (by decide) (br_f (by decide) (br_f (by decide) (br_f (by decide) (br_f (by decide) (br_f (by decide) (br_f (by decide) (br_t rfl ( en_eq k n c (ypu hud (yrm k n hn (by omega) hp)) ))))))))))
theorem e_type (C : eC w hh rr n k hc nav dn kc y ud mo la ql p m B H HL D R RL U UL UK Q B' H' HL' D' R' RL' U' UL' UK' Q') (P : eP w n k mo ql p m B H HL Q dl dc DS SC) (S0 : mo = 0 ∧ m = -1 ∧ ql = 0) {c : Int32} (c1 : ¬ c < 32) (c2 : ¬ 126 < c) : eO (fun post => wpX_editKey post (nI w, nI hh, nI rr, nI n, nI k, nI hc, nI nav, nI dn, nI kc, nI y, nI ud, nI mo, nI la, ac, nI ql, m, nI p, nI dl, nI dc, nI (dc / w), nI (dc % w), B, H, HL, D, R, RL, U, UL, UK, Q, DS, SC) c) (fun post => wpY_editKey post (nI w, nI hh, nI rr, nI n, nI k, nI hc, nI nav, nI dn, nI kc, nI ud, nI la, nI y, nI mo, nI ql, nI p, ac, m, B', H', HL', D', R', RL', U', UL', UK', Q') c) := by
  obtain ⟨⟨⟨hw1, hw2⟩, ⟨hh1, hh2⟩, ⟨hr1, hr2⟩, ⟨hn, hk⟩, ⟨hhc, hnav⟩, hdn, hkc, hud, hql⟩, hB, hH, hD, hR, hU, hQ, hL, hS⟩ := id C
  have cp : ¬ c < 0 := en_ge (Int32.not_lt.mp c1) (by decide)
  by_cases c0 : n = 32
  · subst c0
    exact eO_0 (nI w, nI hh, nI rr, nI 32, nI k, nI hc, nI nav, nI dn, nI kc, nI y, nI ud, nI mo, nI la, ac, nI ql, m, nI p, nI dl, nI dc, nI (dc / w), nI (dc % w), B, H, HL, D, R, RL, U, UL, UK, Q, DS, SC) (nI w, nI hh, nI rr, nI 32, nI k, nI hc, nI nav, nI dn, nI kc, nI ud, nI la, nI y, nI mo, nI ql, nI p, ac, m, B', H', HL', D', R', RL', U', UL', UK', Q') (e_I C P) (fun post hp => by unfold wpX_editKey; exact xp_t c1 c2 (br_f (by decide) (en_lt 32 32 (by omega) hp))) (fun post hp => br_f c1 (br_f c2 (ey_eq 32 32 rfl hp)))
  · by_cases c3 : la = 1
    · subst c3
      exact eO_1 (nI w, nI hh, nI rr, nI (n + 1), nI (k + 1), nI hc, nI nav, nI dn, nI kc, nI y, nI ud, nI mo, 1, ac, nI ql, m, nI p, nI dl, nI dc, nI (dc / w), nI (dc % w), upd (ec_cp B k B (k + 1) (n - k)) k c, H, HL, D, R, RL, U, UL, UK, Q, DS, SC) (nI w, nI hh, nI rr, nI (n + 1), nI (k + 1), nI hc, nI nav, nI dn, nI kc, nI ud, 1, nI y, nI mo, nI ql, nI p, ac, m, upd (ec_cp B' k B' (k + 1) (n - k)) k c, H', HL', D', R', RL', U', UL', UK', Q')
        (e_K (la := 1) ⟨⟨⟨hw1, hw2⟩, ⟨hh1, hh2⟩, ⟨hr1, hr2⟩, ⟨by omega, by omega⟩, ⟨by omega, by omega⟩, by omega, by omega, by omega, by omega⟩, eg_ins1 hB hk cp, hH, hD, hR, hU, hQ, eL_1, Or.inl S0⟩)
        (fun post hp => by unfold wpX_editKey; exact xp_t c1 c2 (br_f (by decide) (ey_lt n 32 (by omega) (br_t rfl (xty_23 n k (by omega) hk hp)))))
        (fun post hp => br_f c1 (br_f c2 (en_eq n 32 c0 (br_t rfl (yin k n (by omega) hk (nm_r (nI_1 k) hp))))))
    · have hud2 := ep_le hud
      have hla := hL.1
      exact eO_1 (nI w, nI hh, nI rr, nI (n + 1), nI (k + 1), nI hc, nI nav, nI dn, nI kc, nI y, nI (ep_n ud), nI mo, 1, ac, nI ql, m, nI p, nI dl, nI dc, nI (dc / w), nI (dc % w), upd (ec_cp B k B (k + 1) (n - k)) k c, H, HL, D, R, RL, ep_U B U n ud, ep_L UL (nI n) ud, ep_L UK (nI k) ud, Q, DS, SC) (nI w, nI hh, nI rr, nI (n + 1), nI (k + 1), nI hc, nI nav, nI dn, nI kc, nI (ep_n ud), 1, nI y, nI mo, nI ql, nI p, ac, m, upd (ec_cp B' k B' (k + 1) (n - k)) k c, H', HL', D', R', RL', ep_U B' U' 32 ud, ep_L UL' (nI n) ud, ep_L UK' (nI k) ud, Q')
        (e_K (la := 1) ⟨⟨⟨hw1, hw2⟩, ⟨hh1, hh2⟩, ⟨hr1, hr2⟩, ⟨by omega, by omega⟩, ⟨by omega, by omega⟩, by omega, by omega, by omega, by omega⟩, eg_ins1 hB hk cp, hH, hD, hR, ep_eu hU hud hn hk hB, hQ, eL_1, Or.inl S0⟩)
        (fun post hp => by unfold wpX_editKey; exact xp_t c1 c2 (br_f (by decide) (ey_lt n 32 (by omega) (en_eq la 1 c3 (xpu hn hud (xty_23 n k (by omega) hk hp))))))
        (fun post hp => br_f c1 (br_f c2 (en_eq n 32 c0 (en_eq la 1 c3 (ypu hud (yin k n (by omega) hk (nm_r (nI_1 k) hp)))))))
end
end
section
/-! T: the kills (written by wip/whole/gen17.py) -/
section
variable {g_w g_hh g_rr g_n g_k g_hc g_nav g_dn g_kc g_ud g_last g_y g_mode g_ql g_p g_accepted g_m : Int32} {b_buf b_hist b_histL b_draft b_ring b_ringL b_und b_undL b_undK b_q : Nat → Int32}
theorem yk_359' {post : Int32 → SY → Prop} {a c : Nat} (h1 : a + c ≤ 32) (h : ∀ f : Nat → Int32, f = upd b_ringL 0 (nI c) → (g_rr ≤ g_kc → ∃ z, wY_kill_420 post (nI a) (nI c) z 0 g_w g_hh g_rr g_n g_k g_hc g_nav g_dn g_kc g_ud g_last g_y g_mode g_ql g_p g_accepted g_m b_buf b_hist b_histL b_draft (ec_cp b_buf a b_ring 0 c) f b_und b_undL b_undK b_q) ∧ (¬ g_rr ≤ g_kc → ∀ k, k = g_kc + 1 → ∃ z, wY_kill_420 post (nI a) (nI c) z 0 g_w g_hh g_rr g_n g_k g_hc g_nav g_dn k g_ud g_last g_y g_mode g_ql g_p g_accepted g_m b_buf b_hist b_histL b_draft (ec_cp b_buf a b_ring 0 c) f b_und b_undL b_undK b_q)) : ∃ z, wY_kill_359 post (nI a) (nI c) g_w g_hh g_rr g_n g_k g_hc g_nav g_dn g_kc g_ud g_last g_y g_mode g_ql g_p g_accepted g_m z 0 b_buf b_hist b_histL b_draft b_ring b_ringL b_und b_undL b_undK b_q := by
  have := yk_359 h1 h c 0 (by omega)
  rw [ec_0] at this
  exact ⟨c + 1, this⟩
theorem yk_283' {post : Int32 → SY → Prop} {x2 x5 : Int32} {T : Nat} (hT : T < 4) (h : ∃ z, wY_kill_359 post x2 x5 g_w g_hh g_rr g_n g_k g_hc g_nav g_dn g_kc g_ud g_last g_y g_mode g_ql g_p g_accepted g_m z 0 b_buf b_hist b_histL b_draft (ec_cp b_ring 0 b_ring 32 (T * 32)) (ec_cp b_ringL 0 b_ringL 1 T) b_und b_undL b_undK b_q) : ∃ z, wY_kill_283 post x2 x5 g_w g_hh g_rr g_n g_k g_hc g_nav g_dn g_kc g_ud g_last g_y g_mode g_ql g_p g_accepted g_m z (nI T) b_buf b_hist b_histL b_draft b_ring b_ringL b_und b_undL b_undK b_q := by
  have := yk_283 hT h T 0 (by omega)
  rw [Nat.zero_mul, ec_0, ec_0] at this
  exact ⟨T + 1, this⟩
theorem yk_203' {post : Int32 → SY → Prop} {a c s : Nat} (h1 : a + c ≤ 32) (h2 : s + c ≤ 32) (hs : b_ringL 0 = nI s) (h : wY_kill_239 post (nI a) (nI c) g_w g_hh g_rr g_n g_k g_hc g_nav g_dn g_kc g_ud g_last g_y g_mode g_ql g_p g_accepted g_m b_buf b_hist b_histL b_draft (ec_cp b_buf a b_ring s c) b_ringL b_und b_undL b_undK b_q) : ∃ z, wY_kill_203 post (nI a) (nI c) g_w g_hh g_rr g_n g_k g_hc g_nav g_dn g_kc g_ud g_last g_y g_mode g_ql g_p g_accepted g_m z 0 b_buf b_hist b_histL b_draft b_ring b_ringL b_und b_undL b_undK b_q := by
  have := yk_203 h1 h2 hs h c 0 (by omega)
  rw [ec_0] at this
  exact ⟨c + 1, this⟩
theorem yk_137' {post : Int32 → SY → Prop} {a c s : Nat} (h1 : a + c ≤ 32) (h2 : s + c ≤ 32) (h : wY_kill_239 post (nI a) (nI c) g_w g_hh g_rr g_n g_k g_hc g_nav g_dn g_kc g_ud g_last g_y g_mode g_ql g_p g_accepted g_m b_buf b_hist b_histL b_draft (ec_cp b_buf a (ec_cp b_ring 0 b_ring c s) 0 c) b_ringL b_und b_undL b_undK b_q) : ∃ z, wY_kill_137 post (nI a) (nI c) g_w g_hh g_rr g_n g_k g_hc g_nav g_dn g_kc g_ud g_last g_y g_mode g_ql g_p g_accepted g_m z (nI s - 1) b_buf b_hist b_histL b_draft b_ring b_ringL b_und b_undL b_undK b_q := by
  have := yk_137 h1 h2 h s 0 (by omega)
  rw [ec_0] at this
  exact ⟨s + 1, this⟩
end
section
variable {w hh rr n k hc nav dn kc y ud mo la ql p dl dc : Nat} {m ac xdl xdc xtr xtc : Int32} {B H HL D R RL U UL UK Q DS SC B' H' HL' D' R' RL' U' UL' UK' Q' : Nat → Int32}
theorem e_kf_2 {st e c : Nat} (C : eC w hh rr n k hc nav dn (c + 1) y ud mo 2 ql p m B H HL D R RL U UL UK Q B' H' HL' D' R' RL' U' UL' UK' Q') (he : 1 ≤ e) (h1 : k + e ≤ n) (S0 : mo = 0 ∧ m = -1 ∧ ql = 0) : eO (fun post => wX_killKey_83 post (nI k) (nI (k + e)) (nI w) (nI hh) (nI rr) (nI n) (nI k) (nI hc) (nI nav) (nI dn) (nI (c + 1)) (nI y) (nI ud) (nI mo) (nI 2) ac (nI ql) m (nI p) (nI dl) (nI dc) (nI (dc / w)) (nI (dc % w)) B H HL D R RL U UL UK Q DS SC) (fun post => wY_kill_74 post (nI k) (nI (k + e)) 0 (nI w) (nI hh) (nI rr) (nI n) (nI k) (nI hc) (nI nav) (nI dn) (nI (c + 1)) (nI ud) (nI 2) (nI y) (nI mo) (nI ql) (nI p) ac m B' H' HL' D' R' RL' U' UL' UK' Q') := by
  obtain ⟨⟨⟨hw1, hw2⟩, ⟨hh1, hh2⟩, ⟨hr1, hr2⟩, ⟨hn, hk⟩, ⟨hhc, hnav⟩, hdn, hkc, hud, hql⟩, hB, hH, hD, hR, hU, hQ, hL, hS⟩ := id C
  have hud2 := ep_le hud
  have hb : eg B B' k k e := by
    have := eg_sub (i := k) (m := e) hB (by omega)
    rw [Nat.zero_add] at this
    exact this
  have hdel : eg (ec_cp B (k + e) B k (n - k - e)) (ez B' n k e) 0 0 (n - e) := eg_del hB h1 (ez_p e h1)
  obtain ⟨_, s, hs0, hsn⟩ := hL.2.1 rfl
  obtain ⟨l, hl32, hlx, hly, _⟩ := hR 0 (by omega)
  obtain rfl : s = l := (nI_eq (by omega) (by omega)).mp (hs0.symm.trans hly)
  rw [show c + 1 - 1 - 0 = c by omega] at hlx
  exact eO_1 (nI w, nI hh, nI rr, nI (n - e), nI k, nI hc, nI nav, nI dn, nI (c + 1), nI y, nI (ep_n ud), nI mo, 2, ac, nI ql, m, nI p, nI dl, nI dc, nI (dc / w), nI (dc % w), ec_cp B (k + e) B k (n - k - e), H, HL, D, ec_cp B k R (c * 32 + s) e, upd RL c (nI (s + e)), ep_U B U n ud, ep_L UL (nI n) ud, ep_L UK (nI k) ud, Q, DS, SC) (nI w, nI hh, nI rr, nI (n - e), nI k, nI hc, nI nav, nI dn, nI (c + 1), nI (ep_n ud), 2, nI y, nI mo, nI ql, nI p, ac, m, ez B' n k e, H', HL', D', ec_cp B' k R' s e, upd RL' 0 (nI (s + e)), ep_U B' U' 32 ud, ep_L UL' (nI n) ud, ep_L UK' (nI k) ud, Q')
    (e_K (la := 2) ⟨⟨⟨hw1, hw2⟩, ⟨hh1, hh2⟩, ⟨hr1, hr2⟩, ⟨by omega, by omega⟩, ⟨by omega, by omega⟩, by omega, by omega, by omega, by omega⟩, hdel, hH, hD, ej_fwd hR hs0 (by omega) hb, ep_eu hU hud hn (by omega) hB, hQ, eL_2 (s := s + e) (by omega) ec_us (by omega), Or.inl S0⟩)
    (fun post hp => ey_lt k (k + e) (by omega) (ey_eq k k rfl (xpu hn hud (br_t rfl (xk_f k e s c n hn h1 (by omega) (by omega) hlx hp)))))
    (fun post hp => en_eq k (k + e) (by omega) (nm_r (e' := nI e) (by first | with_reducible rfl | (simp (disch := omega) only [nI_add, nI_1, en_m1, en_s1, pk_sub, pk_mul, en_32, en_a2, en_a3, en_p32, en_s32, en_p2, en_s2, en_s3] <;> exact congrArg nI (by omega)) | exact congrArg nI (by omega) | rfl) (br_t rfl (ey_le (s + e) 32 (by omega) (ypu hud (br_t rfl (br_t rfl (yk_203' (by omega) (by omega) hs0 (yk_239 hn h1 hs0 hp))))) (by rw [hs0]; exact nI_add s e)))))
theorem e_kf_f {st e c : Nat} (C : eC w hh (c + 1) n k hc nav dn (c + 1) y ud mo la ql p m B H HL D R RL U UL UK Q B' H' HL' D' R' RL' U' UL' UK' Q') (he : 1 ≤ e) (h1 : k + e ≤ n) (S0 : mo = 0 ∧ m = -1 ∧ ql = 0) (hl : la ≠ 2) : eO (fun post => wX_killKey_83 post (nI k) (nI (k + e)) (nI w) (nI hh) (nI (c + 1)) (nI n) (nI k) (nI hc) (nI nav) (nI dn) (nI (c + 1)) (nI y) (nI ud) (nI mo) (nI la) ac (nI ql) m (nI p) (nI dl) (nI dc) (nI (dc / w)) (nI (dc % w)) B H HL D R RL U UL UK Q DS SC) (fun post => wY_kill_74 post (nI k) (nI (k + e)) 0 (nI w) (nI hh) (nI (c + 1)) (nI n) (nI k) (nI hc) (nI nav) (nI dn) (nI (c + 1)) (nI ud) (nI la) (nI y) (nI mo) (nI ql) (nI p) ac m B' H' HL' D' R' RL' U' UL' UK' Q') := by
  obtain ⟨⟨⟨hw1, hw2⟩, ⟨hh1, hh2⟩, ⟨hr1, hr2⟩, ⟨hn, hk⟩, ⟨hhc, hnav⟩, hdn, hkc, hud, hql⟩, hB, hH, hD, hR, hU, hQ, hL, hS⟩ := id C
  have hud2 := ep_le hud
  have hb : eg B B' k k e := by
    have := eg_sub (i := k) (m := e) hB (by omega)
    rw [Nat.zero_add] at this
    exact this
  have hdel : eg (ec_cp B (k + e) B k (n - k - e)) (ez B' n k e) 0 0 (n - e) := eg_del hB h1 (ez_p e h1)
  have hla := hL.1
  exact eO_1 (nI w, nI hh, nI (c + 1), nI (n - e), nI k, nI hc, nI nav, nI dn, nI (c + 1), nI y, nI (ep_n ud), nI mo, 2, ac, nI ql, m, nI p, nI dl, nI dc, nI (dc / w), nI (dc % w), ec_cp B (k + e) B k (n - k - e), H, HL, D, ec_cp B k (ec_cp R 32 R 0 (c * 32)) (c * 32) e, upd (upd (ec_cp RL 1 RL 0 c) c 0) c (nI e), ep_U B U n ud, ep_L UL (nI n) ud, ep_L UK (nI k) ud, Q, DS, SC) (nI w, nI hh, nI (c + 1), nI (n - e), nI k, nI hc, nI nav, nI dn, nI (c + 1), nI (ep_n ud), 2, nI y, nI mo, nI ql, nI p, ac, m, ez B' n k e, H', HL', D', ec_cp B' k (ec_cp R' 0 R' 32 (c * 32)) 0 e, upd (ec_cp RL' 0 RL' 1 c) 0 (nI e), ep_U B' U' 32 ud, ep_L UL' (nI n) ud, ep_L UK' (nI k) ud, Q')
    (e_K (la := 2) ⟨⟨⟨hw1, hw2⟩, ⟨hh1, hh2⟩, ⟨hr1, hr2⟩, ⟨by omega, by omega⟩, ⟨by omega, by omega⟩, by omega, by omega, by omega, by omega⟩, hdel, hH, hD, ej_full hR (by omega) hb, ep_eu hU hud hn (by omega) hB, hQ, eL_2 (s := e) (by omega) ec_us (by omega), Or.inl S0⟩)
    (fun post hp => ey_lt k (k + e) (by omega) (ey_eq k k rfl (xpu hn hud (en_eq la 2 hl (xae_f c (by omega) (xk_f k e 0 c n hn h1 (by omega) (by omega) ec_us (by rw [Nat.zero_add]; exact hp)))))))
    (fun post hp => en_eq k (k + e) (by omega) (nm_r (e' := nI e) (by first | with_reducible rfl | (simp (disch := omega) only [nI_add, nI_1, en_m1, en_s1, pk_sub, pk_mul, en_32, en_a2, en_a3, en_p32, en_s32, en_p2, en_s2, en_s3] <;> exact congrArg nI (by omega)) | exact congrArg nI (by omega) | rfl) (en_eq la 2 hl (ypu hud (en_eq la 2 hl (ey_le (c + 1) (c + 1) (Nat.le_refl _) (nm_r (nI_pred c) (yk_283' (by omega) (yk_359' (by omega) (nm_e (ey_le (c + 1) (c + 1) (Nat.le_refl _) (ykr hn h1 hp))))))))))))
theorem e_kf_n {st e c : Nat} (C : eC w hh rr n k hc nav dn c y ud mo la ql p m B H HL D R RL U UL UK Q B' H' HL' D' R' RL' U' UL' UK' Q') (he : 1 ≤ e) (h1 : k + e ≤ n) (S0 : mo = 0 ∧ m = -1 ∧ ql = 0) (hl : la ≠ 2) (hcr : c < rr) : eO (fun post => wX_killKey_83 post (nI k) (nI (k + e)) (nI w) (nI hh) (nI rr) (nI n) (nI k) (nI hc) (nI nav) (nI dn) (nI c) (nI y) (nI ud) (nI mo) (nI la) ac (nI ql) m (nI p) (nI dl) (nI dc) (nI (dc / w)) (nI (dc % w)) B H HL D R RL U UL UK Q DS SC) (fun post => wY_kill_74 post (nI k) (nI (k + e)) 0 (nI w) (nI hh) (nI rr) (nI n) (nI k) (nI hc) (nI nav) (nI dn) (nI c) (nI ud) (nI la) (nI y) (nI mo) (nI ql) (nI p) ac m B' H' HL' D' R' RL' U' UL' UK' Q') := by
  obtain ⟨⟨⟨hw1, hw2⟩, ⟨hh1, hh2⟩, ⟨hr1, hr2⟩, ⟨hn, hk⟩, ⟨hhc, hnav⟩, hdn, hkc, hud, hql⟩, hB, hH, hD, hR, hU, hQ, hL, hS⟩ := id C
  have hud2 := ep_le hud
  have hb : eg B B' k k e := by
    have := eg_sub (i := k) (m := e) hB (by omega)
    rw [Nat.zero_add] at this
    exact this
  have hdel : eg (ec_cp B (k + e) B k (n - k - e)) (ez B' n k e) 0 0 (n - e) := eg_del hB h1 (ez_p e h1)
  have hla := hL.1
  exact eO_1 (nI w, nI hh, nI rr, nI (n - e), nI k, nI hc, nI nav, nI dn, nI (c + 1), nI y, nI (ep_n ud), nI mo, 2, ac, nI ql, m, nI p, nI dl, nI dc, nI (dc / w), nI (dc % w), ec_cp B (k + e) B k (n - k - e), H, HL, D, ec_cp B k R (c * 32) e, upd (upd RL c 0) c (nI e), ep_U B U n ud, ep_L UL (nI n) ud, ep_L UK (nI k) ud, Q, DS, SC) (nI w, nI hh, nI rr, nI (n - e), nI k, nI hc, nI nav, nI dn, nI (c + 1), nI (ep_n ud), 2, nI y, nI mo, nI ql, nI p, ac, m, ez B' n k e, H', HL', D', ec_cp B' k (ec_cp R' 0 R' 32 (c * 32)) 0 e, upd (ec_cp RL' 0 RL' 1 c) 0 (nI e), ep_U B' U' 32 ud, ep_L UL' (nI n) ud, ep_L UK' (nI k) ud, Q')
    (e_K (la := 2) ⟨⟨⟨hw1, hw2⟩, ⟨hh1, hh2⟩, ⟨hr1, hr2⟩, ⟨by omega, by omega⟩, ⟨by omega, by omega⟩, by omega, by omega, by omega, by omega⟩, hdel, hH, hD, ej_new hR (by omega) hb, ep_eu hU hud hn (by omega) hB, hQ, eL_2 (s := e) (by omega) ec_us (by omega), Or.inl S0⟩)
    (fun post hp => ey_lt k (k + e) (by omega) (ey_eq k k rfl (xpu hn hud (en_eq la 2 hl (xae_n c rr hcr (by omega) (xk_f k e 0 c n hn h1 (by omega) (by omega) ec_us (by rw [Nat.zero_add]; exact hp)))))))
    (fun post hp => en_eq k (k + e) (by omega) (nm_r (e' := nI e) (by first | with_reducible rfl | (simp (disch := omega) only [nI_add, nI_1, en_m1, en_s1, pk_sub, pk_mul, en_32, en_a2, en_a3, en_p32, en_s32, en_p2, en_s2, en_s3] <;> exact congrArg nI (by omega)) | exact congrArg nI (by omega) | rfl) (en_eq la 2 hl (ypu hud (en_eq la 2 hl (en_le rr c hcr (yk_283' (by omega) (yk_359' (by omega) (nm_e (en_le rr c hcr (nm_r (nI_1 c) (ykr hn h1 hp))))))))))))
theorem e_kb_2 {st e c : Nat} (C : eC w hh rr n (st + e) hc nav dn (c + 1) y ud mo 2 ql p m B H HL D R RL U UL UK Q B' H' HL' D' R' RL' U' UL' UK' Q') (he : 1 ≤ e) (h1 : st + e ≤ n) (S0 : mo = 0 ∧ m = -1 ∧ ql = 0) : eO (fun post => wX_killKey_83 post (nI st) (nI (st + e)) (nI w) (nI hh) (nI rr) (nI n) (nI (st + e)) (nI hc) (nI nav) (nI dn) (nI (c + 1)) (nI y) (nI ud) (nI mo) (nI 2) ac (nI ql) m (nI p) (nI dl) (nI dc) (nI (dc / w)) (nI (dc % w)) B H HL D R RL U UL UK Q DS SC) (fun post => wY_kill_74 post (nI st) (nI (st + e)) 1 (nI w) (nI hh) (nI rr) (nI n) (nI (st + e)) (nI hc) (nI nav) (nI dn) (nI (c + 1)) (nI ud) (nI 2) (nI y) (nI mo) (nI ql) (nI p) ac m B' H' HL' D' R' RL' U' UL' UK' Q') := by
  obtain ⟨⟨⟨hw1, hw2⟩, ⟨hh1, hh2⟩, ⟨hr1, hr2⟩, ⟨hn, hk⟩, ⟨hhc, hnav⟩, hdn, hkc, hud, hql⟩, hB, hH, hD, hR, hU, hQ, hL, hS⟩ := id C
  have hud2 := ep_le hud
  have hb : eg B B' st st e := by
    have := eg_sub (i := st) (m := e) hB (by omega)
    rw [Nat.zero_add] at this
    exact this
  have hdel : eg (ec_cp B (st + e) B st (n - st - e)) (ez B' n st e) 0 0 (n - e) := eg_del hB h1 (ez_p e h1)
  obtain ⟨_, s, hs0, hsn⟩ := hL.2.1 rfl
  obtain ⟨l, hl32, hlx, hly, _⟩ := hR 0 (by omega)
  obtain rfl : s = l := (nI_eq (by omega) (by omega)).mp (hs0.symm.trans hly)
  rw [show c + 1 - 1 - 0 = c by omega] at hlx
  exact eO_1 (nI w, nI hh, nI rr, nI (n - e), nI st, nI hc, nI nav, nI dn, nI (c + 1), nI y, nI (ep_n ud), nI mo, 2, ac, nI ql, m, nI p, nI dl, nI dc, nI (dc / w), nI (dc % w), ec_cp B (st + e) B st (n - st - e), H, HL, D, ec_cp B st (ec_cp R (c * 32) R (c * 32 + e) s) (c * 32) e, upd RL c (nI (s + e)), ep_U B U n ud, ep_L UL (nI n) ud, ep_L UK (nI (st + e)) ud, Q, DS, SC) (nI w, nI hh, nI rr, nI (n - e), nI st, nI hc, nI nav, nI dn, nI (c + 1), nI (ep_n ud), 2, nI y, nI mo, nI ql, nI p, ac, m, ez B' n st e, H', HL', D', ec_cp B' st (ec_cp R' 0 R' e s) 0 e, upd RL' 0 (nI (s + e)), ep_U B' U' 32 ud, ep_L UL' (nI n) ud, ep_L UK' (nI (st + e)) ud, Q')
    (e_K (la := 2) ⟨⟨⟨hw1, hw2⟩, ⟨hh1, hh2⟩, ⟨hr1, hr2⟩, ⟨by omega, by omega⟩, ⟨by omega, by omega⟩, by omega, by omega, by omega, by omega⟩, hdel, hH, hD, ej_bwd hR hs0 (by omega) hb, ep_eu hU hud hn (by omega) hB, hQ, eL_2 (s := s + e) (by omega) ec_us (by omega), Or.inl S0⟩)
    (fun post hp => ey_lt st (st + e) (by omega) (en_eq st (st + e) (by omega) (xpu hn hud (br_t rfl (xk_b st e s c n hn h1 (by omega) (by omega) hlx hp)))))
    (fun post hp => en_eq st (st + e) (by omega) (nm_r (e' := nI e) (by first | with_reducible rfl | (simp (disch := omega) only [nI_add, nI_1, en_m1, en_s1, pk_sub, pk_mul, en_32, en_a2, en_a3, en_p32, en_s32, en_p2, en_s2, en_s3] <;> exact congrArg nI (by omega)) | exact congrArg nI (by omega) | rfl) (br_t rfl (ey_le (s + e) 32 (by omega) (ypu hud (br_t rfl (br_f (by decide) (nm_r (congrArg (fun y => y - 1) hs0) (yk_137' (by omega) (by omega) (yk_239 hn h1 hs0 hp)))))) (by rw [hs0]; exact nI_add s e)))))
theorem e_kb_f {st e c : Nat} (C : eC w hh (c + 1) n (st + e) hc nav dn (c + 1) y ud mo la ql p m B H HL D R RL U UL UK Q B' H' HL' D' R' RL' U' UL' UK' Q') (he : 1 ≤ e) (h1 : st + e ≤ n) (S0 : mo = 0 ∧ m = -1 ∧ ql = 0) (hl : la ≠ 2) : eO (fun post => wX_killKey_83 post (nI st) (nI (st + e)) (nI w) (nI hh) (nI (c + 1)) (nI n) (nI (st + e)) (nI hc) (nI nav) (nI dn) (nI (c + 1)) (nI y) (nI ud) (nI mo) (nI la) ac (nI ql) m (nI p) (nI dl) (nI dc) (nI (dc / w)) (nI (dc % w)) B H HL D R RL U UL UK Q DS SC) (fun post => wY_kill_74 post (nI st) (nI (st + e)) 1 (nI w) (nI hh) (nI (c + 1)) (nI n) (nI (st + e)) (nI hc) (nI nav) (nI dn) (nI (c + 1)) (nI ud) (nI la) (nI y) (nI mo) (nI ql) (nI p) ac m B' H' HL' D' R' RL' U' UL' UK' Q') := by
  obtain ⟨⟨⟨hw1, hw2⟩, ⟨hh1, hh2⟩, ⟨hr1, hr2⟩, ⟨hn, hk⟩, ⟨hhc, hnav⟩, hdn, hkc, hud, hql⟩, hB, hH, hD, hR, hU, hQ, hL, hS⟩ := id C
  have hud2 := ep_le hud
  have hb : eg B B' st st e := by
    have := eg_sub (i := st) (m := e) hB (by omega)
    rw [Nat.zero_add] at this
    exact this
  have hdel : eg (ec_cp B (st + e) B st (n - st - e)) (ez B' n st e) 0 0 (n - e) := eg_del hB h1 (ez_p e h1)
  have hla := hL.1
  exact eO_1 (nI w, nI hh, nI (c + 1), nI (n - e), nI st, nI hc, nI nav, nI dn, nI (c + 1), nI y, nI (ep_n ud), nI mo, 2, ac, nI ql, m, nI p, nI dl, nI dc, nI (dc / w), nI (dc % w), ec_cp B (st + e) B st (n - st - e), H, HL, D, ec_cp B st (ec_cp R 32 R 0 (c * 32)) (c * 32) e, upd (upd (ec_cp RL 1 RL 0 c) c 0) c (nI e), ep_U B U n ud, ep_L UL (nI n) ud, ep_L UK (nI (st + e)) ud, Q, DS, SC) (nI w, nI hh, nI (c + 1), nI (n - e), nI st, nI hc, nI nav, nI dn, nI (c + 1), nI (ep_n ud), 2, nI y, nI mo, nI ql, nI p, ac, m, ez B' n st e, H', HL', D', ec_cp B' st (ec_cp R' 0 R' 32 (c * 32)) 0 e, upd (ec_cp RL' 0 RL' 1 c) 0 (nI e), ep_U B' U' 32 ud, ep_L UL' (nI n) ud, ep_L UK' (nI (st + e)) ud, Q')
    (e_K (la := 2) ⟨⟨⟨hw1, hw2⟩, ⟨hh1, hh2⟩, ⟨hr1, hr2⟩, ⟨by omega, by omega⟩, ⟨by omega, by omega⟩, by omega, by omega, by omega, by omega⟩, hdel, hH, hD, ej_full hR (by omega) hb, ep_eu hU hud hn (by omega) hB, hQ, eL_2 (s := e) (by omega) ec_us (by omega), Or.inl S0⟩)
    (fun post hp => ey_lt st (st + e) (by omega) (en_eq st (st + e) (by omega) (xpu hn hud (en_eq la 2 hl (xae_f c (by omega) (xk_b st e 0 c n hn h1 (by omega) (by omega) ec_us (by rw [Nat.zero_add, ec_0]; exact hp)))))))
    (fun post hp => en_eq st (st + e) (by omega) (nm_r (e' := nI e) (by first | with_reducible rfl | (simp (disch := omega) only [nI_add, nI_1, en_m1, en_s1, pk_sub, pk_mul, en_32, en_a2, en_a3, en_p32, en_s32, en_p2, en_s2, en_s3] <;> exact congrArg nI (by omega)) | exact congrArg nI (by omega) | rfl) (en_eq la 2 hl (ypu hud (en_eq la 2 hl (ey_le (c + 1) (c + 1) (Nat.le_refl _) (nm_r (nI_pred c) (yk_283' (by omega) (yk_359' (by omega) (nm_e (ey_le (c + 1) (c + 1) (Nat.le_refl _) (ykr hn h1 hp))))))))))))
theorem e_kb_n {st e c : Nat} (C : eC w hh rr n (st + e) hc nav dn c y ud mo la ql p m B H HL D R RL U UL UK Q B' H' HL' D' R' RL' U' UL' UK' Q') (he : 1 ≤ e) (h1 : st + e ≤ n) (S0 : mo = 0 ∧ m = -1 ∧ ql = 0) (hl : la ≠ 2) (hcr : c < rr) : eO (fun post => wX_killKey_83 post (nI st) (nI (st + e)) (nI w) (nI hh) (nI rr) (nI n) (nI (st + e)) (nI hc) (nI nav) (nI dn) (nI c) (nI y) (nI ud) (nI mo) (nI la) ac (nI ql) m (nI p) (nI dl) (nI dc) (nI (dc / w)) (nI (dc % w)) B H HL D R RL U UL UK Q DS SC) (fun post => wY_kill_74 post (nI st) (nI (st + e)) 1 (nI w) (nI hh) (nI rr) (nI n) (nI (st + e)) (nI hc) (nI nav) (nI dn) (nI c) (nI ud) (nI la) (nI y) (nI mo) (nI ql) (nI p) ac m B' H' HL' D' R' RL' U' UL' UK' Q') := by
  obtain ⟨⟨⟨hw1, hw2⟩, ⟨hh1, hh2⟩, ⟨hr1, hr2⟩, ⟨hn, hk⟩, ⟨hhc, hnav⟩, hdn, hkc, hud, hql⟩, hB, hH, hD, hR, hU, hQ, hL, hS⟩ := id C
  have hud2 := ep_le hud
  have hb : eg B B' st st e := by
    have := eg_sub (i := st) (m := e) hB (by omega)
    rw [Nat.zero_add] at this
    exact this
  have hdel : eg (ec_cp B (st + e) B st (n - st - e)) (ez B' n st e) 0 0 (n - e) := eg_del hB h1 (ez_p e h1)
  have hla := hL.1
  exact eO_1 (nI w, nI hh, nI rr, nI (n - e), nI st, nI hc, nI nav, nI dn, nI (c + 1), nI y, nI (ep_n ud), nI mo, 2, ac, nI ql, m, nI p, nI dl, nI dc, nI (dc / w), nI (dc % w), ec_cp B (st + e) B st (n - st - e), H, HL, D, ec_cp B st R (c * 32) e, upd (upd RL c 0) c (nI e), ep_U B U n ud, ep_L UL (nI n) ud, ep_L UK (nI (st + e)) ud, Q, DS, SC) (nI w, nI hh, nI rr, nI (n - e), nI st, nI hc, nI nav, nI dn, nI (c + 1), nI (ep_n ud), 2, nI y, nI mo, nI ql, nI p, ac, m, ez B' n st e, H', HL', D', ec_cp B' st (ec_cp R' 0 R' 32 (c * 32)) 0 e, upd (ec_cp RL' 0 RL' 1 c) 0 (nI e), ep_U B' U' 32 ud, ep_L UL' (nI n) ud, ep_L UK' (nI (st + e)) ud, Q')
    (e_K (la := 2) ⟨⟨⟨hw1, hw2⟩, ⟨hh1, hh2⟩, ⟨hr1, hr2⟩, ⟨by omega, by omega⟩, ⟨by omega, by omega⟩, by omega, by omega, by omega, by omega⟩, hdel, hH, hD, ej_new hR (by omega) hb, ep_eu hU hud hn (by omega) hB, hQ, eL_2 (s := e) (by omega) ec_us (by omega), Or.inl S0⟩)
    (fun post hp => ey_lt st (st + e) (by omega) (en_eq st (st + e) (by omega) (xpu hn hud (en_eq la 2 hl (xae_n c rr hcr (by omega) (xk_b st e 0 c n hn h1 (by omega) (by omega) ec_us (by rw [Nat.zero_add, ec_0]; exact hp)))))))
    (fun post hp => en_eq st (st + e) (by omega) (nm_r (e' := nI e) (by first | with_reducible rfl | (simp (disch := omega) only [nI_add, nI_1, en_m1, en_s1, pk_sub, pk_mul, en_32, en_a2, en_a3, en_p32, en_s32, en_p2, en_s2, en_s3] <;> exact congrArg nI (by omega)) | exact congrArg nI (by omega) | rfl) (en_eq la 2 hl (ypu hud (en_eq la 2 hl (en_le rr c hcr (yk_283' (by omega) (yk_359' (by omega) (nm_e (en_le rr c hcr (nm_r (nI_1 c) (ykr hn h1 hp))))))))))))
end
end
section
/-! U: the keys that kill and yank -/
section
variable {g_w g_hh g_rr g_n g_k g_hc g_nav g_dn g_kc g_ud g_last g_y g_mode g_ql g_p g_accepted g_m : Int32} {b_buf b_hist b_histL b_draft b_ring b_ringL b_und b_undL b_undK b_q : Nat → Int32}
theorem yy_31' {post : Int32 → SY → Prop} {n k s : Nat} (hs : b_ringL 0 = nI s) (hn : n + s ≤ 32) (hk : k ≤ n) (h : post 1 (g_w, g_hh, g_rr, nI (n + s), nI (k + s), g_hc, g_nav, g_dn, g_kc, g_ud, 3, 0, g_mode, g_ql, g_p, g_accepted, g_m, ec_cp b_ring 0 (ec_cp b_buf k b_buf (k + s) (n - k)) k s, b_hist, b_histL, b_draft, b_ring, b_ringL, b_und, b_undL, b_undK, b_q)) : ∃ z, wY_yank_31 post z 0 g_w g_hh g_rr (nI n) (nI k) g_hc g_nav g_dn g_kc g_ud g_last g_y g_mode g_ql g_p g_accepted g_m b_buf b_hist b_histL b_draft b_ring b_ringL b_und b_undL b_undK b_q := by
  have := yy_31 (g_last := g_last) (g_y := g_y) hs hn hk h s 0 (by omega)
  rw [ec_0, ec_cc] at this
  exact ⟨s + 1, this⟩
end
section
variable {w hh rr n k hc nav dn kc y ud mo la ql p dl dc : Nat} {m ac xdl xdc xtr xtc : Int32} {B H HL D R RL U UL UK Q DS SC B' H' HL' D' R' RL' U' UL' UK' Q' : Nat → Int32}
theorem e_kf {e : Nat} (C : eC w hh rr n k hc nav dn kc y ud mo la ql p m B H HL D R RL U UL UK Q B' H' HL' D' R' RL' U' UL' UK' Q') (he : 1 ≤ e) (h1 : k + e ≤ n) (S0 : mo = 0 ∧ m = -1 ∧ ql = 0) : eO (fun post => wX_killKey_83 post (nI k) (nI (k + e)) (nI w) (nI hh) (nI rr) (nI n) (nI k) (nI hc) (nI nav) (nI dn) (nI kc) (nI y) (nI ud) (nI mo) (nI la) ac (nI ql) m (nI p) (nI dl) (nI dc) (nI (dc / w)) (nI (dc % w)) B H HL D R RL U UL UK Q DS SC) (fun post => wY_kill_74 post (nI k) (nI (k + e)) 0 (nI w) (nI hh) (nI rr) (nI n) (nI k) (nI hc) (nI nav) (nI dn) (nI kc) (nI ud) (nI la) (nI y) (nI mo) (nI ql) (nI p) ac m B' H' HL' D' R' RL' U' UL' UK' Q') := by
  obtain ⟨⟨⟨hw1, hw2⟩, ⟨hh1, hh2⟩, ⟨hr1, hr2⟩, ⟨hn, hk⟩, ⟨hhc, hnav⟩, hdn, hkc, hud, hql⟩, hB, hH, hD, hR, hU, hQ, hL, hS⟩ := id C
  by_cases c2 : la = 2
  · subst c2
    obtain ⟨hc1, _⟩ := hL.2.1 rfl
    obtain ⟨c, rfl⟩ : ∃ c, kc = c + 1 := ⟨kc - 1, by omega⟩
    exact e_kf_2 (st := 0) C he h1 S0
  · by_cases c3 : kc = rr
    · subst c3
      obtain ⟨c, rfl⟩ : ∃ c, kc = c + 1 := ⟨kc - 1, by omega⟩
      exact e_kf_f (st := 0) C he h1 S0 c2
    · exact e_kf_n (st := 0) C he h1 S0 c2 (by omega)
theorem e_kb {st e : Nat} (C : eC w hh rr n (st + e) hc nav dn kc y ud mo la ql p m B H HL D R RL U UL UK Q B' H' HL' D' R' RL' U' UL' UK' Q') (he : 1 ≤ e) (h1 : st + e ≤ n) (S0 : mo = 0 ∧ m = -1 ∧ ql = 0) : eO (fun post => wX_killKey_83 post (nI st) (nI (st + e)) (nI w) (nI hh) (nI rr) (nI n) (nI (st + e)) (nI hc) (nI nav) (nI dn) (nI kc) (nI y) (nI ud) (nI mo) (nI la) ac (nI ql) m (nI p) (nI dl) (nI dc) (nI (dc / w)) (nI (dc % w)) B H HL D R RL U UL UK Q DS SC) (fun post => wY_kill_74 post (nI st) (nI (st + e)) 1 (nI w) (nI hh) (nI rr) (nI n) (nI (st + e)) (nI hc) (nI nav) (nI dn) (nI kc) (nI ud) (nI la) (nI y) (nI mo) (nI ql) (nI p) ac m B' H' HL' D' R' RL' U' UL' UK' Q') := by
  obtain ⟨⟨⟨hw1, hw2⟩, ⟨hh1, hh2⟩, ⟨hr1, hr2⟩, ⟨hn, hk⟩, ⟨hhc, hnav⟩, hdn, hkc, hud, hql⟩, hB, hH, hD, hR, hU, hQ, hL, hS⟩ := id C
  by_cases c2 : la = 2
  · subst c2
    obtain ⟨hc1, _⟩ := hL.2.1 rfl
    obtain ⟨c, rfl⟩ : ∃ c, kc = c + 1 := ⟨kc - 1, by omega⟩
    exact e_kb_2 C he h1 S0
  · by_cases c3 : kc = rr
    · subst c3
      obtain ⟨c, rfl⟩ : ∃ c, kc = c + 1 := ⟨kc - 1, by omega⟩
      exact e_kb_f C he h1 S0 c2
    · exact e_kb_n C he h1 S0 c2 (by omega)
theorem e_kend (C : eC w hh rr n k hc nav dn kc y ud mo la ql p m B H HL D R RL U UL UK Q B' H' HL' D' R' RL' U' UL' UK' Q') (P : eP w n k mo ql p m B H HL Q dl dc DS SC) (S0 : mo = 0 ∧ m = -1 ∧ ql = 0) : eO (fun post => wpX_editKey post (nI w, nI hh, nI rr, nI n, nI k, nI hc, nI nav, nI dn, nI kc, nI y, nI ud, nI mo, nI la, ac, nI ql, m, nI p, nI dl, nI dc, nI (dc / w), nI (dc % w), B, H, HL, D, R, RL, U, UL, UK, Q, DS, SC) 11) (fun post => wpY_editKey post (nI w, nI hh, nI rr, nI n, nI k, nI hc, nI nav, nI dn, nI kc, nI ud, nI la, nI y, nI mo, nI ql, nI p, ac, m, B', H', HL', D', R', RL', U', UL', UK', Q') 11) := by
  obtain ⟨⟨⟨hw1, hw2⟩, ⟨hh1, hh2⟩, ⟨hr1, hr2⟩, ⟨hn, hk⟩, ⟨hhc, hnav⟩, hdn, hkc, hud, hql⟩, hB, hH, hD, hR, hU, hQ, hL, hS⟩ := id C
  by_cases c : k = n
  · subst c
    exact eO_0 (nI w, nI hh, nI rr, nI k, nI k, nI hc, nI nav, nI dn, nI kc, nI y, nI ud, nI mo, nI la, ac, nI ql, m, nI p, nI dl, nI dc, nI (dc / w), nI (dc % w), B, H, HL, D, R, RL, U, UL, UK, Q, DS, SC) (nI w, nI hh, nI rr, nI k, nI k, nI hc, nI nav, nI dn, nI kc, nI ud, nI la, nI y, nI mo, nI ql, nI p, ac, m, B', H', HL', D', R', RL', U', UL', UK', Q') (e_I C P) (fun post hp => by unfold wpX_editKey; exact xp_f (Or.inl (by decide)) (br_t rfl (br_f (by decide) (br_f (by decide) (br_t rfl (br_t rfl ( en_lt k k (by omega) hp ))))))) (fun post hp => br_t (by decide) (br_f (by decide) (br_f (by decide) (br_f (by decide) (br_f (by decide) (br_f (by decide) (br_f (by decide) (br_f (by decide) (br_f (by decide) (br_t rfl ( br_f (by decide) (br_f (by decide) (br_t rfl (ey_eq k k rfl hp))) )))))))))))
  · obtain ⟨e, rfl⟩ : ∃ e, n = k + e := ⟨n - k, by omega⟩
    refine eO_n (e_kf (e := e) (dl := dl) (dc := dc) (DS := DS) (SC := SC) (ac := ac) C (by omega) (by omega) S0) (fun post r u hq hp => ?_) (fun post r v hq hp => ?_)
    · obtain ⟨f_width, f_historyCap, f_ringCap, f_length, f_cursor, f_historyCount, f_nav, f_draftLength, f_ringCount, f_yankIndex, f_undoDepth, f_mode, f_last, f_accepted, f_queryLength, f_match, f_matchStart, f_displayLength, f_displayCursor, f_terminalRow, f_terminalCol, a_buffer, a_history, a_historyLengths, a_draft, a_ring, a_ringLengths, a_undoTexts, a_undoLengths, a_undoCursors, a_query, a_display, a_screen⟩ := u
      unfold wpX_editKey
      exact xp_f (Or.inl (by decide)) (br_t rfl (br_f (by decide) (br_f (by decide) (br_t rfl (br_t rfl ( hq _ hp ))))))
    · obtain ⟨g_w, g_hh, g_rr, g_n, g_k, g_hc, g_nav, g_dn, g_kc, g_ud, g_last, g_y, g_mode, g_ql, g_p, g_accepted, g_m, b_buf, b_hist, b_histL, b_draft, b_ring, b_ringL, b_und, b_undL, b_undK, b_q⟩ := v
      exact br_t (by decide) (br_f (by decide) (br_f (by decide) (br_f (by decide) (br_f (by decide) (br_f (by decide) (br_f (by decide) (br_f (by decide) (br_f (by decide) (br_t rfl ( br_f (by decide) (br_f (by decide) (br_t rfl (hq _ hp))) ))))))))))
theorem e_kwf (C : eC w hh rr n k hc nav dn kc y ud mo la ql p m B H HL D R RL U UL UK Q B' H' HL' D' R' RL' U' UL' UK' Q') (P : eP w n k mo ql p m B H HL Q dl dc DS SC) (S0 : mo = 0 ∧ m = -1 ∧ ql = 0) : eO (fun post => wpX_editKey post (nI w, nI hh, nI rr, nI n, nI k, nI hc, nI nav, nI dn, nI kc, nI y, nI ud, nI mo, nI la, ac, nI ql, m, nI p, nI dl, nI dc, nI (dc / w), nI (dc % w), B, H, HL, D, R, RL, U, UL, UK, Q, DS, SC) 202) (fun post => wpY_editKey post (nI w, nI hh, nI rr, nI n, nI k, nI hc, nI nav, nI dn, nI kc, nI ud, nI la, nI y, nI mo, nI ql, nI p, ac, m, B', H', HL', D', R', RL', U', UL', UK', Q') 202) := by
  obtain ⟨⟨⟨hw1, hw2⟩, ⟨hh1, hh2⟩, ⟨hr1, hr2⟩, ⟨hn, hk⟩, ⟨hhc, hnav⟩, hdn, hkc, hud, hql⟩, hB, hH, hD, hR, hU, hQ, hL, hS⟩ := id C
  have ec : ewr B' n k = ewr B n k := (ewr_c hk (fun j hj => (eg_at hB (by omega)).1)).symm
  have hle := ewr_le (f := B) hk
  obtain ⟨e, he⟩ : ∃ e, ewr B n k = k + e := ⟨ewr B n k - k, by omega⟩
  rw [he] at ec hle
  by_cases c : e = 0
  · subst c
    exact eO_0 (nI w, nI hh, nI rr, nI n, nI k, nI hc, nI nav, nI dn, nI kc, nI y, nI ud, nI mo, nI la, ac, nI ql, m, nI p, nI dl, nI dc, nI (dc / w), nI (dc % w), B, H, HL, D, R, RL, U, UL, UK, Q, DS, SC) (nI w, nI hh, nI rr, nI n, nI k, nI hc, nI nav, nI dn, nI kc, nI ud, nI la, nI y, nI mo, nI ql, nI p, ac, m, B', H', HL', D', R', RL', U', UL', UK', Q') (e_I C P) (fun post hp => by unfold wpX_editKey; exact xp_f (Or.inr (by decide)) (br_t rfl (br_f (by decide) (br_f (by decide) (br_f (by decide) (br_f (by decide) (br_f (by decide) (br_f (by decide) (br_f (by decide) (br_f (by decide) (br_f (by decide) (br_f (by decide) (br_f (by decide) (br_t rfl (br_f (by decide) (br_f (by decide) (br_f (by decide) (br_t rfl ( xwr hn hk (by rw [he]; exact en_lt k k (by omega) hp) ))))))))))))))))))) (fun post hp => br_f (by decide) (br_t (by decide) (br_f (by decide) (br_f (by decide) (br_f (by decide) (br_f (by decide) (br_f (by decide) (br_f (by decide) (br_f (by decide) (br_f (by decide) (br_f (by decide) (br_t rfl ( br_f (by decide) (br_f (by decide) (br_f (by decide) (br_t rfl (ywr hn hk (by rw [ec]; exact ey_eq k k rfl hp))))) )))))))))))))
  · refine eO_n (e_kf (e := e) (dl := dl) (dc := dc) (DS := DS) (SC := SC) (ac := ac) C (by omega) (by omega) S0) (fun post r u hq hp => ?_) (fun post r v hq hp => ?_)
    · obtain ⟨f_width, f_historyCap, f_ringCap, f_length, f_cursor, f_historyCount, f_nav, f_draftLength, f_ringCount, f_yankIndex, f_undoDepth, f_mode, f_last, f_accepted, f_queryLength, f_match, f_matchStart, f_displayLength, f_displayCursor, f_terminalRow, f_terminalCol, a_buffer, a_history, a_historyLengths, a_draft, a_ring, a_ringLengths, a_undoTexts, a_undoLengths, a_undoCursors, a_query, a_display, a_screen⟩ := u
      unfold wpX_editKey
      exact xp_f (Or.inr (by decide)) (br_t rfl (br_f (by decide) (br_f (by decide) (br_f (by decide) (br_f (by decide) (br_f (by decide) (br_f (by decide) (br_f (by decide) (br_f (by decide) (br_f (by decide) (br_f (by decide) (br_f (by decide) (br_t rfl (br_f (by decide) (br_f (by decide) (br_f (by decide) (br_t rfl ( xwr hn hk (by rw [he]; exact hq _ hp) ))))))))))))))))))
    · obtain ⟨g_w, g_hh, g_rr, g_n, g_k, g_hc, g_nav, g_dn, g_kc, g_ud, g_last, g_y, g_mode, g_ql, g_p, g_accepted, g_m, b_buf, b_hist, b_histL, b_draft, b_ring, b_ringL, b_und, b_undL, b_undK, b_q⟩ := v
      exact br_f (by decide) (br_t (by decide) (br_f (by decide) (br_f (by decide) (br_f (by decide) (br_f (by decide) (br_f (by decide) (br_f (by decide) (br_f (by decide) (br_f (by decide) (br_f (by decide) (br_t rfl ( br_f (by decide) (br_f (by decide) (br_f (by decide) (br_t rfl (ywr hn hk (by rw [ec]; exact hq _ hp))))) ))))))))))))
theorem e_kst (C : eC w hh rr n k hc nav dn kc y ud mo la ql p m B H HL D R RL U UL UK Q B' H' HL' D' R' RL' U' UL' UK' Q') (P : eP w n k mo ql p m B H HL Q dl dc DS SC) (S0 : mo = 0 ∧ m = -1 ∧ ql = 0) : eO (fun post => wpX_editKey post (nI w, nI hh, nI rr, nI n, nI k, nI hc, nI nav, nI dn, nI kc, nI y, nI ud, nI mo, nI la, ac, nI ql, m, nI p, nI dl, nI dc, nI (dc / w), nI (dc % w), B, H, HL, D, R, RL, U, UL, UK, Q, DS, SC) 21) (fun post => wpY_editKey post (nI w, nI hh, nI rr, nI n, nI k, nI hc, nI nav, nI dn, nI kc, nI ud, nI la, nI y, nI mo, nI ql, nI p, ac, m, B', H', HL', D', R', RL', U', UL', UK', Q') 21) := by
  obtain ⟨⟨⟨hw1, hw2⟩, ⟨hh1, hh2⟩, ⟨hr1, hr2⟩, ⟨hn, hk⟩, ⟨hhc, hnav⟩, hdn, hkc, hud, hql⟩, hB, hH, hD, hR, hU, hQ, hL, hS⟩ := id C
  by_cases c : k = 0
  · subst c
    exact eO_0 (nI w, nI hh, nI rr, nI n, nI 0, nI hc, nI nav, nI dn, nI kc, nI y, nI ud, nI mo, nI la, ac, nI ql, m, nI p, nI dl, nI dc, nI (dc / w), nI (dc % w), B, H, HL, D, R, RL, U, UL, UK, Q, DS, SC) (nI w, nI hh, nI rr, nI n, nI 0, nI hc, nI nav, nI dn, nI kc, nI ud, nI la, nI y, nI mo, nI ql, nI p, ac, m, B', H', HL', D', R', RL', U', UL', UK', Q') (e_I C P) (fun post hp => by unfold wpX_editKey; exact xp_f (Or.inl (by decide)) (br_t rfl (br_f (by decide) (br_f (by decide) (br_f (by decide) (br_f (by decide) (br_f (by decide) (br_f (by decide) (br_f (by decide) (br_t rfl (br_f (by decide) (br_t rfl ( en_lt 0 0 (by omega) hp ))))))))))))) (fun post hp => br_t (by decide) (br_f (by decide) (br_f (by decide) (br_f (by decide) (br_f (by decide) (br_f (by decide) (br_f (by decide) (br_f (by decide) (br_f (by decide) (br_f (by decide) (br_f (by decide) (br_t rfl ( br_t rfl (br_f (by decide) (br_f (by decide) (br_t rfl (ey_eq 0 0 rfl hp)))) )))))))))))))
  · obtain ⟨e, rfl⟩ : ∃ e, k = 0 + e := ⟨k, by omega⟩
    refine eO_n (e_kb (st := 0) (e := e) (dl := dl) (dc := dc) (DS := DS) (SC := SC) (ac := ac) C (by omega) (by omega) S0) (fun post r u hq hp => ?_) (fun post r v hq hp => ?_)
    · obtain ⟨f_width, f_historyCap, f_ringCap, f_length, f_cursor, f_historyCount, f_nav, f_draftLength, f_ringCount, f_yankIndex, f_undoDepth, f_mode, f_last, f_accepted, f_queryLength, f_match, f_matchStart, f_displayLength, f_displayCursor, f_terminalRow, f_terminalCol, a_buffer, a_history, a_historyLengths, a_draft, a_ring, a_ringLengths, a_undoTexts, a_undoLengths, a_undoCursors, a_query, a_display, a_screen⟩ := u
      unfold wpX_editKey
      exact xp_f (Or.inl (by decide)) (br_t rfl (br_f (by decide) (br_f (by decide) (br_f (by decide) (br_f (by decide) (br_f (by decide) (br_f (by decide) (br_f (by decide) (br_t rfl (br_f (by decide) (br_t rfl ( hq _ hp ))))))))))))
    · obtain ⟨g_w, g_hh, g_rr, g_n, g_k, g_hc, g_nav, g_dn, g_kc, g_ud, g_last, g_y, g_mode, g_ql, g_p, g_accepted, g_m, b_buf, b_hist, b_histL, b_draft, b_ring, b_ringL, b_und, b_undL, b_undK, b_q⟩ := v
      exact br_t (by decide) (br_f (by decide) (br_f (by decide) (br_f (by decide) (br_f (by decide) (br_f (by decide) (br_f (by decide) (br_f (by decide) (br_f (by decide) (br_f (by decide) (br_f (by decide) (br_t rfl ( br_t rfl (br_f (by decide) (br_f (by decide) (br_t rfl (hq _ hp)))) ))))))))))))
theorem e_kwb (C : eC w hh rr n k hc nav dn kc y ud mo la ql p m B H HL D R RL U UL UK Q B' H' HL' D' R' RL' U' UL' UK' Q') (P : eP w n k mo ql p m B H HL Q dl dc DS SC) (S0 : mo = 0 ∧ m = -1 ∧ ql = 0) : eO (fun post => wpX_editKey post (nI w, nI hh, nI rr, nI n, nI k, nI hc, nI nav, nI dn, nI kc, nI y, nI ud, nI mo, nI la, ac, nI ql, m, nI p, nI dl, nI dc, nI (dc / w), nI (dc % w), B, H, HL, D, R, RL, U, UL, UK, Q, DS, SC) 23) (fun post => wpY_editKey post (nI w, nI hh, nI rr, nI n, nI k, nI hc, nI nav, nI dn, nI kc, nI ud, nI la, nI y, nI mo, nI ql, nI p, ac, m, B', H', HL', D', R', RL', U', UL', UK', Q') 23) := by
  obtain ⟨⟨⟨hw1, hw2⟩, ⟨hh1, hh2⟩, ⟨hr1, hr2⟩, ⟨hn, hk⟩, ⟨hhc, hnav⟩, hdn, hkc, hud, hql⟩, hB, hH, hD, hR, hU, hQ, hL, hS⟩ := id C
  have ec : ewl B' k = ewl B k := (ewl_c (fun j hj => (eg_at hB (by omega)).1)).symm
  have hle := ewl_le B k
  obtain ⟨st, hst⟩ : ∃ st, ewl B k = st := ⟨_, rfl⟩
  rw [hst] at ec hle
  obtain ⟨e, rfl⟩ : ∃ e, k = st + e := ⟨k - st, by omega⟩
  by_cases c : e = 0
  · subst c
    exact eO_0 (nI w, nI hh, nI rr, nI n, nI (st + 0), nI hc, nI nav, nI dn, nI kc, nI y, nI ud, nI mo, nI la, ac, nI ql, m, nI p, nI dl, nI dc, nI (dc / w), nI (dc % w), B, H, HL, D, R, RL, U, UL, UK, Q, DS, SC) (nI w, nI hh, nI rr, nI n, nI (st + 0), nI hc, nI nav, nI dn, nI kc, nI ud, nI la, nI y, nI mo, nI ql, nI p, ac, m, B', H', HL', D', R', RL', U', UL', UK', Q') (e_I C P) (fun post hp => by unfold wpX_editKey; exact xp_f (Or.inl (by decide)) (br_t rfl (br_f (by decide) (br_f (by decide) (br_f (by decide) (br_f (by decide) (br_f (by decide) (br_f (by decide) (br_f (by decide) (br_f (by decide) (br_t rfl (br_f (by decide) (br_f (by decide) (br_t rfl ( xwl (by omega) (by rw [hst]; exact en_lt st st (by omega) hp) ))))))))))))))) (fun post hp => br_t (by decide) (br_f (by decide) (br_f (by decide) (br_f (by decide) (br_f (by decide) (br_f (by decide) (br_f (by decide) (br_f (by decide) (br_f (by decide) (br_f (by decide) (br_f (by decide) (br_f (by decide) (br_t rfl ( br_f (by decide) (br_t rfl (br_f (by decide) (br_f (by decide) (br_f (by decide) (ywl (by omega) (by rw [ec]; exact ey_eq st st rfl hp)))))) ))))))))))))))
  · refine eO_n (e_kb (st := st) (e := e) (dl := dl) (dc := dc) (DS := DS) (SC := SC) (ac := ac) C (by omega) (by omega) S0) (fun post r u hq hp => ?_) (fun post r v hq hp => ?_)
    · obtain ⟨f_width, f_historyCap, f_ringCap, f_length, f_cursor, f_historyCount, f_nav, f_draftLength, f_ringCount, f_yankIndex, f_undoDepth, f_mode, f_last, f_accepted, f_queryLength, f_match, f_matchStart, f_displayLength, f_displayCursor, f_terminalRow, f_terminalCol, a_buffer, a_history, a_historyLengths, a_draft, a_ring, a_ringLengths, a_undoTexts, a_undoLengths, a_undoCursors, a_query, a_display, a_screen⟩ := u
      unfold wpX_editKey
      exact xp_f (Or.inl (by decide)) (br_t rfl (br_f (by decide) (br_f (by decide) (br_f (by decide) (br_f (by decide) (br_f (by decide) (br_f (by decide) (br_f (by decide) (br_f (by decide) (br_t rfl (br_f (by decide) (br_f (by decide) (br_t rfl ( xwl (by omega) (by rw [hst]; exact hq _ hp) ))))))))))))))
    · obtain ⟨g_w, g_hh, g_rr, g_n, g_k, g_hc, g_nav, g_dn, g_kc, g_ud, g_last, g_y, g_mode, g_ql, g_p, g_accepted, g_m, b_buf, b_hist, b_histL, b_draft, b_ring, b_ringL, b_und, b_undL, b_undK, b_q⟩ := v
      exact br_t (by decide) (br_f (by decide) (br_f (by decide) (br_f (by decide) (br_f (by decide) (br_f (by decide) (br_f (by decide) (br_f (by decide) (br_f (by decide) (br_f (by decide) (br_f (by decide) (br_f (by decide) (br_t rfl ( br_f (by decide) (br_t rfl (br_f (by decide) (br_f (by decide) (br_f (by decide) (ywl (by omega) (by rw [ec]; exact hq _ hp)))))) )))))))))))))
theorem e_yank (C : eC w hh rr n k hc nav dn kc y ud mo la ql p m B H HL D R RL U UL UK Q B' H' HL' D' R' RL' U' UL' UK' Q') (P : eP w n k mo ql p m B H HL Q dl dc DS SC) (S0 : mo = 0 ∧ m = -1 ∧ ql = 0) : eO (fun post => wpX_editKey post (nI w, nI hh, nI rr, nI n, nI k, nI hc, nI nav, nI dn, nI kc, nI y, nI ud, nI mo, nI la, ac, nI ql, m, nI p, nI dl, nI dc, nI (dc / w), nI (dc % w), B, H, HL, D, R, RL, U, UL, UK, Q, DS, SC) 25) (fun post => wpY_editKey post (nI w, nI hh, nI rr, nI n, nI k, nI hc, nI nav, nI dn, nI kc, nI ud, nI la, nI y, nI mo, nI ql, nI p, ac, m, B', H', HL', D', R', RL', U', UL', UK', Q') 25) := by
  obtain ⟨⟨⟨hw1, hw2⟩, ⟨hh1, hh2⟩, ⟨hr1, hr2⟩, ⟨hn, hk⟩, ⟨hhc, hnav⟩, hdn, hkc, hud, hql⟩, hB, hH, hD, hR, hU, hQ, hL, hS⟩ := id C
  by_cases c : kc = 0
  · subst c
    exact eO_0 (nI w, nI hh, nI rr, nI n, nI k, nI hc, nI nav, nI dn, nI 0, nI y, nI ud, nI mo, nI la, ac, nI ql, m, nI p, nI dl, nI dc, nI (dc / w), nI (dc % w), B, H, HL, D, R, RL, U, UL, UK, Q, DS, SC) (nI w, nI hh, nI rr, nI n, nI k, nI hc, nI nav, nI dn, nI 0, nI ud, nI la, nI y, nI mo, nI ql, nI p, ac, m, B', H', HL', D', R', RL', U', UL', UK', Q') (e_I C P) (fun post hp => by unfold wpX_editKey; exact xp_f (Or.inl (by decide)) (br_t rfl (br_f (by decide) (br_f (by decide) (br_f (by decide) (br_f (by decide) (br_f (by decide) (br_f (by decide) (br_f (by decide) (br_f (by decide) (br_f (by decide) (br_t rfl ( ey_eq 0 0 rfl hp ))))))))))))) (fun post hp => br_t (by decide) (br_f (by decide) (br_f (by decide) (br_f (by decide) (br_f (by decide) (br_f (by decide) (br_f (by decide) (br_f (by decide) (br_f (by decide) (br_f (by decide) (br_f (by decide) (br_f (by decide) (br_f (by decide) (br_t rfl ( ey_eq 0 0 rfl hp )))))))))))))))
  · obtain ⟨l, hl, hlx, hly, hg⟩ := hR 0 (by omega)
    rw [Nat.zero_mul] at hg
    have hx : nI n + RL' 0 = nI (n + l) := by rw [hly]; exact nI_add n l
    by_cases c2 : n + l ≤ 32
    · have hud2 := ep_le hud
      exact eO_1 (nI w, nI hh, nI rr, nI (n + l), nI (k + l), nI hc, nI nav, nI dn, nI kc, nI 0, nI (ep_n ud), nI mo, 3, ac, nI ql, m, nI p, nI dl, nI dc, nI (dc / w), nI (dc % w), ec_cp R ((kc - 1 - 0) * 32) (ec_cp B k B (k + l) (n - k)) k l, H, HL, D, R, RL, ep_U B U n ud, ep_L UL (nI n) ud, ep_L UK (nI k) ud, Q, DS, SC) (nI w, nI hh, nI rr, nI (n + l), nI (k + l), nI hc, nI nav, nI dn, nI kc, nI (ep_n ud), 3, nI 0, nI mo, nI ql, nI p, ac, m, ec_cp R' 0 (ec_cp B' k B' (k + l) (n - k)) k l, H', HL', D', R', RL', ep_U B' U' 32 ud, ep_L UL' (nI n) ud, ep_L UK' (nI k) ud, Q')
        (e_K (la := 3) (y := 0) ⟨⟨⟨hw1, hw2⟩, ⟨hh1, hh2⟩, ⟨hr1, hr2⟩, ⟨by omega, by omega⟩, ⟨by omega, by omega⟩, by omega, by omega, by omega, by omega⟩, eg_ins hB hk hg, hH, hD, hR, ep_eu hU hud hn hk hB, hQ, eL_3 (by omega) hly (by omega), Or.inl S0⟩)
        (fun post hp => by unfold wpX_editKey; exact xp_f (Or.inl (by decide)) (br_t rfl (br_f (by decide) (br_f (by decide) (br_f (by decide) (br_f (by decide) (br_f (by decide) (br_f (by decide) (br_f (by decide) (br_f (by decide) (br_f (by decide) (br_t rfl ( en_eq kc 0 c (xkl kc 0 l (by omega) (by omega) hlx (ey_le (n + l) 32 c2 (xpu hn hud (xik kc 0 l n k (by omega) (by omega) c2 hk hlx hp)))) )))))))))))))
        (fun post hp => br_t (by decide) (br_f (by decide) (br_f (by decide) (br_f (by decide) (br_f (by decide) (br_f (by decide) (br_f (by decide) (br_f (by decide) (br_f (by decide) (br_f (by decide) (br_f (by decide) (br_f (by decide) (br_f (by decide) (br_t rfl ( en_eq kc 0 c (ey_le (n + l) 32 c2 (ypu hud (yy_31' hly c2 hk hp)) hx) )))))))))))))))
    · exact eO_0 (nI w, nI hh, nI rr, nI n, nI k, nI hc, nI nav, nI dn, nI kc, nI y, nI ud, nI mo, nI la, ac, nI ql, m, nI p, nI dl, nI dc, nI (dc / w), nI (dc % w), B, H, HL, D, R, RL, U, UL, UK, Q, DS, SC) (nI w, nI hh, nI rr, nI n, nI k, nI hc, nI nav, nI dn, nI kc, nI ud, nI la, nI y, nI mo, nI ql, nI p, ac, m, B', H', HL', D', R', RL', U', UL', UK', Q') (e_I C P)
        (fun post hp => by unfold wpX_editKey; exact xp_f (Or.inl (by decide)) (br_t rfl (br_f (by decide) (br_f (by decide) (br_f (by decide) (br_f (by decide) (br_f (by decide) (br_f (by decide) (br_f (by decide) (br_f (by decide) (br_f (by decide) (br_t rfl ( en_eq kc 0 c (xkl kc 0 l (by omega) (by omega) hlx (en_le (n + l) 32 (by omega) hp)) )))))))))))))
        (fun post hp => br_t (by decide) (br_f (by decide) (br_f (by decide) (br_f (by decide) (br_f (by decide) (br_f (by decide) (br_f (by decide) (br_f (by decide) (br_f (by decide) (br_f (by decide) (br_f (by decide) (br_f (by decide) (br_f (by decide) (br_t rfl ( en_eq kc 0 c (en_le (n + l) 32 (by omega) hp hx) )))))))))))))))
theorem e_pop (C : eC w hh rr n k hc nav dn kc y ud mo la ql p m B H HL D R RL U UL UK Q B' H' HL' D' R' RL' U' UL' UK' Q') (P : eP w n k mo ql p m B H HL Q dl dc DS SC) (S0 : mo = 0 ∧ m = -1 ∧ ql = 0) : eO (fun post => wpX_editKey post (nI w, nI hh, nI rr, nI n, nI k, nI hc, nI nav, nI dn, nI kc, nI y, nI ud, nI mo, nI la, ac, nI ql, m, nI p, nI dl, nI dc, nI (dc / w), nI (dc % w), B, H, HL, D, R, RL, U, UL, UK, Q, DS, SC) 203) (fun post => wpY_editKey post (nI w, nI hh, nI rr, nI n, nI k, nI hc, nI nav, nI dn, nI kc, nI ud, nI la, nI y, nI mo, nI ql, nI p, ac, m, B', H', HL', D', R', RL', U', UL', UK', Q') 203) := by
  obtain ⟨⟨⟨hw1, hw2⟩, ⟨hh1, hh2⟩, ⟨hr1, hr2⟩, ⟨hn, hk⟩, ⟨hhc, hnav⟩, hdn, hkc, hud, hql⟩, hB, hH, hD, hR, hU, hQ, hL, hS⟩ := id C
  have hla := hL.1
  by_cases c : la = 3
  · subst c
    obtain ⟨hy, l, hly, hlk⟩ := hL.2.2 rfl
    obtain ⟨a, rfl⟩ : ∃ a, k = a + l := ⟨k - l, by omega⟩
    obtain ⟨l2, hl, hlx, hly2, _⟩ := hR y hy
    obtain rfl : l2 = l := (nI_eq (by omega) (by omega)).mp (hly2.symm.trans hly)
    obtain ⟨z, hz⟩ : ∃ z, (y + 1) % kc = z := ⟨_, rfl⟩
    have hzc : z < kc := by rw [← hz]; exact Nat.mod_lt _ (by omega)
    have hrem : (nI y + 1) - (nI y + 1) / nI kc * nI kc = nI z := by rw [nI_1, pk_rem (by omega) (by omega) (by omega), hz]
    obtain ⟨s, hs, hsx, hsy, hg⟩ := hR z hzc
    have hne : ¬ nI kc = 0 := nI_ne0 (by omega) (by omega)
    have hdel : eg (ec_cp B (a + l2) B a (n - a - l2)) (ez B' n a l2) 0 0 (n - l2) := eg_del hB hk (ez_p l2 hk)
    have e1 : nI (a + l2) - nI l2 = nI a := by rw [pk_sub (by omega)]; exact congrArg nI (by omega)
    by_cases c2 : n - l2 + s ≤ 32
    · exact eO_1 (nI w, nI hh, nI rr, nI (n - l2 + s), nI (a + s), nI hc, nI nav, nI dn, nI kc, nI z, nI ud, nI mo, 3, ac, nI ql, m, nI p, nI dl, nI dc, nI (dc / w), nI (dc % w), ec_cp R ((kc - 1 - z) * 32) (ec_cp (ec_cp B (a + l2) B a (n - a - l2)) a (ec_cp B (a + l2) B a (n - a - l2)) (a + s) (n - l2 - a)) a s, H, HL, D, R, RL, U, UL, UK, Q, DS, SC) (nI w, nI hh, nI rr, nI (n - l2 + s), nI (a + s), nI hc, nI nav, nI dn, nI kc, nI ud, nI 3, nI z, nI mo, nI ql, nI p, ac, m, ec_cp R' (z * 32) (ec_cp (ez B' n a l2) a (ez B' n a l2) (a + s) (n - l2 - a)) a s, H', HL', D', R', RL', U', UL', UK', Q')
        (e_K (la := 3) (y := z) ⟨⟨⟨hw1, hw2⟩, ⟨hh1, hh2⟩, ⟨hr1, hr2⟩, ⟨by omega, by omega⟩, ⟨by omega, by omega⟩, by omega, by omega, by omega, by omega⟩, eg_ins hdel (by omega) hg, hH, hD, hR, hU, hQ, eL_3 hzc hsy (by omega), Or.inl S0⟩)
        (fun post hp => by unfold wpX_editKey; exact xp_f (Or.inr (by decide)) (br_t rfl (br_f (by decide) (br_f (by decide) (br_f (by decide) (br_f (by decide) (br_f (by decide) (br_f (by decide) (br_f (by decide) (br_f (by decide) (br_f (by decide) (br_f (by decide) (br_f (by decide) (br_f (by decide) (br_t rfl ( br_t rfl (en_eq kc 0 (by omega) ⟨hne, nm_r hrem (xkl kc y l2 hy (by omega) hlx (xkl kc z s hzc (by omega) hsx (ey_le (n - l2 + s) 32 c2 (nm_r e1 (xcg a l2 n hn hk (xik kc z s (n - l2) a hzc (by omega) c2 (by omega) hsx hp))))))⟩) ))))))))))))))))
        (fun post hp => br_f (by decide) (br_t (by decide) (br_f (by decide) (br_f (by decide) (br_f (by decide) (br_f (by decide) (br_f (by decide) (br_f (by decide) (br_f (by decide) (br_f (by decide) (br_f (by decide) (br_f (by decide) (br_f (by decide) (br_f (by decide) (br_f (by decide) (br_t rfl ( br_t rfl (en_eq kc 0 (by omega) ⟨hne, nm_r hrem ⟨en_in y (by omega), nm_r ((en_g y).trans hly) ⟨en_in z (by omega), nm_r ((en_g z).trans hsy) (en_lt 32 (n - l2 + s) c2 (ey_le l2 (a + l2) (by omega) ⟨l2 + 1, yp_72 (g_y := nI y) rfl hk (by omega) hs hn c2 hp l2 0 (by omega)⟩))⟩⟩⟩) )))))))))))))))))
    · exact eO_0 (nI w, nI hh, nI rr, nI n, nI (a + l2), nI hc, nI nav, nI dn, nI kc, nI y, nI ud, nI mo, nI 3, ac, nI ql, m, nI p, nI dl, nI dc, nI (dc / w), nI (dc % w), B, H, HL, D, R, RL, U, UL, UK, Q, DS, SC) (nI w, nI hh, nI rr, nI n, nI (a + l2), nI hc, nI nav, nI dn, nI kc, nI ud, nI 3, nI y, nI mo, nI ql, nI p, ac, m, B', H', HL', D', R', RL', U', UL', UK', Q') (e_I C P)
        (fun post hp => by unfold wpX_editKey; exact xp_f (Or.inr (by decide)) (br_t rfl (br_f (by decide) (br_f (by decide) (br_f (by decide) (br_f (by decide) (br_f (by decide) (br_f (by decide) (br_f (by decide) (br_f (by decide) (br_f (by decide) (br_f (by decide) (br_f (by decide) (br_f (by decide) (br_t rfl ( br_t rfl (en_eq kc 0 (by omega) ⟨hne, nm_r hrem (xkl kc y l2 hy (by omega) hlx (xkl kc z s hzc (by omega) hsx (en_le (n - l2 + s) 32 (by omega) hp)))⟩) ))))))))))))))))
        (fun post hp => br_f (by decide) (br_t (by decide) (br_f (by decide) (br_f (by decide) (br_f (by decide) (br_f (by decide) (br_f (by decide) (br_f (by decide) (br_f (by decide) (br_f (by decide) (br_f (by decide) (br_f (by decide) (br_f (by decide) (br_f (by decide) (br_f (by decide) (br_t rfl ( br_t rfl (en_eq kc 0 (by omega) ⟨hne, nm_r hrem ⟨en_in y (by omega), nm_r ((en_g y).trans hly) ⟨en_in z (by omega), nm_r ((en_g z).trans hsy) (ey_lt 32 (n - l2 + s) (by omega) hp)⟩⟩⟩) )))))))))))))))))
  · exact eO_0 (nI w, nI hh, nI rr, nI n, nI k, nI hc, nI nav, nI dn, nI kc, nI y, nI ud, nI mo, nI la, ac, nI ql, m, nI p, nI dl, nI dc, nI (dc / w), nI (dc % w), B, H, HL, D, R, RL, U, UL, UK, Q, DS, SC) (nI w, nI hh, nI rr, nI n, nI k, nI hc, nI nav, nI dn, nI kc, nI ud, nI la, nI y, nI mo, nI ql, nI p, ac, m, B', H', HL', D', R', RL', U', UL', UK', Q') (e_I C P) (fun post hp => by unfold wpX_editKey; exact xp_f (Or.inr (by decide)) (br_t rfl (br_f (by decide) (br_f (by decide) (br_f (by decide) (br_f (by decide) (br_f (by decide) (br_f (by decide) (br_f (by decide) (br_f (by decide) (br_f (by decide) (br_f (by decide) (br_f (by decide) (br_f (by decide) (br_t rfl ( en_eq la 3 c hp )))))))))))))))) (fun post hp => br_f (by decide) (br_t (by decide) (br_f (by decide) (br_f (by decide) (br_f (by decide) (br_f (by decide) (br_f (by decide) (br_f (by decide) (br_f (by decide) (br_f (by decide) (br_f (by decide) (br_f (by decide) (br_f (by decide) (br_f (by decide) (br_f (by decide) (br_t rfl ( en_eq la 3 c hp )))))))))))))))))
end
end
section
/-! V: undo, history steps, enter, search -/
section
variable {g_w g_hh g_rr g_n g_k g_hc g_nav g_dn g_kc g_ud g_last g_y g_mode g_ql g_p g_accepted g_m : Int32} {b_buf b_hist b_histL b_draft b_ring b_ringL b_und b_undL b_undK b_q : Nat → Int32}
theorem ye {post : Int32 → SY → Prop} {hc hh : Nat} (h1 : 1 ≤ hh) (h8 : hh ≤ 8) (hc8 : hc ≤ hh) (h : post 1 (g_w, nI hh, g_rr, 0, 0, nI (ea_n hc hh), nI (ea_n hc hh), 0, g_kc, 0, 0, g_y, g_mode, g_ql, g_p, g_accepted + 1, g_m, b_buf, ea_H b_buf b_hist 32 hc hh, ea_L b_histL g_n hc hh, b_draft, b_ring, b_ringL, b_und, b_undL, b_undK, b_q)) :
    (nI hc = nI hh → ∃ z, wY_editKey_666 post g_w (nI hh) g_rr g_n g_k (nI hc) g_nav g_dn g_kc g_ud g_last g_y g_mode g_ql g_p g_accepted g_m z 0 b_buf b_hist b_histL b_draft b_ring b_ringL b_und b_undL b_undK b_q) ∧ (¬ nI hc = nI hh → ∃ z, wY_editKey_747 post g_w (nI hh) g_rr g_n g_k (nI hc) g_nav g_dn g_kc g_ud g_last g_y g_mode g_ql g_p g_accepted g_m z 0 b_buf b_hist b_histL b_draft b_ring b_ringL b_und b_undL b_undK b_q) := by
  unfold ea_n ea_H ea_L at h
  by_cases e : hc = hh
  · subst e
    obtain ⟨c, rfl⟩ : ∃ c, hc = c + 1 := ⟨hc - 1, by omega⟩
    simp only [if_pos, Nat.add_sub_cancel] at h
    exact ey_eq (c + 1) (c + 1) rfl (ye_f (by omega) h)
  · simp only [if_neg e] at h
    exact en_eq hc hh e (ye_n (by omega) h)
end
section
variable {w hh rr n k hc nav dn kc y ud mo la ql p dl dc : Nat} {m ac xdl xdc xtr xtc : Int32} {B H HL D R RL U UL UK Q DS SC B' H' HL' D' R' RL' U' UL' UK' Q' : Nat → Int32}
theorem e_undo (C : eC w hh rr n k hc nav dn kc y ud mo la ql p m B H HL D R RL U UL UK Q B' H' HL' D' R' RL' U' UL' UK' Q') (P : eP w n k mo ql p m B H HL Q dl dc DS SC) (S0 : mo = 0 ∧ m = -1 ∧ ql = 0) : eO (fun post => wpX_editKey post (nI w, nI hh, nI rr, nI n, nI k, nI hc, nI nav, nI dn, nI kc, nI y, nI ud, nI mo, nI la, ac, nI ql, m, nI p, nI dl, nI dc, nI (dc / w), nI (dc % w), B, H, HL, D, R, RL, U, UL, UK, Q, DS, SC) 31) (fun post => wpY_editKey post (nI w, nI hh, nI rr, nI n, nI k, nI hc, nI nav, nI dn, nI kc, nI ud, nI la, nI y, nI mo, nI ql, nI p, ac, m, B', H', HL', D', R', RL', U', UL', UK', Q') 31) := by
  obtain ⟨⟨⟨hw1, hw2⟩, ⟨hh1, hh2⟩, ⟨hr1, hr2⟩, ⟨hn, hk⟩, ⟨hhc, hnav⟩, hdn, hkc, hud, hql⟩, hB, hH, hD, hR, hU, hQ, hL, hS⟩ := id C
  by_cases c : ud = 0
  · subst c
    exact eO_0 (nI w, nI hh, nI rr, nI n, nI k, nI hc, nI nav, nI dn, nI kc, nI y, nI 0, nI mo, nI la, ac, nI ql, m, nI p, nI dl, nI dc, nI (dc / w), nI (dc % w), B, H, HL, D, R, RL, U, UL, UK, Q, DS, SC) (nI w, nI hh, nI rr, nI n, nI k, nI hc, nI nav, nI dn, nI kc, nI 0, nI la, nI y, nI mo, nI ql, nI p, ac, m, B', H', HL', D', R', RL', U', UL', UK', Q') (e_I C P) (fun post hp => by unfold wpX_editKey; exact xp_f (Or.inl (by decide)) (br_t rfl (br_f (by decide) (br_f (by decide) (br_f (by decide) (br_f (by decide) (br_f (by decide) (br_f (by decide) (br_f (by decide) (br_f (by decide) (br_f (by decide) (br_f (by decide) (br_t rfl ( ey_eq 0 0 rfl hp )))))))))))))) (fun post hp => br_t (by decide) (br_f (by decide) (br_f (by decide) (br_f (by decide) (br_f (by decide) (br_f (by decide) (br_f (by decide) (br_f (by decide) (br_f (by decide) (br_f (by decide) (br_f (by decide) (br_f (by decide) (br_f (by decide) (br_f (by decide) (br_f (by decide) (br_t rfl ( ey_eq 0 0 rfl hp )))))))))))))))))
  · obtain ⟨v, rfl⟩ : ∃ v, ud = v + 1 := ⟨ud - 1, by omega⟩
    obtain ⟨l, t, hl, ht, a1, a2, a3, a4, hg⟩ := hU v (by omega)
    exact eO_1 (nI w, nI hh, nI rr, nI l, nI t, nI hc, nI nav, nI dn, nI kc, nI y, nI v, nI mo, 0, ac, nI ql, m, nI p, nI dl, nI dc, nI (dc / w), nI (dc % w), ec_cp U (v * 32) B 0 l, H, HL, D, R, RL, U, UL, UK, Q, DS, SC) (nI w, nI hh, nI rr, nI l, nI t, nI hc, nI nav, nI dn, nI kc, nI v, 0, nI y, nI mo, nI ql, nI p, ac, m, ec_cp U' (v * 32) B' 0 32, H', HL', D', R', RL', U', UL', UK', Q')
      (e_K (la := 0) ⟨⟨⟨hw1, hw2⟩, ⟨hh1, hh2⟩, ⟨hr1, hr2⟩, ⟨by omega, by omega⟩, ⟨by omega, by omega⟩, by omega, by omega, by omega, by omega⟩, eg_cp hg (Nat.le_refl _) hl, hH, hD, hR, eu_le hU (by omega), hQ, eL_0, Or.inl S0⟩)
      (fun post hp => by unfold wpX_editKey; exact xp_f (Or.inl (by decide)) (br_t rfl (br_f (by decide) (br_f (by decide) (br_f (by decide) (br_f (by decide) (br_f (by decide) (br_f (by decide) (br_f (by decide) (br_f (by decide) (br_f (by decide) (br_f (by decide) (br_t rfl ( en_eq (v + 1) 0 (by omega) (xus0 v ⟨en_in v (by omega), nm_r ((en_g v).trans a1) (xc_undoTexts_buffer (v * 32) 0 l (by omega) (by omega) ⟨en_in v (by omega), nm_r ((en_g v).trans a3) (nm_r (nI_pred v) hp)⟩)⟩) ))))))))))))))
      (fun post hp => br_t (by decide) (br_f (by decide) (br_f (by decide) (br_f (by decide) (br_f (by decide) (br_f (by decide) (br_f (by decide) (br_f (by decide) (br_f (by decide) (br_f (by decide) (br_f (by decide) (br_f (by decide) (br_f (by decide) (br_f (by decide) (br_f (by decide) (br_t rfl ( en_eq (v + 1) 0 (by omega) (nm_r (nI_pred v) (yu (by omega) a2 a4 hp)) )))))))))))))))))
theorem e_prev (C : eC w hh rr n k hc nav dn kc y ud mo la ql p m B H HL D R RL U UL UK Q B' H' HL' D' R' RL' U' UL' UK' Q') (P : eP w n k mo ql p m B H HL Q dl dc DS SC) (S0 : mo = 0 ∧ m = -1 ∧ ql = 0) : eO (fun post => wpX_editKey post (nI w, nI hh, nI rr, nI n, nI k, nI hc, nI nav, nI dn, nI kc, nI y, nI ud, nI mo, nI la, ac, nI ql, m, nI p, nI dl, nI dc, nI (dc / w), nI (dc % w), B, H, HL, D, R, RL, U, UL, UK, Q, DS, SC) 16) (fun post => wpY_editKey post (nI w, nI hh, nI rr, nI n, nI k, nI hc, nI nav, nI dn, nI kc, nI ud, nI la, nI y, nI mo, nI ql, nI p, ac, m, B', H', HL', D', R', RL', U', UL', UK', Q') 16) := by
  obtain ⟨⟨⟨hw1, hw2⟩, ⟨hh1, hh2⟩, ⟨hr1, hr2⟩, ⟨hn, hk⟩, ⟨hhc, hnav⟩, hdn, hkc, hud, hql⟩, hB, hH, hD, hR, hU, hQ, hL, hS⟩ := id C
  by_cases c : nav = 0
  · subst c
    exact eO_0 (nI w, nI hh, nI rr, nI n, nI k, nI hc, nI 0, nI dn, nI kc, nI y, nI ud, nI mo, nI la, ac, nI ql, m, nI p, nI dl, nI dc, nI (dc / w), nI (dc % w), B, H, HL, D, R, RL, U, UL, UK, Q, DS, SC) (nI w, nI hh, nI rr, nI n, nI k, nI hc, nI 0, nI dn, nI kc, nI ud, nI la, nI y, nI mo, nI ql, nI p, ac, m, B', H', HL', D', R', RL', U', UL', UK', Q') (e_I C P) (fun post hp => by unfold wpX_editKey; exact xp_f (Or.inl (by decide)) (br_t rfl (br_f (by decide) (br_f (by decide) (br_f (by decide) (br_f (by decide) (br_f (by decide) (br_t rfl ( ey_eq 0 0 rfl hp ))))))))) (fun post hp => br_t (by decide) (br_f (by decide) (br_f (by decide) (br_f (by decide) (br_f (by decide) (br_f (by decide) (br_f (by decide) (br_f (by decide) (br_f (by decide) (br_f (by decide) (br_f (by decide) (br_f (by decide) (br_f (by decide) (br_f (by decide) (br_f (by decide) (br_f (by decide) (br_t rfl ( ey_eq 0 0 rfl hp ))))))))))))))))))
  · obtain ⟨v, rfl⟩ : ∃ v, nav = v + 1 := ⟨nav - 1, by omega⟩
    obtain ⟨l, hl, a1, a2, hg⟩ := hH v (by omega)
    by_cases c2 : v + 1 = hc
    · subst c2
      exact eO_1 (nI w, nI hh, nI rr, nI l, nI l, nI (v + 1), nI v, nI n, nI kc, nI y, 0, nI mo, 0, ac, nI ql, m, nI p, nI dl, nI dc, nI (dc / w), nI (dc % w), ec_cp H (v * 32) B 0 l, H, HL, ec_cp B 0 D 0 n, R, RL, U, UL, UK, Q, DS, SC) (nI w, nI hh, nI rr, nI l, nI l, nI (v + 1), nI v, nI n, nI kc, 0, 0, nI y, nI mo, nI ql, nI p, ac, m, ec_cp H' (v * 32) B' 0 32, H', HL', ec_cp B' 0 D' 0 32, R', RL', U', UL', UK', Q')
        (e_K (la := 0) (ud := 0) ⟨⟨⟨hw1, hw2⟩, ⟨hh1, hh2⟩, ⟨hr1, hr2⟩, ⟨by omega, by omega⟩, ⟨by omega, by omega⟩, by omega, by omega, by omega, by omega⟩, eg_cp hg (Nat.le_refl _) hl, hH, eg_cp hB (Nat.le_refl _) hn, hR, eu_0, hQ, eL_0, Or.inl S0⟩)
        (fun post hp => by unfold wpX_editKey; exact xp_f (Or.inl (by decide)) (br_t rfl (br_f (by decide) (br_f (by decide) (br_f (by decide) (br_f (by decide) (br_f (by decide) (br_t rfl ( en_eq (v + 1) 0 (by omega) (ey_eq (v + 1) (v + 1) rfl (xc_buffer_draft 0 0 n (by omega) (by omega) (nm_r (nI_pred v) (xlh v l (by omega) hl a1 hp)))) )))))))))
        (fun post hp => br_t (by decide) (br_f (by decide) (br_f (by decide) (br_f (by decide) (br_f (by decide) (br_f (by decide) (br_f (by decide) (br_f (by decide) (br_f (by decide) (br_f (by decide) (br_f (by decide) (br_f (by decide) (br_f (by decide) (br_f (by decide) (br_f (by decide) (br_f (by decide) (br_t rfl ( en_eq (v + 1) 0 (by omega) (ey_eq (v + 1) (v + 1) rfl (yh_d (yh_508 (by omega) a2 hp))) ))))))))))))))))))
    · exact eO_1 (nI w, nI hh, nI rr, nI l, nI l, nI hc, nI v, nI dn, nI kc, nI y, 0, nI mo, 0, ac, nI ql, m, nI p, nI dl, nI dc, nI (dc / w), nI (dc % w), ec_cp H (v * 32) B 0 l, H, HL, D, R, RL, U, UL, UK, Q, DS, SC) (nI w, nI hh, nI rr, nI l, nI l, nI hc, nI v, nI dn, nI kc, 0, 0, nI y, nI mo, nI ql, nI p, ac, m, ec_cp H' (v * 32) B' 0 32, H', HL', D', R', RL', U', UL', UK', Q')
        (e_K (la := 0) (ud := 0) ⟨⟨⟨hw1, hw2⟩, ⟨hh1, hh2⟩, ⟨hr1, hr2⟩, ⟨by omega, by omega⟩, ⟨by omega, by omega⟩, by omega, by omega, by omega, by omega⟩, eg_cp hg (Nat.le_refl _) hl, hH, hD, hR, eu_0, hQ, eL_0, Or.inl S0⟩)
        (fun post hp => by unfold wpX_editKey; exact xp_f (Or.inl (by decide)) (br_t rfl (br_f (by decide) (br_f (by decide) (br_f (by decide) (br_f (by decide) (br_f (by decide) (br_t rfl ( en_eq (v + 1) 0 (by omega) (en_eq (v + 1) hc c2 (nm_r (nI_pred v) (xlh v l (by omega) hl a1 hp))) )))))))))
        (fun post hp => br_t (by decide) (br_f (by decide) (br_f (by decide) (br_f (by decide) (br_f (by decide) (br_f (by decide) (br_f (by decide) (br_f (by decide) (br_f (by decide) (br_f (by decide) (br_f (by decide) (br_f (by decide) (br_f (by decide) (br_f (by decide) (br_f (by decide) (br_f (by decide) (br_t rfl ( en_eq (v + 1) 0 (by omega) (en_eq (v + 1) hc c2 (yh_508 (by omega) a2 hp)) ))))))))))))))))))
theorem e_next (C : eC w hh rr n k hc nav dn kc y ud mo la ql p m B H HL D R RL U UL UK Q B' H' HL' D' R' RL' U' UL' UK' Q') (P : eP w n k mo ql p m B H HL Q dl dc DS SC) (S0 : mo = 0 ∧ m = -1 ∧ ql = 0) : eO (fun post => wpX_editKey post (nI w, nI hh, nI rr, nI n, nI k, nI hc, nI nav, nI dn, nI kc, nI y, nI ud, nI mo, nI la, ac, nI ql, m, nI p, nI dl, nI dc, nI (dc / w), nI (dc % w), B, H, HL, D, R, RL, U, UL, UK, Q, DS, SC) 14) (fun post => wpY_editKey post (nI w, nI hh, nI rr, nI n, nI k, nI hc, nI nav, nI dn, nI kc, nI ud, nI la, nI y, nI mo, nI ql, nI p, ac, m, B', H', HL', D', R', RL', U', UL', UK', Q') 14) := by
  obtain ⟨⟨⟨hw1, hw2⟩, ⟨hh1, hh2⟩, ⟨hr1, hr2⟩, ⟨hn, hk⟩, ⟨hhc, hnav⟩, hdn, hkc, hud, hql⟩, hB, hH, hD, hR, hU, hQ, hL, hS⟩ := id C
  by_cases c : nav = hc
  · subst c
    exact eO_0 (nI w, nI hh, nI rr, nI n, nI k, nI nav, nI nav, nI dn, nI kc, nI y, nI ud, nI mo, nI la, ac, nI ql, m, nI p, nI dl, nI dc, nI (dc / w), nI (dc % w), B, H, HL, D, R, RL, U, UL, UK, Q, DS, SC) (nI w, nI hh, nI rr, nI n, nI k, nI nav, nI nav, nI dn, nI kc, nI ud, nI la, nI y, nI mo, nI ql, nI p, ac, m, B', H', HL', D', R', RL', U', UL', UK', Q') (e_I C P) (fun post hp => by unfold wpX_editKey; exact xp_f (Or.inl (by decide)) (br_t rfl (br_f (by decide) (br_f (by decide) (br_f (by decide) (br_f (by decide) (br_t rfl ( ey_eq nav nav rfl hp )))))))) (fun post hp => br_t (by decide) (br_f (by decide) (br_f (by decide) (br_f (by decide) (br_f (by decide) (br_f (by decide) (br_f (by decide) (br_f (by decide) (br_f (by decide) (br_f (by decide) (br_f (by decide) (br_f (by decide) (br_f (by decide) (br_f (by decide) (br_f (by decide) (br_f (by decide) (br_f (by decide) (br_t rfl ( ey_eq nav nav rfl hp )))))))))))))))))))
  · by_cases c2 : nav + 1 = hc
    · exact eO_1 (nI w, nI hh, nI rr, nI dn, nI dn, nI hc, nI (nav + 1), 0, nI kc, nI y, 0, nI mo, 0, ac, nI ql, m, nI p, nI dl, nI dc, nI (dc / w), nI (dc % w), ec_cp D 0 B 0 dn, H, HL, D, R, RL, U, UL, UK, Q, DS, SC) (nI w, nI hh, nI rr, nI dn, nI dn, nI hc, nI (nav + 1), 0, nI kc, 0, 0, nI y, nI mo, nI ql, nI p, ac, m, ec_cp D' 0 B' 0 32, H', HL', D', R', RL', U', UL', UK', Q')
        (e_K (la := 0) (ud := 0) (dn := 0) ⟨⟨⟨hw1, hw2⟩, ⟨hh1, hh2⟩, ⟨hr1, hr2⟩, ⟨by omega, by omega⟩, ⟨by omega, by omega⟩, by omega, by omega, by omega, by omega⟩, eg_cp hD (Nat.le_refl _) hdn, hH, eg_0, hR, eu_0, hQ, eL_0, Or.inl S0⟩)
        (fun post hp => by unfold wpX_editKey; exact xp_f (Or.inl (by decide)) (br_t rfl (br_f (by decide) (br_f (by decide) (br_f (by decide) (br_f (by decide) (br_t rfl ( en_eq nav hc c (nm_r (nI_1 nav) (ey_eq (nav + 1) hc c2 (xld hdn hp))) ))))))))
        (fun post hp => br_t (by decide) (br_f (by decide) (br_f (by decide) (br_f (by decide) (br_f (by decide) (br_f (by decide) (br_f (by decide) (br_f (by decide) (br_f (by decide) (br_f (by decide) (br_f (by decide) (br_f (by decide) (br_f (by decide) (br_f (by decide) (br_f (by decide) (br_f (by decide) (br_f (by decide) (br_t rfl ( en_eq nav hc c (nm_r (nI_1 nav) (ey_eq (nav + 1) hc c2 (yh_l hp))) )))))))))))))))))))
    · obtain ⟨l, hl, a1, a2, hg⟩ := hH (nav + 1) (by omega)
      exact eO_1 (nI w, nI hh, nI rr, nI l, nI l, nI hc, nI (nav + 1), nI dn, nI kc, nI y, 0, nI mo, 0, ac, nI ql, m, nI p, nI dl, nI dc, nI (dc / w), nI (dc % w), ec_cp H ((nav + 1) * 32) B 0 l, H, HL, D, R, RL, U, UL, UK, Q, DS, SC) (nI w, nI hh, nI rr, nI l, nI l, nI hc, nI (nav + 1), nI dn, nI kc, 0, 0, nI y, nI mo, nI ql, nI p, ac, m, ec_cp H' ((nav + 1) * 32) B' 0 32, H', HL', D', R', RL', U', UL', UK', Q')
        (e_K (la := 0) (ud := 0) ⟨⟨⟨hw1, hw2⟩, ⟨hh1, hh2⟩, ⟨hr1, hr2⟩, ⟨by omega, by omega⟩, ⟨by omega, by omega⟩, by omega, by omega, by omega, by omega⟩, eg_cp hg (Nat.le_refl _) hl, hH, hD, hR, eu_0, hQ, eL_0, Or.inl S0⟩)
        (fun post hp => by unfold wpX_editKey; exact xp_f (Or.inl (by decide)) (br_t rfl (br_f (by decide) (br_f (by decide) (br_f (by decide) (br_f (by decide) (br_t rfl ( en_eq nav hc c (nm_r (nI_1 nav) (en_eq (nav + 1) hc c2 (xlh (nav + 1) l (by omega) hl a1 hp))) ))))))))
        (fun post hp => br_t (by decide) (br_f (by decide) (br_f (by decide) (br_f (by decide) (br_f (by decide) (br_f (by decide) (br_f (by decide) (br_f (by decide) (br_f (by decide) (br_f (by decide) (br_f (by decide) (br_f (by decide) (br_f (by decide) (br_f (by decide) (br_f (by decide) (br_f (by decide) (br_f (by decide) (br_t rfl ( en_eq nav hc c (nm_r (nI_1 nav) (en_eq (nav + 1) hc c2 (ylh (nav + 1) l (by omega) a2 hp))) )))))))))))))))))))
theorem e_enter (C : eC w hh rr n k hc nav dn kc y ud mo la ql p m B H HL D R RL U UL UK Q B' H' HL' D' R' RL' U' UL' UK' Q') (P : eP w n k mo ql p m B H HL Q dl dc DS SC) (S0 : mo = 0 ∧ m = -1 ∧ ql = 0) : eO (fun post => wpX_editKey post (nI w, nI hh, nI rr, nI n, nI k, nI hc, nI nav, nI dn, nI kc, nI y, nI ud, nI mo, nI la, ac, nI ql, m, nI p, nI dl, nI dc, nI (dc / w), nI (dc % w), B, H, HL, D, R, RL, U, UL, UK, Q, DS, SC) 13) (fun post => wpY_editKey post (nI w, nI hh, nI rr, nI n, nI k, nI hc, nI nav, nI dn, nI kc, nI ud, nI la, nI y, nI mo, nI ql, nI p, ac, m, B', H', HL', D', R', RL', U', UL', UK', Q') 13) := by
  obtain ⟨⟨⟨hw1, hw2⟩, ⟨hh1, hh2⟩, ⟨hr1, hr2⟩, ⟨hn, hk⟩, ⟨hhc, hnav⟩, hdn, hkc, hud, hql⟩, hB, hH, hD, hR, hU, hQ, hL, hS⟩ := id C
  by_cases c : n = 0
  · subst c
    exact eO_1 (nI w, nI hh, nI rr, 0, 0, nI hc, nI hc, 0, nI kc, nI y, 0, nI mo, 0, ac + 1, nI ql, m, nI p, nI dl, nI dc, nI (dc / w), nI (dc % w), B, H, HL, D, R, RL, U, UL, UK, Q, DS, SC) (nI w, nI hh, nI rr, 0, 0, nI hc, nI hc, 0, nI kc, 0, 0, nI y, nI mo, nI ql, nI p, ac + 1, m, B', H', HL', D', R', RL', U', UL', UK', Q')
      (e_K (la := 0) (ud := 0) (dn := 0) (n := 0) (k := 0) ⟨⟨⟨hw1, hw2⟩, ⟨hh1, hh2⟩, ⟨hr1, hr2⟩, ⟨by omega, by omega⟩, ⟨by omega, by omega⟩, by omega, by omega, by omega, by omega⟩, eg_0, hH, eg_0, hR, eu_0, hQ, eL_0, Or.inl S0⟩)
      (fun post hp => by unfold wpX_editKey; exact xp_f (Or.inl (by decide)) (br_t rfl (br_f (by decide) (br_f (by decide) (br_f (by decide) (br_t rfl ( ey_le 0 0 (by omega) (nm_e hp) )))))))
      (fun post hp => br_t (by decide) (br_f (by decide) (br_f (by decide) (br_f (by decide) (br_f (by decide) (br_f (by decide) (br_f (by decide) (br_f (by decide) (br_f (by decide) (br_f (by decide) (br_f (by decide) (br_f (by decide) (br_f (by decide) (br_f (by decide) (br_f (by decide) (br_f (by decide) (br_f (by decide) (br_f (by decide) (br_t rfl ( ey_le 0 0 (by omega) (nm_e hp) ))))))))))))))))))))
  · have hle := ea_le hhc
    exact eO_1 (nI w, nI hh, nI rr, 0, 0, nI (ea_n hc hh), nI (ea_n hc hh), 0, nI kc, nI y, 0, nI mo, 0, ac + 1, nI ql, m, nI p, nI dl, nI dc, nI (dc / w), nI (dc % w), B, ea_H B H n hc hh, ea_L HL (nI n) hc hh, D, R, RL, U, UL, UK, Q, DS, SC) (nI w, nI hh, nI rr, 0, 0, nI (ea_n hc hh), nI (ea_n hc hh), 0, nI kc, 0, 0, nI y, nI mo, nI ql, nI p, ac + 1, m, B', ea_H B' H' 32 hc hh, ea_L HL' (nI n) hc hh, D', R', RL', U', UL', UK', Q')
      (e_K (la := 0) (ud := 0) (dn := 0) (n := 0) (k := 0) ⟨⟨⟨hw1, hw2⟩, ⟨hh1, hh2⟩, ⟨hr1, hr2⟩, ⟨by omega, by omega⟩, ⟨by omega, by omega⟩, by omega, by omega, by omega, by omega⟩, eg_0, ea_eh hH hh1 hn hB, eg_0, hR, eu_0, hQ, eL_0, Or.inl S0⟩)
      (fun post hp => by unfold wpX_editKey; exact xp_f (Or.inl (by decide)) (br_t rfl (br_f (by decide) (br_f (by decide) (br_f (by decide) (br_t rfl ( en_le n 0 (by omega) (xah hn hh1 hh2 hhc (nm_e hp)) )))))))
      (fun post hp => br_t (by decide) (br_f (by decide) (br_f (by decide) (br_f (by decide) (br_f (by decide) (br_f (by decide) (br_f (by decide) (br_f (by decide) (br_f (by decide) (br_f (by decide) (br_f (by decide) (br_f (by decide) (br_f (by decide) (br_f (by decide) (br_f (by decide) (br_f (by decide) (br_f (by decide) (br_f (by decide) (br_t rfl ( en_le n 0 (by omega) (ye hh1 hh2 hhc hp) ))))))))))))))))))))
theorem e_find (C : eC w hh rr n k hc nav dn kc y ud mo la ql p m B H HL D R RL U UL UK Q B' H' HL' D' R' RL' U' UL' UK' Q') (P : eP w n k mo ql p m B H HL Q dl dc DS SC) (S0 : mo = 0 ∧ m = -1 ∧ ql = 0) : eO (fun post => wpX_editKey post (nI w, nI hh, nI rr, nI n, nI k, nI hc, nI nav, nI dn, nI kc, nI y, nI ud, nI mo, nI la, ac, nI ql, m, nI p, nI dl, nI dc, nI (dc / w), nI (dc % w), B, H, HL, D, R, RL, U, UL, UK, Q, DS, SC) 18) (fun post => wpY_editKey post (nI w, nI hh, nI rr, nI n, nI k, nI hc, nI nav, nI dn, nI kc, nI ud, nI la, nI y, nI mo, nI ql, nI p, ac, m, B', H', HL', D', R', RL', U', UL', UK', Q') 18) := by
  obtain ⟨⟨⟨hw1, hw2⟩, ⟨hh1, hh2⟩, ⟨hr1, hr2⟩, ⟨hn, hk⟩, ⟨hhc, hnav⟩, hdn, hkc, hud, hql⟩, hB, hH, hD, hR, hU, hQ, hL, hS⟩ := id C
  by_cases c : hc = 0
  · subst c
    exact eO_0 (nI w, nI hh, nI rr, nI n, nI k, nI 0, nI nav, nI dn, nI kc, nI y, nI ud, nI mo, nI la, ac, nI ql, m, nI p, nI dl, nI dc, nI (dc / w), nI (dc % w), B, H, HL, D, R, RL, U, UL, UK, Q, DS, SC) (nI w, nI hh, nI rr, nI n, nI k, nI 0, nI nav, nI dn, nI kc, nI ud, nI la, nI y, nI mo, nI ql, nI p, ac, m, B', H', HL', D', R', RL', U', UL', UK', Q') (e_I C P) (fun post hp => by unfold wpX_editKey; exact xp_f (Or.inl (by decide)) (br_t rfl (br_f (by decide) (br_f (by decide) (br_f (by decide) (br_f (by decide) (br_f (by decide) (br_f (by decide) (br_t rfl ( ey_eq 0 0 rfl hp )))))))))) (fun post hp => br_t (by decide) (br_f (by decide) (br_f (by decide) (br_f (by decide) (br_f (by decide) (br_f (by decide) (br_f (by decide) (br_f (by decide) (br_f (by decide) (br_f (by decide) (br_f (by decide) (br_f (by decide) (br_f (by decide) (br_f (by decide) (br_f (by decide) (br_f (by decide) (br_f (by decide) (br_f (by decide) (br_f (by decide) (br_t rfl ( ey_eq 0 0 rfl hp )))))))))))))))))))))
  · exact eO_1 (nI w, nI hh, nI rr, nI n, nI k, nI hc, nI nav, nI dn, nI kc, nI y, nI ud, 1, 0, ac, 0, (-1), nI p, nI dl, nI dc, nI (dc / w), nI (dc % w), B, H, HL, D, R, RL, U, UL, UK, Q, DS, SC) (nI w, nI hh, nI rr, nI n, nI k, nI hc, nI nav, nI dn, nI kc, nI ud, 0, nI y, 1, 0, nI p, ac, (-1), B', H', HL', D', R', RL', U', UL', UK', Q')
      (e_K (la := 0) (mo := 1) (ql := 0) (m := -1) ⟨⟨⟨hw1, hw2⟩, ⟨hh1, hh2⟩, ⟨hr1, hr2⟩, ⟨by omega, by omega⟩, ⟨by omega, by omega⟩, by omega, by omega, by omega, by omega⟩, hB, hH, hD, hR, hU, eg_0, eL_0, Or.inr ⟨rfl, rfl, Or.inl ⟨rfl, rfl⟩⟩⟩)
      (fun post hp => by unfold wpX_editKey; exact xp_f (Or.inl (by decide)) (br_t rfl (br_f (by decide) (br_f (by decide) (br_f (by decide) (br_f (by decide) (br_f (by decide) (br_f (by decide) (br_t rfl ( en_eq hc 0 c hp ))))))))))
      (fun post hp => br_t (by decide) (br_f (by decide) (br_f (by decide) (br_f (by decide) (br_f (by decide) (br_f (by decide) (br_f (by decide) (br_f (by decide) (br_f (by decide) (br_f (by decide) (br_f (by decide) (br_f (by decide) (br_f (by decide) (br_f (by decide) (br_f (by decide) (br_f (by decide) (br_f (by decide) (br_f (by decide) (br_f (by decide) (br_t rfl ( en_eq hc 0 c hp )))))))))))))))))))))
/-- any other code -/
theorem e_other (C : eC w hh rr n k hc nav dn kc y ud mo la ql p m B H HL D R RL U UL UK Q B' H' HL' D' R' RL' U' UL' UK' Q') (P : eP w n k mo ql p m B H HL Q dl dc DS SC) {c : Int32} (c0 : c < 32 ∨ 126 < c) (n1 : c ≠ 1) (n2 : c ≠ 2) (n4 : c ≠ 4) (n5 : c ≠ 5) (n6 : c ≠ 6) (n8 : c ≠ 8) (n11 : c ≠ 11) (n13 : c ≠ 13) (n14 : c ≠ 14) (n16 : c ≠ 16) (n18 : c ≠ 18) (n21 : c ≠ 21) (n23 : c ≠ 23) (n25 : c ≠ 25) (n31 : c ≠ 31) (n200 : c ≠ 200) (n201 : c ≠ 201) (n202 : c ≠ 202) (n203 : c ≠ 203) : eO (fun post => wpX_editKey post (nI w, nI hh, nI rr, nI n, nI k, nI hc, nI nav, nI dn, nI kc, nI y, nI ud, nI mo, nI la, ac, nI ql, m, nI p, nI dl, nI dc, nI (dc / w), nI (dc % w), B, H, HL, D, R, RL, U, UL, UK, Q, DS, SC) c) (fun post => wpY_editKey post (nI w, nI hh, nI rr, nI n, nI k, nI hc, nI nav, nI dn, nI kc, nI ud, nI la, nI y, nI mo, nI ql, nI p, ac, m, B', H', HL', D', R', RL', U', UL', UK', Q') c) := by
  refine eO_0 (nI w, nI hh, nI rr, nI n, nI k, nI hc, nI nav, nI dn, nI kc, nI y, nI ud, nI mo, nI la, ac, nI ql, m, nI p, nI dl, nI dc, nI (dc / w), nI (dc % w), B, H, HL, D, R, RL, U, UL, UK, Q, DS, SC) (nI w, nI hh, nI rr, nI n, nI k, nI hc, nI nav, nI dn, nI kc, nI ud, nI la, nI y, nI mo, nI ql, nI p, ac, m, B', H', HL', D', R', RL', U', UL', UK', Q') (e_I C P) (fun post hp => ?_) (fun post hp => ?_)
  · unfold wpX_editKey
    exact xp_f c0 (br_t rfl (br_f n4 (br_f n8 (br_f n11 (br_f n13 (br_f n14 (br_f n16 (br_f n18 (br_f n21 (br_f n23 (br_f n25 (br_f n31 (br_f n202 (br_f n203 (br_f n1 (br_f n2 (br_f n5 (br_f n6 (br_f n200 (br_f n201 hp))))))))))))))))))))
  · have q : wY_editKey_61 post c (nI w) (nI hh) (nI rr) (nI n) (nI k) (nI hc) (nI nav) (nI dn) (nI kc) (nI ud) (nI la) (nI y) (nI mo) (nI ql) (nI p) ac m B' H' HL' D' R' RL' U' UL' UK' Q' := br_f n2 (br_f n6 (br_f n1 (br_f n5 (br_f n200 (br_f n201 (br_f n8 (br_f n4 (br_f n11 (br_f n202 (br_f n21 (br_f n23 (br_f n25 (br_f n203 (br_f n31 (br_f n16 (br_f n14 (br_f n13 (br_f n18 hp))))))))))))))))))
    by_cases d : c < 32
    · exact br_t d q
    · exact br_f d (br_t (c0.resolve_left d) q)
theorem e_edit (C : eC w hh rr n k hc nav dn kc y ud mo la ql p m B H HL D R RL U UL UK Q B' H' HL' D' R' RL' U' UL' UK' Q') (P : eP w n k mo ql p m B H HL Q dl dc DS SC) (S0 : mo = 0 ∧ m = -1 ∧ ql = 0) (c : Int32) : eO (fun post => wpX_editKey post (nI w, nI hh, nI rr, nI n, nI k, nI hc, nI nav, nI dn, nI kc, nI y, nI ud, nI mo, nI la, ac, nI ql, m, nI p, nI dl, nI dc, nI (dc / w), nI (dc % w), B, H, HL, D, R, RL, U, UL, UK, Q, DS, SC) c) (fun post => wpY_editKey post (nI w, nI hh, nI rr, nI n, nI k, nI hc, nI nav, nI dn, nI kc, nI ud, nI la, nI y, nI mo, nI ql, nI p, ac, m, B', H', HL', D', R', RL', U', UL', UK', Q') c) := by
  by_cases c0 : c < 32 ∨ 126 < c
  · by_cases n1 : c = 1
    · subst n1; exact e_home C P S0
    by_cases n2 : c = 2
    · subst n2; exact e_left C P S0
    by_cases n4 : c = 4
    · subst n4; exact e_del C P S0
    by_cases n5 : c = 5
    · subst n5; exact e_end C P S0
    by_cases n6 : c = 6
    · subst n6; exact e_right C P S0
    by_cases n8 : c = 8
    · subst n8; exact e_back C P S0
    by_cases n11 : c = 11
    · subst n11; exact e_kend C P S0
    by_cases n13 : c = 13
    · subst n13; exact e_enter C P S0
    by_cases n14 : c = 14
    · subst n14; exact e_next C P S0
    by_cases n16 : c = 16
    · subst n16; exact e_prev C P S0
    by_cases n18 : c = 18
    · subst n18; exact e_find C P S0
    by_cases n21 : c = 21
    · subst n21; exact e_kst C P S0
    by_cases n23 : c = 23
    · subst n23; exact e_kwb C P S0
    by_cases n25 : c = 25
    · subst n25; exact e_yank C P S0
    by_cases n31 : c = 31
    · subst n31; exact e_undo C P S0
    by_cases n200 : c = 200
    · subst n200; exact e_wl C P S0
    by_cases n201 : c = 201
    · subst n201; exact e_wr C P S0
    by_cases n202 : c = 202
    · subst n202; exact e_kwf C P S0
    by_cases n203 : c = 203
    · subst n203; exact e_pop C P S0
    exact e_other C P c0 n1 n2 n4 n5 n6 n8 n11 n13 n14 n16 n18 n21 n23 n25 n31 n200 n201 n202 n203
  · exact e_type C P S0 (fun z => c0 (Or.inl z)) (fun z => c0 (Or.inr z))
end
end
section
/-! W: search mode -/
theorem eh_L {F L G M : Nat → Int32} {c : Nat} (h : eh F L G M c) : ∀ i, i < c → ∃ l, l ≤ 32 ∧ L i = nI l := fun i hi => by
  obtain ⟨l, hl, a, _, _⟩ := h i hi
  exact ⟨l, hl, a⟩
theorem eh_M {F L G M : Nat → Int32} {c : Nat} (h : eh F L G M c) : ∀ i, i < c → ∃ l, l ≤ 32 ∧ M i = nI l := fun i hi => by
  obtain ⟨l, hl, _, a, _⟩ := h i hi
  exact ⟨l, hl, a⟩
theorem eg_q {Q P : Nat → Int32} {q : Nat} {c : Int32} (h : eg Q P 0 0 q) (hc : ¬ c < 0) : eg (upd Q q c) (upd P q c) 0 0 (q + 1) := by
  have h1 : eg (upd Q q c) (upd P q c) 0 0 q := eg_u h (by omega) (by omega)
  have h2 : eg (upd Q q c) (upd P q c) (0 + q) (0 + q) 1 := by
    rw [Nat.zero_add]
    exact eg_1 hc
  exact eg_app h1 h2
section
variable {w hh rr n k hc nav dn kc y ud mo la ql p dl dc : Nat} {m ac xdl xdc xtr xtc : Int32} {B H HL D R RL U UL UK Q DS SC B' H' HL' D' R' RL' U' UL' UK' Q' : Nat → Int32}
theorem s_cancel (C : eC w hh rr n k hc nav dn kc y ud mo la ql p m B H HL D R RL U UL UK Q B' H' HL' D' R' RL' U' UL' UK' Q') (P : eP w n k mo ql p m B H HL Q dl dc DS SC) (S1 : mo = 1 ∧ la = 0 ∧ ((m = -1 ∧ ql = 0) ∨ ∃ i l, m = nI i ∧ i < hc ∧ HL' i = nI l ∧ l ≤ 32 ∧ p + ql ≤ l ∧ ex H' Q' (i * 32 + p) ql)) : eO (fun post => wpX_searchKey post (nI w, nI hh, nI rr, nI n, nI k, nI hc, nI nav, nI dn, nI kc, nI y, nI ud, nI mo, nI la, ac, nI ql, m, nI p, nI dl, nI dc, nI (dc / w), nI (dc % w), B, H, HL, D, R, RL, U, UL, UK, Q, DS, SC) 7) (fun post => wpY_searchKey post (nI w, nI hh, nI rr, nI n, nI k, nI hc, nI nav, nI dn, nI kc, nI ud, nI la, nI y, nI mo, nI ql, nI p, ac, m, B', H', HL', D', R', RL', U', UL', UK', Q') 7) := by
  obtain ⟨⟨⟨hw1, hw2⟩, ⟨hh1, hh2⟩, ⟨hr1, hr2⟩, ⟨hn, hk⟩, ⟨hhc, hnav⟩, hdn, hkc, hud, hql⟩, hB, hH, hD, hR, hU, hQ, hL, hS⟩ := id C
  exact eO_1 (nI w, nI hh, nI rr, nI n, nI k, nI hc, nI nav, nI dn, nI kc, nI y, nI ud, 0, nI la, ac, 0, (-1), nI p, nI dl, nI dc, nI (dc / w), nI (dc % w), B, H, HL, D, R, RL, U, UL, UK, Q, DS, SC) (nI w, nI hh, nI rr, nI n, nI k, nI hc, nI nav, nI dn, nI kc, nI ud, nI la, nI y, 0, 0, nI p, ac, (-1), B', H', HL', D', R', RL', U', UL', UK', Q')
    (e_K (mo := 0) (ql := 0) (m := -1) ⟨⟨⟨hw1, hw2⟩, ⟨hh1, hh2⟩, ⟨hr1, hr2⟩, ⟨by omega, by omega⟩, ⟨by omega, by omega⟩, by omega, by omega, by omega, by omega⟩, hB, hH, hD, hR, hU, eg_0, hL, Or.inl ⟨rfl, rfl, rfl⟩⟩)
    (fun post hp => by unfold wpX_searchKey; exact xp_f (Or.inl (by decide)) (br_t rfl (br_t rfl hp)))
    (fun post hp => br_t (by decide) (br_f (by decide) (br_f (by decide) (br_f (by decide) (br_t rfl hp)))))
theorem s_enter (C : eC w hh rr n k hc nav dn kc y ud mo la ql p m B H HL D R RL U UL UK Q B' H' HL' D' R' RL' U' UL' UK' Q') (P : eP w n k mo ql p m B H HL Q dl dc DS SC) (S1 : mo = 1 ∧ la = 0 ∧ ((m = -1 ∧ ql = 0) ∨ ∃ i l, m = nI i ∧ i < hc ∧ HL' i = nI l ∧ l ≤ 32 ∧ p + ql ≤ l ∧ ex H' Q' (i * 32 + p) ql)) : eO (fun post => wpX_searchKey post (nI w, nI hh, nI rr, nI n, nI k, nI hc, nI nav, nI dn, nI kc, nI y, nI ud, nI mo, nI la, ac, nI ql, m, nI p, nI dl, nI dc, nI (dc / w), nI (dc % w), B, H, HL, D, R, RL, U, UL, UK, Q, DS, SC) 13) (fun post => wpY_searchKey post (nI w, nI hh, nI rr, nI n, nI k, nI hc, nI nav, nI dn, nI kc, nI ud, nI la, nI y, nI mo, nI ql, nI p, ac, m, B', H', HL', D', R', RL', U', UL', UK', Q') 13) := by
  obtain ⟨⟨⟨hw1, hw2⟩, ⟨hh1, hh2⟩, ⟨hr1, hr2⟩, ⟨hn, hk⟩, ⟨hhc, hnav⟩, hdn, hkc, hud, hql⟩, hB, hH, hD, hR, hU, hQ, hL, hS⟩ := id C
  obtain ⟨rfl, rfl, ⟨rfl, rfl⟩ | ⟨i, l, rfl, hi, hly, hl, hpl, hx⟩⟩ := S1
  · exact eO_1 (nI w, nI hh, nI rr, nI n, nI k, nI hc, nI nav, nI dn, nI kc, nI y, nI ud, 0, nI 0, ac, 0, (-1), nI p, nI dl, nI dc, nI (dc / w), nI (dc % w), B, H, HL, D, R, RL, U, UL, UK, Q, DS, SC) (nI w, nI hh, nI rr, nI n, nI k, nI hc, nI nav, nI dn, nI kc, nI ud, nI 0, nI y, 0, 0, nI p, ac, (-1), B', H', HL', D', R', RL', U', UL', UK', Q')
      (e_K (mo := 0) (ql := 0) (m := -1) ⟨⟨⟨hw1, hw2⟩, ⟨hh1, hh2⟩, ⟨hr1, hr2⟩, ⟨by omega, by omega⟩, ⟨by omega, by omega⟩, by omega, by omega, by omega, by omega⟩, hB, hH, hD, hR, hU, eg_0, hL, Or.inl ⟨rfl, rfl, rfl⟩⟩)
      (fun post hp => by unfold wpX_searchKey; exact xp_f (Or.inl (by decide)) (br_t rfl (br_f (by decide) (br_f (by decide) (br_t rfl (br_t (by decide) hp))))))
      (fun post hp => br_t (by decide) (br_f (by decide) (br_f (by decide) (br_t rfl (br_t (by decide) hp)))))
  · obtain ⟨l2, _, a1, a2, hg⟩ := hH i hi
    obtain rfl : l2 = l := (nI_eq (by omega) (by omega)).mp (a2.symm.trans hly)
    exact eO_1 (nI w, nI hh, nI rr, nI l2, nI p, nI hc, nI nav, nI dn, nI kc, nI y, 0, 0, nI 0, ac, 0, (-1), nI p, nI dl, nI dc, nI (dc / w), nI (dc % w), ec_cp H (i * 32) B 0 l2, H, HL, D, R, RL, U, UL, UK, Q, DS, SC) (nI w, nI hh, nI rr, nI l2, nI p, nI hc, nI nav, nI dn, nI kc, 0, nI 0, nI y, 0, 0, nI p, ac, (-1), ec_cp H' (i * 32) B' 0 32, H', HL', D', R', RL', U', UL', UK', Q')
      (e_K (mo := 0) (ql := 0) (m := -1) (ud := 0) (la := 0) ⟨⟨⟨hw1, hw2⟩, ⟨hh1, hh2⟩, ⟨hr1, hr2⟩, ⟨by omega, by omega⟩, ⟨by omega, by omega⟩, by omega, by omega, by omega, by omega⟩, eg_cp hg (Nat.le_refl _) hl, hH, hD, hR, eu_0, eg_0, eL_0, Or.inl ⟨rfl, rfl, rfl⟩⟩)
      (fun post hp => by unfold wpX_searchKey; exact xp_f (Or.inl (by decide)) (br_t rfl (br_f (by decide) (br_f (by decide) (br_t rfl (br_f (nI_pos (by omega)) (xlh i l2 (by omega) hl a1 hp)))))))
      (fun post hp => br_t (by decide) (br_f (by decide) (br_f (by decide) (br_t rfl (br_f (nI_pos (by omega)) (ylh i l2 (by omega) a2 hp))))))
theorem s_back (C : eC w hh rr n k hc nav dn kc y ud mo la ql p m B H HL D R RL U UL UK Q B' H' HL' D' R' RL' U' UL' UK' Q') (P : eP w n k mo ql p m B H HL Q dl dc DS SC) (S1 : mo = 1 ∧ la = 0 ∧ ((m = -1 ∧ ql = 0) ∨ ∃ i l, m = nI i ∧ i < hc ∧ HL' i = nI l ∧ l ≤ 32 ∧ p + ql ≤ l ∧ ex H' Q' (i * 32 + p) ql)) : eO (fun post => wpX_searchKey post (nI w, nI hh, nI rr, nI n, nI k, nI hc, nI nav, nI dn, nI kc, nI y, nI ud, nI mo, nI la, ac, nI ql, m, nI p, nI dl, nI dc, nI (dc / w), nI (dc % w), B, H, HL, D, R, RL, U, UL, UK, Q, DS, SC) 8) (fun post => wpY_searchKey post (nI w, nI hh, nI rr, nI n, nI k, nI hc, nI nav, nI dn, nI kc, nI ud, nI la, nI y, nI mo, nI ql, nI p, ac, m, B', H', HL', D', R', RL', U', UL', UK', Q') 8) := by
  obtain ⟨⟨⟨hw1, hw2⟩, ⟨hh1, hh2⟩, ⟨hr1, hr2⟩, ⟨hn, hk⟩, ⟨hhc, hnav⟩, hdn, hkc, hud, hql⟩, hB, hH, hD, hR, hU, hQ, hL, hS⟩ := id C
  by_cases c : ql = 0
  · subst c
    exact eO_0 (nI w, nI hh, nI rr, nI n, nI k, nI hc, nI nav, nI dn, nI kc, nI y, nI ud, nI mo, nI la, ac, nI 0, m, nI p, nI dl, nI dc, nI (dc / w), nI (dc % w), B, H, HL, D, R, RL, U, UL, UK, Q, DS, SC) (nI w, nI hh, nI rr, nI n, nI k, nI hc, nI nav, nI dn, nI kc, nI ud, nI la, nI y, nI mo, nI 0, nI p, ac, m, B', H', HL', D', R', RL', U', UL', UK', Q') (e_I C P)
      (fun post hp => by unfold wpX_searchKey; exact xp_f (Or.inl (by decide)) (br_t rfl (br_f (by decide) (br_t rfl (ey_eq 0 0 rfl hp)))))
      (fun post hp => br_t (by decide) (br_f (by decide) (br_t rfl (ey_eq 0 0 rfl hp))))
  · obtain ⟨rfl, rfl, ⟨rfl, h0⟩ | ⟨i, l, rfl, hi, hly, hl, hpl, hx⟩⟩ := S1
    · exact absurd h0 c
    · obtain ⟨l2, _, a1, a2, hg⟩ := hH i hi
      obtain rfl : l2 = l := (nI_eq (by omega) (by omega)).mp (a2.symm.trans hly)
      obtain ⟨t, ht⟩ := ei_less (y := ql - 1) hl a2 hpl hx (by omega)
      have hX : ei H HL Q (ql - 1) i = some t := (ei_c hH hi (fun j hj => (eg_at hQ (by omega)).1)).trans ht
      have hf := ei_some hl a2 ht
      exact eO_1 (nI w, nI hh, nI rr, nI n, nI k, nI hc, nI nav, nI dn, nI kc, nI y, nI ud, nI 1, nI 0, ac, nI (ql - 1), nI i, nI t, nI dl, nI dc, nI (dc / w), nI (dc % w), B, H, HL, D, R, RL, U, UL, UK, Q, DS, SC) (nI w, nI hh, nI rr, nI n, nI k, nI hc, nI nav, nI dn, nI kc, nI ud, nI 0, nI y, nI 1, nI (ql - 1), nI t, ac, nI i, B', H', HL', D', R', RL', U', UL', UK', Q')
        (e_K (mo := 1) (la := 0) ⟨⟨⟨hw1, hw2⟩, ⟨hh1, hh2⟩, ⟨hr1, hr2⟩, ⟨by omega, by omega⟩, ⟨by omega, by omega⟩, by omega, by omega, by omega, by omega⟩, hB, hH, hD, hR, hU, eg_le hQ (by omega), eL_0, Or.inr ⟨rfl, rfl, Or.inr ⟨i, l2, rfl, hi, a2, hl, hf.1, hf.2⟩⟩⟩)
        (fun post hp => by unfold wpX_searchKey; exact xp_f (Or.inl (by decide)) (br_t rfl (br_f (by decide) (br_t rfl (en_eq ql 0 c (br_t (nI_pos' (by omega)) (nm_r (en_s1 (by omega)) (xsi i (ql - 1) l2 (by omega) hl (by omega) a1 (by rw [hX]; exact hp)))))))))
        (fun post hp => br_t (by decide) (br_f (by decide) (br_t rfl (en_eq ql 0 c (nm_r (en_s1 (by omega)) (br_f (nI_pos (by omega)) (yoc i (ql - 1) l2 hc (by omega) hi hl (by omega) a2 (by rw [ht]; exact hp))))))))
/-- the next older entry, from below f -/
theorem s_22 (C : eC w hh rr n k hc nav dn kc y ud mo la ql p m B H HL D R RL U UL UK Q B' H' HL' D' R' RL' U' UL' UK' Q') (P : eP w n k mo ql p m B H HL Q dl dc DS SC) (hmo : mo = 1) (hla : la = 0) {f : Nat} (hf : f ≤ hc) : eO (fun post => wX_searchOlder_22 post (nI f - 1) (nI w) (nI hh) (nI rr) (nI n) (nI k) (nI hc) (nI nav) (nI dn) (nI kc) (nI y) (nI ud) (nI mo) (nI la) ac (nI ql) m (nI p) (nI dl) (nI dc) (nI (dc / w)) (nI (dc % w)) B H HL D R RL U UL UK Q DS SC) (fun post => wY_searchKey_129 post (nI f - 1) (nI w) (nI hh) (nI rr) (nI n) (nI k) (nI hc) (nI nav) (nI dn) (nI kc) (nI ud) (nI la) (nI y) (nI mo) (nI ql) (nI p) ac m B' H' HL' D' R' RL' U' UL' UK' Q') := by
  obtain ⟨⟨⟨hw1, hw2⟩, ⟨hh1, hh2⟩, ⟨hr1, hr2⟩, ⟨hn, hk⟩, ⟨hhc, hnav⟩, hdn, hkc, hud, hql⟩, hB, hH, hD, hR, hU, hQ, hL, hS⟩ := id C
  have hef : ef H HL Q ql f = ef H' HL' Q' ql f := ef_c hH (fun j hj => (eg_at hQ hj).1) f hf
  cases hs : ef H' HL' Q' ql f with
  | none =>
    rw [hs] at hef
    exact eO_0 (nI w, nI hh, nI rr, nI n, nI k, nI hc, nI nav, nI dn, nI kc, nI y, nI ud, nI mo, nI la, ac, nI ql, m, nI p, nI dl, nI dc, nI (dc / w), nI (dc % w), B, H, HL, D, R, RL, U, UL, UK, Q, DS, SC) (nI w, nI hh, nI rr, nI n, nI k, nI hc, nI nav, nI dn, nI kc, nI ud, nI la, nI y, nI mo, nI ql, nI p, ac, m, B', H', HL', D', R', RL', U', UL', UK', Q') (e_I C P)
      (fun post hp => xsk f ql hc (by omega) hql (eh_L hH) hf (fun _ => hp) (fun m s h => absurd (h.symm.trans hef) (by simp)) rfl)
      (fun post hp => yff f ql hc (by omega) hql (eh_M hH) hf (by rw [hs]; exact br_f (by decide) hp) rfl)
  | some q =>
    obtain ⟨j, s⟩ := q
    rw [hs] at hef
    have hj := ef_some f hs
    obtain ⟨l, hl, a1, a2, hg⟩ := hH j (by omega)
    have hi := ei_some hl a2 hj.2
    exact eO_1 (nI w, nI hh, nI rr, nI n, nI k, nI hc, nI nav, nI dn, nI kc, nI y, nI ud, nI mo, nI la, ac, nI ql, nI j, nI s, nI dl, nI dc, nI (dc / w), nI (dc % w), B, H, HL, D, R, RL, U, UL, UK, Q, DS, SC) (nI w, nI hh, nI rr, nI n, nI k, nI hc, nI nav, nI dn, nI kc, nI ud, nI la, nI y, nI mo, nI ql, nI s, ac, nI j, B', H', HL', D', R', RL', U', UL', UK', Q')
      (e_K ⟨⟨⟨hw1, hw2⟩, ⟨hh1, hh2⟩, ⟨hr1, hr2⟩, ⟨by omega, by omega⟩, ⟨by omega, by omega⟩, by omega, by omega, by omega, by omega⟩, hB, hH, hD, hR, hU, hQ, hL, Or.inr ⟨hmo, hla, Or.inr ⟨j, l, rfl, by omega, a2, hl, hi.1, hi.2⟩⟩⟩)
      (fun post hp => xsk f ql hc (by omega) hql (eh_L hH) hf (fun h => absurd (h.symm.trans hef) (by simp)) (fun m' s' h => by
        obtain ⟨rfl, rfl⟩ := Prod.mk.inj (Option.some.inj (hef.symm.trans h))
        exact hp) rfl)
      (fun post hp => yff f ql hc (by omega) hql (eh_M hH) hf (by rw [hs]; exact br_t (nI_pos' (n := j) (by omega)) (yoc j ql l hc (by omega) (by omega) hl hql a2 (by rw [hj.2]; exact hp))) rfl)
theorem s_older (C : eC w hh rr n k hc nav dn kc y ud mo la ql p m B H HL D R RL U UL UK Q B' H' HL' D' R' RL' U' UL' UK' Q') (P : eP w n k mo ql p m B H HL Q dl dc DS SC) (S1 : mo = 1 ∧ la = 0 ∧ ((m = -1 ∧ ql = 0) ∨ ∃ i l, m = nI i ∧ i < hc ∧ HL' i = nI l ∧ l ≤ 32 ∧ p + ql ≤ l ∧ ex H' Q' (i * 32 + p) ql)) : eO (fun post => wpX_searchKey post (nI w, nI hh, nI rr, nI n, nI k, nI hc, nI nav, nI dn, nI kc, nI y, nI ud, nI mo, nI la, ac, nI ql, m, nI p, nI dl, nI dc, nI (dc / w), nI (dc % w), B, H, HL, D, R, RL, U, UL, UK, Q, DS, SC) 18) (fun post => wpY_searchKey post (nI w, nI hh, nI rr, nI n, nI k, nI hc, nI nav, nI dn, nI kc, nI ud, nI la, nI y, nI mo, nI ql, nI p, ac, m, B', H', HL', D', R', RL', U', UL', UK', Q') 18) := by
  obtain ⟨⟨⟨hw1, hw2⟩, ⟨hh1, hh2⟩, ⟨hr1, hr2⟩, ⟨hn, hk⟩, ⟨hhc, hnav⟩, hdn, hkc, hud, hql⟩, hB, hH, hD, hR, hU, hQ, hL, hS⟩ := id C
  obtain ⟨hmo, hla, ⟨rfl, rfl⟩ | ⟨i, l, rfl, hi, hly, hl, hpl, hx⟩⟩ := S1
  · refine eO_n (s_22 (ac := ac) C P hmo hla (f := hc) (Nat.le_refl _)) (fun post r u hq hp => ?_) (fun post r v hq hp => ?_)
    · obtain ⟨f_width, f_historyCap, f_ringCap, f_length, f_cursor, f_historyCount, f_nav, f_draftLength, f_ringCount, f_yankIndex, f_undoDepth, f_mode, f_last, f_accepted, f_queryLength, f_match, f_matchStart, f_displayLength, f_displayCursor, f_terminalRow, f_terminalCol, a_buffer, a_history, a_historyLengths, a_draft, a_ring, a_ringLengths, a_undoTexts, a_undoLengths, a_undoCursors, a_query, a_display, a_screen⟩ := u
      unfold wpX_searchKey
      exact xp_f (Or.inl (by decide)) (br_t rfl (br_f (by decide) (br_f (by decide) (br_f (by decide) (br_t rfl (br_t (by decide) (hq _ hp)))))))
    · obtain ⟨g_w, g_hh, g_rr, g_n, g_k, g_hc, g_nav, g_dn, g_kc, g_ud, g_last, g_y, g_mode, g_ql, g_p, g_accepted, g_m, b_buf, b_hist, b_histL, b_draft, b_ring, b_ringL, b_und, b_undL, b_undK, b_q⟩ := v
      exact br_t (by decide) (br_t rfl (br_t (by decide) (hq _ hp)))
  · refine eO_n (s_22 (ac := ac) C P hmo hla (f := i) (by omega)) (fun post r u hq hp => ?_) (fun post r v hq hp => ?_)
    · obtain ⟨f_width, f_historyCap, f_ringCap, f_length, f_cursor, f_historyCount, f_nav, f_draftLength, f_ringCount, f_yankIndex, f_undoDepth, f_mode, f_last, f_accepted, f_queryLength, f_match, f_matchStart, f_displayLength, f_displayCursor, f_terminalRow, f_terminalCol, a_buffer, a_history, a_historyLengths, a_draft, a_ring, a_ringLengths, a_undoTexts, a_undoLengths, a_undoCursors, a_query, a_display, a_screen⟩ := u
      unfold wpX_searchKey
      exact xp_f (Or.inl (by decide)) (br_t rfl (br_f (by decide) (br_f (by decide) (br_f (by decide) (br_t rfl (br_f (nI_pos (by omega)) (hq _ hp)))))))
    · obtain ⟨g_w, g_hh, g_rr, g_n, g_k, g_hc, g_nav, g_dn, g_kc, g_ud, g_last, g_y, g_mode, g_ql, g_p, g_accepted, g_m, b_buf, b_hist, b_histL, b_draft, b_ring, b_ringL, b_und, b_undL, b_undK, b_q⟩ := v
      exact br_t (by decide) (br_t rfl (br_f (nI_pos (by omega)) (hq _ hp)))
/-- one char more -/
theorem s_41 (C : eC w hh rr n k hc nav dn kc y ud mo la ql p m B H HL D R RL U UL UK Q B' H' HL' D' R' RL' U' UL' UK' Q') (P : eP w n k mo ql p m B H HL Q dl dc DS SC) (S1 : mo = 1 ∧ la = 0 ∧ ((m = -1 ∧ ql = 0) ∨ ∃ i l, m = nI i ∧ i < hc ∧ HL' i = nI l ∧ l ≤ 32 ∧ p + ql ≤ l ∧ ex H' Q' (i * 32 + p) ql)) {f : Nat} {c : Int32} (hc0 : ¬ c < 0) (hq16 : ql < 16) (hf : f ≤ hc) : eO (fun post => wX_growQuery_41 post (nI f - 1) (nI w) (nI hh) (nI rr) (nI n) (nI k) (nI hc) (nI nav) (nI dn) (nI kc) (nI y) (nI ud) (nI mo) (nI la) ac (nI ql) m (nI p) (nI dl) (nI dc) (nI (dc / w)) (nI (dc % w)) B H HL D R RL U UL UK (upd Q ql c) DS SC) (fun post => wY_searchKey_54 post (nI f - 1) (nI w) (nI hh) (nI rr) (nI n) (nI k) (nI hc) (nI nav) (nI dn) (nI kc) (nI ud) (nI la) (nI y) (nI mo) (nI ql) (nI p) ac m B' H' HL' D' R' RL' U' UL' UK' (upd Q' ql c)) := by
  obtain ⟨⟨⟨hw1, hw2⟩, ⟨hh1, hh2⟩, ⟨hr1, hr2⟩, ⟨hn, hk⟩, ⟨hhc, hnav⟩, hdn, hkc, hud, hql⟩, hB, hH, hD, hR, hU, hQ, hL, hS⟩ := id C
  have hQ1 := eg_q hQ hc0
  have hef : ef H HL (upd Q ql c) (ql + 1) f = ef H' HL' (upd Q' ql c) (ql + 1) f := ef_c hH (fun j hj => (eg_at hQ1 hj).1) f hf
  cases hs : ef H' HL' (upd Q' ql c) (ql + 1) f with
  | none =>
    rw [hs] at hef
    have C1 : eC w hh rr n k hc nav dn kc y ud mo la ql p m B H HL D R RL U UL UK (upd Q ql c) B' H' HL' D' R' RL' U' UL' UK' (upd Q' ql c) := by
      refine ⟨⟨⟨hw1, hw2⟩, ⟨hh1, hh2⟩, ⟨hr1, hr2⟩, ⟨by omega, by omega⟩, ⟨by omega, by omega⟩, by omega, by omega, by omega, by omega⟩, hB, hH, hD, hR, hU, eg_le hQ1 (by omega), hL, Or.inr ⟨S1.1, S1.2.1, ?_⟩⟩
      rcases S1.2.2 with h | ⟨i, l, e, hi, hly, hl, hpl, hx⟩
      · exact Or.inl h
      · exact Or.inr ⟨i, l, e, hi, hly, hl, hpl, fun j hj => (hx j hj).trans (ec_un (by omega)).symm⟩
    have P1 : eP w n k mo ql p m B H HL (upd Q ql c) dl dc DS SC := by
      obtain ⟨p1, p2, p3, h | ⟨e, p4, p5, p6⟩⟩ := P
      · exact ⟨p1, p2, p3, Or.inl h⟩
      · exact ⟨p1, p2, p3, Or.inr ⟨e, p4, fun j hj => (p5 j hj).trans (ec_un (by omega)).symm, p6⟩⟩
    exact eO_0 (nI w, nI hh, nI rr, nI n, nI k, nI hc, nI nav, nI dn, nI kc, nI y, nI ud, nI mo, nI la, ac, nI ql, m, nI p, nI dl, nI dc, nI (dc / w), nI (dc % w), B, H, HL, D, R, RL, U, UL, UK, upd Q ql c, DS, SC) (nI w, nI hh, nI rr, nI n, nI k, nI hc, nI nav, nI dn, nI kc, nI ud, nI la, nI y, nI mo, nI ql, nI p, ac, m, B', H', HL', D', R', RL', U', UL', UK', upd Q' ql c) (e_I C1 P1)
      (fun post hp => xsk f (ql + 1) hc (by omega) (by omega) (eh_L hH) hf (fun _ => hp) (fun m s h => absurd (h.symm.trans hef) (by simp)) rfl)
      (fun post hp => yff f (ql + 1) hc (by omega) (by omega) (eh_M hH) hf (by rw [hs]; exact br_f (by decide) hp) rfl)
  | some q =>
    obtain ⟨j, s⟩ := q
    rw [hs] at hef
    have hj := ef_some f hs
    obtain ⟨l, hl, a1, a2, hg⟩ := hH j (by omega)
    have hi := ei_some hl a2 hj.2
    exact eO_1 (nI w, nI hh, nI rr, nI n, nI k, nI hc, nI nav, nI dn, nI kc, nI y, nI ud, nI mo, nI la, ac, nI (ql + 1), nI j, nI s, nI dl, nI dc, nI (dc / w), nI (dc % w), B, H, HL, D, R, RL, U, UL, UK, upd Q ql c, DS, SC) (nI w, nI hh, nI rr, nI n, nI k, nI hc, nI nav, nI dn, nI kc, nI ud, nI la, nI y, nI mo, nI (ql + 1), nI s, ac, nI j, B', H', HL', D', R', RL', U', UL', UK', upd Q' ql c)
      (e_K ⟨⟨⟨hw1, hw2⟩, ⟨hh1, hh2⟩, ⟨hr1, hr2⟩, ⟨by omega, by omega⟩, ⟨by omega, by omega⟩, by omega, by omega, by omega, by omega⟩, hB, hH, hD, hR, hU, hQ1, hL, Or.inr ⟨S1.1, S1.2.1, Or.inr ⟨j, l, rfl, by omega, a2, hl, hi.1, hi.2⟩⟩⟩)
      (fun post hp => xsk f (ql + 1) hc (by omega) (by omega) (eh_L hH) hf (fun h => absurd (h.symm.trans hef) (by simp)) (fun m' s' h => by
        obtain ⟨rfl, rfl⟩ := Prod.mk.inj (Option.some.inj (hef.symm.trans h))
        exact hp) rfl)
      (fun post hp => yff f (ql + 1) hc (by omega) (by omega) (eh_M hH) hf (by rw [hs]; exact br_t (nI_pos' (n := j) (by omega)) (nm_r (nI_1 ql) (yoc j (ql + 1) l hc (by omega) (by omega) hl (by omega) a2 (by rw [hj.2]; exact hp)))) rfl)
theorem s_grow (C : eC w hh rr n k hc nav dn kc y ud mo la ql p m B H HL D R RL U UL UK Q B' H' HL' D' R' RL' U' UL' UK' Q') (P : eP w n k mo ql p m B H HL Q dl dc DS SC) (S1 : mo = 1 ∧ la = 0 ∧ ((m = -1 ∧ ql = 0) ∨ ∃ i l, m = nI i ∧ i < hc ∧ HL' i = nI l ∧ l ≤ 32 ∧ p + ql ≤ l ∧ ex H' Q' (i * 32 + p) ql)) {c : Int32} (c1 : ¬ c < 32) (c2 : ¬ 126 < c) : eO (fun post => wpX_searchKey post (nI w, nI hh, nI rr, nI n, nI k, nI hc, nI nav, nI dn, nI kc, nI y, nI ud, nI mo, nI la, ac, nI ql, m, nI p, nI dl, nI dc, nI (dc / w), nI (dc % w), B, H, HL, D, R, RL, U, UL, UK, Q, DS, SC) c) (fun post => wpY_searchKey post (nI w, nI hh, nI rr, nI n, nI k, nI hc, nI nav, nI dn, nI kc, nI ud, nI la, nI y, nI mo, nI ql, nI p, ac, m, B', H', HL', D', R', RL', U', UL', UK', Q') c) := by
  obtain ⟨⟨⟨hw1, hw2⟩, ⟨hh1, hh2⟩, ⟨hr1, hr2⟩, ⟨hn, hk⟩, ⟨hhc, hnav⟩, hdn, hkc, hud, hql⟩, hB, hH, hD, hR, hU, hQ, hL, hS⟩ := id C
  have cp : ¬ c < 0 := en_ge (Int32.not_lt.mp c1) (by decide)
  by_cases c3 : ql = 16
  · subst c3
    exact eO_0 (nI w, nI hh, nI rr, nI n, nI k, nI hc, nI nav, nI dn, nI kc, nI y, nI ud, nI mo, nI la, ac, nI 16, m, nI p, nI dl, nI dc, nI (dc / w), nI (dc % w), B, H, HL, D, R, RL, U, UL, UK, Q, DS, SC) (nI w, nI hh, nI rr, nI n, nI k, nI hc, nI nav, nI dn, nI kc, nI ud, nI la, nI y, nI mo, nI 16, nI p, ac, m, B', H', HL', D', R', RL', U', UL', UK', Q') (e_I C P) (fun post hp => by unfold wpX_searchKey; exact xp_t c1 c2 (br_f (by decide) (en_lt 16 16 (by omega) hp))) (fun post hp => br_f c1 (br_f c2 (ey_eq 16 16 rfl hp)))
  · rcases S1.2.2 with ⟨rfl, h0⟩ | ⟨i, l, rfl, hi, hly, hl, hpl, hx⟩
    · refine eO_n (s_41 (ac := ac) C P S1 cp (by omega) (f := hc) (Nat.le_refl _)) (fun post r u hq hp => ?_) (fun post r v hq hp => ?_)
      · obtain ⟨f_width, f_historyCap, f_ringCap, f_length, f_cursor, f_historyCount, f_nav, f_draftLength, f_ringCount, f_yankIndex, f_undoDepth, f_mode, f_last, f_accepted, f_queryLength, f_match, f_matchStart, f_displayLength, f_displayCursor, f_terminalRow, f_terminalCol, a_buffer, a_history, a_historyLengths, a_draft, a_ring, a_ringLengths, a_undoTexts, a_undoLengths, a_undoCursors, a_query, a_display, a_screen⟩ := u
        unfold wpX_searchKey
        exact xp_t c1 c2 (br_f (by decide) (ey_lt ql 16 (by omega) ⟨en_in ql (by omega), nm_r (en_u ql) (br_t (by decide) (hq _ hp))⟩))
      · obtain ⟨g_w, g_hh, g_rr, g_n, g_k, g_hc, g_nav, g_dn, g_kc, g_ud, g_last, g_y, g_mode, g_ql, g_p, g_accepted, g_m, b_buf, b_hist, b_histL, b_draft, b_ring, b_ringL, b_und, b_undL, b_undK, b_q⟩ := v
        exact br_f c1 (br_f c2 (en_eq ql 16 c3 ⟨en_in ql (by omega), nm_r (en_u ql) (br_t (by decide) (hq _ hp))⟩))
    · have h41 := s_41 (ac := ac) C P S1 cp (by omega) (f := i + 1) (by omega)
      rw [nI_pred] at h41
      refine eO_n h41 (fun post r u hq hp => ?_) (fun post r v hq hp => ?_)
      · obtain ⟨f_width, f_historyCap, f_ringCap, f_length, f_cursor, f_historyCount, f_nav, f_draftLength, f_ringCount, f_yankIndex, f_undoDepth, f_mode, f_last, f_accepted, f_queryLength, f_match, f_matchStart, f_displayLength, f_displayCursor, f_terminalRow, f_terminalCol, a_buffer, a_history, a_historyLengths, a_draft, a_ring, a_ringLengths, a_undoTexts, a_undoLengths, a_undoCursors, a_query, a_display, a_screen⟩ := u
        unfold wpX_searchKey
        exact xp_t c1 c2 (br_f (by decide) (ey_lt ql 16 (by omega) ⟨en_in ql (by omega), nm_r (en_u ql) (br_f (nI_pos (by omega)) (hq _ hp))⟩))
      · obtain ⟨g_w, g_hh, g_rr, g_n, g_k, g_hc, g_nav, g_dn, g_kc, g_ud, g_last, g_y, g_mode, g_ql, g_p, g_accepted, g_m, b_buf, b_hist, b_histL, b_draft, b_ring, b_ringL, b_und, b_undL, b_undK, b_q⟩ := v
        exact br_f c1 (br_f c2 (en_eq ql 16 c3 ⟨en_in ql (by omega), nm_r (en_u ql) (br_f (nI_pos (by omega)) (hq _ hp))⟩))
theorem e_srch (C : eC w hh rr n k hc nav dn kc y ud mo la ql p m B H HL D R RL U UL UK Q B' H' HL' D' R' RL' U' UL' UK' Q') (P : eP w n k mo ql p m B H HL Q dl dc DS SC) (S1 : mo = 1 ∧ la = 0 ∧ ((m = -1 ∧ ql = 0) ∨ ∃ i l, m = nI i ∧ i < hc ∧ HL' i = nI l ∧ l ≤ 32 ∧ p + ql ≤ l ∧ ex H' Q' (i * 32 + p) ql)) (c : Int32) : eO (fun post => wpX_searchKey post (nI w, nI hh, nI rr, nI n, nI k, nI hc, nI nav, nI dn, nI kc, nI y, nI ud, nI mo, nI la, ac, nI ql, m, nI p, nI dl, nI dc, nI (dc / w), nI (dc % w), B, H, HL, D, R, RL, U, UL, UK, Q, DS, SC) c) (fun post => wpY_searchKey post (nI w, nI hh, nI rr, nI n, nI k, nI hc, nI nav, nI dn, nI kc, nI ud, nI la, nI y, nI mo, nI ql, nI p, ac, m, B', H', HL', D', R', RL', U', UL', UK', Q') c) := by
  by_cases c0 : c < 32 ∨ 126 < c
  · by_cases n7 : c = 7
    · subst n7; exact s_cancel C P S1
    by_cases n8 : c = 8
    · subst n8; exact s_back C P S1
    by_cases n13 : c = 13
    · subst n13; exact s_enter C P S1
    by_cases n18 : c = 18
    · subst n18; exact s_older C P S1
    refine eO_0 (nI w, nI hh, nI rr, nI n, nI k, nI hc, nI nav, nI dn, nI kc, nI y, nI ud, nI mo, nI la, ac, nI ql, m, nI p, nI dl, nI dc, nI (dc / w), nI (dc % w), B, H, HL, D, R, RL, U, UL, UK, Q, DS, SC) (nI w, nI hh, nI rr, nI n, nI k, nI hc, nI nav, nI dn, nI kc, nI ud, nI la, nI y, nI mo, nI ql, nI p, ac, m, B', H', HL', D', R', RL', U', UL', UK', Q') (e_I C P) (fun post hp => ?_) (fun post hp => ?_)
    · unfold wpX_searchKey
      exact xp_f c0 (br_t rfl (br_f n7 (br_f n8 (br_f n13 (br_f n18 hp)))))
    · have q : wY_searchKey_100 post c (nI w) (nI hh) (nI rr) (nI n) (nI k) (nI hc) (nI nav) (nI dn) (nI kc) (nI ud) (nI la) (nI y) (nI mo) (nI ql) (nI p) ac m B' H' HL' D' R' RL' U' UL' UK' Q' := br_f n18 (br_f n8 (br_f n13 (br_f n7 hp)))
      by_cases d : c < 32
      · exact br_t d q
      · exact br_f d (br_t (c0.resolve_left d) q)
  · exact s_grow C P S1 (fun z => c0 (Or.inl z)) (fun z => c0 (Or.inr z))
end
end
section
/-! X: key and the constructor -/
section
variable {w hh rr n k hc nav dn kc y ud mo la ql p dl dc : Nat} {m ac xdl xdc xtr xtc : Int32} {B H HL D R RL U UL UK Q DS SC B' H' HL' D' R' RL' U' UL' UK' Q' : Nat → Int32}
theorem e_ref {u : SX} {v : SY} (h : eK u v) : ∃ u' : SX, i_Rel 0 u' v ∧ ∀ post : SX → Prop, post u' → wpX_refresh post u := by
  obtain ⟨w, hh, rr, n, k, hc, nav, dn, kc, y, ud, mo, la, ql, p, m, ac, xdl, xdc, xtr, xtc, B, H, HL, D, R, RL, U, UL, UK, Q, DS0, SC0, B', H', HL', D', R', RL', U', UL', UK', Q', rfl, rfl, C⟩ := h
  obtain ⟨⟨⟨hw1, hw2⟩, ⟨hh1, hh2⟩, ⟨hr1, hr2⟩, ⟨hn, hk⟩, ⟨hhc, hnav⟩, hdn, hkc, hud, hql⟩, hB, hH, hD, hR, hU, hQ, hL, hS⟩ := id C
  have hm : mo = 0 ∨ (mo = 1 ∧ (m = -1 ∨ ∃ i l, m = nI i ∧ i < 8 ∧ l ≤ 32 ∧ HL i = nI l ∧ p ≤ l)) := by
    rcases hS with ⟨h0, _, _⟩ | ⟨h0, _, ⟨h1, _⟩ | ⟨i, l, h1, hi, a, hl, hpl, _⟩⟩
    · exact Or.inl h0
    · exact Or.inr ⟨h0, Or.inl h1⟩
    · obtain ⟨l2, hl2, a1, a2, _⟩ := hH i hi
      obtain rfl : l2 = l := (nI_eq (by omega) (by omega)).mp (a2.symm.trans a)
      exact Or.inr ⟨h0, Or.inr ⟨i, l2, h1, by omega, hl2, a1, by omega⟩⟩
  obtain ⟨dl, dc, DS, SC, P, hx⟩ := xrf (f_historyCap := nI hh) (f_ringCap := nI rr) (f_historyCount := nI hc) (f_nav := nI nav) (f_draftLength := nI dn) (f_ringCount := nI kc) (f_yankIndex := nI y) (f_undoDepth := nI ud) (f_last := nI la) (f_accepted := ac) (f_displayLength := xdl) (f_displayCursor := xdc) (f_terminalRow := xtr) (f_terminalCol := xtc) (a_buffer := B) (a_history := H) (a_historyLengths := HL) (a_draft := D) (a_ring := R) (a_ringLengths := RL) (a_undoTexts := U) (a_undoLengths := UL) (a_undoCursors := UK) (a_query := Q) (a_display := DS0) (a_screen := SC0) hw1 hw2 hn hk hql hm
  exact ⟨(nI w, nI hh, nI rr, nI n, nI k, nI hc, nI nav, nI dn, nI kc, nI y, nI ud, nI mo, nI la, ac, nI ql, m, nI p, nI dl, nI dc, nI (dc / w), nI (dc % w), B, H, HL, D, R, RL, U, UL, UK, Q, DS, SC), e_I C P, hx⟩
end
theorem i_vc_key {k : Nat} {u : SX} {v : SY} (I : i_Rel k u v) (hk : k + 3 ≤ 1539) (v1 : Int32) : wpX_key (fun r u' => wpY_key (fun r' v' => r' = r ∧ i_Rel (k + 3) u' v') v v1) u v1 := by
  obtain ⟨w, hh, rr, n, k9, hc, nav, dn, kc, y, ud, mo, la, ql, p, dl, dc, m, ac, B, H, HL, D, R, RL, U, UL, UK, Q, DS, SC, B', H', HL', D', R', RL', U', UL', UK', Q', rfl, rfl, C, P⟩ := I
  rcases C.2.2.2.2.2.2.2.2 with S | S
  · obtain ⟨r, u2, v2, g, hx, hy⟩ := e_edit (ac := ac) C P S v1
    obtain ⟨f_width, f_historyCap, f_ringCap, f_length, f_cursor, f_historyCount, f_nav, f_draftLength, f_ringCount, f_yankIndex, f_undoDepth, f_mode, f_last, f_accepted, f_queryLength, f_match, f_matchStart, f_displayLength, f_displayCursor, f_terminalRow, f_terminalCol, a_buffer, a_history, a_historyLengths, a_draft, a_ring, a_ringLengths, a_undoTexts, a_undoLengths, a_undoCursors, a_query, a_display, a_screen⟩ := u2
    obtain ⟨g_w, g_hh, g_rr, g_n, g_k, g_hc, g_nav, g_dn, g_kc, g_ud, g_last, g_y, g_mode, g_ql, g_p, g_accepted, g_m, b_buf, b_hist, b_histL, b_draft, b_ring, b_ringL, b_und, b_undL, b_undK, b_q⟩ := v2
    have hm : mo ≠ 1 := by omega
    have hm0 : mo < 2 := by omega
    refine en_eq mo 1 hm (hx _ ?_)
    rcases g with ⟨rfl, gK⟩ | ⟨rfl, gI⟩
    · obtain ⟨u3, gI, hr⟩ := e_ref gK
      refine br_t rfl (hr _ ?_)
      obtain ⟨f_width, f_historyCap, f_ringCap, f_length, f_cursor, f_historyCount, f_nav, f_draftLength, f_ringCount, f_yankIndex, f_undoDepth, f_mode, f_last, f_accepted, f_queryLength, f_match, f_matchStart, f_displayLength, f_displayCursor, f_terminalRow, f_terminalCol, a_buffer, a_history, a_historyLengths, a_draft, a_ring, a_ringLengths, a_undoTexts, a_undoLengths, a_undoCursors, a_query, a_display, a_screen⟩ := u3
      exact en_eq mo 1 hm (hy _ ⟨rfl, gI⟩)
    · exact br_f (by decide) (en_eq mo 1 hm (hy _ ⟨rfl, gI⟩))
  · obtain ⟨r, u2, v2, g, hx, hy⟩ := e_srch (ac := ac) C P S v1
    obtain ⟨f_width, f_historyCap, f_ringCap, f_length, f_cursor, f_historyCount, f_nav, f_draftLength, f_ringCount, f_yankIndex, f_undoDepth, f_mode, f_last, f_accepted, f_queryLength, f_match, f_matchStart, f_displayLength, f_displayCursor, f_terminalRow, f_terminalCol, a_buffer, a_history, a_historyLengths, a_draft, a_ring, a_ringLengths, a_undoTexts, a_undoLengths, a_undoCursors, a_query, a_display, a_screen⟩ := u2
    obtain ⟨g_w, g_hh, g_rr, g_n, g_k, g_hc, g_nav, g_dn, g_kc, g_ud, g_last, g_y, g_mode, g_ql, g_p, g_accepted, g_m, b_buf, b_hist, b_histL, b_draft, b_ring, b_ringL, b_und, b_undL, b_undK, b_q⟩ := v2
    have hm : mo = 1 := S.1
    refine ey_eq mo 1 hm (hx _ ?_)
    rcases g with ⟨rfl, gK⟩ | ⟨rfl, gI⟩
    · obtain ⟨u3, gI, hr⟩ := e_ref gK
      refine br_t rfl (hr _ ?_)
      obtain ⟨f_width, f_historyCap, f_ringCap, f_length, f_cursor, f_historyCount, f_nav, f_draftLength, f_ringCount, f_yankIndex, f_undoDepth, f_mode, f_last, f_accepted, f_queryLength, f_match, f_matchStart, f_displayLength, f_displayCursor, f_terminalRow, f_terminalCol, a_buffer, a_history, a_historyLengths, a_draft, a_ring, a_ringLengths, a_undoTexts, a_undoLengths, a_undoCursors, a_query, a_display, a_screen⟩ := u3
      exact ey_eq mo 1 hm (hy _ ⟨rfl, gI⟩)
    · exact br_f (by decide) (ey_eq mo 1 hm (hy _ ⟨rfl, gI⟩))
theorem e_cl (lo hi : Nat) (h : lo ≤ hi) (hb : hi < 2 ^ 31) (x : Int32) : ∃ j, lo ≤ j ∧ j ≤ hi ∧ ∀ A : Int32 → Prop, A (nI j) → ((nI lo ≤ x → ((x ≤ nI hi → A x) ∧ (¬ x ≤ nI hi → A (nI hi)))) ∧ (¬ nI lo ≤ x → A (nI lo))) := by
  by_cases c : nI lo ≤ x
  · by_cases c2 : x ≤ nI hi
    · obtain ⟨j, hj, rfl⟩ := nI_of (x := x) (en_ge c (nI_pos' (by omega)))
      exact ⟨j, (nI_leI (by omega) hj).mp c, (nI_leI hj hb).mp c2, fun A hA => br_t c (br_t c2 hA)⟩
    · exact ⟨hi, h, Nat.le_refl _, fun A hA => br_t c (br_f c2 hA)⟩
  · exact ⟨lo, Nat.le_refl _, h, fun A hA => br_f c hA⟩
theorem i_vc0 (k0 : Int32) (k1 : Int32) (k2 : Int32) : wpX_init (fun u => wpY_init (fun v => i_Rel 3 u v) k0 k1 k2) k0 k1 k2 := by
  obtain ⟨w, w1, w2, hw⟩ := e_cl 4 16 (by omega) (by omega) k0
  obtain ⟨hh, h1, h2, hhh⟩ := e_cl 1 8 (by omega) (by omega) k1
  obtain ⟨rr, r1, r2, hrr⟩ := e_cl 1 4 (by omega) (by omega) k2
  obtain ⟨u, gI, hr⟩ := e_ref (e_K (w := w) (hh := hh) (rr := rr) (n := 0) (k := 0) (hc := 0) (nav := 0) (dn := 0) (kc := 0) (y := 0) (ud := 0) (mo := 0) (la := 0) (ql := 0) (p := 0) (m := -1) (ac := 0) (xdl := 0) (xdc := 0) (xtr := 0) (xtc := 0) (B := fun _ => 0) (H := fun _ => 0) (HL := fun _ => 0) (D := fun _ => 0) (R := fun _ => 0) (RL := fun _ => 0) (U := fun _ => 0) (UL := fun _ => 0) (UK := fun _ => 0) (Q := fun _ => 0) (DS := fun _ => 0) (SC := fun _ => 0) (B' := fun _ => 0) (H' := fun _ => 0) (HL' := fun _ => 0) (D' := fun _ => 0) (R' := fun _ => 0) (RL' := fun _ => 0) (U' := fun _ => 0) (UL' := fun _ => 0) (UK' := fun _ => 0) (Q' := fun _ => 0) ⟨⟨⟨w1, w2⟩, ⟨h1, h2⟩, ⟨r1, r2⟩, ⟨by omega, by omega⟩, ⟨by omega, by omega⟩, by omega, by omega, by omega, by omega⟩, eg_0, eh_0, eg_0, ej_0, eu_0, eg_0, eL_0, Or.inl ⟨rfl, rfl, rfl⟩⟩)
  obtain ⟨f_width, f_historyCap, f_ringCap, f_length, f_cursor, f_historyCount, f_nav, f_draftLength, f_ringCount, f_yankIndex, f_undoDepth, f_mode, f_last, f_accepted, f_queryLength, f_match, f_matchStart, f_displayLength, f_displayCursor, f_terminalRow, f_terminalCol, a_buffer, a_history, a_historyLengths, a_draft, a_ring, a_ringLengths, a_undoTexts, a_undoLengths, a_undoCursors, a_query, a_display, a_screen⟩ := u
  have cw : ∀ A : Int32 → Prop, A (nI w) → wpX_clamp A k0 4 16 := hw
  have ch : ∀ A : Int32 → Prop, A (nI hh) → wpX_clamp A k1 1 8 := hhh
  have cr : ∀ A : Int32 → Prop, A (nI rr) → wpX_clamp A k2 1 4 := hrr
  have yy : wpY_init (fun v => i_Rel 3 (f_width, f_historyCap, f_ringCap, f_length, f_cursor, f_historyCount, f_nav, f_draftLength, f_ringCount, f_yankIndex, f_undoDepth, f_mode, f_last, f_accepted, f_queryLength, f_match, f_matchStart, f_displayLength, f_displayCursor, f_terminalRow, f_terminalCol, a_buffer, a_history, a_historyLengths, a_draft, a_ring, a_ringLengths, a_undoTexts, a_undoLengths, a_undoCursors, a_query, a_display, a_screen) v) k0 k1 k2 := by
    refine hw (fun z => wY_init_113 (fun v => i_Rel 3 (f_width, f_historyCap, f_ringCap, f_length, f_cursor, f_historyCount, f_nav, f_draftLength, f_ringCount, f_yankIndex, f_undoDepth, f_mode, f_last, f_accepted, f_queryLength, f_match, f_matchStart, f_displayLength, f_displayCursor, f_terminalRow, f_terminalCol, a_buffer, a_history, a_historyLengths, a_draft, a_ring, a_ringLengths, a_undoTexts, a_undoLengths, a_undoCursors, a_query, a_display, a_screen) v) k1 k2 z 0 0 0 0 0 0 0 0 0 0 0 0 0 0 0 0 (-1) (fun _ => 0) (fun _ => 0) (fun _ => 0) (fun _ => 0) (fun _ => 0) (fun _ => 0) (fun _ => 0) (fun _ => 0) (fun _ => 0) (fun _ => 0)) ?_
    refine hhh (fun z => wY_init_138 (fun v => i_Rel 3 (f_width, f_historyCap, f_ringCap, f_length, f_cursor, f_historyCount, f_nav, f_draftLength, f_ringCount, f_yankIndex, f_undoDepth, f_mode, f_last, f_accepted, f_queryLength, f_match, f_matchStart, f_displayLength, f_displayCursor, f_terminalRow, f_terminalCol, a_buffer, a_history, a_historyLengths, a_draft, a_ring, a_ringLengths, a_undoTexts, a_undoLengths, a_undoCursors, a_query, a_display, a_screen) v) k2 z (nI w) 0 0 0 0 0 0 0 0 0 0 0 0 0 0 0 (-1) (fun _ => 0) (fun _ => 0) (fun _ => 0) (fun _ => 0) (fun _ => 0) (fun _ => 0) (fun _ => 0) (fun _ => 0) (fun _ => 0) (fun _ => 0)) ?_
    exact hrr (fun z => i_Rel 3 (f_width, f_historyCap, f_ringCap, f_length, f_cursor, f_historyCount, f_nav, f_draftLength, f_ringCount, f_yankIndex, f_undoDepth, f_mode, f_last, f_accepted, f_queryLength, f_match, f_matchStart, f_displayLength, f_displayCursor, f_terminalRow, f_terminalCol, a_buffer, a_history, a_historyLengths, a_draft, a_ring, a_ringLengths, a_undoTexts, a_undoLengths, a_undoCursors, a_query, a_display, a_screen) (nI w, nI hh, z, 0, 0, 0, 0, 0, 0, 0, 0, 0, 0, 0, 0, 0, (-1), (fun _ => 0), (fun _ => 0), (fun _ => 0), (fun _ => 0), (fun _ => 0), (fun _ => 0), (fun _ => 0), (fun _ => 0), (fun _ => 0), (fun _ => 0))) gI
  unfold wpX_init
  refine cw _ ?_
  refine ch _ ?_
  refine cr _ ?_
  exact hr _ yy
end
section
/-! Y: the answers -/
theorem en_ix {r c w : Nat} (hr : r < 16) (hc : c < w) : r * w + c < 16 * w := by
  have h := Nat.mul_le_mul_right w (show r + 1 ≤ 16 by omega)
  rw [Nat.succ_mul] at h
  omega
section
variable {w hh rr n k hc nav dn kc y ud mo la ql p dl dc : Nat} {m ac xdl xdc xtr xtc : Int32} {B H HL D R RL U UL UK Q DS SC B' H' HL' D' R' RL' U' UL' UK' Q' : Nat → Int32}
/-- the display as both sides have it -/
theorem e_view (C : eC w hh rr n k hc nav dn kc y ud mo la ql p m B H HL D R RL U UL UK Q B' H' HL' D' R' RL' U' UL' UK' Q') (P : eP w n k mo ql p m B H HL Q dl dc DS SC) : (mo = 0 ∧ dl = 2 + n ∧ dc = 2 + k ∧ DS 0 = 62 ∧ DS 1 = 32 ∧ ∀ j, j < n → DS (2 + j) = B' j ∧ ¬ B' j < 0) ∨
    (mo = 1 ∧ DS 0 = 63 ∧ (∀ j, j < ql → DS (1 + j) = Q' j ∧ ¬ Q' j < 0) ∧ DS (1 + ql) = 58 ∧ DS (2 + ql) = 32 ∧
      ((m = -1 ∧ dl = 3 + ql + n ∧ dc = 3 + ql + k ∧ ∀ j, j < n → DS (3 + ql + j) = B' j ∧ ¬ B' j < 0) ∨
       ∃ i l, m = nI i ∧ i < 8 ∧ l ≤ 32 ∧ HL' i = nI l ∧ dl = 3 + ql + l ∧ dc = 3 + ql + p ∧ ∀ j, j < l → DS (3 + ql + j) = H' (i * 32 + j) ∧ ¬ H' (i * 32 + j) < 0)) := by
  obtain ⟨⟨⟨hw1, hw2⟩, ⟨hh1, hh2⟩, ⟨hr1, hr2⟩, ⟨hn, hk⟩, ⟨hhc, hnav⟩, hdn, hkc, hud, hql⟩, hB, hH, hD, hR, hU, hQ, hL, hS⟩ := id C
  obtain ⟨_, _, _, ⟨e, b1, b2, b3, b4, b5⟩ | ⟨e, b1, b2, b3, b4, h⟩⟩ := P
  · exact Or.inl ⟨e, b1, b2, b3, b4, fun j hj => ⟨(b5 j hj).trans (eg_at hB hj).1, (eg_at hB hj).2⟩⟩
  · refine Or.inr ⟨e, b1, fun j hj => ⟨(b2 j hj).trans (eg_at hQ hj).1, (eg_at hQ hj).2⟩, b3, b4, ?_⟩
    rcases h with ⟨f1, f2, f3, f4⟩ | ⟨i, l, f1, f2, f3, f4, f5, f6, f7⟩
    · exact Or.inl ⟨f1, f2, f3, fun j hj => ⟨(f4 j hj).trans (eg_at hB hj).1, (eg_at hB hj).2⟩⟩
    · refine Or.inr ⟨i, l, f1, f2, f3, ?_⟩
      have hi : i < hc := by
        rcases hS with ⟨h0, _, _⟩ | ⟨_, _, ⟨h1, _⟩ | ⟨i2, l2, h1, h2, _⟩⟩
        · omega
        · exact absurd (f1.symm.trans h1) (fun z => absurd (z ▸ nI_pos (n := i) (by omega)) (by decide))
        · have := (nI_eq (by omega) (by omega)).mp (f1.symm.trans h1)
          omega
      obtain ⟨l3, hl3, a1, a2, hg⟩ := hH i hi
      obtain rfl : l3 = l := (nI_eq (by omega) (by omega)).mp (a1.symm.trans f4)
      exact ⟨a2, f5, f6, fun j hj => ⟨(f7 j hj).trans (hg j hj).1, (hg j hj).2⟩⟩
theorem y_dl {post : Int32 → Prop} (C : eC w hh rr n k hc nav dn kc y ud mo la ql p m B H HL D R RL U UL UK Q B' H' HL' D' R' RL' U' UL' UK' Q') (P : eP w n k mo ql p m B H HL Q dl dc DS SC) (h : post (nI dl)) : wpY_dispLen post (nI w, nI hh, nI rr, nI n, nI k, nI hc, nI nav, nI dn, nI kc, nI ud, nI la, nI y, nI mo, nI ql, nI p, ac, m, B', H', HL', D', R', RL', U', UL', UK', Q') := by
  obtain ⟨⟨⟨hw1, hw2⟩, ⟨hh1, hh2⟩, ⟨hr1, hr2⟩, ⟨hn, hk⟩, ⟨hhc, hnav⟩, hdn, hkc, hud, hql⟩, hB, hH, hD, hR, hU, hQ, hL, hS⟩ := id C
  rcases e_view C P with ⟨rfl, e1, _⟩ | ⟨rfl, _, _, _, _, ⟨rfl, e1, _⟩ | ⟨i, l, rfl, hi, hl, a, e1, _⟩⟩
  · have e : 2 + nI n = nI dl := by rw [en_a2, e1]
    rw [← e] at h
    exact ey_eq 0 0 rfl h
  · have e : (3 + nI ql) + nI n = nI dl := by rw [en_a3, nI_add, e1]
    rw [← e] at h
    exact en_eq 1 0 (by omega) (br_t (by decide) h)
  · have e : (3 + nI ql) + HL' (nI i).toNatClampNeg = nI dl := by rw [nI_clamp (by omega), a, en_a3, nI_add, e1]
    rw [← e] at h
    exact en_eq 1 0 (by omega) (br_f (nI_pos (by omega)) ⟨en_in i hi, h⟩)
theorem y_dc {post : Int32 → Prop} (C : eC w hh rr n k hc nav dn kc y ud mo la ql p m B H HL D R RL U UL UK Q B' H' HL' D' R' RL' U' UL' UK' Q') (P : eP w n k mo ql p m B H HL Q dl dc DS SC) (h : post (nI dc)) : wpY_dispCursor post (nI w, nI hh, nI rr, nI n, nI k, nI hc, nI nav, nI dn, nI kc, nI ud, nI la, nI y, nI mo, nI ql, nI p, ac, m, B', H', HL', D', R', RL', U', UL', UK', Q') := by
  obtain ⟨⟨⟨hw1, hw2⟩, ⟨hh1, hh2⟩, ⟨hr1, hr2⟩, ⟨hn, hk⟩, ⟨hhc, hnav⟩, hdn, hkc, hud, hql⟩, hB, hH, hD, hR, hU, hQ, hL, hS⟩ := id C
  rcases e_view C P with ⟨rfl, _, e1, _⟩ | ⟨rfl, _, _, _, _, ⟨rfl, _, e1, _⟩ | ⟨i, l, rfl, hi, hl, a, _, e1, _⟩⟩
  · have e : 2 + nI k = nI dc := by rw [en_a2, e1]
    rw [← e] at h
    exact ey_eq 0 0 rfl h
  · have e : (3 + nI ql) + nI k = nI dc := by rw [en_a3, nI_add, e1]
    rw [← e] at h
    exact en_eq 1 0 (by omega) (br_t (by decide) h)
  · have e : (3 + nI ql) + nI p = nI dc := by rw [en_a3, nI_add, e1]
    rw [← e] at h
    exact en_eq 1 0 (by omega) (br_f (nI_pos (by omega)) h)
theorem y_dno {post : Int32 → Prop} (C : eC w hh rr n k hc nav dn kc y ud mo la ql p m B H HL D R RL U UL UK Q B' H' HL' D' R' RL' U' UL' UK' Q') (P : eP w n k mo ql p m B H HL Q dl dc DS SC) {x : Int32} (hx : x < 0 ∨ nI dl ≤ x) (h : post (-1)) : wpY_displayChar post (nI w, nI hh, nI rr, nI n, nI k, nI hc, nI nav, nI dn, nI kc, nI ud, nI la, nI y, nI mo, nI ql, nI p, ac, m, B', H', HL', D', R', RL', U', UL', UK', Q') x := by
  by_cases c : x < 0
  · exact br_t c h
  · exact br_f c (y_dl C P (br_f (fun z => (Int32.not_lt.mpr (hx.resolve_left c)) z) h))
theorem y_din (C : eC w hh rr n k hc nav dn kc y ud mo la ql p m B H HL D R RL U UL UK Q B' H' HL' D' R' RL' U' UL' UK' Q') (P : eP w n k mo ql p m B H HL Q dl dc DS SC) {i : Nat} (hi : i < dl) : ¬ DS i < 0 ∧ ∀ post : Int32 → Prop, post (DS i) → wpY_displayChar post (nI w, nI hh, nI rr, nI n, nI k, nI hc, nI nav, nI dn, nI kc, nI ud, nI la, nI y, nI mo, nI ql, nI p, ac, m, B', H', HL', D', R', RL', U', UL', UK', Q') (nI i) := by
  obtain ⟨⟨⟨hw1, hw2⟩, ⟨hh1, hh2⟩, ⟨hr1, hr2⟩, ⟨hn, hk⟩, ⟨hhc, hnav⟩, hdn, hkc, hud, hql⟩, hB, hH, hD, hR, hU, hQ, hL, hS⟩ := id C
  have hdl : dl ≤ 51 := P.1
  rcases e_view C P with ⟨rfl, e1, _, b0, b1, b2⟩ | ⟨rfl, b0, b1, b2, b3, hT⟩
  · by_cases c0 : i = 0
    · subst c0
      exact ⟨by rw [b0]; decide, fun post h => br_f (nI_pos (by omega)) (y_dl C P (ey_lt 0 dl hi (ey_eq 0 0 rfl (ey_eq 0 0 rfl (by rw [b0] at h; exact h)))))⟩
    · by_cases c1 : i = 1
      · subst c1
        exact ⟨by rw [b1]; decide, fun post h => br_f (nI_pos (by omega)) (y_dl C P (ey_lt 1 dl hi (ey_eq 0 0 rfl (en_eq 1 0 (by omega) (ey_eq 1 1 rfl (by rw [b1] at h; exact h))))))⟩
      · obtain ⟨j, rfl⟩ : ∃ j, i = 2 + j := ⟨i - 2, by omega⟩
        have hb := b2 j (by omega)
        have e : nI (2 + j) - 2 = nI j := by rw [en_s2 (by omega)]; exact congrArg nI (by omega)
        exact ⟨by rw [hb.1]; exact hb.2, fun post h => br_f (nI_pos (by omega)) (y_dl C P (ey_lt (2 + j) dl hi (ey_eq 0 0 rfl (en_eq (2 + j) 0 (by omega) (en_eq (2 + j) 1 (by omega) ⟨en_in j (by omega) e, by rw [e, nI_clamp (by omega), ← hb.1]; exact h⟩)))))⟩
  · by_cases c0 : i = 0
    · subst c0
      exact ⟨by rw [b0]; decide, fun post h => br_f (nI_pos (by omega)) (y_dl C P (ey_lt 0 dl hi (en_eq 1 0 (by omega) (ey_eq 0 0 rfl (by rw [b0] at h; exact h)))))⟩
    · by_cases c1 : i ≤ ql
      · obtain ⟨j, rfl⟩ : ∃ j, i = 1 + j := ⟨i - 1, by omega⟩
        have hb := b1 j (by omega)
        have e : nI (1 + j) - 1 = nI j := by rw [en_s1 (by omega)]; exact congrArg nI (by omega)
        exact ⟨by rw [hb.1]; exact hb.2, fun post h => br_f (nI_pos (by omega)) (y_dl C P (ey_lt (1 + j) dl hi (en_eq 1 0 (by omega) (en_eq (1 + j) 0 (by omega) (en_lt ql (1 + j) c1 ⟨en_in j (by omega) e, by rw [e, nI_clamp (by omega), ← hb.1]; exact h⟩)))))⟩
      · by_cases c2 : i = 1 + ql
        · subst c2
          exact ⟨by rw [b2]; decide, fun post h => br_f (nI_pos (by omega)) (y_dl C P (ey_lt (1 + ql) dl hi (en_eq 1 0 (by omega) (en_eq (1 + ql) 0 (by omega) (ey_lt ql (1 + ql) (by omega) (ey_eq (1 + ql) (ql + 1) (by omega) (by rw [b2] at h; exact h)))))))⟩
        · by_cases c3 : i = 2 + ql
          · subst c3
            exact ⟨by rw [b3]; decide, fun post h => br_f (nI_pos (by omega)) (y_dl C P (ey_lt (2 + ql) dl hi (en_eq 1 0 (by omega) (en_eq (2 + ql) 0 (by omega) (ey_lt ql (2 + ql) (by omega) (en_eq (2 + ql) (ql + 1) (by omega) (ey_eq (2 + ql) (ql + 2) (by omega) (by rw [b3] at h; exact h))))))))⟩
          · obtain ⟨j, rfl⟩ : ∃ j, i = 3 + ql + j := ⟨i - ql - 3, by omega⟩
            have e : (nI (3 + ql + j) - nI ql) - 3 = nI j := by rw [pk_sub (by omega), en_s3 (by omega)]; exact congrArg nI (by omega)
            rcases hT with ⟨rfl, e1, _, b4⟩ | ⟨i2, l, rfl, hi2, hl, a, e1, _, b4⟩
            · have hb := b4 j (by omega)
              exact ⟨by rw [hb.1]; exact hb.2, fun post h => br_f (nI_pos (by omega)) (y_dl C P (ey_lt (3 + ql + j) dl hi (en_eq 1 0 (by omega) (en_eq (3 + ql + j) 0 (by omega) (ey_lt ql (3 + ql + j) (by omega) (en_eq (3 + ql + j) (ql + 1) (by omega) (en_eq (3 + ql + j) (ql + 2) (by omega) (nm_r e (br_t (by decide) ⟨en_in j (by omega), by rw [nI_clamp (by omega), ← hb.1]; exact h⟩)))))))))⟩
            · have hb := b4 j (by omega)
              have e5 : nI i2 * 32 + nI j = nI (i2 * 32 + j) := by rw [en_32, nI_add]
              exact ⟨by rw [hb.1]; exact hb.2, fun post h => br_f (nI_pos (by omega)) (y_dl C P (ey_lt (3 + ql + j) dl hi (en_eq 1 0 (by omega) (en_eq (3 + ql + j) 0 (by omega) (ey_lt ql (3 + ql + j) (by omega) (en_eq (3 + ql + j) (ql + 1) (by omega) (en_eq (3 + ql + j) (ql + 2) (by omega) (nm_r e (br_f (nI_pos (by omega)) ⟨en_in (i2 * 32 + j) (by omega), by rw [e5, nI_clamp (by omega), ← hb.1]; exact h⟩)))))))))⟩
end
theorem i_vc_info {k : Nat} {u : SX} {v : SY} (I : i_Rel k u v) (hk : k + 3 ≤ 1539) (v1 : Int32) : wpX_info (fun r => wpY_info (fun r' => r' = r ∧ i_Rel (k + 3) u v) v v1) u v1 := by
  have I0 : i_Rel (k + 3) u v := I
  revert I0
  obtain ⟨w, hh, rr, n, k9, hc, nav, dn, kc, y, ud, mo, la, ql, p, dl, dc, m, ac, B, H, HL, D, R, RL, U, UL, UK, Q, DS, SC, B', H', HL', D', R', RL', U', UL', UK', Q', rfl, rfl, C, P⟩ := I
  intro I0
  obtain ⟨⟨⟨hw1, hw2⟩, ⟨hh1, hh2⟩, ⟨hr1, hr2⟩, ⟨hn, hk9⟩, ⟨hhc, hnav⟩, hdn, hkc, hud, hql⟩, hB, hH, hD, hR, hU, hQ, hL, hS⟩ := id C
  by_cases c0 : v1 < 0
  · exact br_t c0 (br_t c0 ⟨rfl, I0⟩)
  by_cases c15 : 15 < v1
  · exact br_f c0 (br_t c15 (br_f c0 (br_t c15 ⟨rfl, I0⟩)))
  by_cases n0 : v1 = 0
  · subst n0
    exact br_f (by decide) (br_f (by decide) (br_t rfl (br_f (by decide) (br_f (by decide) (br_t rfl (⟨rfl, I0⟩))))))
  by_cases n1 : v1 = 1
  · subst n1
    exact br_f (by decide) (br_f (by decide) (br_f (by decide) (br_t rfl (br_f (by decide) (br_f (by decide) (br_f (by decide) (br_t rfl (⟨rfl, I0⟩))))))))
  by_cases n2 : v1 = 2
  · subst n2
    exact br_f (by decide) (br_f (by decide) (br_f (by decide) (br_f (by decide) (br_t rfl (br_f (by decide) (br_f (by decide) (br_f (by decide) (br_f (by decide) (br_t rfl (⟨rfl, I0⟩))))))))))
  by_cases n3 : v1 = 3
  · subst n3
    exact br_f (by decide) (br_f (by decide) (br_f (by decide) (br_f (by decide) (br_f (by decide) (br_t rfl (br_f (by decide) (br_f (by decide) (br_f (by decide) (br_f (by decide) (br_f (by decide) (br_t rfl (⟨rfl, I0⟩))))))))))))
  by_cases n4 : v1 = 4
  · subst n4
    exact br_f (by decide) (br_f (by decide) (br_f (by decide) (br_f (by decide) (br_f (by decide) (br_f (by decide) (br_t rfl (br_f (by decide) (br_f (by decide) (br_f (by decide) (br_f (by decide) (br_f (by decide) (br_f (by decide) (br_t rfl (⟨rfl, I0⟩))))))))))))))
  by_cases n5 : v1 = 5
  · subst n5
    exact br_f (by decide) (br_f (by decide) (br_f (by decide) (br_f (by decide) (br_f (by decide) (br_f (by decide) (br_f (by decide) (br_t rfl (br_f (by decide) (br_f (by decide) (br_f (by decide) (br_f (by decide) (br_f (by decide) (br_f (by decide) (br_f (by decide) (br_t rfl (⟨rfl, I0⟩))))))))))))))))
  by_cases n6 : v1 = 6
  · subst n6
    exact br_f (by decide) (br_f (by decide) (br_f (by decide) (br_f (by decide) (br_f (by decide) (br_f (by decide) (br_f (by decide) (br_f (by decide) (br_t rfl (br_f (by decide) (br_f (by decide) (br_f (by decide) (br_f (by decide) (br_f (by decide) (br_f (by decide) (br_f (by decide) (br_f (by decide) (br_t rfl (⟨rfl, I0⟩))))))))))))))))))
  by_cases n7 : v1 = 7
  · subst n7
    exact br_f (by decide) (br_f (by decide) (br_f (by decide) (br_f (by decide) (br_f (by decide) (br_f (by decide) (br_f (by decide) (br_f (by decide) (br_f (by decide) (br_t rfl (br_f (by decide) (br_f (by decide) (br_f (by decide) (br_f (by decide) (br_f (by decide) (br_f (by decide) (br_f (by decide) (br_f (by decide) (br_f (by decide) (br_t rfl (⟨rfl, I0⟩))))))))))))))))))))
  by_cases n8 : v1 = 8
  · subst n8
    by_cases c : la = 3
    · subst c
      exact br_f (by decide) (br_f (by decide) (br_f (by decide) (br_f (by decide) (br_f (by decide) (br_f (by decide) (br_f (by decide) (br_f (by decide) (br_f (by decide) (br_f (by decide) (br_t rfl (br_t rfl (br_f (by decide) (br_f (by decide) (br_f (by decide) (br_f (by decide) (br_f (by decide) (br_f (by decide) (br_f (by decide) (br_f (by decide) (br_f (by decide) (br_f (by decide) (br_t rfl (br_t rfl ⟨rfl, I0⟩)))))))))))))))))))))))
    · have hla := hL.1
      exact br_f (by decide) (br_f (by decide) (br_f (by decide) (br_f (by decide) (br_f (by decide) (br_f (by decide) (br_f (by decide) (br_f (by decide) (br_f (by decide) (br_f (by decide) (br_t rfl (en_eq la 3 c (br_f (by decide) (br_f (by decide) (br_f (by decide) (br_f (by decide) (br_f (by decide) (br_f (by decide) (br_f (by decide) (br_f (by decide) (br_f (by decide) (br_f (by decide) (br_t rfl (en_eq la 3 c ⟨rfl, I0⟩)))))))))))))))))))))))
  by_cases n9 : v1 = 9
  · subst n9
    exact br_f (by decide) (br_f (by decide) (br_f (by decide) (br_f (by decide) (br_f (by decide) (br_f (by decide) (br_f (by decide) (br_f (by decide) (br_f (by decide) (br_f (by decide) (br_f (by decide) (br_t rfl (br_f (by decide) (br_f (by decide) (br_f (by decide) (br_f (by decide) (br_f (by decide) (br_f (by decide) (br_f (by decide) (br_f (by decide) (br_f (by decide) (br_f (by decide) (br_f (by decide) (br_t rfl (⟨rfl, I0⟩))))))))))))))))))))))))
  by_cases n10 : v1 = 10
  · subst n10
    exact br_f (by decide) (br_f (by decide) (br_f (by decide) (br_f (by decide) (br_f (by decide) (br_f (by decide) (br_f (by decide) (br_f (by decide) (br_f (by decide) (br_f (by decide) (br_f (by decide) (br_f (by decide) (br_t rfl (br_f (by decide) (br_f (by decide) (br_f (by decide) (br_f (by decide) (br_f (by decide) (br_f (by decide) (br_f (by decide) (br_f (by decide) (br_f (by decide) (br_f (by decide) (br_f (by decide) (br_f (by decide) (br_t rfl (⟨rfl, I0⟩))))))))))))))))))))))))))
  by_cases n11 : v1 = 11
  · subst n11
    exact br_f (by decide) (br_f (by decide) (br_f (by decide) (br_f (by decide) (br_f (by decide) (br_f (by decide) (br_f (by decide) (br_f (by decide) (br_f (by decide) (br_f (by decide) (br_f (by decide) (br_f (by decide) (br_f (by decide) (br_t rfl (br_f (by decide) (br_f (by decide) (br_f (by decide) (br_f (by decide) (br_f (by decide) (br_f (by decide) (br_f (by decide) (br_f (by decide) (br_f (by decide) (br_f (by decide) (br_f (by decide) (br_f (by decide) (br_f (by decide) (br_t rfl (⟨rfl, I0⟩))))))))))))))))))))))))))))
  by_cases n12 : v1 = 12
  · subst n12
    exact br_f (by decide) (br_f (by decide) (br_f (by decide) (br_f (by decide) (br_f (by decide) (br_f (by decide) (br_f (by decide) (br_f (by decide) (br_f (by decide) (br_f (by decide) (br_f (by decide) (br_f (by decide) (br_f (by decide) (br_f (by decide) (br_t rfl (br_f (by decide) (br_f (by decide) (br_f (by decide) (br_f (by decide) (br_f (by decide) (br_f (by decide) (br_f (by decide) (br_f (by decide) (br_f (by decide) (br_f (by decide) (br_f (by decide) (br_f (by decide) (br_f (by decide) (br_f (by decide) (br_t rfl (y_dl C P ⟨rfl, I0⟩))))))))))))))))))))))))))))))
  by_cases n13 : v1 = 13
  · subst n13
    exact br_f (by decide) (br_f (by decide) (br_f (by decide) (br_f (by decide) (br_f (by decide) (br_f (by decide) (br_f (by decide) (br_f (by decide) (br_f (by decide) (br_f (by decide) (br_f (by decide) (br_f (by decide) (br_f (by decide) (br_f (by decide) (br_f (by decide) (br_t rfl (br_f (by decide) (br_f (by decide) (br_f (by decide) (br_f (by decide) (br_f (by decide) (br_f (by decide) (br_f (by decide) (br_f (by decide) (br_f (by decide) (br_f (by decide) (br_f (by decide) (br_f (by decide) (br_f (by decide) (br_f (by decide) (br_f (by decide) (br_t rfl (y_dc C P ⟨rfl, I0⟩))))))))))))))))))))))))))))))))
  by_cases n14 : v1 = 14
  · subst n14
    exact br_f (by decide) (br_f (by decide) (br_f (by decide) (br_f (by decide) (br_f (by decide) (br_f (by decide) (br_f (by decide) (br_f (by decide) (br_f (by decide) (br_f (by decide) (br_f (by decide) (br_f (by decide) (br_f (by decide) (br_f (by decide) (br_f (by decide) (br_f (by decide) (br_t rfl (br_f (by decide) (br_f (by decide) (br_f (by decide) (br_f (by decide) (br_f (by decide) (br_f (by decide) (br_f (by decide) (br_f (by decide) (br_f (by decide) (br_f (by decide) (br_f (by decide) (br_f (by decide) (br_f (by decide) (br_f (by decide) (br_f (by decide) (br_f (by decide) (br_t rfl (⟨rfl, I0⟩))))))))))))))))))))))))))))))))))
  by_cases n15 : v1 = 15
  · subst n15
    exact br_f (by decide) (br_f (by decide) (br_f (by decide) (br_f (by decide) (br_f (by decide) (br_f (by decide) (br_f (by decide) (br_f (by decide) (br_f (by decide) (br_f (by decide) (br_f (by decide) (br_f (by decide) (br_f (by decide) (br_f (by decide) (br_f (by decide) (br_f (by decide) (br_f (by decide) (br_t rfl (br_f (by decide) (br_f (by decide) (br_f (by decide) (br_f (by decide) (br_f (by decide) (br_f (by decide) (br_f (by decide) (br_f (by decide) (br_f (by decide) (br_f (by decide) (br_f (by decide) (br_f (by decide) (br_f (by decide) (br_f (by decide) (br_f (by decide) (br_f (by decide) (br_f (by decide) (br_t rfl (⟨rfl, I0⟩))))))))))))))))))))))))))))))))))))
  exact br_f c0 (br_f c15 (br_f n0 (br_f n1 (br_f n2 (br_f n3 (br_f n4 (br_f n5 (br_f n6 (br_f n7 (br_f n8 (br_f n9 (br_f n10 (br_f n11 (br_f n12 (br_f n13 (br_f n14 (br_f n15 (trivial))))))))))))))))))
theorem i_vc_bufferChar {k : Nat} {u : SX} {v : SY} (I : i_Rel k u v) (hk : k + 3 ≤ 1539) (v1 : Int32) : wpX_bufferChar (fun r => wpY_bufferChar (fun r' => r' = r ∧ i_Rel (k + 3) u v) v v1) u v1 := by
  have I0 : i_Rel (k + 3) u v := I
  revert I0
  obtain ⟨w, hh, rr, n, k9, hc, nav, dn, kc, y, ud, mo, la, ql, p, dl, dc, m, ac, B, H, HL, D, R, RL, U, UL, UK, Q, DS, SC, B', H', HL', D', R', RL', U', UL', UK', Q', rfl, rfl, C, P⟩ := I
  intro I0
  obtain ⟨⟨⟨hw1, hw2⟩, ⟨hh1, hh2⟩, ⟨hr1, hr2⟩, ⟨hn, hk9⟩, ⟨hhc, hnav⟩, hdn, hkc, hud, hql⟩, hB, hH, hD, hR, hU, hQ, hL, hS⟩ := id C
  rcases pk_ix v1 (n := n) (by omega) with c | c | ⟨j, hj, rfl⟩
  · unfold wpX_bufferChar
    exact xw_f (Or.inl c) (br_t rfl (br_t c ⟨rfl, I0⟩))
  · have c0 : ¬ v1 < 0 := en_ge c (nI_pos' (by omega))
    unfold wpX_bufferChar
    exact xw_f (Or.inr c) (br_t rfl (br_f c0 (br_t c ⟨rfl, I0⟩)))
  · have e := (eg_at hB hj).1
    unfold wpX_bufferChar
    exact xw_t j n hj (br_f (by decide) ⟨en_in j (by omega), br_f (nI_pos (by omega)) (en_le n j hj ⟨en_in j (by omega), ⟨by rw [nI_clamp (by omega), e], I0⟩⟩)⟩)
theorem i_vc_draftChar {k : Nat} {u : SX} {v : SY} (I : i_Rel k u v) (hk : k + 3 ≤ 1539) (v1 : Int32) : wpX_draftChar (fun r => wpY_draftChar (fun r' => r' = r ∧ i_Rel (k + 3) u v) v v1) u v1 := by
  have I0 : i_Rel (k + 3) u v := I
  revert I0
  obtain ⟨w, hh, rr, n, k9, hc, nav, dn, kc, y, ud, mo, la, ql, p, dl, dc, m, ac, B, H, HL, D, R, RL, U, UL, UK, Q, DS, SC, B', H', HL', D', R', RL', U', UL', UK', Q', rfl, rfl, C, P⟩ := I
  intro I0
  obtain ⟨⟨⟨hw1, hw2⟩, ⟨hh1, hh2⟩, ⟨hr1, hr2⟩, ⟨hn, hk9⟩, ⟨hhc, hnav⟩, hdn, hkc, hud, hql⟩, hB, hH, hD, hR, hU, hQ, hL, hS⟩ := id C
  rcases pk_ix v1 (n := dn) (by omega) with c | c | ⟨j, hj, rfl⟩
  · unfold wpX_draftChar
    exact xw_f (Or.inl c) (br_t rfl (br_t c ⟨rfl, I0⟩))
  · have c0 : ¬ v1 < 0 := en_ge c (nI_pos' (by omega))
    unfold wpX_draftChar
    exact xw_f (Or.inr c) (br_t rfl (br_f c0 (br_t c ⟨rfl, I0⟩)))
  · have e := (eg_at hD hj).1
    unfold wpX_draftChar
    exact xw_t j dn hj (br_f (by decide) ⟨en_in j (by omega), br_f (nI_pos (by omega)) (en_le dn j hj ⟨en_in j (by omega), ⟨by rw [nI_clamp (by omega), e], I0⟩⟩)⟩)
end
section
/-! Z: the other answers -/
theorem i_vc_historyChar {k : Nat} {u : SX} {v : SY} (I : i_Rel k u v) (hk : k + 3 ≤ 1539) (v1 : Int32) (v2 : Int32) : wpX_historyChar (fun r => wpY_historyChar (fun r' => r' = r ∧ i_Rel (k + 3) u v) v v1 v2) u v1 v2 := by
  have I0 : i_Rel (k + 3) u v := I
  revert I0
  obtain ⟨w, hh, rr, n, k9, hc, nav, dn, kc, y, ud, mo, la, ql, p, dl, dc, m, ac, B, H, HL, D, R, RL, U, UL, UK, Q, DS, SC, B', H', HL', D', R', RL', U', UL', UK', Q', rfl, rfl, C, P⟩ := I
  intro I0
  obtain ⟨⟨⟨hw1, hw2⟩, ⟨hh1, hh2⟩, ⟨hr1, hr2⟩, ⟨hn, hk9⟩, ⟨hhc, hnav⟩, hdn, hkc, hud, hql⟩, hB, hH, hD, hR, hU, hQ, hL, hS⟩ := id C
  unfold wpX_historyChar
  rcases pk_ix v1 (n := hc) (by omega) with c | c | ⟨i, hi, rfl⟩
  · exact xw_f (Or.inl c) (br_t rfl (br_t c ⟨rfl, I0⟩))
  · have c0 : ¬ v1 < 0 := en_ge c (nI_pos' (by omega))
    exact xw_f (Or.inr c) (br_t rfl (br_f c0 (br_t c ⟨rfl, I0⟩)))
  · obtain ⟨l, hl, a1, a2, hg⟩ := hH i hi
    have e1 : HL (nI i).toNatClampNeg = nI l := (en_g i).trans a1
    have e2 : HL' (nI i).toNatClampNeg = nI l := (en_g i).trans a2
    refine xw_t i hc hi (br_f (by decide) ⟨en_in i (by omega), ?_⟩)
    rcases pk_ix v2 (n := l) (by omega) with c | c | ⟨j, hj, rfl⟩
    · exact xw_f (Or.inl c) (br_t rfl (br_f (nI_pos (by omega)) (en_le hc i hi (br_t c ⟨rfl, I0⟩))))
    · have c0 : ¬ v2 < 0 := en_ge c (nI_pos' (by omega))
      exact xw_f (Or.inr (by rw [e1]; exact c)) (br_t rfl (br_f (nI_pos (by omega)) (en_le hc i hi (br_f c0 ⟨en_in i (by omega), br_t (by rw [e2]; exact c) ⟨rfl, I0⟩⟩))))
    · have e5 : nI i * 32 + nI j = nI (i * 32 + j) := by rw [en_32, nI_add]
      exact xw_t j l hj (br_f (by decide) ⟨en_in (i * 32 + j) (by omega) e5, br_f (nI_pos (by omega)) (en_le hc i hi (br_f (nI_pos (by omega)) ⟨en_in i (by omega), en_le l j hj ⟨en_in (i * 32 + j) (by omega) e5, ⟨by rw [e5, nI_clamp (by omega)]; exact (hg j hj).1.symm, I0⟩⟩ e2⟩))⟩) rfl e1
theorem i_vc_killChar {k : Nat} {u : SX} {v : SY} (I : i_Rel k u v) (hk : k + 3 ≤ 1539) (v1 : Int32) (v2 : Int32) : wpX_killChar (fun r => wpY_killChar (fun r' => r' = r ∧ i_Rel (k + 3) u v) v v1 v2) u v1 v2 := by
  have I0 : i_Rel (k + 3) u v := I
  revert I0
  obtain ⟨w, hh, rr, n, k9, hc, nav, dn, kc, y, ud, mo, la, ql, p, dl, dc, m, ac, B, H, HL, D, R, RL, U, UL, UK, Q, DS, SC, B', H', HL', D', R', RL', U', UL', UK', Q', rfl, rfl, C, P⟩ := I
  intro I0
  obtain ⟨⟨⟨hw1, hw2⟩, ⟨hh1, hh2⟩, ⟨hr1, hr2⟩, ⟨hn, hk9⟩, ⟨hhc, hnav⟩, hdn, hkc, hud, hql⟩, hB, hH, hD, hR, hU, hQ, hL, hS⟩ := id C
  unfold wpX_killChar
  rcases pk_ix v1 (n := kc) (by omega) with c | c | ⟨i, hi, rfl⟩
  · exact xw_f (Or.inl c) (br_t rfl (br_t c ⟨rfl, I0⟩))
  · have c0 : ¬ v1 < 0 := en_ge c (nI_pos' (by omega))
    exact xw_f (Or.inr c) (br_t rfl (br_f c0 (br_t c ⟨rfl, I0⟩)))
  · obtain ⟨l, hl, a1, a2, hg⟩ := hR i hi
    have e1 : RL (nI (kc - 1 - i)).toNatClampNeg = nI l := (en_g (kc - 1 - i)).trans a1
    have e2 : RL' (nI i).toNatClampNeg = nI l := (en_g i).trans a2
    refine xw_t i kc hi (br_f (by decide) (xrs kc i hi ⟨en_in (kc - 1 - i) (by omega), ?_⟩))
    rcases pk_ix v2 (n := l) (by omega) with c | c | ⟨j, hj, rfl⟩
    · exact xw_f (Or.inl c) (br_t rfl (br_f (nI_pos (by omega)) (en_le kc i hi (br_t c ⟨rfl, I0⟩))))
    · have c0 : ¬ v2 < 0 := en_ge c (nI_pos' (by omega))
      exact xw_f (Or.inr (by rw [e1]; exact c)) (br_t rfl (br_f (nI_pos (by omega)) (en_le kc i hi (br_f c0 ⟨en_in i (by omega), br_t (by rw [e2]; exact c) ⟨rfl, I0⟩⟩))))
    · have e5 : nI i * 32 + nI j = nI (i * 32 + j) := by rw [en_32, nI_add]
      have e6 : nI (kc - 1 - i) * 32 + nI j = nI ((kc - 1 - i) * 32 + j) := by rw [en_32, nI_add]
      exact xw_t j l hj (br_f (by decide) ⟨en_in ((kc - 1 - i) * 32 + j) (by omega) e6, br_f (nI_pos (by omega)) (en_le kc i hi (br_f (nI_pos (by omega)) ⟨en_in i (by omega), en_le l j hj ⟨en_in (i * 32 + j) (by omega) e5, ⟨by rw [e5, e6, nI_clamp (by omega), nI_clamp (by omega)]; exact (hg j hj).1.symm, I0⟩⟩ e2⟩))⟩) rfl e1
theorem i_vc_undoChar {k : Nat} {u : SX} {v : SY} (I : i_Rel k u v) (hk : k + 3 ≤ 1539) (v1 : Int32) (v2 : Int32) : wpX_undoChar (fun r => wpY_undoChar (fun r' => r' = r ∧ i_Rel (k + 3) u v) v v1 v2) u v1 v2 := by
  have I0 : i_Rel (k + 3) u v := I
  revert I0
  obtain ⟨w, hh, rr, n, k9, hc, nav, dn, kc, y, ud, mo, la, ql, p, dl, dc, m, ac, B, H, HL, D, R, RL, U, UL, UK, Q, DS, SC, B', H', HL', D', R', RL', U', UL', UK', Q', rfl, rfl, C, P⟩ := I
  intro I0
  obtain ⟨⟨⟨hw1, hw2⟩, ⟨hh1, hh2⟩, ⟨hr1, hr2⟩, ⟨hn, hk9⟩, ⟨hhc, hnav⟩, hdn, hkc, hud, hql⟩, hB, hH, hD, hR, hU, hQ, hL, hS⟩ := id C
  unfold wpX_undoChar
  rcases pk_ix v1 (n := ud) (by omega) with c | c | ⟨i, hi, rfl⟩
  · exact xw_f (Or.inl c) (br_t rfl (br_t c ⟨rfl, I0⟩))
  · have c0 : ¬ v1 < 0 := en_ge c (nI_pos' (by omega))
    exact xw_f (Or.inr c) (br_t rfl (br_f c0 (br_f (Int32.not_lt.mpr c) ⟨rfl, I0⟩)))
  · obtain ⟨l, t, hl, ht, a1, a2, a3, a4, hg⟩ := hU (ud - 1 - i) (by omega)
    have e0 : (nI ud - 1) - nI i = nI (ud - 1 - i) := by rw [en_s1 (by omega), pk_sub (by omega)]
    have e1 : UL (nI (ud - 1 - i)).toNatClampNeg = nI l := (en_g (ud - 1 - i)).trans a1
    have e2 : UL' (nI (ud - 1 - i)).toNatClampNeg = nI l := (en_g (ud - 1 - i)).trans a2
    refine xw_t i ud hi (br_f (by decide) (xus ud i hi ⟨en_in (ud - 1 - i) (by omega), ?_⟩))
    rcases pk_ix v2 (n := l) (by omega) with c | c | ⟨j, hj, rfl⟩
    · exact xw_f (Or.inl c) (br_t rfl (br_f (nI_pos (by omega)) (ey_lt i ud hi (nm_r e0 (br_t c ⟨rfl, I0⟩)))))
    · have c0 : ¬ v2 < 0 := en_ge c (nI_pos' (by omega))
      exact xw_f (Or.inr (by rw [e1]; exact c)) (br_t rfl (br_f (nI_pos (by omega)) (ey_lt i ud hi (nm_r e0 (br_f c0 ⟨en_in (ud - 1 - i) (by omega), br_t (by rw [e2]; exact c) ⟨rfl, I0⟩⟩)))))
    · have e6 : nI (ud - 1 - i) * 32 + nI j = nI ((ud - 1 - i) * 32 + j) := by rw [en_32, nI_add]
      exact xw_t j l hj (br_f (by decide) ⟨en_in ((ud - 1 - i) * 32 + j) (by omega) e6, br_f (nI_pos (by omega)) (ey_lt i ud hi (nm_r e0 (br_f (nI_pos (by omega)) ⟨en_in (ud - 1 - i) (by omega), en_le l j hj ⟨en_in ((ud - 1 - i) * 32 + j) (by omega) e6, ⟨by rw [e6, nI_clamp (by omega)]; exact (hg j hj).1.symm, I0⟩⟩ e2⟩)))⟩) rfl e1
theorem i_vc_undoCursor {k : Nat} {u : SX} {v : SY} (I : i_Rel k u v) (hk : k + 3 ≤ 1539) (v1 : Int32) : wpX_undoCursor (fun r => wpY_undoCursor (fun r' => r' = r ∧ i_Rel (k + 3) u v) v v1) u v1 := by
  have I0 : i_Rel (k + 3) u v := I
  revert I0
  obtain ⟨w, hh, rr, n, k9, hc, nav, dn, kc, y, ud, mo, la, ql, p, dl, dc, m, ac, B, H, HL, D, R, RL, U, UL, UK, Q, DS, SC, B', H', HL', D', R', RL', U', UL', UK', Q', rfl, rfl, C, P⟩ := I
  intro I0
  obtain ⟨⟨⟨hw1, hw2⟩, ⟨hh1, hh2⟩, ⟨hr1, hr2⟩, ⟨hn, hk9⟩, ⟨hhc, hnav⟩, hdn, hkc, hud, hql⟩, hB, hH, hD, hR, hU, hQ, hL, hS⟩ := id C
  unfold wpX_undoCursor
  rcases pk_ix v1 (n := ud) (by omega) with c | c | ⟨i, hi, rfl⟩
  · exact xw_f (Or.inl c) (br_t rfl (br_t c ⟨rfl, I0⟩))
  · have c0 : ¬ v1 < 0 := en_ge c (nI_pos' (by omega))
    exact xw_f (Or.inr c) (br_t rfl (br_f c0 (br_t c ⟨rfl, I0⟩)))
  · obtain ⟨l, t, hl, ht, a1, a2, a3, a4, hg⟩ := hU (ud - 1 - i) (by omega)
    have e0 : (nI ud - 1) - nI i = nI (ud - 1 - i) := by rw [en_s1 (by omega), pk_sub (by omega)]
    exact xw_t i ud hi (br_f (by decide) (xus ud i hi ⟨en_in (ud - 1 - i) (by omega), br_f (nI_pos (by omega)) (en_le ud i hi ⟨en_in (ud - 1 - i) (by omega) e0, ⟨by rw [e0, nI_clamp (by omega), a3, a4], I0⟩⟩)⟩))
theorem i_vc_displayChar {k : Nat} {u : SX} {v : SY} (I : i_Rel k u v) (hk : k + 3 ≤ 1539) (v1 : Int32) : wpX_displayChar (fun r => wpY_displayChar (fun r' => r' = r ∧ i_Rel (k + 3) u v) v v1) u v1 := by
  have I0 : i_Rel (k + 3) u v := I
  revert I0
  obtain ⟨w, hh, rr, n, k9, hc, nav, dn, kc, y, ud, mo, la, ql, p, dl, dc, m, ac, B, H, HL, D, R, RL, U, UL, UK, Q, DS, SC, B', H', HL', D', R', RL', U', UL', UK', Q', rfl, rfl, C, P⟩ := I
  intro I0
  obtain ⟨⟨⟨hw1, hw2⟩, ⟨hh1, hh2⟩, ⟨hr1, hr2⟩, ⟨hn, hk9⟩, ⟨hhc, hnav⟩, hdn, hkc, hud, hql⟩, hB, hH, hD, hR, hU, hQ, hL, hS⟩ := id C
  unfold wpX_displayChar
  have hdl : dl ≤ 51 := P.1
  rcases pk_ix v1 (n := dl) (by omega) with c | c | ⟨i, hi, rfl⟩
  · exact xw_f (Or.inl c) (br_t rfl (y_dno C P (Or.inl c) ⟨rfl, I0⟩))
  · exact xw_f (Or.inr c) (br_t rfl (y_dno C P (Or.inr c) ⟨rfl, I0⟩))
  · exact xw_t i dl hi (br_f (by decide) ⟨en_in i (by omega), (y_din C P hi).2 _ ⟨by rw [nI_clamp (by omega)], I0⟩⟩)
theorem i_vc_screenChar {k : Nat} {u : SX} {v : SY} (I : i_Rel k u v) (hk : k + 3 ≤ 1539) (v1 : Int32) (v2 : Int32) : wpX_screenChar (fun r => wpY_screenChar (fun r' => r' = r ∧ i_Rel (k + 3) u v) v v1 v2) u v1 v2 := by
  have I0 : i_Rel (k + 3) u v := I
  revert I0
  obtain ⟨w, hh, rr, n, k9, hc, nav, dn, kc, y, ud, mo, la, ql, p, dl, dc, m, ac, B, H, HL, D, R, RL, U, UL, UK, Q, DS, SC, B', H', HL', D', R', RL', U', UL', UK', Q', rfl, rfl, C, P⟩ := I
  intro I0
  obtain ⟨⟨⟨hw1, hw2⟩, ⟨hh1, hh2⟩, ⟨hr1, hr2⟩, ⟨hn, hk9⟩, ⟨hhc, hnav⟩, hdn, hkc, hud, hql⟩, hB, hH, hD, hR, hU, hQ, hL, hS⟩ := id C
  unfold wpX_screenChar
  have hdl : dl ≤ 51 := P.1
  rcases pk_ix v1 (n := 16) (by omega) with c | c | ⟨r, hr, rfl⟩
  · exact xw_f (Or.inl c) (br_t rfl (br_t c ⟨rfl, I0⟩))
  · have c0 : ¬ v1 < 0 := en_ge c (nI_pos' (by omega))
    exact xw_f (Or.inr c) (br_t rfl (br_f c0 (br_t c ⟨rfl, I0⟩)))
  · refine xw_t r 16 hr (br_f (by decide) ?_)
    rcases pk_ix v2 (n := w) (by omega) with c | c | ⟨s, hs, rfl⟩
    · exact xw_f (Or.inl c) (br_t rfl (br_f (nI_pos (by omega)) (en_le 16 r hr (br_t c ⟨rfl, I0⟩))))
    · have c0 : ¬ v2 < 0 := en_ge c (nI_pos' (by omega))
      exact xw_f (Or.inr c) (br_t rfl (br_f (nI_pos (by omega)) (en_le 16 r hr (br_f c0 (br_f (Int32.not_lt.mpr c) ⟨rfl, I0⟩)))))
    · have hx := en_ix hr hs
      have e : nI r * nI w + nI s = nI (r * w + s) := by rw [pk_mul, nI_add]
      obtain ⟨x, hxe⟩ : ∃ x, r * w + s = x := ⟨_, rfl⟩
      rw [hxe] at hx e
      have hsc := P.2.2.1 x hx
      refine xw_t s w hs (br_f (by decide) ⟨en_in x (by omega) e, br_f (nI_pos (by omega)) (en_le 16 r hr (br_f (nI_pos (by omega)) (ey_lt s w hs ?_)))⟩)
      rw [e, nI_clamp (by omega), hsc]
      by_cases c : x < dl
      · rw [if_pos c]
        have hd := y_din (ac := ac) C P c
        exact hd.2 _ (br_t (Int32.not_lt.mp hd.1) ⟨rfl, I0⟩)
      · rw [if_neg c]
        exact y_dno C P (Or.inr (nI_le (by omega) (by omega))) (br_f (by decide) ⟨rfl, I0⟩)
theorem i_vc_screenCursorRow {k : Nat} {u : SX} {v : SY} (I : i_Rel k u v) (hk : k + 3 ≤ 1539) : wpX_screenCursorRow (fun r => wpY_screenCursorRow (fun r' => r' = r ∧ i_Rel (k + 3) u v) v) u := by
  have I0 : i_Rel (k + 3) u v := I
  revert I0
  obtain ⟨w, hh, rr, n, k9, hc, nav, dn, kc, y, ud, mo, la, ql, p, dl, dc, m, ac, B, H, HL, D, R, RL, U, UL, UK, Q, DS, SC, B', H', HL', D', R', RL', U', UL', UK', Q', rfl, rfl, C, P⟩ := I
  intro I0
  obtain ⟨⟨⟨hw1, hw2⟩, ⟨hh1, hh2⟩, ⟨hr1, hr2⟩, ⟨hn, hk9⟩, ⟨hhc, hnav⟩, hdn, hkc, hud, hql⟩, hB, hH, hD, hR, hU, hQ, hL, hS⟩ := id C
  have hdl : dl ≤ 51 := P.1
  have hdc : dc ≤ dl := P.2.1
  unfold wpX_screenCursorRow wpY_screenCursorRow
  exact y_dc C P ⟨nI_ne0 (by omega) (by omega), ⟨pk_div (by omega) (by omega) (by omega), I0⟩⟩
theorem i_vc_screenCursorCol {k : Nat} {u : SX} {v : SY} (I : i_Rel k u v) (hk : k + 3 ≤ 1539) : wpX_screenCursorCol (fun r => wpY_screenCursorCol (fun r' => r' = r ∧ i_Rel (k + 3) u v) v) u := by
  have I0 : i_Rel (k + 3) u v := I
  revert I0
  obtain ⟨w, hh, rr, n, k9, hc, nav, dn, kc, y, ud, mo, la, ql, p, dl, dc, m, ac, B, H, HL, D, R, RL, U, UL, UK, Q, DS, SC, B', H', HL', D', R', RL', U', UL', UK', Q', rfl, rfl, C, P⟩ := I
  intro I0
  obtain ⟨⟨⟨hw1, hw2⟩, ⟨hh1, hh2⟩, ⟨hr1, hr2⟩, ⟨hn, hk9⟩, ⟨hhc, hnav⟩, hdn, hkc, hud, hql⟩, hB, hH, hD, hR, hU, hQ, hL, hS⟩ := id C
  have hdl : dl ≤ 51 := P.1
  have hdc : dc ≤ dl := P.2.1
  unfold wpX_screenCursorCol wpY_screenCursorCol
  exact y_dc C P ⟨nI_ne0 (by omega) (by omega), ⟨pk_rem (by omega) (by omega) (by omega), I0⟩⟩
end
