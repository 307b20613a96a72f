/-! branches by naturals -/
theorem en_32 (a : Nat) : nI a * 32 = nI (a * 32) := pk_mul a 32
theorem en_m1 {a : Nat} (h : 1 ≤ a) : nI a + (-1) = nI (a - 1) := by
  obtain ⟨b, rfl⟩ : ∃ b, a = b + 1 := ⟨a - 1, by omega⟩
  exact pk_m1 b
theorem en_s1 {a : Nat} (h : 1 ≤ a) : nI a - 1 = nI (a - 1) := pk_sub (b := 1) h
theorem en_a2 (a : Nat) : 2 + nI a = nI (2 + a) := nI_add 2 a
theorem en_a3 (a : Nat) : 3 + nI a = nI (3 + a) := nI_add 3 a
theorem en_p32 (a : Nat) : nI a + 32 = nI (a + 32) := nI_add a 32
theorem en_s32 {a : Nat} (h : 32 ≤ a) : nI a - 32 = nI (a - 32) := pk_sub (b := 32) h
theorem en_p2 (a : Nat) : nI a + 2 = nI (a + 2) := nI_add a 2
theorem en_s2 {a : Nat} (h : 2 ≤ a) : nI a - 2 = nI (a - 2) := pk_sub (b := 2) h
theorem en_s3 {a : Nat} (h : 3 ≤ a) : nI a - 3 = nI (a - 3) := pk_sub (b := 3) h
theorem ey_le {x y : Int32} {A B : Prop} (a b : Nat) (h : a ≤ b) (p : A) (hx : x = nI a := by first | with_reducible rfl | (simp (disch := omega) only [nI_add, nI_1, en_m1, en_s1, pk_sub, pk_mul, en_32, en_a2, en_a3, en_p32, en_s32, en_p2, en_s2, en_s3] <;> exact congrArg nI (by omega)) | exact congrArg nI (by omega) | rfl) (hy : y = nI b := by first | with_reducible rfl | (simp (disch := omega) only [nI_add, nI_1, en_m1, en_s1, pk_sub, pk_mul, en_32, en_a2, en_a3, en_p32, en_s32, en_p2, en_s2, en_s3] <;> exact congrArg nI (by omega)) | exact congrArg nI (by omega) | rfl) (hb : b < 2 ^ 31 := by omega) : (x ≤ y → A) ∧ (¬ x ≤ y → B) := by
  subst hx hy
  exact br_t (nI_le h hb) p
theorem en_le {x y : Int32} {A B : Prop} (a b : Nat) (h : b < a) (p : B) (hx : x = nI a := by first | with_reducible rfl | (simp (disch := omega) only [nI_add, nI_1, en_m1, en_s1, pk_sub, pk_mul, en_32, en_a2, en_a3, en_p32, en_s32, en_p2, en_s2, en_s3] <;> exact congrArg nI (by omega)) | exact congrArg nI (by omega) | rfl) (hy : y = nI b := by first | with_reducible rfl | (simp (disch := omega) only [nI_add, nI_1, en_m1, en_s1, pk_sub, pk_mul, en_32, en_a2, en_a3, en_p32, en_s32, en_p2, en_s2, en_s3] <;> exact congrArg nI (by omega)) | exact congrArg nI (by omega) | rfl) (ha : a < 2 ^ 31 := by omega) : (x ≤ y → A) ∧ (¬ x ≤ y → B) := by
  subst hx hy
  exact br_f (nI_ge h ha) p
theorem ey_lt {x y : Int32} {A B : Prop} (a b : Nat) (h : a < b) (p : A) (hx : x = nI a := by first | with_reducible rfl | (simp (disch := omega) only [nI_add, nI_1, en_m1, en_s1, pk_sub, pk_mul, en_32, en_a2, en_a3, en_p32, en_s32, en_p2, en_s2, en_s3] <;> exact congrArg nI (by omega)) | exact congrArg nI (by omega) | rfl) (hy : y = nI b := by first | with_reducible rfl | (simp (disch := omega) only [nI_add, nI_1, en_m1, en_s1, pk_sub, pk_mul, en_32, en_a2, en_a3, en_p32, en_s32, en_p2, en_s2, en_s3] <;> exact congrArg nI (by omega)) | exact congrArg nI (by omega) | rfl) (hb : b < 2 ^ 31 := by omega) : (x < y → A) ∧ (¬ x < y → B) := by
  subst hx hy
  exact br_t (nI_lt h hb) p
theorem en_lt {x y : Int32} {A B : Prop} (a b : Nat) (h : b ≤ a) (p : B) (hx : x = nI a := by first | with_reducible rfl | (simp (disch := omega) only [nI_add, nI_1, en_m1, en_s1, pk_sub, pk_mul, en_32, en_a2, en_a3, en_p32, en_s32, en_p2, en_s2, en_s3] <;> exact congrArg nI (by omega)) | exact congrArg nI (by omega) | rfl) (hy : y = nI b := by first | with_reducible rfl | (simp (disch := omega) only [nI_add, nI_1, en_m1, en_s1, pk_sub, pk_mul, en_32, en_a2, en_a3, en_p32, en_s32, en_p2, en_s2, en_s3] <;> exact congrArg nI (by omega)) | exact congrArg nI (by omega) | rfl) (ha : a < 2 ^ 31 := by omega) : (x < y → A) ∧ (¬ x < y → B) := by
  subst hx hy
  exact br_f (nI_nlt h ha) p
theorem ey_eq {x y : Int32} {A B : Prop} (a b : Nat) (h : a = b) (p : A) (hx : x = nI a := by first | with_reducible rfl | (simp (disch := omega) only [nI_add, nI_1, en_m1, en_s1, pk_sub, pk_mul, en_32, en_a2, en_a3, en_p32, en_s32, en_p2, en_s2, en_s3] <;> exact congrArg nI (by omega)) | exact congrArg nI (by omega) | rfl) (hy : y = nI b := by first | with_reducible rfl | (simp (disch := omega) only [nI_add, nI_1, en_m1, en_s1, pk_sub, pk_mul, en_32, en_a2, en_a3, en_p32, en_s32, en_p2, en_s2, en_s3] <;> exact congrArg nI (by omega)) | exact congrArg nI (by omega) | rfl) : (x = y → A) ∧ (¬ x = y → B) := by
  subst hx hy h
  exact br_t rfl p
theorem en_eq {x y : Int32} {A B : Prop} (a b : Nat) (h : a ≠ b) (p : B) (hx : x = nI a := by first | with_reducible rfl | (simp (disch := omega) only [nI_add, nI_1, en_m1, en_s1, pk_sub, pk_mul, en_32, en_a2, en_a3, en_p32, en_s32, en_p2, en_s2, en_s3] <;> exact congrArg nI (by omega)) | exact congrArg nI (by omega) | rfl) (hy : y = nI b := by first | with_reducible rfl | (simp (disch := omega) only [nI_add, nI_1, en_m1, en_s1, pk_sub, pk_mul, en_32, en_a2, en_a3, en_p32, en_s32, en_p2, en_s2, en_s3] <;> exact congrArg nI (by omega)) | exact congrArg nI (by omega) | rfl) (ha : a < 2 ^ 31 := by omega) (hb : b < 2 ^ 31 := by omega) : (x = y → A) ∧ (¬ x = y → B) := by
  subst hx hy
  exact br_f (fun z => h ((nI_eq ha hb).mp z)) p
theorem en_in {x : Int32} {N : Nat} (n : Nat) (h : n < N) (hx : x = nI n := by first | with_reducible rfl | (simp (disch := omega) only [nI_add, nI_1, en_m1, en_s1, pk_sub, pk_mul, en_32, en_a2, en_a3, en_p32, en_s32, en_p2, en_s2, en_s3] <;> exact congrArg nI (by omega)) | exact congrArg nI (by omega) | rfl) (hN : N < 2 ^ 31 := by omega) : vp_in x N := by
  subst hx
  exact vp_in_nI h hN
theorem en_g {f : Nat → Int32} {x : Int32} (n : Nat) (hx : x = nI n := by first | with_reducible rfl | (simp (disch := omega) only [nI_add, nI_1, en_m1, en_s1, pk_sub, pk_mul, en_32, en_a2, en_a3, en_p32, en_s32, en_p2, en_s2, en_s3] <;> exact congrArg nI (by omega)) | exact congrArg nI (by omega) | rfl) (h : n < 2 ^ 31 := by omega) : f x.toNatClampNeg = f n := by
  subst hx
  rw [nI_clamp h]
theorem en_u {f : Nat → Int32} {x v v' : Int32} (n : Nat) (hv : v = v' := by rfl) (hx : x = nI n := by first | with_reducible rfl | (simp (disch := omega) only [nI_add, nI_1, en_m1, en_s1, pk_sub, pk_mul, en_32, en_a2, en_a3, en_p32, en_s32, en_p2, en_s2, en_s3] <;> exact congrArg nI (by omega)) | exact congrArg nI (by omega) | rfl) (h : n < 2 ^ 31 := by omega) : upd f x.toNatClampNeg v = upd f n v' := by
  subst hx hv
  rw [nI_clamp h]
theorem en_pos {x : Int32} (n : Nat) (hx : x = nI n := by first | with_reducible rfl | (simp (disch := omega) only [nI_add, nI_1, en_m1, en_s1, pk_sub, pk_mul, en_32, en_a2, en_a3, en_p32, en_s32, en_p2, en_s2, en_s3] <;> exact congrArg nI (by omega)) | exact congrArg nI (by omega) | rfl) (h : n < 2 ^ 31 := by omega) : ¬ x < 0 := by
  subst hx
  exact nI_pos h
