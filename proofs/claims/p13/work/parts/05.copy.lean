/-! H: copyCells -/
theorem xc_1_l {post : St3 → Prop} {f g : Nat → Int32} {a b c : Nat} (ha : a + c ≤ 32) (hb : b + c ≤ 51) (h : post (f, ec_cp f a g b c)) : ∀ d i, i + d = c → wX_copyCells_3 post (nI a) (nI b) (nI c) (d + 1) (nI i) f (ec_cp f a g b i) := by
  intro d
  induction d with
  | zero =>
    intro i hi
    obtain rfl : i = c := by omega
    exact ey_le i i (Nat.le_refl _) h
  | succ d ih =>
    intro i hi
    exact en_le c i (by omega) ⟨en_in (a + i) (by omega), en_in (b + i) (by omega), nm_r ((en_u (b + i) (en_g (a + i))).trans (ec_s f a g b i)) (nm_r (nI_1 i) (ih (i + 1) (by omega)))⟩
theorem xc_1 {post : St3 → Prop} {f g : Nat → Int32} {x1 x3 x4 : Int32} (a b c : Nat) (ha : a + c ≤ 32) (hb : b + c ≤ 51) (h : post (f, ec_cp f a g b c)) (h1 : x1 = nI a := by first | with_reducible rfl | (simp (disch := omega) only [nI_add, nI_1, en_m1, en_s1, pk_sub, pk_mul, en_32, en_a2, en_a3, en_p32, en_s32, en_p2, en_s2, en_s3] <;> exact congrArg nI (by omega)) | exact congrArg nI (by omega) | rfl) (h3 : x3 = nI b := by first | with_reducible rfl | (simp (disch := omega) only [nI_add, nI_1, en_m1, en_s1, pk_sub, pk_mul, en_32, en_a2, en_a3, en_p32, en_s32, en_p2, en_s2, en_s3] <;> exact congrArg nI (by omega)) | exact congrArg nI (by omega) | rfl) (h4 : x4 = nI c := by first | with_reducible rfl | (simp (disch := omega) only [nI_add, nI_1, en_m1, en_s1, pk_sub, pk_mul, en_32, en_a2, en_a3, en_p32, en_s32, en_p2, en_s2, en_s3] <;> exact congrArg nI (by omega)) | exact congrArg nI (by omega) | rfl) : wpX_copyCells post (f, g) x1 x3 x4 := by
  subst h1 h3 h4
  refine ⟨c + 1, ?_⟩
  have := xc_1_l ha hb h c 0 (by omega)
  rw [ec_0] at this
  exact this
theorem xc_2_l {post : St4 → Prop} {f g : Nat → Int32} {a b c : Nat} (ha : a + c ≤ 16) (hb : b + c ≤ 51) (h : post (f, ec_cp f a g b c)) : ∀ d i, i + d = c → wX_copyCells_2_3 post (nI a) (nI b) (nI c) (d + 1) (nI i) f (ec_cp f a g b i) := by
  intro d
  induction d with
  | zero =>
    intro i hi
    obtain rfl : i = c := by omega
    exact ey_le i i (Nat.le_refl _) h
  | succ d ih =>
    intro i hi
    exact en_le c i (by omega) ⟨en_in (a + i) (by omega), en_in (b + i) (by omega), nm_r ((en_u (b + i) (en_g (a + i))).trans (ec_s f a g b i)) (nm_r (nI_1 i) (ih (i + 1) (by omega)))⟩
theorem xc_2 {post : St4 → Prop} {f g : Nat → Int32} {x1 x3 x4 : Int32} (a b c : Nat) (ha : a + c ≤ 16) (hb : b + c ≤ 51) (h : post (f, ec_cp f a g b c)) (h1 : x1 = nI a := by first | with_reducible rfl | (simp (disch := omega) only [nI_add, nI_1, en_m1, en_s1, pk_sub, pk_mul, en_32, en_a2, en_a3, en_p32, en_s32, en_p2, en_s2, en_s3] <;> exact congrArg nI (by omega)) | exact congrArg nI (by omega) | rfl) (h3 : x3 = nI b := by first | with_reducible rfl | (simp (disch := omega) only [nI_add, nI_1, en_m1, en_s1, pk_sub, pk_mul, en_32, en_a2, en_a3, en_p32, en_s32, en_p2, en_s2, en_s3] <;> exact congrArg nI (by omega)) | exact congrArg nI (by omega) | rfl) (h4 : x4 = nI c := by first | with_reducible rfl | (simp (disch := omega) only [nI_add, nI_1, en_m1, en_s1, pk_sub, pk_mul, en_32, en_a2, en_a3, en_p32, en_s32, en_p2, en_s2, en_s3] <;> exact congrArg nI (by omega)) | exact congrArg nI (by omega) | rfl) : wpX_copyCells_2 post (f, g) x1 x3 x4 := by
  subst h1 h3 h4
  refine ⟨c + 1, ?_⟩
  have := xc_2_l ha hb h c 0 (by omega)
  rw [ec_0] at this
  exact this
theorem xc_3_l {post : St5 → Prop} {f g : Nat → Int32} {a b c : Nat} (ha : a + c ≤ 256) (hb : b + c ≤ 51) (h : post (f, ec_cp f a g b c)) : ∀ d i, i + d = c → wX_copyCells_3_3 post (nI a) (nI b) (nI c) (d + 1) (nI i) f (ec_cp f a g b i) := by
  intro d
  induction d with
  | zero =>
    intro i hi
    obtain rfl : i = c := by omega
    exact ey_le i i (Nat.le_refl _) h
  | succ d ih =>
    intro i hi
    exact en_le c i (by omega) ⟨en_in (a + i) (by omega), en_in (b + i) (by omega), nm_r ((en_u (b + i) (en_g (a + i))).trans (ec_s f a g b i)) (nm_r (nI_1 i) (ih (i + 1) (by omega)))⟩
theorem xc_3 {post : St5 → Prop} {f g : Nat → Int32} {x1 x3 x4 : Int32} (a b c : Nat) (ha : a + c ≤ 256) (hb : b + c ≤ 51) (h : post (f, ec_cp f a g b c)) (h1 : x1 = nI a := by first | with_reducible rfl | (simp (disch := omega) only [nI_add, nI_1, en_m1, en_s1, pk_sub, pk_mul, en_32, en_a2, en_a3, en_p32, en_s32, en_p2, en_s2, en_s3] <;> exact congrArg nI (by omega)) | exact congrArg nI (by omega) | rfl) (h3 : x3 = nI b := by first | with_reducible rfl | (simp (disch := omega) only [nI_add, nI_1, en_m1, en_s1, pk_sub, pk_mul, en_32, en_a2, en_a3, en_p32, en_s32, en_p2, en_s2, en_s3] <;> exact congrArg nI (by omega)) | exact congrArg nI (by omega) | rfl) (h4 : x4 = nI c := by first | with_reducible rfl | (simp (disch := omega) only [nI_add, nI_1, en_m1, en_s1, pk_sub, pk_mul, en_32, en_a2, en_a3, en_p32, en_s32, en_p2, en_s2, en_s3] <;> exact congrArg nI (by omega)) | exact congrArg nI (by omega) | rfl) : wpX_copyCells_3 post (f, g) x1 x3 x4 := by
  subst h1 h3 h4
  refine ⟨c + 1, ?_⟩
  have := xc_3_l ha hb h c 0 (by omega)
  rw [ec_0] at this
  exact this
theorem xc_4_l {post : St6 → Prop} {f g : Nat → Int32} {a b c : Nat} (ha : a + c ≤ 32) (hb : b + c ≤ 256) (h : post (f, ec_cp f a g b c)) : ∀ d i, i + d = c → wX_copyCells_4_3 post (nI a) (nI b) (nI c) (d + 1) (nI i) f (ec_cp f a g b i) := by
  intro d
  induction d with
  | zero =>
    intro i hi
    obtain rfl : i = c := by omega
    exact ey_le i i (Nat.le_refl _) h
  | succ d ih =>
    intro i hi
    exact en_le c i (by omega) ⟨en_in (a + i) (by omega), en_in (b + i) (by omega), nm_r ((en_u (b + i) (en_g (a + i))).trans (ec_s f a g b i)) (nm_r (nI_1 i) (ih (i + 1) (by omega)))⟩
theorem xc_4 {post : St6 → Prop} {f g : Nat → Int32} {x1 x3 x4 : Int32} (a b c : Nat) (ha : a + c ≤ 32) (hb : b + c ≤ 256) (h : post (f, ec_cp f a g b c)) (h1 : x1 = nI a := by first | with_reducible rfl | (simp (disch := omega) only [nI_add, nI_1, en_m1, en_s1, pk_sub, pk_mul, en_32, en_a2, en_a3, en_p32, en_s32, en_p2, en_s2, en_s3] <;> exact congrArg nI (by omega)) | exact congrArg nI (by omega) | rfl) (h3 : x3 = nI b := by first | with_reducible rfl | (simp (disch := omega) only [nI_add, nI_1, en_m1, en_s1, pk_sub, pk_mul, en_32, en_a2, en_a3, en_p32, en_s32, en_p2, en_s2, en_s3] <;> exact congrArg nI (by omega)) | exact congrArg nI (by omega) | rfl) (h4 : x4 = nI c := by first | with_reducible rfl | (simp (disch := omega) only [nI_add, nI_1, en_m1, en_s1, pk_sub, pk_mul, en_32, en_a2, en_a3, en_p32, en_s32, en_p2, en_s2, en_s3] <;> exact congrArg nI (by omega)) | exact congrArg nI (by omega) | rfl) : wpX_copyCells_4 post (f, g) x1 x3 x4 := by
  subst h1 h3 h4
  refine ⟨c + 1, ?_⟩
  have := xc_4_l ha hb h c 0 (by omega)
  rw [ec_0] at this
  exact this
theorem xc_5_l {post : St8 → Prop} {f : Nat → Int32} {a b c : Nat} (ha : a + c ≤ 256) (hb : b + c ≤ 256) (hba : b ≤ a) (h : post (ec_cp f a f b c)) : ∀ d i, i + d = c → wX_copyCells_5_3 post (nI a) (nI b) (nI c) (d + 1) (nI i) (ec_cp f a f b i) := by
  intro d
  induction d with
  | zero =>
    intro i hi
    obtain rfl : i = c := by omega
    exact ey_le i i (Nat.le_refl _) h
  | succ d ih =>
    intro i hi
    exact en_le c i (by omega) ⟨en_in (a + i) (by omega), en_in (b + i) (by omega), nm_r ((en_u (b + i) (en_g (a + i))).trans (ec_up hba i)) (nm_r (nI_1 i) (ih (i + 1) (by omega)))⟩
theorem xc_5 {post : St8 → Prop} {f : Nat → Int32} {x1 x3 x4 : Int32} (a b c : Nat) (ha : a + c ≤ 256) (hb : b + c ≤ 256) (hba : b ≤ a) (h : post (ec_cp f a f b c)) (h1 : x1 = nI a := by first | with_reducible rfl | (simp (disch := omega) only [nI_add, nI_1, en_m1, en_s1, pk_sub, pk_mul, en_32, en_a2, en_a3, en_p32, en_s32, en_p2, en_s2, en_s3] <;> exact congrArg nI (by omega)) | exact congrArg nI (by omega) | rfl) (h3 : x3 = nI b := by first | with_reducible rfl | (simp (disch := omega) only [nI_add, nI_1, en_m1, en_s1, pk_sub, pk_mul, en_32, en_a2, en_a3, en_p32, en_s32, en_p2, en_s2, en_s3] <;> exact congrArg nI (by omega)) | exact congrArg nI (by omega) | rfl) (h4 : x4 = nI c := by first | with_reducible rfl | (simp (disch := omega) only [nI_add, nI_1, en_m1, en_s1, pk_sub, pk_mul, en_32, en_a2, en_a3, en_p32, en_s32, en_p2, en_s2, en_s3] <;> exact congrArg nI (by omega)) | exact congrArg nI (by omega) | rfl) : wpX_copyCells_5 post f x1 x3 x4 := by
  subst h1 h3 h4
  refine ⟨c + 1, ?_⟩
  have := xc_5_l ha hb hba h c 0 (by omega)
  rw [ec_0] at this
  exact this
theorem xc_6_l {post : St9 → Prop} {f : Nat → Int32} {a b c : Nat} (ha : a + c ≤ 8) (hb : b + c ≤ 8) (hba : b ≤ a) (h : post (ec_cp f a f b c)) : ∀ d i, i + d = c → wX_copyCells_6_3 post (nI a) (nI b) (nI c) (d + 1) (nI i) (ec_cp f a f b i) := by
  intro d
  induction d with
  | zero =>
    intro i hi
    obtain rfl : i = c := by omega
    exact ey_le i i (Nat.le_refl _) h
  | succ d ih =>
    intro i hi
    exact en_le c i (by omega) ⟨en_in (a + i) (by omega), en_in (b + i) (by omega), nm_r ((en_u (b + i) (en_g (a + i))).trans (ec_up hba i)) (nm_r (nI_1 i) (ih (i + 1) (by omega)))⟩
theorem xc_6 {post : St9 → Prop} {f : Nat → Int32} {x1 x3 x4 : Int32} (a b c : Nat) (ha : a + c ≤ 8) (hb : b + c ≤ 8) (hba : b ≤ a) (h : post (ec_cp f a f b c)) (h1 : x1 = nI a := by first | with_reducible rfl | (simp (disch := omega) only [nI_add, nI_1, en_m1, en_s1, pk_sub, pk_mul, en_32, en_a2, en_a3, en_p32, en_s32, en_p2, en_s2, en_s3] <;> exact congrArg nI (by omega)) | exact congrArg nI (by omega) | rfl) (h3 : x3 = nI b := by first | with_reducible rfl | (simp (disch := omega) only [nI_add, nI_1, en_m1, en_s1, pk_sub, pk_mul, en_32, en_a2, en_a3, en_p32, en_s32, en_p2, en_s2, en_s3] <;> exact congrArg nI (by omega)) | exact congrArg nI (by omega) | rfl) (h4 : x4 = nI c := by first | with_reducible rfl | (simp (disch := omega) only [nI_add, nI_1, en_m1, en_s1, pk_sub, pk_mul, en_32, en_a2, en_a3, en_p32, en_s32, en_p2, en_s2, en_s3] <;> exact congrArg nI (by omega)) | exact congrArg nI (by omega) | rfl) : wpX_copyCells_6 post f x1 x3 x4 := by
  subst h1 h3 h4
  refine ⟨c + 1, ?_⟩
  have := xc_6_l ha hb hba h c 0 (by omega)
  rw [ec_0] at this
  exact this
theorem xc_7_l {post : St10 → Prop} {f g : Nat → Int32} {a b c : Nat} (ha : a + c ≤ 32) (hb : b + c ≤ 128) (h : post (f, ec_cp f a g b c)) : ∀ d i, i + d = c → wX_copyCells_7_3 post (nI a) (nI b) (nI c) (d + 1) (nI i) f (ec_cp f a g b i) := by
  intro d
  induction d with
  | zero =>
    intro i hi
    obtain rfl : i = c := by omega
    exact ey_le i i (Nat.le_refl _) h
  | succ d ih =>
    intro i hi
    exact en_le c i (by omega) ⟨en_in (a + i) (by omega), en_in (b + i) (by omega), nm_r ((en_u (b + i) (en_g (a + i))).trans (ec_s f a g b i)) (nm_r (nI_1 i) (ih (i + 1) (by omega)))⟩
theorem xc_7 {post : St10 → Prop} {f g : Nat → Int32} {x1 x3 x4 : Int32} (a b c : Nat) (ha : a + c ≤ 32) (hb : b + c ≤ 128) (h : post (f, ec_cp f a g b c)) (h1 : x1 = nI a := by first | with_reducible rfl | (simp (disch := omega) only [nI_add, nI_1, en_m1, en_s1, pk_sub, pk_mul, en_32, en_a2, en_a3, en_p32, en_s32, en_p2, en_s2, en_s3] <;> exact congrArg nI (by omega)) | exact congrArg nI (by omega) | rfl) (h3 : x3 = nI b := by first | with_reducible rfl | (simp (disch := omega) only [nI_add, nI_1, en_m1, en_s1, pk_sub, pk_mul, en_32, en_a2, en_a3, en_p32, en_s32, en_p2, en_s2, en_s3] <;> exact congrArg nI (by omega)) | exact congrArg nI (by omega) | rfl) (h4 : x4 = nI c := by first | with_reducible rfl | (simp (disch := omega) only [nI_add, nI_1, en_m1, en_s1, pk_sub, pk_mul, en_32, en_a2, en_a3, en_p32, en_s32, en_p2, en_s2, en_s3] <;> exact congrArg nI (by omega)) | exact congrArg nI (by omega) | rfl) : wpX_copyCells_7 post (f, g) x1 x3 x4 := by
  subst h1 h3 h4
  refine ⟨c + 1, ?_⟩
  have := xc_7_l ha hb h c 0 (by omega)
  rw [ec_0] at this
  exact this
theorem xc_8_l {post : St12 → Prop} {f : Nat → Int32} {a b c : Nat} (ha : a + c ≤ 128) (hb : b + c ≤ 128) (hba : b ≤ a) (h : post (ec_cp f a f b c)) : ∀ d i, i + d = c → wX_copyCells_8_3 post (nI a) (nI b) (nI c) (d + 1) (nI i) (ec_cp f a f b i) := by
  intro d
  induction d with
  | zero =>
    intro i hi
    obtain rfl : i = c := by omega
    exact ey_le i i (Nat.le_refl _) h
  | succ d ih =>
    intro i hi
    exact en_le c i (by omega) ⟨en_in (a + i) (by omega), en_in (b + i) (by omega), nm_r ((en_u (b + i) (en_g (a + i))).trans (ec_up hba i)) (nm_r (nI_1 i) (ih (i + 1) (by omega)))⟩
theorem xc_8 {post : St12 → Prop} {f : Nat → Int32} {x1 x3 x4 : Int32} (a b c : Nat) (ha : a + c ≤ 128) (hb : b + c ≤ 128) (hba : b ≤ a) (h : post (ec_cp f a f b c)) (h1 : x1 = nI a := by first | with_reducible rfl | (simp (disch := omega) only [nI_add, nI_1, en_m1, en_s1, pk_sub, pk_mul, en_32, en_a2, en_a3, en_p32, en_s32, en_p2, en_s2, en_s3] <;> exact congrArg nI (by omega)) | exact congrArg nI (by omega) | rfl) (h3 : x3 = nI b := by first | with_reducible rfl | (simp (disch := omega) only [nI_add, nI_1, en_m1, en_s1, pk_sub, pk_mul, en_32, en_a2, en_a3, en_p32, en_s32, en_p2, en_s2, en_s3] <;> exact congrArg nI (by omega)) | exact congrArg nI (by omega) | rfl) (h4 : x4 = nI c := by first | with_reducible rfl | (simp (disch := omega) only [nI_add, nI_1, en_m1, en_s1, pk_sub, pk_mul, en_32, en_a2, en_a3, en_p32, en_s32, en_p2, en_s2, en_s3] <;> exact congrArg nI (by omega)) | exact congrArg nI (by omega) | rfl) : wpX_copyCells_8 post f x1 x3 x4 := by
  subst h1 h3 h4
  refine ⟨c + 1, ?_⟩
  have := xc_8_l ha hb hba h c 0 (by omega)
  rw [ec_0] at this
  exact this
theorem xc_9_l {post : St13 → Prop} {f : Nat → Int32} {a b c : Nat} (ha : a + c ≤ 4) (hb : b + c ≤ 4) (hba : b ≤ a) (h : post (ec_cp f a f b c)) : ∀ d i, i + d = c → wX_copyCells_9_3 post (nI a) (nI b) (nI c) (d + 1) (nI i) (ec_cp f a f b i) := by
  intro d
  induction d with
  | zero =>
    intro i hi
    obtain rfl : i = c := by omega
    exact ey_le i i (Nat.le_refl _) h
  | succ d ih =>
    intro i hi
    exact en_le c i (by omega) ⟨en_in (a + i) (by omega), en_in (b + i) (by omega), nm_r ((en_u (b + i) (en_g (a + i))).trans (ec_up hba i)) (nm_r (nI_1 i) (ih (i + 1) (by omega)))⟩
theorem xc_9 {post : St13 → Prop} {f : Nat → Int32} {x1 x3 x4 : Int32} (a b c : Nat) (ha : a + c ≤ 4) (hb : b + c ≤ 4) (hba : b ≤ a) (h : post (ec_cp f a f b c)) (h1 : x1 = nI a := by first | with_reducible rfl | (simp (disch := omega) only [nI_add, nI_1, en_m1, en_s1, pk_sub, pk_mul, en_32, en_a2, en_a3, en_p32, en_s32, en_p2, en_s2, en_s3] <;> exact congrArg nI (by omega)) | exact congrArg nI (by omega) | rfl) (h3 : x3 = nI b := by first | with_reducible rfl | (simp (disch := omega) only [nI_add, nI_1, en_m1, en_s1, pk_sub, pk_mul, en_32, en_a2, en_a3, en_p32, en_s32, en_p2, en_s2, en_s3] <;> exact congrArg nI (by omega)) | exact congrArg nI (by omega) | rfl) (h4 : x4 = nI c := by first | with_reducible rfl | (simp (disch := omega) only [nI_add, nI_1, en_m1, en_s1, pk_sub, pk_mul, en_32, en_a2, en_a3, en_p32, en_s32, en_p2, en_s2, en_s3] <;> exact congrArg nI (by omega)) | exact congrArg nI (by omega) | rfl) : wpX_copyCells_9 post f x1 x3 x4 := by
  subst h1 h3 h4
  refine ⟨c + 1, ?_⟩
  have := xc_9_l ha hb hba h c 0 (by omega)
  rw [ec_0] at this
  exact this
theorem xc_10_l {post : St14 → Prop} {f g : Nat → Int32} {a b c : Nat} (ha : a + c ≤ 256) (hb : b + c ≤ 32) (h : post (f, ec_cp f a g b c)) : ∀ d i, i + d = c → wX_copyCells_10_3 post (nI a) (nI b) (nI c) (d + 1) (nI i) f (ec_cp f a g b i) := by
  intro d
  induction d with
  | zero =>
    intro i hi
    obtain rfl : i = c := by omega
    exact ey_le i i (Nat.le_refl _) h
  | succ d ih =>
    intro i hi
    exact en_le c i (by omega) ⟨en_in (a + i) (by omega), en_in (b + i) (by omega), nm_r ((en_u (b + i) (en_g (a + i))).trans (ec_s f a g b i)) (nm_r (nI_1 i) (ih (i + 1) (by omega)))⟩
theorem xc_10 {post : St14 → Prop} {f g : Nat → Int32} {x1 x3 x4 : Int32} (a b c : Nat) (ha : a + c ≤ 256) (hb : b + c ≤ 32) (h : post (f, ec_cp f a g b c)) (h1 : x1 = nI a := by first | with_reducible rfl | (simp (disch := omega) only [nI_add, nI_1, en_m1, en_s1, pk_sub, pk_mul, en_32, en_a2, en_a3, en_p32, en_s32, en_p2, en_s2, en_s3] <;> exact congrArg nI (by omega)) | exact congrArg nI (by omega) | rfl) (h3 : x3 = nI b := by first | with_reducible rfl | (simp (disch := omega) only [nI_add, nI_1, en_m1, en_s1, pk_sub, pk_mul, en_32, en_a2, en_a3, en_p32, en_s32, en_p2, en_s2, en_s3] <;> exact congrArg nI (by omega)) | exact congrArg nI (by omega) | rfl) (h4 : x4 = nI c := by first | with_reducible rfl | (simp (disch := omega) only [nI_add, nI_1, en_m1, en_s1, pk_sub, pk_mul, en_32, en_a2, en_a3, en_p32, en_s32, en_p2, en_s2, en_s3] <;> exact congrArg nI (by omega)) | exact congrArg nI (by omega) | rfl) : wpX_copyCells_10 post (f, g) x1 x3 x4 := by
  subst h1 h3 h4
  refine ⟨c + 1, ?_⟩
  have := xc_10_l ha hb h c 0 (by omega)
  rw [ec_0] at this
  exact this
theorem xc_11_l {post : St15 → Prop} {f g : Nat → Int32} {a b c : Nat} (ha : a + c ≤ 32) (hb : b + c ≤ 32) (h : post (f, ec_cp f a g b c)) : ∀ d i, i + d = c → wX_copyCells_11_3 post (nI a) (nI b) (nI c) (d + 1) (nI i) f (ec_cp f a g b i) := by
  intro d
  induction d with
  | zero =>
    intro i hi
    obtain rfl : i = c := by omega
    exact ey_le i i (Nat.le_refl _) h
  | succ d ih =>
    intro i hi
    exact en_le c i (by omega) ⟨en_in (a + i) (by omega), en_in (b + i) (by omega), nm_r ((en_u (b + i) (en_g (a + i))).trans (ec_s f a g b i)) (nm_r (nI_1 i) (ih (i + 1) (by omega)))⟩
theorem xc_11 {post : St15 → Prop} {f g : Nat → Int32} {x1 x3 x4 : Int32} (a b c : Nat) (ha : a + c ≤ 32) (hb : b + c ≤ 32) (h : post (f, ec_cp f a g b c)) (h1 : x1 = nI a := by first | with_reducible rfl | (simp (disch := omega) only [nI_add, nI_1, en_m1, en_s1, pk_sub, pk_mul, en_32, en_a2, en_a3, en_p32, en_s32, en_p2, en_s2, en_s3] <;> exact congrArg nI (by omega)) | exact congrArg nI (by omega) | rfl) (h3 : x3 = nI b := by first | with_reducible rfl | (simp (disch := omega) only [nI_add, nI_1, en_m1, en_s1, pk_sub, pk_mul, en_32, en_a2, en_a3, en_p32, en_s32, en_p2, en_s2, en_s3] <;> exact congrArg nI (by omega)) | exact congrArg nI (by omega) | rfl) (h4 : x4 = nI c := by first | with_reducible rfl | (simp (disch := omega) only [nI_add, nI_1, en_m1, en_s1, pk_sub, pk_mul, en_32, en_a2, en_a3, en_p32, en_s32, en_p2, en_s2, en_s3] <;> exact congrArg nI (by omega)) | exact congrArg nI (by omega) | rfl) : wpX_copyCells_11 post (f, g) x1 x3 x4 := by
  subst h1 h3 h4
  refine ⟨c + 1, ?_⟩
  have := xc_11_l ha hb h c 0 (by omega)
  rw [ec_0] at this
  exact this
theorem xc_12_l {post : St16 → Prop} {f g : Nat → Int32} {a b c : Nat} (ha : a + c ≤ 128) (hb : b + c ≤ 32) (h : post (f, ec_cp f a g b c)) : ∀ d i, i + d = c → wX_copyCells_12_3 post (nI a) (nI b) (nI c) (d + 1) (nI i) f (ec_cp f a g b i) := by
  intro d
  induction d with
  | zero =>
    intro i hi
    obtain rfl : i = c := by omega
    exact ey_le i i (Nat.le_refl _) h
  | succ d ih =>
    intro i hi
    exact en_le c i (by omega) ⟨en_in (a + i) (by omega), en_in (b + i) (by omega), nm_r ((en_u (b + i) (en_g (a + i))).trans (ec_s f a g b i)) (nm_r (nI_1 i) (ih (i + 1) (by omega)))⟩
theorem xc_12 {post : St16 → Prop} {f g : Nat → Int32} {x1 x3 x4 : Int32} (a b c : Nat) (ha : a + c ≤ 128) (hb : b + c ≤ 32) (h : post (f, ec_cp f a g b c)) (h1 : x1 = nI a := by first | with_reducible rfl | (simp (disch := omega) only [nI_add, nI_1, en_m1, en_s1, pk_sub, pk_mul, en_32, en_a2, en_a3, en_p32, en_s32, en_p2, en_s2, en_s3] <;> exact congrArg nI (by omega)) | exact congrArg nI (by omega) | rfl) (h3 : x3 = nI b := by first | with_reducible rfl | (simp (disch := omega) only [nI_add, nI_1, en_m1, en_s1, pk_sub, pk_mul, en_32, en_a2, en_a3, en_p32, en_s32, en_p2, en_s2, en_s3] <;> exact congrArg nI (by omega)) | exact congrArg nI (by omega) | rfl) (h4 : x4 = nI c := by first | with_reducible rfl | (simp (disch := omega) only [nI_add, nI_1, en_m1, en_s1, pk_sub, pk_mul, en_32, en_a2, en_a3, en_p32, en_s32, en_p2, en_s2, en_s3] <;> exact congrArg nI (by omega)) | exact congrArg nI (by omega) | rfl) : wpX_copyCells_12 post (f, g) x1 x3 x4 := by
  subst h1 h3 h4
  refine ⟨c + 1, ?_⟩
  have := xc_12_l ha hb h c 0 (by omega)
  rw [ec_0] at this
  exact this
