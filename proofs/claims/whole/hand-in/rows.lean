section
theorem pk_us {f : Nat → Int32} {k : Nat} {x : Int32} : upd f k x k = x := if_pos rfl
theorem pk_un {f : Nat → Int32} {k j : Nat} {x : Int32} (h : j ≠ k) : upd f k x j = f j := if_neg h
theorem pk_uLs {f : Nat → Int64} {k : Nat} {x : Int64} : vp_updL f k x k = x := if_pos rfl
theorem pk_uLn {f : Nat → Int64} {k j : Nat} {x : Int64} (h : j ≠ k) : vp_updL f k x j = f j := if_neg h
theorem pk_sub {a b : Nat} (h : b ≤ a) : nI a - nI b = nI (a - b) := by
  obtain ⟨c, rfl⟩ : ∃ c, a = c + b := ⟨a - b, by omega⟩
  rw [← nI_add, Int32.add_sub_cancel, Nat.add_sub_cancel]
theorem pk_m1 (n : Nat) : nI (n + 1) + (-1) = nI n := by
  rw [← nI_1, Int32.add_assoc, show (1 : Int32) + (-1) = 0 from rfl, Int32.add_zero]
theorem pk_mul (a b : Nat) : nI a * nI b = nI (a * b) := (Int32.ofNat_mul a b).symm
theorem pk_div {a d : Nat} (ha : a < 2 ^ 31) (h0 : 0 < d) (hd : d < 2 ^ 31) : nI a / nI d = nI (a / d) := by
  apply Int32.toInt_inj.mp
  rw [lg_idiv_nonneg (by rw [nI_toInt ha]; omega) (by rw [nI_toInt hd]; omega), nI_toInt ha, nI_toInt hd, nI_toInt (Nat.lt_of_le_of_lt (Nat.div_le_self a d) ha)]
  first | rfl | exact (Int.natCast_ediv _ _).symm
theorem pk_rem {a d : Nat} (ha : a < 2 ^ 31) (h0 : 0 < d) (hd : d < 2 ^ 31) : nI a - nI a / nI d * nI d = nI (a % d) := by
  rw [pk_div ha h0 hd, pk_mul, pk_sub (Nat.div_mul_le_self a d)]
  exact congrArg nI (by have := Nat.div_add_mod' a d; omega)
theorem pk_le {x y : Int32} {A B : Prop} (a b : Nat) (f : a ≤ b → A) (g : b < a → B) (hx : x = nI a := by rfl) (hy : y = nI b := by rfl) (ha : a < 2 ^ 31 := by omega) (hb : b < 2 ^ 31 := by omega) : (x ≤ y → A) ∧ (¬ x ≤ y → B) := by
  subst hx hy
  rw [nI_leI ha hb]
  exact ⟨f, fun z => g (by omega)⟩
theorem pk_lt {x y : Int32} {A B : Prop} (a b : Nat) (f : a < b → A) (g : b ≤ a → B) (hx : x = nI a := by rfl) (hy : y = nI b := by rfl) (ha : a < 2 ^ 31 := by omega) (hb : b < 2 ^ 31 := by omega) : (x < y → A) ∧ (¬ x < y → B) := by
  subst hx hy
  rw [nI_ltI ha hb]
  exact ⟨f, fun z => g (by omega)⟩
theorem pk_eq {x y : Int32} {A B : Prop} (a b : Nat) (f : a = b → A) (g : a ≠ b → B) (hx : x = nI a := by rfl) (hy : y = nI b := by rfl) (ha : a < 2 ^ 31 := by omega) (hb : b < 2 ^ 31 := by omega) : (x = y → A) ∧ (¬ x = y → B) := by
  subst hx hy
  rw [nI_eq ha hb]
  exact ⟨f, g⟩
theorem pk_in {x : Int32} (n N : Nat) (h : n < N) (hx : x = nI n := by rfl) (hN : N < 2 ^ 31 := by omega) : vp_in x N := by
  subst hx
  exact vp_in_nI h hN
theorem pk_cl {x : Int32} (n : Nat) (hx : x = nI n := by rfl) (h : n < 2 ^ 31 := by omega) : x.toNatClampNeg = n := by
  subst hx
  exact nI_clamp h
theorem pk_tn {n : Nat} (h : n < 2 ^ 32) : (nI n).toBitVec.toNat = n := Nat.mod_eq_of_lt h
theorem pk_and (x : Int32) {m : Int32} (k : Nat) (hm : m.toBitVec.toNat = 2 ^ k - 1) : x &&& m = nI (x.toBitVec.toNat % 2 ^ k) := by
  apply Int32.toBitVec_inj.mp
  apply BitVec.eq_of_toNat_eq
  rw [Int32.toBitVec_and, BitVec.toNat_and, hm, Nat.and_two_pow_sub_one_eq_mod]
  show _ = (BitVec.ofNat 32 _).toNat
  rw [BitVec.toNat_ofNat]
  exact (Nat.mod_eq_of_lt (Nat.lt_of_le_of_lt (Nat.mod_le _ _) x.toBitVec.isLt)).symm
theorem pk_andN {n : Nat} (h : n < 2 ^ 32) {m : Int32} (k : Nat) (hm : m.toBitVec.toNat = 2 ^ k - 1) : nI n &&& m = nI (n % 2 ^ k) := by
  rw [pk_and _ k hm, pk_tn h]
theorem pk_shl (a s : Int32) (k : Nat) (hs : (s.toBitVec.smod 32).toNat = k) : (a <<< s).toBitVec.toNat = a.toBitVec.toNat * 2 ^ k % 2 ^ 32 := by
  show (a.toBitVec <<< (s.toBitVec.smod 32).toNat).toNat = _
  rw [hs, BitVec.toNat_shiftLeft, Nat.shiftLeft_eq]
theorem pk_shlN {n : Nat} (s : Int32) (k : Nat) (hs : (s.toBitVec.smod 32).toNat = k) (h : n * 2 ^ k < 2 ^ 32) : nI n <<< s = nI (n * 2 ^ k) := by
  apply Int32.toBitVec_inj.mp
  apply BitVec.eq_of_toNat_eq
  have hn : n < 2 ^ 32 := Nat.lt_of_le_of_lt (Nat.le_mul_of_pos_right n (Nat.two_pow_pos k)) h
  rw [pk_shl _ _ k hs, pk_tn hn, pk_tn h, Nat.mod_eq_of_lt h]
theorem pk_shr (a s : Int32) (k : Nat) (hs : (s.toBitVec.smod 32).toNat = k) : (a >>> s).toInt = a.toInt >>> k := by
  show (a.toBitVec.sshiftRight (s.toBitVec.smod 32).toNat).toInt = _
  rw [hs, BitVec.toInt_sshiftRight]
  rfl
theorem pk_shrN {n : Nat} (h : n < 2 ^ 31) (s : Int32) (k : Nat) (hs : (s.toBitVec.smod 32).toNat = k) : nI n >>> s = nI (n / 2 ^ k) := by
  apply Int32.toInt_inj.mp
  have h2 : n / 2 ^ k ≤ n := Nat.div_le_self _ _
  rw [pk_shr _ _ k hs, nI_toInt h, nI_toInt (by omega), Int.shiftRight_eq_div_pow]
  rfl
def bt (x : Int32) (i : Nat) : Bool := x.toBitVec.getLsbD i
theorem b_ext {x y : Int32} (h : ∀ i, i < 32 → bt x i = bt y i) : x = y := Int32.toBitVec_inj.mp (BitVec.eq_of_getLsbD_eq (fun i hi => h i hi))
theorem b_or (x y : Int32) (i : Nat) : bt (x ||| y) i = (bt x i || bt y i) := by unfold bt; rw [Int32.toBitVec_or, BitVec.getLsbD_or]
theorem b_and (x y : Int32) (i : Nat) : bt (x &&& y) i = (bt x i && bt y i) := by unfold bt; rw [Int32.toBitVec_and, BitVec.getLsbD_and]
theorem b_xor (x y : Int32) (i : Nat) : bt (x ^^^ y) i = (bt x i ^^ bt y i) := by unfold bt; rw [Int32.toBitVec_xor, BitVec.getLsbD_xor]
theorem b_big {x : Int32} {i : Nat} (h : 32 ≤ i) : bt x i = false := BitVec.getLsbD_of_ge _ _ h
theorem b_m1 : ∀ i, i < 32 → bt (-1) i = true := by decide +kernel
theorem b_0 (i : Nat) : bt 0 i = false := BitVec.getLsbD_zero
theorem s_l : ∀ n, n < 32 → ((nI n &&& 31).toBitVec.smod 32).toNat = n := by decide +kernel
theorem b_shl (n : Nat) (hn : n < 32) (x : Int32) {i : Nat} (hi : i < 32) : bt (x <<< (nI n &&& 31)) i = (decide (n ≤ i) && bt x (i - n)) := by
  unfold bt
  rw [Int32.toBitVec_shiftLeft]
  show (x.toBitVec <<< ((nI n &&& 31).toBitVec.smod 32).toNat).getLsbD i = _
  rw [s_l n hn, BitVec.getLsbD_shiftLeft]
  rcases Nat.lt_or_ge i n with h | h
  · simp [h, Nat.not_le.mpr h]
  · simp [hi, h, Nat.not_lt.mpr h]
theorem b_sshr (n : Nat) (hn : n < 32) (x : Int32) {i : Nat} (hi : i < 32) : bt (x >>> (nI n &&& 31)) i = if n + i < 32 then bt x (n + i) else bt x 31 := by
  unfold bt
  rw [Int32.toBitVec_shiftRight]
  show (x.toBitVec.sshiftRight ((nI n &&& 31).toBitVec.smod 32).toNat).getLsbD i = _
  rw [s_l n hn, BitVec.getLsbD_sshiftRight, BitVec.msb_eq_getLsbD_last]
  simp [hi]
/-! ===== whole numbers in Int32 and Int64 ===== -/
def sg_i (z : Int) : Int32 := Int32.ofInt z
def sg_l (z : Int) : Int64 := Int64.ofInt z
def sg_R (z : Int) : Prop := -2147483648 ≤ z ∧ z < 2147483648
def sg_RL (z : Int) : Prop := -9223372036854775808 ≤ z ∧ z < 9223372036854775808
theorem sg_iT {a : Int} (h : sg_R a) : (sg_i a).toInt = a := Int32.toInt_ofInt_of_le (by have := h.1; omega) (by have := h.2; omega)
theorem sg_lT {a : Int} (h : sg_RL a) : (sg_l a).toInt = a := Int64.toInt_ofInt_of_le (by have := h.1; omega) (by have := h.2; omega)
theorem sg_iadd (a b : Int) : sg_i a + sg_i b = sg_i (a + b) := (Int32.ofInt_add a b).symm
theorem sg_isub (a b : Int) : sg_i a - sg_i b = sg_i (a - b) := (Int32.ofInt_sub a b).symm
theorem sg_imul (a b : Int) : sg_i a * sg_i b = sg_i (a * b) := (Int32.ofInt_mul a b).symm
theorem sg_ineg (a : Int) : -sg_i a = sg_i (-a) := (Int32.ofInt_neg a).symm
theorem sg_ladd (a b : Int) : sg_l a + sg_l b = sg_l (a + b) := (Int64.ofInt_add a b).symm
theorem sg_lsub (a b : Int) : sg_l a - sg_l b = sg_l (a - b) := (Int64.ofInt_sub a b).symm
theorem sg_lmul (a b : Int) : sg_l a * sg_l b = sg_l (a * b) := (Int64.ofInt_mul a b).symm
theorem sg_lneg (a : Int) : -sg_l a = sg_l (-a) := (Int64.ofInt_neg a).symm
theorem sg_ile {a b : Int} (ha : sg_R a) (hb : sg_R b) : sg_i a ≤ sg_i b ↔ a ≤ b := by rw [Int32.le_iff_toInt_le, sg_iT ha, sg_iT hb]
theorem sg_ilt {a b : Int} (ha : sg_R a) (hb : sg_R b) : sg_i a < sg_i b ↔ a < b := by rw [Int32.lt_iff_toInt_lt, sg_iT ha, sg_iT hb]
theorem sg_ieq {a b : Int} (ha : sg_R a) (hb : sg_R b) : sg_i a = sg_i b ↔ a = b := by rw [← Int32.toInt_inj, sg_iT ha, sg_iT hb]
theorem sg_lle {a b : Int} (ha : sg_RL a) (hb : sg_RL b) : sg_l a ≤ sg_l b ↔ a ≤ b := by rw [Int64.le_iff_toInt_le, sg_lT ha, sg_lT hb]
theorem sg_llt {a b : Int} (ha : sg_RL a) (hb : sg_RL b) : sg_l a < sg_l b ↔ a < b := by rw [Int64.lt_iff_toInt_lt, sg_lT ha, sg_lT hb]
theorem sg_leq {a b : Int} (ha : sg_RL a) (hb : sg_RL b) : sg_l a = sg_l b ↔ a = b := by rw [← Int64.toInt_inj, sg_lT ha, sg_lT hb]
theorem sg_il {a : Int} (h : sg_R a) : (sg_i a).toInt64 = sg_l a := by
  apply Int64.toInt_inj.mp
  rw [Int32.toInt_toInt64, sg_iT h, sg_lT ⟨by have := h.1; omega, by have := h.2; omega⟩]
theorem sg_li (a : Int) : (sg_l a).toInt32 = sg_i a := Int64.toInt32_ofInt
theorem sg_nI (n : Nat) : nI n = sg_i n := Int32.ofInt_eq_ofNat.symm
theorem sg_lN (n : Nat) : lN n = sg_l n := Int64.ofInt_eq_ofNat.symm
theorem sg_i0 : (0 : Int32) = sg_i 0 := rfl
theorem sg_i1 : (1 : Int32) = sg_i 1 := rfl
theorem sg_im1 : (-1 : Int32) = sg_i (-1) := rfl
theorem sg_i20 : (20 : Int32) = sg_i 20 := rfl
theorem sg_l0 : (0 : Int64) = sg_l 0 := rfl
theorem sg_l1 : (1 : Int64) = sg_l 1 := rfl
theorem sg_lm1 : (-1 : Int64) = sg_l (-1) := rfl
/-- a product of two bounded numbers -/
theorem sg_mb {a b : Int} (A B : Int) (h1 : -A ≤ a) (h2 : a ≤ A) (h3 : -B ≤ b) (h4 : b ≤ B) : -(A * B) ≤ a * b ∧ a * b ≤ A * B := by
  have hA : 0 ≤ A := by omega
  have k1 : 0 ≤ (A - a) * (B - b) := Int.mul_nonneg (by omega) (by omega)
  have k2 : 0 ≤ (A + a) * (B + b) := Int.mul_nonneg (by omega) (by omega)
  have k3 : 0 ≤ (A - a) * (B + b) := Int.mul_nonneg (by omega) (by omega)
  have k4 : 0 ≤ (A + a) * (B - b) := Int.mul_nonneg (by omega) (by omega)
  simp only [Int.sub_mul, Int.mul_sub, Int.add_mul, Int.mul_add] at k1 k2 k3 k4
  omega
theorem sg_idiv {a b : Int} (ha : 0 ≤ a) (ha' : a < 2147483648) (hb : 0 < b) (hb' : b < 2147483648) : sg_i a / sg_i b = sg_i (a / b) := by
  obtain ⟨n, rfl⟩ := Int.eq_ofNat_of_zero_le ha
  obtain ⟨m, rfl⟩ := Int.eq_ofNat_of_zero_le (Int.le_of_lt hb)
  rw [← sg_nI, ← sg_nI, pk_div (by omega) (by omega) (by omega), sg_nI, Int.natCast_ediv]
theorem sg_ldiv {a b : Int} (ha : 0 ≤ a) (ha' : a < 9223372036854775808) (hb : 0 < b) (hb' : b < 9223372036854775808) : sg_l a / sg_l b = sg_l (a / b) := by
  apply Int64.toInt_inj.mp
  have hr : a / b ≤ a := Int.ediv_le_self _ ha
  have h0 : 0 ≤ a / b := Int.ediv_nonneg ha (by omega)
  have hne : sg_l b ≠ -1 := by
    intro h
    rw [sg_lm1, sg_leq ⟨by omega, by omega⟩ ⟨by omega, by omega⟩] at h
    omega
  rw [Int64.toInt_div_of_ne_right _ _ hne, sg_lT ⟨by omega, by omega⟩, sg_lT ⟨by omega, by omega⟩, sg_lT ⟨by omega, by omega⟩, Int.tdiv_eq_ediv_of_nonneg ha]
theorem sg_irem {a b : Int} (ha : 0 ≤ a) (ha' : a < 2147483648) (hb : 0 < b) (hb' : b < 2147483648) : sg_i a - sg_i a / sg_i b * sg_i b = sg_i (a % b) := by
  rw [sg_idiv ha ha' hb hb', sg_imul, sg_isub, Int.emod_def, Int.mul_comm b]
theorem sg_lrem {a b : Int} (ha : 0 ≤ a) (ha' : a < 9223372036854775808) (hb : 0 < b) (hb' : b < 9223372036854775808) : sg_l a - sg_l a / sg_l b * sg_l b = sg_l (a % b) := by
  rw [sg_ldiv ha ha' hb hb', sg_lmul, sg_lsub, Int.emod_def, Int.mul_comm b]
/-! ===== places ===== -/
theorem sg_px {x y : Int} (hx : 0 ≤ x) (hx' : x ≤ 20) (hy : 0 ≤ y) (hy' : y ≤ 20) : sg_i (32 * x + y) >>> ((5 : Int32) &&& 31) = sg_i x := by
  obtain ⟨a, rfl⟩ := Int.eq_ofNat_of_zero_le hx
  obtain ⟨b, rfl⟩ := Int.eq_ofNat_of_zero_le hy
  have e : (32 * (a : Int) + (b : Int)) = ((32 * a + b : Nat) : Int) := by omega
  rw [e, ← sg_nI, ← sg_nI, pk_shrN (by omega) _ 5 (by decide)]
  exact congrArg nI (by omega)
theorem sg_py {x y : Int} (hx : 0 ≤ x) (hx' : x ≤ 20) (hy : 0 ≤ y) (hy' : y ≤ 20) : sg_i (32 * x + y) &&& 31 = sg_i y := by
  obtain ⟨a, rfl⟩ := Int.eq_ofNat_of_zero_le hx
  obtain ⟨b, rfl⟩ := Int.eq_ofNat_of_zero_le hy
  have e : (32 * (a : Int) + (b : Int)) = ((32 * a + b : Nat) : Int) := by omega
  rw [e, ← sg_nI, ← sg_nI, pk_andN (by omega) 5 (by decide)]
  exact congrArg nI (by omega)
theorem sg_pk {x y : Nat} (hx : x ≤ 20) (hy : y ≤ 20) : (nI x <<< ((5 : Int32) &&& 31)) ||| nI y = sg_i (32 * (x : Int) + y) := by
  have e : (32 * (x : Int) + (y : Int)) = ((32 * x + y : Nat) : Int) := by omega
  rw [e, ← sg_nI]
  have H : ∀ x, x < 21 → ∀ y, y < 21 → (nI x <<< ((5 : Int32) &&& 31)) ||| nI y = nI (32 * x + y) := by decide +kernel
  exact H x (by omega) y (by omega)
/-! ===== masks: bit i for i < 10 with Q i ===== -/
def sg_M (x : Int32) (Q : Nat → Prop) : Prop := ∀ i, i < 32 → (bt x i = true ↔ (i < 10 ∧ Q i))
theorem sg_Mu {x y : Int32} {Q R : Nat → Prop} (hx : sg_M x Q) (hy : sg_M y R) (h : ∀ i, i < 10 → (Q i ↔ R i)) : x = y := by
  apply b_ext
  intro i hi
  have a := hx i hi
  have b := hy i hi
  have c : bt x i = true ↔ bt y i = true := by
    rw [a, b]
    constructor
    · exact fun h2 => ⟨h2.1, (h i h2.1).mp h2.2⟩
    · exact fun h2 => ⟨h2.1, (h i h2.1).mpr h2.2⟩
  revert c; cases bt x i <;> cases bt y i <;> simp
theorem sg_Mc {x : Int32} {Q R : Nat → Prop} (hx : sg_M x Q) (h : ∀ i, i < 10 → (Q i ↔ R i)) : sg_M x R := by
  intro i hi
  rw [hx i hi]
  exact ⟨fun h2 => ⟨h2.1, (h i h2.1).mp h2.2⟩, fun h2 => ⟨h2.1, (h i h2.1).mpr h2.2⟩⟩
theorem sg_M0 : sg_M 0 (fun _ => False) := by intro i _; rw [b_0]; simp
theorem sg_b1 : ∀ k, k < 32 → ∀ i, i < 32 → bt ((1 : Int32) <<< (nI k &&& 31)) i = decide (i = k) := by decide +kernel
theorem sg_M1 {k : Nat} (hk : k < 10) : sg_M ((1 : Int32) <<< (nI k &&& 31)) (fun i => i = k) := by
  intro i hi
  rw [sg_b1 k (by omega) i hi, decide_eq_true_iff]
  constructor
  · intro h; subst h; exact ⟨hk, rfl⟩
  · exact fun h => h.2
theorem sg_Mor {x y : Int32} {Q R : Nat → Prop} (hx : sg_M x Q) (hy : sg_M y R) : sg_M (x ||| y) (fun i => Q i ∨ R i) := by
  intro i hi
  rw [b_or, Bool.or_eq_true, hx i hi, hy i hi]
  constructor
  · rintro (h | h)
    · exact ⟨h.1, Or.inl h.2⟩
    · exact ⟨h.1, Or.inr h.2⟩
  · rintro ⟨h, h2 | h2⟩
    · exact Or.inl ⟨h, h2⟩
    · exact Or.inr ⟨h, h2⟩
theorem sg_Mand {x y : Int32} {Q R : Nat → Prop} (hx : sg_M x Q) (hy : sg_M y R) : sg_M (x &&& y) (fun i => Q i ∧ R i) := by
  intro i hi
  rw [b_and, Bool.and_eq_true, hx i hi, hy i hi]
  exact ⟨fun h => ⟨h.1.1, h.1.2, h.2.2⟩, fun h => ⟨⟨h.1, h.2.1⟩, ⟨h.1, h.2.2⟩⟩⟩
theorem sg_Mdiff {x y : Int32} {Q R : Nat → Prop} (hx : sg_M x Q) (hy : sg_M y R) : sg_M (x &&& (y ^^^ (-1))) (fun i => Q i ∧ ¬ R i) := by
  intro i hi
  rw [b_and, b_xor, b_m1 i hi, Bool.and_eq_true, hx i hi]
  have e : (bt y i ^^ true) = true ↔ ¬ (bt y i = true) := by cases bt y i <;> simp
  rw [e, hy i hi]
  exact ⟨fun h => ⟨h.1.1, h.1.2, fun h2 => h.2 ⟨h.1.1, h2⟩⟩, fun h => ⟨⟨h.1, h.2.1⟩, fun h2 => h.2.2 h2.2⟩⟩
theorem sg_bit1 (y : Int32) : (y &&& 1) = 1 ↔ bt y 0 = true := by
  constructor
  · intro h
    have := congrArg (fun z => bt z 0) h
    simp only [b_and] at this
    have e : bt 1 0 = true := by decide
    rw [e, Bool.and_true] at this
    exact this
  · intro h
    apply b_ext
    intro i hi
    rw [b_and]
    by_cases h0 : i = 0
    · subst h0; rw [h]; simp
    · have e : ∀ i, i < 32 → i ≠ 0 → bt 1 i = false := by decide +kernel
      rw [e i hi h0, Bool.and_false]
theorem sg_Mbit {x : Int32} {Q : Nat → Prop} (hx : sg_M x Q) {k : Nat} (hk : k < 10) : ((x >>> (nI k &&& 31)) &&& 1) = 1 ↔ Q k := by
  rw [sg_bit1, b_sshr k (by omega) x (by omega), if_pos (by omega), hx (k + 0) (by omega)]
  exact ⟨fun h => h.2, fun h => ⟨hk, h⟩⟩
theorem sg_Mz {x : Int32} {Q : Nat → Prop} (hx : sg_M x Q) : x = 0 ↔ ∀ i, i < 10 → ¬ Q i := by
  constructor
  · intro h i hi hq
    have := (hx i (by omega)).mpr ⟨hi, hq⟩
    rw [h, b_0] at this
    exact Bool.noConfusion this
  · intro h
    exact sg_Mu hx sg_M0 (fun i hi => ⟨fun q => h i hi q, fun f => f.elim⟩)
theorem sg_Mn {x : Int32} {Q : Nat → Prop} (hx : sg_M x Q) : ∃ n, n < 1024 ∧ x = nI n := by
  have e : x = nI x.toBitVec.toNat := by
    apply Int32.toBitVec_inj.mp
    apply BitVec.eq_of_toNat_eq
    rw [pk_tn x.toBitVec.isLt]
  refine ⟨x.toBitVec.toNat, ?_, e⟩
  have h : x.toBitVec.toNat < 2 ^ 10 := by
    apply Nat.lt_pow_two_of_testBit
    intro i hi
    show bt x i = false
    rcases Nat.lt_or_ge i 32 with h | h
    · have := hx i h
      cases hb : bt x i
      · rfl
      · have := this.mp hb; omega
    · exact b_big h
  exact h
theorem sg_Mone {x : Int32} {Q : Nat → Prop} (hx : sg_M x Q) : (x &&& (x - 1)) = 0 ↔ ∀ i j, i < 10 → j < 10 → Q i → Q j → i = j := by
  constructor
  · intro h i j hi hj qi qj
    obtain ⟨n, hn, e⟩ := sg_Mn hx
    have H : ∀ n, n < 1024 → (nI n &&& (nI n - 1)) = 0 → nI n = 0 ∨ ∃ i, i < 10 ∧ nI n = (1 : Int32) <<< (nI i &&& 31) := by decide +kernel
    rcases H n hn (e ▸ h) with h0 | ⟨k, hk, h1⟩
    · exact absurd qi ((sg_Mz hx).mp (e.trans h0) i hi)
    · have hy := sg_M1 hk
      rw [← h1, ← e] at hy
      have a := ((hy i (by omega)).mp ((hx i (by omega)).mpr ⟨hi, qi⟩)).2
      have b := ((hy j (by omega)).mp ((hx j (by omega)).mpr ⟨hj, qj⟩)).2
      dsimp only at a b
      omega
  · intro h
    by_cases hz : ∃ k, k < 10 ∧ Q k
    · obtain ⟨k, hk, qk⟩ := hz
      have e : x = (1 : Int32) <<< (nI k &&& 31) := sg_Mu hx (sg_M1 hk) (fun i hi => ⟨fun q => h i k hi hk q qk, fun q => by subst q; exact qk⟩)
      have H : ∀ k, k < 10 → (((1 : Int32) <<< (nI k &&& 31)) &&& (((1 : Int32) <<< (nI k &&& 31)) - 1)) = 0 := by decide +kernel
      rw [e]; exact H k hk
    · have e : x = 0 := (sg_Mz hx).mpr (fun i hi q => hz ⟨i, hi, q⟩)
      rw [e]; decide
end
section
/-! ===== the plane over Rat: lines, the order by x and then y, points on a segment ===== -/
def sg_L (a b c d x y : Rat) : Prop := (c - a) * (y - b) = (d - b) * (x - a)
def sg_le (a b x y : Rat) : Prop := a < x ∨ (a = x ∧ b ≤ y)
def sg_lt (a b x y : Rat) : Prop := a < x ∨ (a = x ∧ b < y)
def sg_O (a b c d x y : Rat) : Prop := sg_L a b c d x y ∧ sg_le a b x y ∧ sg_le x y c d
def sg_bt (p q t : Rat) : Prop := (p ≤ t ∧ t ≤ q) ∨ (q ≤ t ∧ t ≤ p)
theorem sg_le_refl (a b : Rat) : sg_le a b a b := Or.inr ⟨rfl, Rat.le_refl⟩
theorem sg_le_of_lt {a b x y : Rat} (h : sg_lt a b x y) : sg_le a b x y := by unfold sg_lt at h; unfold sg_le; grind
theorem sg_le_trans {a b c d e f : Rat} (h : sg_le a b c d) (k : sg_le c d e f) : sg_le a b e f := by unfold sg_le at *; grind
theorem sg_lt_le {a b c d e f : Rat} (h : sg_lt a b c d) (k : sg_le c d e f) : sg_lt a b e f := by unfold sg_le sg_lt at *; grind
theorem sg_le_lt {a b c d e f : Rat} (h : sg_le a b c d) (k : sg_lt c d e f) : sg_lt a b e f := by unfold sg_le sg_lt at *; grind
theorem sg_lt_trans {a b c d e f : Rat} (h : sg_lt a b c d) (k : sg_lt c d e f) : sg_lt a b e f := sg_lt_le h (sg_le_of_lt k)
theorem sg_le_anti {a b c d : Rat} (h : sg_le a b c d) (k : sg_le c d a b) : a = c ∧ b = d := by unfold sg_le at *; grind
theorem sg_lt_irr {a b : Rat} : ¬ sg_lt a b a b := by unfold sg_lt; grind
theorem sg_total (a b c d : Rat) : sg_le a b c d ∨ sg_lt c d a b := by unfold sg_le sg_lt; grind
theorem sg_lt_or {a b c d : Rat} (h : sg_le a b c d) : sg_lt a b c d ∨ (a = c ∧ b = d) := by unfold sg_le at h; unfold sg_lt; grind
theorem sg_L_a (a b c d : Rat) : sg_L a b c d a b := by unfold sg_L; grind
theorem sg_L_c (a b c d : Rat) : sg_L a b c d c d := by unfold sg_L; grind
theorem sg_L_sw (a b c d x y : Rat) : sg_L a b c d x y ↔ sg_L c d a b x y := by unfold sg_L; grind
theorem sg_O_a {a b c d : Rat} (h : sg_lt a b c d) : sg_O a b c d a b := ⟨sg_L_a .., sg_le_refl .., sg_le_of_lt h⟩
theorem sg_O_c {a b c d : Rat} (h : sg_lt a b c d) : sg_O a b c d c d := ⟨sg_L_c .., sg_le_of_lt h, sg_le_refl ..⟩
theorem sg_bt_sw (p q t : Rat) : sg_bt p q t ↔ sg_bt q p t := ⟨Or.symm, Or.symm⟩
theorem sg_ml {s t w : Rat} (hw : 0 < w) : s * w < t * w ↔ s < t := Rat.mul_lt_mul_right hw
theorem sg_me {s t w : Rat} (hw : 0 < w) : s * w = t * w ↔ s = t := by
  constructor
  · intro h
    have : (s - t) * w = 0 := by grind
    rcases Rat.mul_eq_zero.mp this with h1 | h1 <;> grind
  · intro h; rw [h]
theorem sg_mle {s t w : Rat} (hw : 0 < w) : s * w ≤ t * w ↔ s ≤ t := by
  rw [← Rat.not_lt, ← Rat.not_lt, sg_ml hw]
/-- a point of the line by its share -/
theorem sg_share {a b c d x y : Rat} (h : sg_lt a b c d) (hL : sg_L a b c d x y) : ∃ t, x = a + t * (c - a) ∧ y = b + t * (d - b) := by
  unfold sg_L at hL
  rcases h with h | ⟨h, h2⟩
  · have hne : c - a ≠ 0 := by grind
    have hp : 0 < c - a := by grind
    refine ⟨(x - a) / (c - a), ?_, ?_⟩
    · rw [Rat.div_mul_cancel hne]; grind
    · have : (y - b) = (x - a) / (c - a) * (d - b) := by
        rw [← sg_me hp]
        have e : (x - a) / (c - a) * (c - a) = x - a := Rat.div_mul_cancel hne
        grind
      grind
  · have hne : d - b ≠ 0 := by grind
    refine ⟨(y - b) / (d - b), ?_, ?_⟩
    · subst h
      have : (d - b) * (x - a) = 0 := by grind
      rcases Rat.mul_eq_zero.mp this with h1 | h1 <;> grind
    · rw [Rat.div_mul_cancel hne]; grind
theorem sg_tle {a b c d : Rat} (h : sg_lt a b c d) (s t : Rat) : sg_le (a + s * (c - a)) (b + s * (d - b)) (a + t * (c - a)) (b + t * (d - b)) ↔ s ≤ t := by
  unfold sg_le
  rcases h with h | ⟨h, h2⟩
  · have hp : 0 < c - a := by grind
    have e1 : a + s * (c - a) < a + t * (c - a) ↔ s < t := by rw [Rat.add_lt_add_left, sg_ml hp]
    have e2 : a + s * (c - a) = a + t * (c - a) ↔ s = t := by
      constructor
      · intro h; exact (sg_me hp).mp (by grind)
      · intro h; rw [h]
    rw [e1, e2]
    constructor
    · rintro (h | ⟨h, _⟩) <;> grind
    · intro h
      by_cases hs : s = t
      · subst hs; exact Or.inr ⟨rfl, Rat.le_refl⟩
      · left; grind
  · have hp : 0 < d - b := by grind
    subst h
    have e1 : b + s * (d - b) ≤ b + t * (d - b) ↔ s ≤ t := by rw [Rat.add_le_add_left, sg_mle hp]
    rw [e1]
    constructor
    · rintro (h | ⟨_, h⟩)
      · grind
      · exact h
    · intro h; right; exact ⟨by grind, h⟩
theorem sg_tlt {a b c d : Rat} (h : sg_lt a b c d) (s t : Rat) : sg_lt (a + s * (c - a)) (b + s * (d - b)) (a + t * (c - a)) (b + t * (d - b)) ↔ s < t := by
  rw [← Rat.not_le, ← sg_tle h t s]
  constructor
  · intro h1 h2; exact sg_lt_irr (sg_lt_le h1 h2)
  · intro h1
    rcases sg_total (a + t * (c - a)) (b + t * (d - b)) (a + s * (c - a)) (b + s * (d - b)) with h2 | h2
    · exact absurd h2 h1
    · exact h2
theorem sg_t0 {a b c d : Rat} (h : sg_lt a b c d) (t : Rat) : sg_le a b (a + t * (c - a)) (b + t * (d - b)) ↔ 0 ≤ t := by
  have := sg_tle h 0 t
  rwa [show a + 0 * (c - a) = a by grind, show b + 0 * (d - b) = b by grind] at this
theorem sg_t1 {a b c d : Rat} (h : sg_lt a b c d) (t : Rat) : sg_le (a + t * (c - a)) (b + t * (d - b)) c d ↔ t ≤ 1 := by
  have := sg_tle h t 1
  rwa [show a + 1 * (c - a) = c by grind, show b + 1 * (d - b) = d by grind] at this
theorem sg_tbt {t : Rat} (h0 : 0 ≤ t) (h1 : t ≤ 1) (b d : Rat) : sg_bt b d (b + t * (d - b)) := by
  unfold sg_bt
  rcases @Rat.le_total b d with h | h
  · left
    have k1 := Rat.mul_nonneg h0 (show 0 ≤ d - b by grind)
    have k2 := Rat.mul_nonneg (show 0 ≤ 1 - t by grind) (show 0 ≤ d - b by grind)
    constructor <;> grind
  · right
    have k1 := Rat.mul_nonneg h0 (show 0 ≤ b - d by grind)
    have k2 := Rat.mul_nonneg (show 0 ≤ 1 - t by grind) (show 0 ≤ b - d by grind)
    constructor <;> grind
theorem sg_btt {a c t : Rat} (h : a < c) (k : sg_bt a c (a + t * (c - a))) : 0 ≤ t ∧ t ≤ 1 := by
  have hp : 0 < c - a := by grind
  rcases k with ⟨k1, k2⟩ | ⟨k1, k2⟩
  · exact ⟨(sg_mle hp).mp (by grind), (sg_mle hp).mp (by grind)⟩
  · exfalso; grind
theorem sg_box {a b c d x y : Rat} (h : sg_lt a b c d) : sg_O a b c d x y ↔ (sg_L a b c d x y ∧ sg_bt a c x ∧ sg_bt b d y) := by
  constructor
  · rintro ⟨hL, h1, h2⟩
    refine ⟨hL, ?_⟩
    obtain ⟨t, rfl, rfl⟩ := sg_share h hL
    rw [sg_t0 h] at h1
    rw [sg_t1 h] at h2
    exact ⟨sg_tbt h1 h2 .., sg_tbt h1 h2 ..⟩
  · rintro ⟨hL, h1, h2⟩
    refine ⟨hL, ?_⟩
    obtain ⟨t, rfl, rfl⟩ := sg_share h hL
    rw [sg_t0 h, sg_t1 h]
    rcases h with h | ⟨_, h⟩
    · exact sg_btt h h1
    · exact sg_btt h h2
/-! ===== two lines that cross ===== -/
theorem sg_cross1 {a b c d e f g h x y : Rat} (hJ : sg_L a b c d x y) (hK : sg_L e f g h x y) :
    ((c - a) * (h - f) - (d - b) * (g - e)) * (x - a) = ((e - a) * (h - f) - (f - b) * (g - e)) * (c - a) ∧
    ((c - a) * (h - f) - (d - b) * (g - e)) * (y - b) = ((e - a) * (h - f) - (f - b) * (g - e)) * (d - b) := by
  unfold sg_L at hJ hK
  constructor <;> grind
theorem sg_cross2 {a b c d e f g h t s w x y : Rat} (hw : w = (c - a) * (h - f) - (d - b) * (g - e)) (hw0 : w ≠ 0)
    (ht : t * w = (e - a) * (h - f) - (f - b) * (g - e)) (hs : s * w = (e - a) * (d - b) - (f - b) * (c - a))
    (hx : x = a + t * (c - a)) (hy : y = b + t * (d - b)) : x = e + s * (g - e) ∧ y = f + s * (h - f) := by
  have k : ∀ z : Rat, w * z = 0 → z = 0 := by
    intro z hz
    rcases Rat.mul_eq_zero.mp hz with h1 | h1
    · exact absurd h1 hw0
    · exact h1
  constructor
  · have := k (x - (e + s * (g - e))) (by grind)
    grind
  · have := k (y - (f + s * (h - f))) (by grind)
    grind
theorem sg_Lt (a b c d t : Rat) : sg_L a b c d (a + t * (c - a)) (b + t * (d - b)) := by unfold sg_L; grind
/-- the point that X reckons: it is on both lines, on both segments just when both shares are within, and no other point is on both lines -/
theorem sg_meetX {a b c d e f g h t s w : Rat} (hj : sg_lt a b c d) (hk : sg_lt e f g h) (hw : w = (c - a) * (h - f) - (d - b) * (g - e)) (hw0 : w ≠ 0)
    (ht : t * w = (e - a) * (h - f) - (f - b) * (g - e)) (hs : s * w = (e - a) * (d - b) - (f - b) * (c - a)) :
    (sg_O a b c d (a + t * (c - a)) (b + t * (d - b)) ∧ sg_O e f g h (a + t * (c - a)) (b + t * (d - b))) ↔ (0 ≤ t ∧ t ≤ 1 ∧ 0 ≤ s ∧ s ≤ 1) := by
  obtain ⟨ex, ey⟩ := sg_cross2 hw hw0 ht hs rfl rfl
  unfold sg_O
  rw [sg_t0 hj, sg_t1 hj]
  rw [ex, ey]
  rw [sg_t0 hk, sg_t1 hk]
  have h1 := sg_Lt a b c d t
  rw [ex, ey] at h1
  have h2 := sg_Lt e f g h s
  constructor
  · rintro ⟨⟨_, p, q⟩, _, r, z⟩; exact ⟨p, q, r, z⟩
  · rintro ⟨p, q, r, z⟩; exact ⟨⟨h1, p, q⟩, h2, r, z⟩
theorem sg_meetU {a b c d e f g h t w x y : Rat} (hw : w = (c - a) * (h - f) - (d - b) * (g - e)) (hw0 : w ≠ 0)
    (ht : t * w = (e - a) * (h - f) - (f - b) * (g - e)) (hJ : sg_L a b c d x y) (hK : sg_L e f g h x y) : x = a + t * (c - a) ∧ y = b + t * (d - b) := by
  obtain ⟨h1, h2⟩ := sg_cross1 hJ hK
  have k : ∀ z : Rat, w * z = 0 → z = 0 := by
    intro z hz
    rcases Rat.mul_eq_zero.mp hz with h1 | h1
    · exact absurd h1 hw0
    · exact h1
  constructor
  · have := k (x - (a + t * (c - a))) (by grind)
    grind
  · have := k (y - (b + t * (d - b))) (by grind)
    grind
/-! ===== lines of one direction ===== -/
theorem sg_dir {p q z : Rat} (h : p ≠ 0 ∨ q ≠ 0) (h1 : p * z = 0) (h2 : q * z = 0) : z = 0 := by
  rcases h with h | h
  · rcases Rat.mul_eq_zero.mp h1 with k | k
    · exact absurd k h
    · exact k
  · rcases Rat.mul_eq_zero.mp h2 with k | k
    · exact absurd k h
    · exact k
theorem sg_ltne {a b c d : Rat} (h : sg_lt a b c d) : c - a ≠ 0 ∨ d - b ≠ 0 := by unfold sg_lt at h; grind
theorem sg_same {a b c d e f g h x y u v : Rat} (hj : c - a ≠ 0 ∨ d - b ≠ 0) (hw : (c - a) * (h - f) - (d - b) * (g - e) = 0)
    (hJ : sg_L a b c d x y) (hK : sg_L e f g h x y) (hP : sg_L a b c d u v) : sg_L e f g h u v := by
  unfold sg_L at *
  have := sg_dir (z := (g - e) * (v - f) - (h - f) * (u - e)) hj (by grind) (by grind)
  grind
theorem sg_para {a b c d e f g h x y u v : Rat} (hne : u - x ≠ 0 ∨ v - y ≠ 0) (h1 : sg_L a b c d x y) (h2 : sg_L a b c d u v) (h3 : sg_L e f g h x y) (h4 : sg_L e f g h u v) :
    (c - a) * (h - f) - (d - b) * (g - e) = 0 := by
  unfold sg_L at *
  exact sg_dir hne (by grind) (by grind)
/-- segments of one direction with just one point in common touch end to end -/
theorem sg_touch {a b c d e f g h x y : Rat} (hj : sg_lt a b c d) (hk : sg_lt e f g h) (hw : (c - a) * (h - f) - (d - b) * (g - e) = 0)
    (hJ : sg_O a b c d x y) (hK : sg_O e f g h x y) (hU : ∀ u v, sg_O a b c d u v → sg_O e f g h u v → u = x ∧ v = y) : (c = e ∧ d = f ∧ x = c ∧ y = d) ∨ (g = a ∧ h = b ∧ x = a ∧ y = b) := by
  have hw' : (g - e) * (d - b) - (h - f) * (c - a) = 0 := by grind
  have lJ : ∀ u v, sg_L e f g h u v → sg_L a b c d u v := fun u v hl => sg_same (sg_ltne hk) hw' hK.1 hJ.1 hl
  have lK : ∀ u v, sg_L a b c d u v → sg_L e f g h u v := fun u v hl => sg_same (sg_ltne hj) hw hJ.1 hK.1 hl
  -- the greater of the two lower ends is x y, and so is the lesser of the two upper ones
  have lo : (a = x ∧ b = y) ∨ (e = x ∧ f = y) := by
    rcases sg_total a b e f with q | q
    · right; exact hU e f ⟨lJ _ _ (sg_L_a ..), q, sg_le_trans hK.2.1 hJ.2.2⟩ (sg_O_a hk)
    · left; exact hU a b (sg_O_a hj) ⟨lK _ _ (sg_L_a ..), sg_le_of_lt q, sg_le_trans hJ.2.1 hK.2.2⟩
  have hi : (c = x ∧ d = y) ∨ (g = x ∧ h = y) := by
    rcases sg_total c d g h with q | q
    · left; exact hU c d (sg_O_c hj) ⟨lK _ _ (sg_L_c ..), sg_le_trans hK.2.1 hJ.2.2, q⟩
    · right; exact hU g h ⟨lJ _ _ (sg_L_c ..), sg_le_trans hJ.2.1 hK.2.2, sg_le_of_lt q⟩ (sg_O_c hk)
  unfold sg_lt at hj hk
  rcases lo with ⟨p1, p2⟩ | ⟨p1, p2⟩ <;> rcases hi with ⟨q1, q2⟩ | ⟨q1, q2⟩ <;> grind
/-- segments that don't overlap have at most one point in common -/
theorem sg_apart {a b c d e f g h : Rat} (hj : sg_lt a b c d) (hk : sg_lt e f g h)
    (hn : ¬ (sg_lt a b g h ∧ sg_lt e f c d ∧ sg_L e f g h a b ∧ sg_L e f g h c d)) {x y u v : Rat}
    (h1 : sg_O a b c d x y) (h2 : sg_O e f g h x y) (h3 : sg_O a b c d u v) (h4 : sg_O e f g h u v) : x = u ∧ y = v := by
  have key : ∀ x y u v : Rat, sg_O a b c d x y → sg_O e f g h x y → sg_O a b c d u v → sg_O e f g h u v → ¬ sg_lt x y u v := by
    intro x y u v h1 h2 h3 h4 hlt
    apply hn
    have hne : u - x ≠ 0 ∨ v - y ≠ 0 := sg_ltne hlt
    have hw := sg_para hne h1.1 h3.1 h2.1 h4.1
    refine ⟨sg_le_lt h1.2.1 (sg_lt_le hlt h4.2.2), sg_le_lt h2.2.1 (sg_lt_le hlt h3.2.2), ?_, ?_⟩
    · exact sg_same (sg_ltne hj) hw h1.1 h2.1 (sg_L_a ..)
    · exact sg_same (sg_ltne hj) hw h1.1 h2.1 (sg_L_c ..)
  rcases sg_total x y u v with q | q
  · rcases sg_lt_or q with r | r
    · exact absurd r (key _ _ _ _ h1 h2 h3 h4)
    · exact r
  · exact absurd q (key _ _ _ _ h3 h4 h1 h2)
/-! ===== refused: X's words against Y's ===== -/
theorem sg_lines {a b c d e f g h : Rat} (hj : sg_lt a b c d) (hk : sg_lt e f g h) : (sg_L e f g h a b ∧ sg_L e f g h c d) ↔ (sg_L a b c d e f ∧ sg_L a b c d g h) := by
  constructor
  · rintro ⟨h1, h2⟩
    have hw := sg_para (sg_ltne hj) (sg_L_a a b c d) (sg_L_c a b c d) h1 h2
    have hw' : (g - e) * (d - b) - (h - f) * (c - a) = 0 := by grind
    exact ⟨sg_same (sg_ltne hk) hw' h1 (sg_L_a a b c d) (sg_L_a ..), sg_same (sg_ltne hk) hw' h1 (sg_L_a a b c d) (sg_L_c ..)⟩
  · rintro ⟨h1, h2⟩
    have hw := sg_para (sg_ltne hk) (sg_L_a e f g h) (sg_L_c e f g h) h1 h2
    have hw' : (c - a) * (h - f) - (d - b) * (g - e) = 0 := by grind
    exact ⟨sg_same (sg_ltne hj) hw' h1 (sg_L_a e f g h) (sg_L_a ..), sg_same (sg_ltne hj) hw' h1 (sg_L_a e f g h) (sg_L_c ..)⟩
theorem sg_sq {p q : Rat} (h : p ≠ 0 ∨ q ≠ 0) : 0 < p * p + q * q := by
  have k : ∀ z : Rat, 0 ≤ z * z := by
    intro z
    rcases @Rat.le_total 0 z with h | h
    · exact Rat.mul_nonneg h h
    · have := Rat.mul_nonneg (show 0 ≤ -z by grind) (show 0 ≤ -z by grind)
      grind
  have k2 : ∀ z : Rat, z ≠ 0 → z * z ≠ 0 := by
    intro z hz h
    rcases Rat.mul_eq_zero.mp h with h | h <;> exact hz h
  have hp := k p
  have hq := k q
  rcases h with h | h
  · have := k2 p h; grind
  · have := k2 q h; grind
theorem sg_proj {a b c d x y u v : Rat} (hj : sg_lt a b c d) (h1 : sg_L a b c d x y) (h2 : sg_L a b c d u v) :
    sg_lt x y u v ↔ (c - a) * x + (d - b) * y < (c - a) * u + (d - b) * v := by
  have hs := sg_sq (sg_ltne hj)
  obtain ⟨s, rfl, rfl⟩ := sg_share hj h1
  obtain ⟨t, rfl, rfl⟩ := sg_share hj h2
  rw [sg_tlt hj, ← sg_ml hs]
  constructor <;> intro k <;> grind
end
section
/-! ===== the segments as numbers; a segment k: (lower x, lower y, upper x, upper y) ===== -/
def sg_lx (G : Nat → Int × Int × Int × Int) (k : Nat) : Int := (G k).1
def sg_ly (G : Nat → Int × Int × Int × Int) (k : Nat) : Int := (G k).2.1
def sg_hx (G : Nat → Int × Int × Int × Int) (k : Nat) : Int := (G k).2.2.1
def sg_hy (G : Nat → Int × Int × Int × Int) (k : Nat) : Int := (G k).2.2.2
def sg_on (G : Nat → Int × Int × Int × Int) (k : Nat) (p : Rat × Rat) : Prop := sg_O (sg_lx G k) (sg_ly G k) (sg_hx G k) (sg_hy G k) p.1 p.2
def sg_in (G : Nat → Int × Int × Int × Int) (k : Nat) : Prop := 0 ≤ sg_lx G k ∧ sg_lx G k ≤ 20 ∧ 0 ≤ sg_ly G k ∧ sg_ly G k ≤ 20 ∧ 0 ≤ sg_hx G k ∧ sg_hx G k ≤ 20 ∧ 0 ≤ sg_hy G k ∧ sg_hy G k ≤ 20
def sg_od (G : Nat → Int × Int × Int × Int) (k : Nat) : Prop := 32 * sg_lx G k + sg_ly G k < 32 * sg_hx G k + sg_hy G k
def sg_un (P : Nat → Prop) (G : Nat → Int × Int × Int × Int) : Prop := ∀ a b, a < 10 → b < 10 → P a → P b → a ≠ b → ∀ p q, sg_on G a p → sg_on G b p → sg_on G a q → sg_on G b q → p = q
def sg_Geo (P : Nat → Prop) (G : Nat → Int × Int × Int × Int) : Prop := (∀ k, k < 10 → sg_in G k) ∧ (∀ k, k < 10 → P k → sg_od G k) ∧ sg_un P G
theorem sg_cs (a b : Int) : ((a - b : Int) : Rat) = (a : Rat) - (b : Rat) := Rat.intCast_sub a b
/-- the order of places is the order of points -/
theorem sg_plt {x y u v : Int} (hy : 0 ≤ y) (hy' : y ≤ 20) (hv : 0 ≤ v) (hv' : v ≤ 20) : sg_lt x y u v ↔ 32 * x + y < 32 * u + v := by
  unfold sg_lt
  rw [Rat.intCast_lt_intCast, Rat.intCast_lt_intCast, Rat.intCast_inj]
  omega
theorem sg_ple {x y u v : Int} (hy : 0 ≤ y) (hy' : y ≤ 20) (hv : 0 ≤ v) (hv' : v ≤ 20) : sg_le x y u v ↔ 32 * x + y ≤ 32 * u + v := by
  unfold sg_le
  rw [Rat.intCast_lt_intCast, Rat.intCast_le_intCast, Rat.intCast_inj]
  omega
theorem sg_Lc (a b c d x y : Int) : sg_L a b c d x y ↔ (c - a) * (y - b) = (d - b) * (x - a) := by
  unfold sg_L
  rw [← Rat.intCast_inj]
  simp only [Rat.intCast_mul, Rat.intCast_sub]
theorem sg_gl {P : Nat → Prop} {G : Nat → Int × Int × Int × Int} (g : sg_Geo P G) {k : Nat} (hk : k < 10) (hp : P k) : sg_lt (sg_lx G k) (sg_ly G k) (sg_hx G k) (sg_hy G k) := by
  obtain ⟨h1, h2, h3, h4, h5, h6, h7, h8⟩ := g.1 k hk
  exact (sg_plt h3 h4 h7 h8).mpr (g.2.1 k hk hp)
/-! ===== fractions ===== -/
theorem sg_nd (p : Rat) : p * ((p.den : Int) : Rat) = ((p.num : Int) : Rat) := by
  have h : ((p.den : Int) : Rat) ≠ 0 := by
    rw [Ne, Rat.intCast_eq_zero_iff]
    have := p.den_nz
    omega
  have e : p = (p.num : Rat) / ((p.den : Int) : Rat) := by
    rw [← Rat.divInt_eq_div, Rat.num_divInt_den]
  have := Rat.div_mul_cancel (a := ((p.num : Int) : Rat)) h
  rw [← e] at this
  exact this
theorem sg_dp (p : Rat) : 0 < ((p.den : Nat) : Int) := by have := p.den_nz; omega
theorem sg_rlt {p q : Rat} {n d m e : Int} (hd : 0 < d) (he : 0 < e) (hp : p * (d : Rat) = n) (hq : q * (e : Rat) = m) : p < q ↔ n * e < m * d := by
  have k1 : (0 : Rat) < (d : Rat) := Rat.intCast_pos.mpr hd
  have k2 : (0 : Rat) < (e : Rat) := Rat.intCast_pos.mpr he
  rw [← sg_ml (Rat.mul_pos k1 k2), ← Rat.intCast_lt_intCast, Rat.intCast_mul, Rat.intCast_mul, ← hp, ← hq]
  constructor <;> intro h <;> grind
theorem sg_req {p q : Rat} {n d m e : Int} (hd : 0 < d) (he : 0 < e) (hp : p * (d : Rat) = n) (hq : q * (e : Rat) = m) : p = q ↔ n * e = m * d := by
  have k1 : (0 : Rat) < (d : Rat) := Rat.intCast_pos.mpr hd
  have k2 : (0 : Rat) < (e : Rat) := Rat.intCast_pos.mpr he
  rw [← sg_me (Rat.mul_pos k1 k2), ← Rat.intCast_inj, Rat.intCast_mul, Rat.intCast_mul, ← hp, ← hq]
  constructor <;> intro h <;> grind
theorem sg_red {p : Rat} {n d : Int} (hd : 0 < d) (hn : 0 ≤ n) (hp : p * (d : Rat) = n) : p.num = n / (Int.gcd n d : Int) ∧ (p.den : Int) = d / (Int.gcd n d : Int) := by
  have hd0 : (d : Rat) ≠ 0 := by rw [Ne, Rat.intCast_eq_zero_iff]; omega
  have e : p = Rat.divInt n d := by
    rw [Rat.divInt_eq_div, ← hp, Rat.mul_div_cancel hd0]
  constructor
  · rw [e, Rat.num_divInt, Int.sign_eq_one_of_pos hd, Int.one_mul, Int.gcd_comm]
  · rw [e, Rat.den_divInt, if_neg (by omega), Int.natCast_ediv, Int.natAbs_of_nonneg (by omega), Int.gcd_comm]
theorem sg_redb {p : Rat} {n d : Int} (hd : 0 < d) (hn : 0 ≤ n) (hp : p * (d : Rat) = n) : 0 ≤ p.num ∧ p.num ≤ n ∧ (p.den : Int) ≤ d := by
  obtain ⟨h1, h2⟩ := sg_red hd hn hp
  rw [h1, h2]
  exact ⟨Int.ediv_nonneg hn (by omega), Int.ediv_le_self _ hn, Int.ediv_le_self _ (by omega)⟩
theorem sg_int1 {p : Rat} {n : Int} (hp : p = n) : p.num = n ∧ p.den = 1 := by rw [hp]; exact ⟨rfl, rfl⟩
theorem sg_den1 {p : Rat} (h : p.den = 1) : p = (p.num : Rat) := Rat.ext rfl h
/-! ===== sorted tables of points ===== -/
def sg_ltp (p q : Rat × Rat) : Prop := sg_lt p.1 p.2 q.1 q.2
theorem sg_ltp_irr (p : Rat × Rat) : ¬ sg_ltp p p := sg_lt_irr
theorem sg_ltp_tr {p q r : Rat × Rat} (h : sg_ltp p q) (k : sg_ltp q r) : sg_ltp p r := sg_lt_trans h k
theorem sg_ltp_tri (p q : Rat × Rat) : sg_ltp p q ∨ p = q ∨ sg_ltp q p := by
  rcases sg_total p.1 p.2 q.1 q.2 with h | h
  · rcases sg_lt_or h with k | ⟨k, l⟩
    · exact Or.inl k
    · exact Or.inr (Or.inl (Prod.ext k l))
  · exact Or.inr (Or.inr h)
def sg_srt (m : Nat) (T : Nat → Rat × Rat) : Prop := ∀ i j, i < j → j < m → sg_ltp (T i) (T j)
theorem sg_srt_le {m : Nat} {T : Nat → Rat × Rat} (h : sg_srt m T) {i j : Nat} (hij : i ≤ j) (hj : j < m) : sg_ltp (T i) (T j) ∨ T i = T j := by
  rcases Nat.lt_or_eq_of_le hij with k | k
  · exact Or.inl (h i j k hj)
  · subst k; exact Or.inr rfl
theorem sg_srt_inj {m : Nat} {T : Nat → Rat × Rat} (h : sg_srt m T) {i j : Nat} (hi : i < m) (hj : j < m) (e : T i = T j) : i = j := by
  rcases Nat.lt_trichotomy i j with k | k | k
  · have := h i j k hj; rw [e] at this; exact absurd this (sg_ltp_irr _)
  · exact k
  · have := h j i k hi; rw [e] at this; exact absurd this (sg_ltp_irr _)
theorem sg_uq1 {m m' : Nat} {T T' : Nat → Rat × Rat} (h : sg_srt m T) (h' : sg_srt m' T') (e : ∀ p, (∃ i, i < m ∧ T i = p) ↔ (∃ i, i < m' ∧ T' i = p)) : ∀ i, i < m → (i < m' ∧ T i = T' i) := by
  intro i
  induction i using Nat.strongRecOn with
  | _ i ih =>
    intro hi
    obtain ⟨a, ha, ea⟩ := (e (T i)).mp ⟨i, hi, rfl⟩
    have hai : i ≤ a := by
      rcases Nat.lt_or_ge a i with k | k
      · obtain ⟨_, e2⟩ := ih a k (by omega)
        have := h a i k hi
        rw [e2, ea] at this
        exact absurd this (sg_ltp_irr _)
      · exact k
    have hi' : i < m' := by omega
    refine ⟨hi', ?_⟩
    obtain ⟨b, hb, eb⟩ := (e (T' i)).mpr ⟨i, hi', rfl⟩
    have hbi : i ≤ b := by
      rcases Nat.lt_or_ge b i with k | k
      · obtain ⟨_, e2⟩ := ih b k hb
        have := h' b i k hi'
        rw [← e2, eb] at this
        exact absurd this (sg_ltp_irr _)
      · exact k
    rcases sg_srt_le h' hai ha with k | k
    · rw [ea] at k
      rcases sg_srt_le h hbi hb with l | l
      · rw [eb] at l; exact absurd (sg_ltp_tr k l) (sg_ltp_irr _)
      · rw [eb] at l; exact l
    · rw [ea] at k; exact k.symm
theorem sg_uq {m m' : Nat} {T T' : Nat → Rat × Rat} (h : sg_srt m T) (h' : sg_srt m' T') (e : ∀ p, (∃ i, i < m ∧ T i = p) ↔ (∃ i, i < m' ∧ T' i = p)) : m = m' ∧ ∀ i, i < m → T i = T' i := by
  have a := sg_uq1 h h' e
  have b := sg_uq1 h' h (fun p => (e p).symm)
  refine ⟨?_, fun i hi => (a i hi).2⟩
  rcases Nat.lt_trichotomy m m' with k | k | k
  · have := (b m k).1; omega
  · exact k
  · have := (a m' k).1; omega
def sg_ins {α : Type} (f : Nat → α) (n : Nat) (v : α) : Nat → α := fun i => if i < n then f i else if i = n then v else f (i - 1)
theorem sg_ins_l {α : Type} {f : Nat → α} {n : Nat} {v : α} {i : Nat} (h : i < n) : sg_ins f n v i = f i := if_pos h
theorem sg_ins_e {α : Type} {f : Nat → α} {n : Nat} {v : α} : sg_ins f n v n = v := by unfold sg_ins; rw [if_neg (by omega), if_pos rfl]
theorem sg_ins_g {α : Type} {f : Nat → α} {n : Nat} {v : α} {i : Nat} (h : n < i) : sg_ins f n v i = f (i - 1) := by unfold sg_ins; rw [if_neg (by omega), if_neg (by omega)]
/-- every place of the grown table holds the new point or an old one -/
theorem sg_ins_c {α : Type} (f : Nat → α) (v : α) {n m i : Nat} (hn : n ≤ m) (hi : i < m + 1) : (i = n ∧ sg_ins f n v i = v) ∨ ∃ j, j < m ∧ sg_ins f n v i = f j ∧ ((i < n ∧ j = i) ∨ (n < i ∧ j + 1 = i)) := by
  rcases Nat.lt_trichotomy i n with h | h | h
  · exact Or.inr ⟨i, by omega, sg_ins_l h, Or.inl ⟨h, rfl⟩⟩
  · subst h; exact Or.inl ⟨rfl, sg_ins_e⟩
  · exact Or.inr ⟨i - 1, by omega, sg_ins_g h, Or.inr ⟨h, by omega⟩⟩
theorem sg_ins_m {α : Type} (f : Nat → α) (v : α) {n m : Nat} (hn : n ≤ m) {j : Nat} (hj : j < m) : ∃ i, i < m + 1 ∧ sg_ins f n v i = f j := by
  rcases Nat.lt_or_ge j n with h | h
  · exact ⟨j, by omega, sg_ins_l h⟩
  · exact ⟨j + 1, by omega, by rw [sg_ins_g (by omega)]; rfl⟩
theorem sg_ins_srt {m n : Nat} {T : Nat → Rat × Rat} {p : Rat × Rat} (h : sg_srt m T) (hn : n ≤ m) (lo : ∀ i, i < n → sg_ltp (T i) p) (hi : ∀ i, n ≤ i → i < m → sg_ltp p (T i)) : sg_srt (m + 1) (sg_ins T n p) := by
  intro i j hij hj
  rcases sg_ins_c T p hn (show i < m + 1 by omega) with ⟨a, ea⟩ | ⟨a, ha, ea, ca⟩ <;> rcases sg_ins_c T p hn hj with ⟨b, eb⟩ | ⟨b, hb, eb, cb⟩ <;> rw [ea, eb]
  · omega
  · exact hi b (by omega) hb
  · exact lo a (by omega)
  · exact h a b (by omega) hb
/-! ===== which pairs a table knows ===== -/
def sg_bd (p : Rat × Rat) : Prop := (0 ≤ p.1.num ∧ p.1.num ≤ 16000 ∧ (p.1.den : Int) ≤ 800) ∧ (0 ≤ p.2.num ∧ p.2.num ≤ 16000 ∧ (p.2.den : Int) ≤ 800)
def sg_Cov (P : Nat → Prop) (G : Nat → Int × Int × Int × Int) (R : Nat → Nat → Prop) (m : Nat) (T : Nat → Rat × Rat) : Prop :=
  sg_srt m T ∧ (∀ i, i < m → sg_bd (T i)) ∧
  (∀ i, i < m → ∃ a b, a < 10 ∧ b < 10 ∧ a ≠ b ∧ P a ∧ P b ∧ sg_on G a (T i) ∧ sg_on G b (T i)) ∧
  (∀ a b p, R a b → P a → P b → sg_on G a p → sg_on G b p → ∃ i, i < m ∧ T i = p)
def sg_Msk (P : Nat → Prop) (G : Nat → Int × Int × Int × Int) (R : Nat → Nat → Prop) (m : Nat) (T : Nat → Rat × Rat) (a : Nat → Int32) : Prop :=
  ∀ i, i < m → sg_M (a i) (fun k => P k ∧ sg_on G k (T i) ∧ ∃ l, (R k l ∨ R l k) ∧ P l ∧ sg_on G l (T i))
def sg_R1 (R : Nat → Nat → Prop) (j k : Nat) : Nat → Nat → Prop := fun a b => R a b ∨ (a = j ∧ b = k)
theorem sg_Cov_c {P : Nat → Prop} {G : Nat → Int × Int × Int × Int} {R S : Nat → Nat → Prop} {m : Nat} {T : Nat → Rat × Rat} (h : sg_Cov P G R m T) (e : ∀ a b, S a b → R a b) : sg_Cov P G S m T :=
  ⟨h.1, h.2.1, h.2.2.1, fun a b p hr => h.2.2.2 a b p (e a b hr)⟩
theorem sg_Msk_c {P : Nat → Prop} {G : Nat → Int × Int × Int × Int} {R S : Nat → Nat → Prop} {m : Nat} {T : Nat → Rat × Rat} {z : Nat → Int32} (h : sg_Msk P G R m T z) (e : ∀ a b, S a b ↔ R a b) : sg_Msk P G S m T z := by
  intro i hi
  refine sg_Mc (h i hi) (fun k hk => ?_)
  simp only [e]
theorem sg_Cov_none {P : Nat → Prop} {G : Nat → Int × Int × Int × Int} {R : Nat → Nat → Prop} {m : Nat} {T : Nat → Rat × Rat} (h : sg_Cov P G R m T) {j k : Nat}
    (hn : ∀ p, P j → P k → sg_on G j p → sg_on G k p → False) : sg_Cov P G (sg_R1 R j k) m T := by
  refine ⟨h.1, h.2.1, h.2.2.1, ?_⟩
  rintro a b p (hr | ⟨rfl, rfl⟩) pa pb oa ob
  · exact h.2.2.2 a b p hr pa pb oa ob
  · exact (hn p pa pb oa ob).elim
theorem sg_Msk_none {P : Nat → Prop} {G : Nat → Int × Int × Int × Int} {R : Nat → Nat → Prop} {m : Nat} {T : Nat → Rat × Rat} {z : Nat → Int32} (h : sg_Msk P G R m T z) {j k : Nat}
    (hn : ∀ p, P j → P k → sg_on G j p → sg_on G k p → False) : sg_Msk P G (sg_R1 R j k) m T z := by
  intro i hi
  refine sg_Mc (h i hi) (fun a ha => ?_)
  constructor
  · rintro ⟨pa, oa, l, hr | hr, pl, ol⟩
    · exact ⟨pa, oa, l, Or.inl (Or.inl hr), pl, ol⟩
    · exact ⟨pa, oa, l, Or.inr (Or.inl hr), pl, ol⟩
  · rintro ⟨pa, oa, l, (hr | ⟨rfl, rfl⟩) | (hr | ⟨rfl, rfl⟩), pl, ol⟩
    · exact ⟨pa, oa, l, Or.inl hr, pl, ol⟩
    · exact (hn _ pa pl oa ol).elim
    · exact ⟨pa, oa, l, Or.inr hr, pl, ol⟩
    · exact (hn _ pl pa ol oa).elim
theorem sg_Cov_old {P : Nat → Prop} {G : Nat → Int × Int × Int × Int} {R : Nat → Nat → Prop} {m : Nat} {T : Nat → Rat × Rat} (h : sg_Cov P G R m T) {j k n : Nat} {p : Rat × Rat}
    (hU : ∀ q, sg_on G j q → sg_on G k q → q = p) (hn : n < m) (e : T n = p) : sg_Cov P G (sg_R1 R j k) m T := by
  refine ⟨h.1, h.2.1, h.2.2.1, ?_⟩
  rintro a b q (hr | ⟨rfl, rfl⟩) pa pb oa ob
  · exact h.2.2.2 a b q hr pa pb oa ob
  · exact ⟨n, hn, e.trans (hU q oa ob).symm⟩
theorem sg_Cov_new {P : Nat → Prop} {G : Nat → Int × Int × Int × Int} {R : Nat → Nat → Prop} {m : Nat} {T : Nat → Rat × Rat} (h : sg_Cov P G R m T) {j k n : Nat} {p : Rat × Rat}
    (hj : j < 10) (hk : k < 10) (hne : j ≠ k) (pj : P j) (pk : P k) (oj : sg_on G j p) (ok : sg_on G k p) (hb : sg_bd p)
    (hU : ∀ q, sg_on G j q → sg_on G k q → q = p) (hn : n ≤ m) (lo : ∀ i, i < n → sg_ltp (T i) p) (hi : ∀ i, n ≤ i → i < m → sg_ltp p (T i)) : sg_Cov P G (sg_R1 R j k) (m + 1) (sg_ins T n p) := by
  refine ⟨sg_ins_srt h.1 hn lo hi, ?_, ?_, ?_⟩
  · intro i hi
    rcases sg_ins_c T p hn hi with ⟨_, ea⟩ | ⟨a, ha, ea, _⟩ <;> rw [ea]
    · exact hb
    · exact h.2.1 a ha
  · intro i hi
    rcases sg_ins_c T p hn hi with ⟨_, ea⟩ | ⟨a, ha, ea, _⟩ <;> rw [ea]
    · exact ⟨j, k, hj, hk, hne, pj, pk, oj, ok⟩
    · exact h.2.2.1 a ha
  · rintro a b q (hr | ⟨rfl, rfl⟩) pa pb oa ob
    · obtain ⟨i, hi, ei⟩ := h.2.2.2 a b q hr pa pb oa ob
      obtain ⟨i', hi', ei'⟩ := sg_ins_m T p hn hi
      exact ⟨i', hi', ei'.trans ei⟩
    · exact ⟨n, by omega, by rw [sg_ins_e, hU q oa ob]⟩
/-- the mask at a point that the pair does not meet in stays -/
theorem sg_Msk_1 {P : Nat → Prop} {G : Nat → Int × Int × Int × Int} {R : Nat → Nat → Prop} {x : Int32} {q p : Rat × Rat} {j k : Nat}
    (h : sg_M x (fun a => P a ∧ sg_on G a q ∧ ∃ l, (R a l ∨ R l a) ∧ P l ∧ sg_on G l q)) (hU : ∀ q, sg_on G j q → sg_on G k q → q = p) (hq : q ≠ p) :
    sg_M x (fun a => P a ∧ sg_on G a q ∧ ∃ l, (sg_R1 R j k a l ∨ sg_R1 R j k l a) ∧ P l ∧ sg_on G l q) := by
  refine sg_Mc h (fun a ha => ?_)
  constructor
  · rintro ⟨pa, oa, l, hr | hr, pl, ol⟩
    · exact ⟨pa, oa, l, Or.inl (Or.inl hr), pl, ol⟩
    · exact ⟨pa, oa, l, Or.inr (Or.inl hr), pl, ol⟩
  · rintro ⟨pa, oa, l, (hr | ⟨rfl, rfl⟩) | (hr | ⟨rfl, rfl⟩), pl, ol⟩
    · exact ⟨pa, oa, l, Or.inl hr, pl, ol⟩
    · exact absurd (hU q oa ol) hq
    · exact ⟨pa, oa, l, Or.inr hr, pl, ol⟩
    · exact absurd (hU q ol oa) hq
theorem sg_Msk_old {P : Nat → Prop} {G : Nat → Int × Int × Int × Int} {R : Nat → Nat → Prop} {m : Nat} {T : Nat → Rat × Rat} {z : Nat → Int32} (hC : sg_Cov P G R m T) (h : sg_Msk P G R m T z) {j k n : Nat} {p : Rat × Rat} {x : Int32}
    (hj : j < 10) (hk : k < 10) (pj : P j) (pk : P k) (oj : sg_on G j p) (ok : sg_on G k p) (hx : sg_M x (fun i => i = j ∨ i = k))
    (hU : ∀ q, sg_on G j q → sg_on G k q → q = p) (hn : n < m) (e : T n = p) : sg_Msk P G (sg_R1 R j k) m T (upd z n (z n ||| x)) := by
  intro i hi
  by_cases c : i = n
  · subst c
    rw [pk_us]
    refine sg_Mc (sg_Mor (h i hi) hx) (fun a ha => ?_)
    constructor
    · rintro (⟨pa, oa, l, hr | hr, pl, ol⟩ | (rfl | rfl))
      · exact ⟨pa, oa, l, Or.inl (Or.inl hr), pl, ol⟩
      · exact ⟨pa, oa, l, Or.inr (Or.inl hr), pl, ol⟩
      · rw [e]; exact ⟨pj, oj, k, Or.inl (Or.inr ⟨rfl, rfl⟩), pk, ok⟩
      · rw [e]; exact ⟨pk, ok, j, Or.inr (Or.inr ⟨rfl, rfl⟩), pj, oj⟩
    · rintro ⟨pa, oa, l, (hr | ⟨rfl, rfl⟩) | (hr | ⟨rfl, rfl⟩), pl, ol⟩
      · exact Or.inl ⟨pa, oa, l, Or.inl hr, pl, ol⟩
      · exact Or.inr (Or.inl rfl)
      · exact Or.inl ⟨pa, oa, l, Or.inr hr, pl, ol⟩
      · exact Or.inr (Or.inr rfl)
  · rw [pk_un c]
    refine sg_Msk_1 (h i hi) hU (fun hq => c ?_)
    exact sg_srt_inj hC.1 hi hn (hq.trans e.symm)
theorem sg_Msk_new {P : Nat → Prop} {G : Nat → Int × Int × Int × Int} {R : Nat → Nat → Prop} {m : Nat} {T : Nat → Rat × Rat} {z : Nat → Int32} (hC : sg_Cov P G R m T) (h : sg_Msk P G R m T z) {j k n : Nat} {p : Rat × Rat} {x : Int32}
    (hj : j < 10) (hk : k < 10) (pj : P j) (pk : P k) (oj : sg_on G j p) (ok : sg_on G k p) (hx : sg_M x (fun i => i = j ∨ i = k))
    (hU : ∀ q, sg_on G j q → sg_on G k q → q = p) (hn : n ≤ m) (hnot : ∀ i, i < m → T i ≠ p) : sg_Msk P G (sg_R1 R j k) (m + 1) (sg_ins T n p) (sg_ins z n x) := by
  intro i hi
  rcases Nat.lt_trichotomy i n with c | c | c
  · rw [sg_ins_l c, sg_ins_l c]
    exact sg_Msk_1 (h i (by omega)) hU (hnot i (by omega))
  · subst c
    rw [sg_ins_e, sg_ins_e]
    refine sg_Mc hx (fun a ha => ?_)
    constructor
    · rintro (rfl | rfl)
      · exact ⟨pj, oj, k, Or.inl (Or.inr ⟨rfl, rfl⟩), pk, ok⟩
      · exact ⟨pk, ok, j, Or.inr (Or.inr ⟨rfl, rfl⟩), pj, oj⟩
    · rintro ⟨pa, oa, l, (hr | ⟨rfl, rfl⟩) | (hr | ⟨rfl, rfl⟩), pl, ol⟩
      · obtain ⟨i', hi', e'⟩ := hC.2.2.2 a l p hr pa pl oa ol
        exact absurd e' (hnot i' hi')
      · exact Or.inl rfl
      · obtain ⟨i', hi', e'⟩ := hC.2.2.2 l a p hr pl pa ol oa
        exact absurd e' (hnot i' hi')
      · exact Or.inr rfl
  · rw [sg_ins_g c, sg_ins_g c]
    exact sg_Msk_1 (h (i - 1) (by omega)) hU (hnot (i - 1) (by omega))
/-- a table that knows all pairs -/
def sg_Ex (P : Nat → Prop) (G : Nat → Int × Int × Int × Int) (m : Nat) (T : Nat → Rat × Rat) : Prop := sg_Cov P G (fun a b => a < 10 ∧ b < 10 ∧ a ≠ b) m T
theorem sg_Ex_of {P : Nat → Prop} {G : Nat → Int × Int × Int × Int} {R : Nat → Nat → Prop} {m : Nat} {T : Nat → Rat × Rat} (h : sg_Cov P G R m T) (e : ∀ a b, a < 10 → b < 10 → a ≠ b → R a b ∨ R b a) : sg_Ex P G m T := by
  refine ⟨h.1, h.2.1, h.2.2.1, ?_⟩
  rintro a b p ⟨ha, hb, hne⟩ pa pb oa ob
  rcases e a b ha hb hne with r | r
  · exact h.2.2.2 a b p r pa pb oa ob
  · exact h.2.2.2 b a p r pb pa ob oa
theorem sg_Ex_u {P : Nat → Prop} {G : Nat → Int × Int × Int × Int} {m m' : Nat} {T T' : Nat → Rat × Rat} (h : sg_Ex P G m T) (h' : sg_Ex P G m' T') : m = m' ∧ ∀ i, i < m → T i = T' i := by
  refine sg_uq h.1 h'.1 (fun p => ?_)
  constructor
  · rintro ⟨i, hi, rfl⟩
    obtain ⟨a, b, ha, hb, hne, pa, pb, oa, ob⟩ := h.2.2.1 i hi
    exact h'.2.2.2 a b _ ⟨ha, hb, hne⟩ pa pb oa ob
  · rintro ⟨i, hi, rfl⟩
    obtain ⟨a, b, ha, hb, hne, pa, pb, oa, ob⟩ := h'.2.2.1 i hi
    exact h.2.2.2 a b _ ⟨ha, hb, hne⟩ pa pb oa ob
theorem sg_Msk_of {P : Nat → Prop} {G : Nat → Int × Int × Int × Int} {R : Nat → Nat → Prop} {m : Nat} {T : Nat → Rat × Rat} {z : Nat → Int32} (hC : sg_Cov P G R m T) (h : sg_Msk P G R m T z) (e : ∀ a b, a < 10 → b < 10 → a ≠ b → R a b ∨ R b a) : ∀ i, i < m → sg_M (z i) (fun k => P k ∧ sg_on G k (T i)) := by
  intro i hi
  refine sg_Mc (h i hi) (fun a ha => ?_)
  constructor
  · rintro ⟨pa, oa, _⟩; exact ⟨pa, oa⟩
  · rintro ⟨pa, oa⟩
    refine ⟨pa, oa, ?_⟩
    obtain ⟨b, c, hb, hc, hne, pb, pc, ob, oc⟩ := hC.2.2.1 i hi
    by_cases q : a = b
    · subst q; exact ⟨c, e a c ha hc hne, pc, oc⟩
    · exact ⟨b, e a b ha hb q, pb, ob⟩
end
section
/-! ===== X: the small methods ===== -/
def sg_LH (G : Nat → Int × Int × Int × Int) (low high : Nat → Int32) : Prop := ∀ k, k < 10 → low k = sg_i (32 * sg_lx G k + sg_ly G k) ∧ high k = sg_i (32 * sg_hx G k + sg_hy G k)
theorem sg_c10 {k : Nat} (hk : k < 10) : (nI k).toNatClampNeg = k := nI_clamp (by omega)
theorem sg_in10 {k : Nat} (hk : k < 10) : vp_in (nI k) 10 := vp_in_nI hk (by decide)
theorem sg_n10 {k : Nat} (hk : k < 10) : ¬ (10 : Int32) ≤ nI k := nI_ge (b := 10) hk (by decide)
theorem sg_e10 : (10 : Int32) ≤ nI 10 := by decide
theorem x_isPoint {post : Int32 → Prop} {p : Int32} (h1 : ∀ x y : Nat, x ≤ 20 → y ≤ 20 → p = nI (x + 32 * y) → post 1) (h0 : (∀ x y : Nat, x ≤ 20 → y ≤ 20 → p ≠ nI (x + 32 * y)) → post 0) : wpX_isPoint post p := by
  unfold wpX_isPoint
  refine br_c (fun h => h0 ?_) (fun h => ?_)
  · intro x y hx hy e
    rw [e] at h
    exact nI_pos (by omega) h
  · obtain ⟨n, hn, rfl⟩ := nI_of h
    rw [pk_andN (by omega) 5 (by decide), pk_shrN hn _ 5 (by decide)]
    have key : ∀ x y : Nat, x ≤ 20 → y ≤ 20 → nI n = nI (x + 32 * y) → n = x + 32 * y := fun x y hx hy e => (nI_eq hn (by omega)).mp e
    refine pk_lt 20 (n % 2 ^ 5) (fun h => h0 ?_) (fun h => pk_lt 20 (n / 2 ^ 5) (fun h' => h0 ?_) (fun h' => ?_))
    · intro x y hx hy e
      have := key x y hx hy e; omega
    · intro x y hx hy e
      have := key x y hx hy e; omega
    · exact h1 (n % 32) (n / 32) h h' (congrArg nI (by omega))
theorem x_placeOf {post : Int32 → Prop} {x y : Nat} (hx : x ≤ 20) (hy : y ≤ 20) (h : post (sg_i (32 * (x : Int) + y))) : wpX_placeOf post (nI (x + 32 * y)) := by
  unfold wpX_placeOf
  rw [pk_andN (by omega) 5 (by decide), pk_shrN (by omega) _ 5 (by decide), show (x + 32 * y) % 2 ^ 5 = x by omega, show (x + 32 * y) / 2 ^ 5 = y by omega, sg_pk hx hy]
  exact h
theorem sg_Rp {x y : Int} (hx : 0 ≤ x) (hx' : x ≤ 20) (hy : 0 ≤ y) (hy' : y ≤ 20) : sg_R (32 * x + y) := ⟨by omega, by omega⟩
section
variable {P : Nat → Prop} {G : Nat → Int × Int × Int × Int} {pr mc cX cY cB : Int32} {low high tX bX tY bY pa : Nat → Int32}
theorem x_isPresent {post : Int32 → Prop} (hP : sg_M pr P) {k : Nat} (hk : k < 10) (h1 : P k → post 1) (h0 : ¬ P k → post 0) : wpX_isPresent post (pr, mc, cX, cY, cB, low, high, tX, bX, tY, bY, pa) (nI k) := by
  refine br_f (nI_pos (by omega)) (br_f (sg_n10 hk) ?_)
  rw [sg_Mbit hP hk]
  exact ⟨h1, h0⟩
theorem x_isPresentG {post : Int32 → Prop} (hP : sg_M pr P) {p : Int32} (h1 : ∀ k, k < 10 → p = nI k → P k → post 1) (h0 : (∀ k, k < 10 → p = nI k → ¬ P k) → post 0) : wpX_isPresent post (pr, mc, cX, cY, cB, low, high, tX, bX, tY, bY, pa) p := by
  by_cases c : p < 0
  · exact br_t c (h0 (fun k hk e => by rw [e] at c; exact absurd c (nI_pos (by omega))))
  · by_cases d : (10 : Int32) ≤ p
    · exact br_f c (br_t d (h0 (fun k hk e => by rw [e] at d; exact absurd d (sg_n10 hk))))
    · obtain ⟨n, hn, rfl⟩ := nI_of c
      have hk : n < 10 := by
        rcases Nat.lt_or_ge n 10 with h | h
        · exact h
        · exact absurd (nI_le (a := 10) h hn) d
      exact x_isPresent hP hk (h1 n hk rfl) (fun hp => h0 (fun k' hk' e => by have := (nI_eq hn (by omega)).mp e; subst this; exact hp))
theorem x_isInLine {post : Int32 → Prop} (hl : sg_LH G low high) {k : Nat} (hk : k < 10) (hi : sg_in G k) {x y : Int} (hx : 0 ≤ x) (hx' : x ≤ 20) (hy : 0 ≤ y) (hy' : y ≤ 20)
    (h1 : sg_L (sg_lx G k) (sg_ly G k) (sg_hx G k) (sg_hy G k) x y → post 1) (h0 : ¬ sg_L (sg_lx G k) (sg_ly G k) (sg_hx G k) (sg_hy G k) x y → post 0) : wpX_isInLine post (pr, mc, cX, cY, cB, low, high, tX, bX, tY, bY, pa) (sg_i (32 * x + y)) (nI k) := by
  obtain ⟨i1, i2, i3, i4, i5, i6, i7, i8⟩ := hi
  simp only [wpX_isInLine, wpX_xOf, wpX_yOf, sg_c10 hk, (hl k hk).1, (hl k hk).2, sg_px i1 i2 i3 i4, sg_py i1 i2 i3 i4, sg_px i5 i6 i7 i8, sg_py i5 i6 i7 i8, sg_px hx hx' hy hy', sg_py hx hx' hy hy', sg_isub, sg_imul, forall_eq, sg_in10 hk, true_and]
  have b1 := sg_mb (a := sg_hx G k - sg_lx G k) (b := y - sg_ly G k) 20 20 (by omega) (by omega) (by omega) (by omega)
  have b2 := sg_mb (a := sg_hy G k - sg_ly G k) (b := x - sg_lx G k) 20 20 (by omega) (by omega) (by omega) (by omega)
  rw [sg_ieq ⟨by omega, by omega⟩ ⟨by omega, by omega⟩, ← sg_Lc]
  exact ⟨h1, h0⟩
theorem x_isOn {post : Int32 → Prop} (hl : sg_LH G low high) {k : Nat} (hk : k < 10) (hi : sg_in G k) {x y : Int} (hx : 0 ≤ x) (hx' : x ≤ 20) (hy : 0 ≤ y) (hy' : y ≤ 20)
    (h1 : sg_on G k ((x : Rat), (y : Rat)) → post 1) (h0 : ¬ sg_on G k ((x : Rat), (y : Rat)) → post 0) : wpX_isOn post (pr, mc, cX, cY, cB, low, high, tX, bX, tY, bY, pa) (sg_i (32 * x + y)) (nI k) := by
  obtain ⟨i1, i2, i3, i4, i5, i6, i7, i8⟩ := id hi
  refine ⟨sg_in10 hk, ?_⟩
  rw [sg_c10 hk, (hl k hk).1, (hl k hk).2, sg_ilt (sg_Rp hx hx' hy hy') (sg_Rp i1 i2 i3 i4), sg_ilt (sg_Rp i5 i6 i7 i8) (sg_Rp hx hx' hy hy')]
  refine br_c (fun c => h0 ?_) (fun c => ⟨sg_in10 hk, br_c (fun d => h0 ?_) (fun d => x_isInLine hl hk hi hx hx' hy hy' (fun e => ?_) (fun e => ?_))⟩)
  · rintro ⟨_, q, _⟩
    have := (sg_ple i3 i4 hy hy').mp q; omega
  · rintro ⟨_, _, q⟩
    have := (sg_ple hy hy' i7 i8).mp q; omega
  · exact br_f (by decide) (h1 ⟨e, (sg_ple i3 i4 hy hy').mpr (by omega), (sg_ple hy hy' i7 i8).mpr (by omega)⟩)
  · exact br_t rfl (h0 (fun q => e q.1))
/-- X's words for an overlap of the segment from (a, b) to (c, d) with segment k -/
def sg_ov (G : Nat → Int × Int × Int × Int) (k : Nat) (a b c d : Int) : Prop := sg_lt a b (sg_hx G k) (sg_hy G k) ∧ sg_lt (sg_lx G k) (sg_ly G k) c d ∧ sg_L (sg_lx G k) (sg_ly G k) (sg_hx G k) (sg_hy G k) a b ∧ sg_L (sg_lx G k) (sg_ly G k) (sg_hx G k) (sg_hy G k) c d
theorem x_overlapsAny {post : Int32 → Prop} (hP : sg_M pr P) (hl : sg_LH G low high) (hi : ∀ k, k < 10 → sg_in G k) {a b c d : Int} (ha : 0 ≤ a) (ha' : a ≤ 20) (hb : 0 ≤ b) (hb' : b ≤ 20) (hc : 0 ≤ c) (hc' : c ≤ 20) (hd : 0 ≤ d) (hd' : d ≤ 20)
    (h1 : ∀ k, k < 10 → P k → sg_ov G k a b c d → post 1) (h0 : (∀ k, k < 10 → P k → ¬ sg_ov G k a b c d) → post 0) : wpX_overlapsAny post (pr, mc, cX, cY, cB, low, high, tX, bX, tY, bY, pa) (sg_i (32 * a + b)) (sg_i (32 * c + d)) := by
  have key : ∀ e k, k + e = 10 → (∀ l, l < k → P l → ¬ sg_ov G l a b c d) → wX_overlapsAny_2 post (sg_i (32 * a + b)) (sg_i (32 * c + d)) pr mc cX cY cB low high tX bX tY bY pa (e + 1) (nI k) := by
    intro e
    induction e with
    | zero =>
      intro k hk hn
      have : k = 10 := by omega
      subst this
      exact br_t sg_e10 (h0 (fun l hl => hn l hl))
    | succ e ih =>
      intro k hk hn
      have hk' : k < 10 := by omega
      obtain ⟨i1, i2, i3, i4, i5, i6, i7, i8⟩ := hi k hk'
      have next : (P k → ¬ sg_ov G k a b c d) → ∀ z, z = nI k + 1 → wX_overlapsAny_2 post (sg_i (32 * a + b)) (sg_i (32 * c + d)) pr mc cX cY cB low high tX bX tY bY pa (e + 1) z := by
        intro hno
        refine nm_r (nI_1 k) (ih (k + 1) (by omega) ?_)
        intro l hl
        rcases Nat.lt_succ_iff_lt_or_eq.mp hl with q | q
        · exact hn l q
        · subst q; exact hno
      refine br_f (sg_n10 hk') (x_isPresent hP hk' (fun hp => br_f (by decide) ⟨sg_in10 hk', ?_⟩) (fun hp => br_t rfl (next (fun q => absurd q hp))))
      rw [sg_c10 hk', (hl k hk').1, (hl k hk').2, sg_ile (sg_Rp i5 i6 i7 i8) (sg_Rp ha ha' hb hb'), sg_ile (sg_Rp hc hc' hd hd') (sg_Rp i1 i2 i3 i4)]
      refine br_c (fun q => next (fun _ o => ?_)) (fun q => ⟨sg_in10 hk', br_c (fun r => next (fun _ o => ?_)) (fun r => ?_)⟩)
      · have := (sg_plt hb hb' i7 i8).mp o.1; omega
      · have := (sg_plt i3 i4 hd hd').mp o.2.1; omega
      · refine x_isInLine hl hk' (hi k hk') ha ha' hb hb' (fun s => br_f (by decide) ?_) (fun s => br_t rfl (next (fun _ o => s o.2.2.1)))
        refine x_isInLine hl hk' (hi k hk') hc hc' hd hd' (fun t => br_f (by decide) ?_) (fun t => br_t rfl (next (fun _ o => t o.2.2.2)))
        exact h1 k hk' hp ⟨(sg_plt hb hb' i7 i8).mpr (by omega), (sg_plt i3 i4 hd hd').mpr (by omega), s, t⟩
  exact ⟨11, key 10 0 rfl (fun l hl => absurd hl (by omega))⟩
theorem x_leastFree {post : Int32 → Prop} (hP : sg_M pr P) (h : ∀ k, k < 10 → ¬ P k → (∀ l, l < k → P l) → post (nI k)) (h10 : (∀ l, l < 10 → P l) → post 10) : wpX_leastFreeNumber post (pr, mc, cX, cY, cB, low, high, tX, bX, tY, bY, pa) := by
  have key : ∀ e k, k + e = 10 → (∀ l, l < k → P l) → wX_leastFreeNumber_2 post pr mc cX cY cB low high tX bX tY bY pa (e + 1) (nI k) := by
    intro e
    induction e with
    | zero =>
      intro k hk hn
      have : k = 10 := by omega
      subst this
      exact br_t sg_e10 (h10 (fun l hl => hn l hl))
    | succ e ih =>
      intro k hk hn
      have hk' : k < 10 := by omega
      refine br_f (sg_n10 hk') (x_isPresent hP hk' (fun hp => br_f (by decide) ?_) (fun hp => br_t rfl (h k hk' hp hn)))
      refine nm_r (nI_1 k) (ih (k + 1) (by omega) ?_)
      intro l hl
      rcases Nat.lt_succ_iff_lt_or_eq.mp hl with q | q
      · exact hn l q
      · subst q; exact hp
  exact ⟨11, key 10 0 rfl (fun l hl => absurd hl (by omega))⟩
end
end
section
/-! ===== X: the meeting points ===== -/
theorem sg_iz {a : Int} (ha : sg_R a) : sg_i a = 0 ↔ a = 0 := sg_ieq (b := 0) ha ⟨by decide, by decide⟩
theorem sg_iz0 {a : Int} (ha : sg_R a) : 0 ≤ sg_i a ↔ 0 ≤ a := sg_ile (a := 0) ⟨by decide, by decide⟩ ha
theorem sg_izl {a : Int} (ha : sg_R a) : sg_i a < 0 ↔ a < 0 := sg_ilt (b := 0) ha ⟨by decide, by decide⟩
theorem sg_conv {l h q w : Int} (hl : 0 ≤ l) (hl' : l ≤ 20) (hh : 0 ≤ h) (hh' : h ≤ 20) (hq : 0 ≤ q) (hq' : q ≤ w) : 0 ≤ l * w + q * (h - l) ∧ l * w + q * (h - l) ≤ 20 * w := by
  have k1 : 0 ≤ l * (w - q) := Int.mul_nonneg hl (by omega)
  have k2 : 0 ≤ h * q := Int.mul_nonneg hh hq
  have k3 : 0 ≤ (20 - l) * (w - q) := Int.mul_nonneg (by omega) (by omega)
  have k4 : 0 ≤ (20 - h) * q := Int.mul_nonneg (by omega) hq
  constructor <;> grind
theorem sg_b8 {a b c d : Int} (h1 : -20 ≤ a) (h2 : a ≤ 20) (h3 : -20 ≤ b) (h4 : b ≤ 20) (h5 : -20 ≤ c) (h6 : c ≤ 20) (h7 : -20 ≤ d) (h8 : d ≤ 20) : -800 ≤ a * b - c * d ∧ a * b - c * d ≤ 800 := by
  have b1 := sg_mb 20 20 h1 h2 h3 h4
  have b2 := sg_mb 20 20 h5 h6 h7 h8
  omega
section
variable {P : Nat → Prop} {G : Nat → Int × Int × Int × Int} {pr mc cX cY cB : Int32} {low high tX bX tY bY pa : Nat → Int32}
theorem x_194 {post : Int32 → SX → Prop} (hl : sg_LH G low high) {j : Nat} (hj : j < 10) (hi : sg_in G j) {jx jy w q r : Int} (hjx : -20 ≤ jx) (hjx' : jx ≤ 20) (hjy : -20 ≤ jy) (hjy' : jy ≤ 20) (hw : 0 < w) (hw' : w ≤ 800) (hq : -800 ≤ q) (hq' : q ≤ 800) (hr : -800 ≤ r) (hr' : r ≤ 800)
    (h1 : 0 ≤ q → q ≤ w → 0 ≤ r → r ≤ w → post 1 (pr, mc, sg_i (sg_lx G j * w + q * jx), sg_i (sg_ly G j * w + q * jy), sg_i w, low, high, tX, bX, tY, bY, pa))
    (h0 : ¬ (0 ≤ q ∧ q ≤ w ∧ 0 ≤ r ∧ r ≤ w) → post 0 (pr, mc, cX, cY, cB, low, high, tX, bX, tY, bY, pa)) : wX_findCommonPoint_194 post (nI j) (sg_i jx) (sg_i jy) (sg_i w) (sg_i q) (sg_i r) pr mc cX cY cB low high tX bX tY bY pa := by
  obtain ⟨i1, i2, i3, i4, i5, i6, i7, i8⟩ := hi
  unfold wX_findCommonPoint_194 wpX_xOf wpX_yOf
  rw [sg_izl ⟨by omega, by omega⟩, sg_ilt ⟨by omega, by omega⟩ ⟨by omega, by omega⟩, sg_izl ⟨by omega, by omega⟩, sg_ile ⟨by omega, by omega⟩ ⟨by omega, by omega⟩]
  refine br_c (fun c => h0 (by omega)) (fun c => br_c (fun d => h0 (by omega)) (fun d => br_c (fun e => h0 (by omega)) (fun e => br_c (fun f => ?_) (fun f => h0 (by omega)))))
  rw [sg_c10 hj, (hl j hj).1, sg_px i1 i2 i3 i4, sg_py i1 i2 i3 i4]
  simp only [sg_imul, sg_iadd]
  exact ⟨sg_in10 hj, nm_e ⟨sg_in10 hj, nm_e (h1 (by omega) (by omega) (by omega) (by omega))⟩⟩
theorem x_commonEnd {post : Int32 → SX → Prop} (hl : sg_LH G low high) {j k : Nat} (hj : j < 10) (hk : k < 10) (hi : sg_in G j) (hi' : sg_in G k)
    (h1 : sg_hx G j = sg_lx G k → sg_hy G j = sg_ly G k → post 1 (pr, mc, sg_i (sg_lx G k), sg_i (sg_ly G k), 1, low, high, tX, bX, tY, bY, pa))
    (h2 : sg_hx G k = sg_lx G j → sg_hy G k = sg_ly G j → post 1 (pr, mc, sg_i (sg_lx G j), sg_i (sg_ly G j), 1, low, high, tX, bX, tY, bY, pa))
    (h0 : ¬ (sg_hx G j = sg_lx G k ∧ sg_hy G j = sg_ly G k) → ¬ (sg_hx G k = sg_lx G j ∧ sg_hy G k = sg_ly G j) → post 0 (pr, mc, cX, cY, cB, low, high, tX, bX, tY, bY, pa)) : wpX_findCommonEnd post (pr, mc, cX, cY, cB, low, high, tX, bX, tY, bY, pa) (nI j) (nI k) := by
  obtain ⟨i1, i2, i3, i4, i5, i6, i7, i8⟩ := hi
  obtain ⟨j1, j2, j3, j4, j5, j6, j7, j8⟩ := hi'
  unfold wpX_findCommonEnd wX_findCommonEnd_32 wX_findCommonEnd_62 wpX_xOf wpX_yOf
  dsimp only
  rw [sg_c10 hj, sg_c10 hk, (hl j hj).1, (hl j hj).2, (hl k hk).1, (hl k hk).2, sg_ieq (sg_Rp i5 i6 i7 i8) (sg_Rp j1 j2 j3 j4), sg_ieq (sg_Rp j5 j6 j7 j8) (sg_Rp i1 i2 i3 i4), sg_px i1 i2 i3 i4, sg_py i1 i2 i3 i4, sg_px j1 j2 j3 j4, sg_py j1 j2 j3 j4]
  have a := sg_in10 hj
  have b := sg_in10 hk
  refine ⟨a, b, br_c (fun c => ⟨a, b, br_t c ⟨b, h1 (by omega) (by omega)⟩⟩) (fun c => ⟨b, a, br_c (fun d => ⟨a, b, br_f c ⟨a, h2 (by omega) (by omega)⟩⟩) (fun d => h0 (by omega) (by omega))⟩)⟩
theorem x_common {post : Int32 → SX → Prop} (g : sg_Geo P G) (hl : sg_LH G low high) {j k : Nat} (hj : j < 10) (hk : k < 10) (hne : j ≠ k) (pj : P j) (pk : P k)
    (h1 : ∀ (cx cy cb : Int) (p : Rat × Rat), 1 ≤ cb → cb ≤ 800 → 0 ≤ cx → cx ≤ 16000 → 0 ≤ cy → cy ≤ 16000 → p.1 * (cb : Rat) = cx → p.2 * (cb : Rat) = cy → sg_on G j p → sg_on G k p →
      post 1 (pr, mc, sg_i cx, sg_i cy, sg_i cb, low, high, tX, bX, tY, bY, pa))
    (h0 : (∀ p, sg_on G j p → sg_on G k p → False) → post 0 (pr, mc, cX, cY, cB, low, high, tX, bX, tY, bY, pa)) : wpX_findCommonPoint post (pr, mc, cX, cY, cB, low, high, tX, bX, tY, bY, pa) (nI j) (nI k) := by
  have lj := sg_gl g hj pj
  have lk := sg_gl g hk pk
  obtain ⟨i1, i2, i3, i4, i5, i6, i7, i8⟩ := id (g.1 j hj)
  obtain ⟨j1, j2, j3, j4, j5, j6, j7, j8⟩ := id (g.1 k hk)
  simp only [wpX_findCommonPoint, wpX_xOf, wpX_yOf, sg_c10 hj, sg_c10 hk, (hl j hj).1, (hl j hj).2, (hl k hk).1, (hl k hk).2, sg_px i1 i2 i3 i4, sg_py i1 i2 i3 i4, sg_px i5 i6 i7 i8, sg_py i5 i6 i7 i8, sg_px j1 j2 j3 j4, sg_py j1 j2 j3 j4, sg_px j5 j6 j7 j8, sg_py j5 j6 j7 j8, sg_isub, sg_imul, sg_ineg, forall_eq, sg_in10 hj, sg_in10 hk, true_and]
  generalize ew : (sg_hx G j - sg_lx G j) * (sg_hy G k - sg_ly G k) - (sg_hy G j - sg_ly G j) * (sg_hx G k - sg_lx G k) = w
  generalize eq : (sg_lx G k - sg_lx G j) * (sg_hy G k - sg_ly G k) - (sg_ly G k - sg_ly G j) * (sg_hx G k - sg_lx G k) = q
  generalize er : (sg_lx G k - sg_lx G j) * (sg_hy G j - sg_ly G j) - (sg_ly G k - sg_ly G j) * (sg_hx G j - sg_lx G j) = r
  have bw : -800 ≤ w ∧ w ≤ 800 := by rw [← ew]; exact sg_b8 (by omega) (by omega) (by omega) (by omega) (by omega) (by omega) (by omega) (by omega)
  have bq : -800 ≤ q ∧ q ≤ 800 := by rw [← eq]; exact sg_b8 (by omega) (by omega) (by omega) (by omega) (by omega) (by omega) (by omega) (by omega)
  have br : -800 ≤ r ∧ r ≤ 800 := by rw [← er]; exact sg_b8 (by omega) (by omega) (by omega) (by omega) (by omega) (by omega) (by omega) (by omega)
  have ew' : (w : Rat) = ((sg_hx G j : Rat) - sg_lx G j) * ((sg_hy G k : Rat) - sg_ly G k) - ((sg_hy G j : Rat) - sg_ly G j) * ((sg_hx G k : Rat) - sg_lx G k) := by
    rw [← ew]; simp only [Rat.intCast_mul, Rat.intCast_sub]
  have eq' : (q : Rat) = ((sg_lx G k : Rat) - sg_lx G j) * ((sg_hy G k : Rat) - sg_ly G k) - ((sg_ly G k : Rat) - sg_ly G j) * ((sg_hx G k : Rat) - sg_lx G k) := by
    rw [← eq]; simp only [Rat.intCast_mul, Rat.intCast_sub]
  have er' : (r : Rat) = ((sg_lx G k : Rat) - sg_lx G j) * ((sg_hy G j : Rat) - sg_ly G j) - ((sg_ly G k : Rat) - sg_ly G j) * ((sg_hx G j : Rat) - sg_lx G j) := by
    rw [← er]; simp only [Rat.intCast_mul, Rat.intCast_sub]
  rw [sg_iz ⟨by omega, by omega⟩, sg_iz0 ⟨by omega, by omega⟩]
  refine br_c (fun w0 => ?_) (fun w0 => ?_)
  · -- one direction
    have w0' : ((sg_hx G j : Rat) - sg_lx G j) * ((sg_hy G k : Rat) - sg_ly G k) - ((sg_hy G j : Rat) - sg_ly G j) * ((sg_hx G k : Rat) - sg_lx G k) = 0 := by
      rw [← ew', w0]; rfl
    refine x_commonEnd hl hj hk (g.1 j hj) (g.1 k hk) (fun c d => ⟨rfl, ?_⟩) (fun c d => ⟨rfl, ?_⟩) (fun c d => ⟨rfl, h0 ?_⟩)
    · refine h1 (sg_lx G k) (sg_ly G k) 1 (sg_lx G k, sg_ly G k) (by omega) (by omega) (by omega) (by omega) (by omega) (by omega) (Rat.mul_one _) (Rat.mul_one _) ?_ (sg_O_a lk)
      have := sg_O_c lj
      rw [c, d] at this
      unfold sg_on
      rw [c, d]
      exact this
    · refine h1 (sg_lx G j) (sg_ly G j) 1 (sg_lx G j, sg_ly G j) (by omega) (by omega) (by omega) (by omega) (by omega) (by omega) (Rat.mul_one _) (Rat.mul_one _) (sg_O_a lj) ?_
      have := sg_O_c lk
      rw [c, d] at this
      unfold sg_on
      rw [c, d]
      exact this
    · intro p oj ok
      rcases sg_touch lj lk w0' oj ok (fun u v a b => by
          have e := g.2.2 j k hj hk pj pk hne (u, v) p a b oj ok
          exact ⟨congrArg Prod.fst e, congrArg Prod.snd e⟩) with ⟨e, f, _⟩ | ⟨e, f, _⟩
      · exact c ⟨Rat.intCast_inj.mp e, Rat.intCast_inj.mp f⟩
      · exact d ⟨Rat.intCast_inj.mp e, Rat.intCast_inj.mp f⟩
  · -- the lines cross
    have main : ∀ w' q' r' : Int, ((w' = w ∧ q' = q ∧ r' = r) ∨ (w' = -w ∧ q' = -q ∧ r' = -r)) → 0 < w' →
        wX_findCommonPoint_194 post (nI j) (sg_i (sg_hx G j - sg_lx G j)) (sg_i (sg_hy G j - sg_ly G j)) (sg_i w') (sg_i q') (sg_i r') pr mc cX cY cB low high tX bX tY bY pa := by
      intro w' q' r' hs hw'
      have hwp : (0 : Rat) < (w' : Rat) := Rat.intCast_pos.mpr hw'
      have hwn : (w' : Rat) ≠ 0 := by rw [Ne, Rat.intCast_eq_zero_iff]; omega
      have wn : (w : Rat) ≠ 0 := by rw [Ne, Rat.intCast_eq_zero_iff]; exact w0
      have et : (q' : Rat) / (w' : Rat) * (w' : Rat) = q' := Rat.div_mul_cancel hwn
      have es : (r' : Rat) / (w' : Rat) * (w' : Rat) = r' := Rat.div_mul_cancel hwn
      have et' : (q' : Rat) / (w' : Rat) * (w : Rat) = q := by
        rcases hs with ⟨a, b, c⟩ | ⟨a, b, c⟩
        · rw [a, b] at et; rw [a, b]; exact et
        · rw [a, b, Rat.intCast_neg, Rat.intCast_neg] at et; rw [a, b, Rat.intCast_neg, Rat.intCast_neg]; grind
      have es' : (r' : Rat) / (w' : Rat) * (w : Rat) = r := by
        rcases hs with ⟨a, b, c⟩ | ⟨a, b, c⟩
        · rw [a, c] at es; rw [a, c]; exact es
        · rw [a, c, Rat.intCast_neg, Rat.intCast_neg] at es; rw [a, c, Rat.intCast_neg, Rat.intCast_neg]; grind
      have mx := sg_meetX lj lk ew' wn (et'.trans eq') (es'.trans er')
      have mu := fun x y => sg_meetU (x := x) (y := y) ew' wn (et'.trans eq')
      have c0 : ∀ z : Int, 0 ≤ (z : Rat) / (w' : Rat) ↔ 0 ≤ z := by
        intro z
        rw [← sg_mle hwp, Rat.div_mul_cancel hwn, Rat.zero_mul, Rat.intCast_nonneg]
      have c1 : ∀ z : Int, (z : Rat) / (w' : Rat) ≤ 1 ↔ z ≤ w' := by
        intro z
        rw [← sg_mle hwp, Rat.div_mul_cancel hwn, Rat.one_mul, Rat.intCast_le_intCast]
      rw [c0, c1, c0, c1] at mx
      refine x_194 hl hj (g.1 j hj) (by omega) (by omega) (by omega) (by omega) hw' (by omega) (by omega) (by omega) (by omega) (by omega) (fun a b c d => ?_) (fun hn => h0 (fun p oj ok => hn ?_))
      · obtain ⟨o1, o2⟩ := mx.mpr ⟨a, b, c, d⟩
        have v1 := sg_conv i1 i2 i5 i6 a b
        have v2 := sg_conv i3 i4 i7 i8 a b
        refine h1 _ _ w' (_, _) (by omega) (by omega) v1.1 (by omega) v2.1 (by omega) ?_ ?_ o1 o2
        · simp only [Rat.intCast_add, Rat.intCast_mul, Rat.intCast_sub]
          grind
        · simp only [Rat.intCast_add, Rat.intCast_mul, Rat.intCast_sub]
          grind
      · obtain ⟨ex, ey⟩ := mu p.1 p.2 oj.1 ok.1
        unfold sg_on at oj ok
        rw [ex, ey] at oj ok
        exact mx.mp ⟨oj, ok⟩
    refine br_c (fun c => ?_) (fun c => ?_)
    · exact main w q r (Or.inl ⟨rfl, rfl, rfl⟩) (by omega)
    · exact main (-w) (-q) (-r) (Or.inr ⟨rfl, rfl, rfl⟩) (by omega)
end
end
section
/-! ===== X: the table of meeting points ===== -/
def sg_TX (m : Nat) (T : Nat → Rat × Rat) (tX bX tY bY : Nat → Int32) : Prop := ∀ i, i < m → tX i = sg_i (T i).1.num ∧ bX i = sg_i ((T i).1.den : Int) ∧ tY i = sg_i (T i).2.num ∧ bY i = sg_i ((T i).2.den : Int)
theorem sg_c45 {i : Nat} (h : i < 45) : (nI i).toNatClampNeg = i := nI_clamp (by omega)
theorem sg_in45 {i : Nat} (h : i < 45) : vp_in (nI i) 45 := vp_in_nI h (by decide)
theorem sg_ltpx {p q : Rat × Rat} : sg_ltp p q ↔ (p.1 < q.1 ∨ (p.1 = q.1 ∧ p.2 < q.2)) := Iff.rfl
theorem sg_pext {p q : Rat × Rat} : p = q ↔ (p.1 = q.1 ∧ p.2 = q.2) := Prod.ext_iff
section
variable {P : Nat → Prop} {G : Nat → Int × Int × Int × Int} {pr mc cX cY cB : Int32} {low high tX bX tY bY pa : Nat → Int32}
theorem x_order {post : Int32 → Prop} {m : Nat} {T : Nat → Rat × Rat} (hT : sg_TX m T tX bX tY bY) {i : Nat} (hi : i < m) (hm : m ≤ 45) (bd : sg_bd (T i)) {cx cy cb : Int} {p : Rat × Rat} (h1 : 1 ≤ cb) (h2 : cb ≤ 800) (h3 : 0 ≤ cx) (h4 : cx ≤ 16000) (h5 : 0 ≤ cy) (h6 : cy ≤ 16000) (e1 : p.1 * (cb : Rat) = cx) (e2 : p.2 * (cb : Rat) = cy)
    (h : ∀ r : Int, sg_R r → (r < 0 ↔ sg_ltp (T i) p) → (r = 0 ↔ T i = p) → post (sg_i r)) : wpX_orderAgainstCommon post (pr, mc, sg_i cx, sg_i cy, sg_i cb, low, high, tX, bX, tY, bY, pa) (nI i) := by
  obtain ⟨⟨b1, b2, b3⟩, b4, b5, b6⟩ := bd
  obtain ⟨t1, t2, t3, t4⟩ := hT i hi
  have d1 := sg_dp (T i).1
  have d2 := sg_dp (T i).2
  have v := sg_in45 (show i < 45 by omega)
  unfold wpX_orderAgainstCommon
  dsimp only
  rw [sg_c45 (by omega), t1, t2, t3, t4]
  simp only [sg_imul, sg_isub]
  have w1 := sg_mb (a := (T i).1.num) (b := cb) 16000 800 (by omega) (by omega) (by omega) (by omega)
  have w2 := sg_mb (a := cx) (b := (T i).1.den) 16000 800 (by omega) (by omega) (by omega) (by omega)
  have w3 := sg_mb (a := (T i).2.num) (b := cb) 16000 800 (by omega) (by omega) (by omega) (by omega)
  have w4 := sg_mb (a := cy) (b := (T i).2.den) 16000 800 (by omega) (by omega) (by omega) (by omega)
  have l1 := sg_rlt d1 (show 0 < cb by omega) (sg_nd (T i).1) e1
  have l2 := sg_rlt d2 (show 0 < cb by omega) (sg_nd (T i).2) e2
  have q1 := sg_req d1 (show 0 < cb by omega) (sg_nd (T i).1) e1
  have q2 := sg_req d2 (show 0 < cb by omega) (sg_nd (T i).2) e2
  refine ⟨v, v, nm_e ⟨v, v, nm_e ?_⟩⟩
  rw [sg_iz ⟨by omega, by omega⟩]
  refine br_c (fun c => h _ ⟨by omega, by omega⟩ ?_ ?_) (fun c => h _ ⟨by omega, by omega⟩ ?_ ?_)
  · rw [sg_ltpx, l1, q1, l2]; omega
  · rw [sg_pext, q1, q2]; omega
  · rw [sg_ltpx, l1, q1, l2]; omega
  · rw [sg_pext, q1, q2]; omega
end
theorem x_gcd1 {post : Int32 → Prop} : ∀ (b a s n : Nat), b < n → b + s < 1000000 → a < 2147483648 → 0 < Nat.gcd a b → post (nI (Nat.gcd a b)) → wX_commonDivisor_7 post n (nI a) (nI b) (nI s) := by
  intro b
  induction b using Nat.strongRecOn with
  | _ b ih =>
    intro a s n hn hs ha hg hp
    obtain ⟨n', rfl⟩ : ∃ n', n = n' + 1 := ⟨n - 1, by omega⟩
    refine br_f (nI_ge (b := 1000000) (by omega) (by decide)) ?_
    by_cases hb : b = 0
    · subst hb
      rw [Nat.gcd_zero_right] at hg hp
      exact br_t rfl (br_t (nI_le (a := 1) (by omega) (by omega)) hp)
    · have hne : ¬ nI b = 0 := nI_ne0 (by omega) (by omega)
      refine br_f hne ⟨hne, nm_r (pk_rem ha (by omega) (by omega)) (nm_r (nI_1 s) ?_)⟩
      have hlt : a % b < b := Nat.mod_lt _ (by omega)
      have eg : Nat.gcd b (a % b) = Nat.gcd a b := by rw [Nat.gcd_comm b, ← Nat.gcd_rec, Nat.gcd_comm]
      refine ih (a % b) hlt b (s + 1) n' (by omega) (by omega) (by omega) (by rw [eg]; exact hg) (by rw [eg]; exact hp)
theorem x_gcd {post : Int32 → Prop} {a b : Int} (ha : 0 ≤ a) (ha' : a ≤ 16000) (hb : 1 ≤ b) (hb' : b ≤ 800) (h : post (sg_i (Int.gcd a b : Int))) : wpX_commonDivisor post (sg_i a) (sg_i b) := by
  obtain ⟨n, rfl⟩ := Int.eq_ofNat_of_zero_le ha
  obtain ⟨m, rfl⟩ := Int.eq_ofNat_of_zero_le (show 0 ≤ b by omega)
  rw [Int.gcd_natCast_natCast, ← sg_nI] at h
  rw [← sg_nI, ← sg_nI]
  exact ⟨m + 1, x_gcd1 m n 0 (m + 1) (by omega) (by omega) (by omega) (Nat.gcd_pos_of_pos_right n (by omega)) h⟩
/-! the shift to make room -/
def sg_sh {α : Type} (f : Nat → α) (i m : Nat) : Nat → α := fun k => if i < k ∧ k ≤ m then f (k - 1) else f k
theorem sg_sh_m {α : Type} (f : Nat → α) (m : Nat) : sg_sh f m m = f := by funext k; exact if_neg (by omega)
theorem sg_sh_s (f : Nat → Int32) (i m : Nat) (h : i + 1 ≤ m) : upd (sg_sh f (i + 1) m) (i + 1) (sg_sh f (i + 1) m i) = sg_sh f i m := by
  funext k
  unfold upd sg_sh
  by_cases c : k = i + 1
  · subst c
    rw [if_pos rfl, if_neg (by omega), if_pos (by omega)]
    rfl
  · rw [if_neg c]
    by_cases d : i + 1 < k ∧ k ≤ m
    · rw [if_pos d, if_pos (by omega)]
    · rw [if_neg d, if_neg (by omega)]
theorem sg_sh_ins {α : Type} (f : Nat → α) (n m : Nat) (v : α) (g : Nat → α) (hg : ∀ k, k ≠ n → g k = sg_sh f n m k) (hv : g n = v) : ∀ k, k < m + 1 → g k = sg_ins f n v k := by
  intro k hk
  rcases Nat.lt_trichotomy k n with c | c | c
  · rw [hg k (by omega), sg_ins_l c]; exact if_neg (by omega)
  · subst c; rw [hv, sg_ins_e]
  · rw [hg k (by omega), sg_ins_g c]; exact if_pos (by omega)
section
variable {P : Nat → Prop} {G : Nat → Int × Int × Int × Int} {pr mc cX cY cB : Int32} {low high tX bX tY bY pa : Nat → Int32}
theorem x_makeRoom {post : SX → Prop} {m n : Nat} (hn : n ≤ m) (hm : m < 45)
    (h : post (pr, nI (m + 1), cX, cY, cB, low, high, sg_sh tX n m, sg_sh bX n m, sg_sh tY n m, sg_sh bY n m, sg_sh pa n m)) : wpX_makeRoom post (pr, nI m, cX, cY, cB, low, high, tX, bX, tY, bY, pa) (nI n) := by
  have key : ∀ d i, n + d = i → i ≤ m → wX_makeRoom_5 post (nI n) pr (nI m) cX cY cB (d + 1) (nI i) low high (sg_sh tX i m) (sg_sh bX i m) (sg_sh tY i m) (sg_sh bY i m) (sg_sh pa i m) := by
    intro d
    induction d with
    | zero =>
      intro i hi hm'
      have : i = n := by omega
      subst this
      exact br_t (nI_le (Nat.le_refl _) (by omega)) (nm_r (nI_1 m) h)
    | succ d ih =>
      intro i hi hm'
      obtain ⟨e, rfl⟩ : ∃ e, i = e + 1 := ⟨i - 1, by omega⟩
      have v := sg_in45 (show e < 45 by omega)
      have v' := sg_in45 (show e + 1 < 45 by omega)
      have c := sg_c45 (show e < 45 by omega)
      have c' := sg_c45 (show e + 1 < 45 by omega)
      refine br_f (nI_ge (by omega) (by omega)) ?_
      rw [nI_pred, c, c']
      refine ⟨v, v', nm_r (sg_sh_s tX e m hm') ⟨v, v', nm_r (sg_sh_s bX e m hm') ⟨v, v', nm_r (sg_sh_s tY e m hm') ⟨v, v', nm_r (sg_sh_s bY e m hm') ⟨v, v', nm_r (sg_sh_s pa e m hm') (nm_r (pk_m1 e) ?_)⟩⟩⟩⟩⟩
      exact ih e (by omega) (by omega)
  have := key (m - n) m (by omega) (Nat.le_refl _)
  simp only [sg_sh_m] at this
  exact ⟨_, this⟩
theorem x_store {post : SX → Prop} {n : Nat} (hn : n < 45) {cx cy cb : Int} (h1 : 1 ≤ cb) (h2 : cb ≤ 800) (h3 : 0 ≤ cx) (h4 : cx ≤ 16000) (h5 : 0 ≤ cy) (h6 : cy ≤ 16000) {p : Rat × Rat} (e1 : p.1 * (cb : Rat) = cx) (e2 : p.2 * (cb : Rat) = cy)
    (h : post (pr, mc, sg_i cx, sg_i cy, sg_i cb, low, high, upd tX n (sg_i p.1.num), upd bX n (sg_i (p.1.den : Int)), upd tY n (sg_i p.2.num), upd bY n (sg_i (p.2.den : Int)), pa)) : wpX_storeCommonPoint post (pr, mc, sg_i cx, sg_i cy, sg_i cb, low, high, tX, bX, tY, bY, pa) (nI n) := by
  have v := sg_in45 hn
  obtain ⟨r1, r2⟩ := sg_red (show 0 < cb by omega) h3 e1
  obtain ⟨r3, r4⟩ := sg_red (show 0 < cb by omega) h5 e2
  have g1 : 0 < (Int.gcd cx cb : Int) := by have := Int.gcd_pos_of_ne_zero_right cx (show cb ≠ 0 by omega); omega
  have g2 : 0 < (Int.gcd cy cb : Int) := by have := Int.gcd_pos_of_ne_zero_right cy (show cb ≠ 0 by omega); omega
  have u1 : (Int.gcd cx cb : Int) ≤ cb := Int.le_of_dvd (by omega) (Int.gcd_dvd_right ..)
  have u2 : (Int.gcd cy cb : Int) ≤ cb := Int.le_of_dvd (by omega) (Int.gcd_dvd_right ..)
  have z1 : ¬ sg_i (Int.gcd cx cb : Int) = 0 := by rw [sg_iz ⟨by omega, by omega⟩]; omega
  have z2 : ¬ sg_i (Int.gcd cy cb : Int) = 0 := by rw [sg_iz ⟨by omega, by omega⟩]; omega
  unfold wpX_storeCommonPoint
  dsimp only
  refine x_gcd h3 h4 h1 h2 (x_gcd h5 h6 h1 h2 ?_)
  rw [sg_c45 hn, sg_idiv h3 (by omega) g1 (by omega), sg_idiv (show 0 ≤ cb by omega) (by omega) g1 (by omega), sg_idiv h5 (by omega) g2 (by omega), sg_idiv (show 0 ≤ cb by omega) (by omega) g2 (by omega), ← r1, ← r2, ← r3, ← r4]
  exact ⟨z1, v, nm_e ⟨z1, v, nm_e ⟨z2, v, nm_e ⟨z2, v, nm_e h⟩⟩⟩⟩
def sg_IX (P : Nat → Prop) (G : Nat → Int × Int × Int × Int) (R : Nat → Nat → Prop) (m : Nat) (T : Nat → Rat × Rat) (tX bX tY bY pa : Nat → Int32) : Prop := sg_Cov P G R m T ∧ sg_Msk P G R m T pa ∧ sg_TX m T tX bX tY bY
theorem x_record {post : SX → Prop} {R : Nat → Nat → Prop} {m : Nat} {T : Nat → Rat × Rat} (I : sg_IX P G R m T tX bX tY bY pa) (g : sg_Geo P G) {j k : Nat} (hj : j < 10) (hk : k < 10) (hne : j ≠ k) (pj : P j) (pk : P k) (hm : m < 45)
    {cx cy cb : Int} {p : Rat × Rat} (h1 : 1 ≤ cb) (h2 : cb ≤ 800) (h3 : 0 ≤ cx) (h4 : cx ≤ 16000) (h5 : 0 ≤ cy) (h6 : cy ≤ 16000) (e1 : p.1 * (cb : Rat) = cx) (e2 : p.2 * (cb : Rat) = cy) (oj : sg_on G j p) (ok : sg_on G k p) {x : Int32} (hx : sg_M x (fun i => i = j ∨ i = k))
    (h : ∀ m' T' tX' bX' tY' bY' pa', m' ≤ m + 1 → sg_IX P G (sg_R1 R j k) m' T' tX' bX' tY' bY' pa' → post (pr, nI m', sg_i cx, sg_i cy, sg_i cb, low, high, tX', bX', tY', bY', pa')) :
    wpX_recordCommonPoint post (pr, nI m, sg_i cx, sg_i cy, sg_i cb, low, high, tX, bX, tY, bY, pa) x := by
  obtain ⟨hC, hM, hT⟩ := I
  have hU : ∀ q, sg_on G j q → sg_on G k q → q = p := fun q a b => g.2.2 j k hj hk pj pk hne q p a b oj ok
  have hb : sg_bd p := by
    have a := sg_redb (show 0 < cb by omega) h3 e1
    have b := sg_redb (show 0 < cb by omega) h5 e2
    exact ⟨⟨by omega, by omega, by omega⟩, by omega, by omega, by omega⟩
  -- the point is new, and belongs at n
  have fresh : ∀ n, n ≤ m → (∀ i, i < n → sg_ltp (T i) p) → (∀ i, n ≤ i → i < m → sg_ltp p (T i)) →
      wX_recordCommonPoint_53 post x (nI n) pr (nI m) (sg_i cx) (sg_i cy) (sg_i cb) low high tX bX tY bY pa := by
    intro n hn lo hi
    have hn45 : n < 45 := by omega
    have hnot : ∀ i, i < m → T i ≠ p := by
      intro i him e
      rcases Nat.lt_or_ge i n with q | q
      · have := lo i q; rw [e] at this; exact sg_ltp_irr _ this
      · have := hi i q him; rw [e] at this; exact sg_ltp_irr _ this
    refine br_f (nI_ge (b := 45) hm (by decide)) (x_makeRoom hn hm (x_store hn45 h1 h2 h3 h4 h5 h6 e1 e2 ⟨sg_in45 hn45, ?_⟩))
    rw [sg_c45 hn45]
    refine nm_e (h (m + 1) (sg_ins T n p) _ _ _ _ _ (Nat.le_refl _) ⟨sg_Cov_new hC hj hk hne pj pk oj ok hb hU hn lo hi, ?_, ?_⟩)
    · have := sg_Msk_new hC hM hj hk pj pk oj ok hx hU hn hnot
      intro i hi
      rw [sg_sh_ins pa n m x (upd (sg_sh pa n m) n x) (fun k hk => pk_un hk) pk_us i hi]
      exact this i hi
    · intro i hi
      rw [sg_sh_ins tX n m _ (upd (sg_sh tX n m) n _) (fun k hk => pk_un hk) pk_us i hi, sg_sh_ins bX n m _ (upd (sg_sh bX n m) n _) (fun k hk => pk_un hk) pk_us i hi,
        sg_sh_ins tY n m _ (upd (sg_sh tY n m) n _) (fun k hk => pk_un hk) pk_us i hi, sg_sh_ins bY n m _ (upd (sg_sh bY n m) n _) (fun k hk => pk_un hk) pk_us i hi]
      rcases Nat.lt_trichotomy i n with c | c | c
      · simp only [sg_ins_l c]; exact hT i (by omega)
      · subst c; simp only [sg_ins_e]; exact ⟨trivial, trivial, trivial, trivial⟩
      · simp only [sg_ins_g c]; exact hT (i - 1) (by omega)
  -- the loop has stopped at n
  have stop : ∀ n, n ≤ m → (∀ i, i < n → sg_ltp (T i) p) → (n < m → ¬ sg_ltp (T n) p) →
      wX_recordCommonPoint_24 post x (nI n) pr (nI m) (sg_i cx) (sg_i cy) (sg_i cb) low high tX bX tY bY pa := by
    intro n hn lo hs
    rcases Nat.lt_or_ge n m with c | c
    · refine br_f (nI_ge c (by omega)) (x_order hT c (by omega) (hC.2.1 n c) h1 h2 h3 h4 h5 h6 e1 e2 (fun r hr l e => ?_))
      rw [sg_iz hr, e]
      refine br_c (fun q => ?_) (fun q => ?_)
      · have v := sg_in45 (show n < 45 by omega)
        rw [sg_c45 (show n < 45 by omega)]
        exact ⟨v, v, nm_e (h m T _ _ _ _ _ (by omega) ⟨sg_Cov_old hC hU c q, sg_Msk_old hC hM hj hk pj pk oj ok hx hU c q, hT⟩)⟩
      · refine fresh n hn lo (fun i hi him => ?_)
        have z : sg_ltp p (T n) := by
          rcases sg_ltp_tri (T n) p with a | a | a
          · exact absurd a (hs c)
          · exact absurd a q
          · exact a
        rcases sg_srt_le hC.1 hi him with a | a
        · exact sg_ltp_tr z a
        · rw [← a]; exact z
    · exact br_t (nI_le c (by omega)) (fresh n hn lo (fun i hi him => absurd him (by omega)))
  have key : ∀ d n, n + d = m → (∀ i, i < n → sg_ltp (T i) p) → wX_recordCommonPoint_2 post x pr (nI m) (sg_i cx) (sg_i cy) (sg_i cb) low high tX bX tY bY pa (d + 1) (nI n) := by
    intro d
    induction d with
    | zero =>
      intro n hn lo
      exact br_t (nI_le (by omega) (by omega)) (stop n (by omega) lo (fun c => absurd c (by omega)))
    | succ d ih =>
      intro n hn lo
      have c : n < m := by omega
      refine br_f (nI_ge c (by omega)) (x_order hT c (by omega) (hC.2.1 n c) h1 h2 h3 h4 h5 h6 e1 e2 (fun r hr l e => ?_))
      rw [sg_iz0 hr]
      refine br_c (fun q => stop n (by omega) lo (fun _ a => ?_)) (fun q => ?_)
      · have := l.mpr a; omega
      · refine nm_r (nI_1 n) (ih (n + 1) (by omega) ?_)
        intro i hi
        rcases Nat.lt_succ_iff_lt_or_eq.mp hi with a | a
        · exact lo i a
        · subst a; exact l.mp (by omega)
  exact ⟨m + 1, key m 0 (by omega) (fun i hi => absurd hi (by omega))⟩
/-- the pairs that X has looked at, at (j, k) -/
def sg_RX (j k : Nat) : Nat → Nat → Prop := fun a b => a < b ∧ b < 10 ∧ (a < j ∨ (a = j ∧ b < k))
def sg_cX (j : Nat) : Nat := j * (19 - j) / 2
theorem sg_cXs : ∀ j, j < 10 → sg_cX j + (9 - j) = sg_cX (j + 1) ∧ sg_cX (j + 1) ≤ 45 := by decide
theorem sg_IXc {R S : Nat → Nat → Prop} {m : Nat} {T : Nat → Rat × Rat} (I : sg_IX P G R m T tX bX tY bY pa) (e : ∀ a b, S a b ↔ R a b) : sg_IX P G S m T tX bX tY bY pa :=
  ⟨sg_Cov_c I.1 (fun a b => (e a b).mp), sg_Msk_c I.2.1 e, I.2.2⟩
theorem sg_IXn {R : Nat → Nat → Prop} {m : Nat} {T : Nat → Rat × Rat} (I : sg_IX P G R m T tX bX tY bY pa) {j k : Nat} (hn : ∀ p, P j → P k → sg_on G j p → sg_on G k p → False) : sg_IX P G (sg_R1 R j k) m T tX bX tY bY pa :=
  ⟨sg_Cov_none I.1 hn, sg_Msk_none I.2.1 hn, I.2.2⟩
theorem x_inner {post : SX → Prop} {J : Int32 → Int32 → Int32 → Int32 → Int32 → Int32 → (Nat → Int32) → (Nat → Int32) → (Nat → Int32) → (Nat → Int32) → (Nat → Int32) → (Nat → Int32) → (Nat → Int32) → Prop}
    (g : sg_Geo P G) (hP : sg_M pr P) (hl : sg_LH G low high) {j : Nat} (hj : j < 10)
    (h : ∀ m T cX cY cB tX bX tY bY pa, m ≤ sg_cX (j + 1) → sg_IX P G (sg_RX (j + 1) (j + 2)) m T tX bX tY bY pa → J (nI (j + 1)) pr (nI m) cX cY cB low high tX bX tY bY pa) :
    ∀ d k, k + d = 10 → j < k → ∀ m T cX cY cB tX bX tY bY pa, m ≤ sg_cX j + (k - j - 1) → sg_IX P G (sg_RX j k) m T tX bX tY bY pa → wX_findMeetings_17 post J (nI j) (d + 1) (nI k) pr (nI m) cX cY cB low high tX bX tY bY pa := by
  intro d
  induction d with
  | zero =>
    intro k hk hjk m T cX cY cB tX bX tY bY pa hm I
    have : k = 10 := by omega
    subst this
    have := sg_cXs j hj
    refine br_t sg_e10 (nm_r (nI_1 j) (h m T cX cY cB tX bX tY bY pa (by omega) (sg_IXc I ?_)))
    intro a b; unfold sg_RX; omega
  | succ d ih =>
    intro k hk hjk m T cX cY cB tX bX tY bY pa hm I
    have hk' : k < 10 := by omega
    have cx := sg_cXs j hj
    have eR : ∀ a b, sg_RX j (k + 1) a b ↔ sg_R1 (sg_RX j k) j k a b := by
      intro a b; unfold sg_RX sg_R1; omega
    have skip : (∀ p, P j → P k → sg_on G j p → sg_on G k p → False) → ∀ z, z = nI k + 1 → wX_findMeetings_17 post J (nI j) (d + 1) z pr (nI m) cX cY cB low high tX bX tY bY pa := by
      intro hn
      exact nm_r (nI_1 k) (ih (k + 1) (by omega) (by omega) m T cX cY cB tX bX tY bY pa (by omega) (sg_IXc (sg_IXn I hn) eR))
    refine br_f (sg_n10 hk') (x_isPresent hP hj (fun pj => br_f (by decide) (x_isPresent hP hk' (fun pk => br_f (by decide) ?_) (fun pk => br_t rfl (skip (fun _ _ q _ _ => pk q))))) (fun pj => br_t rfl (skip (fun _ q _ _ _ => pj q))))
    refine x_common g hl hj hk' (by omega) pj pk (fun cx cy cb p h1 h2 h3 h4 h5 h6 e1 e2 oj ok => br_f (by decide) ?_) (fun hn => br_t rfl (skip (fun p _ _ => hn p)))
    refine x_record I g hj hk' (by omega) pj pk (by omega) h1 h2 h3 h4 h5 h6 e1 e2 oj ok (sg_Mor (sg_M1 hj) (sg_M1 hk')) (fun m' T' tX' bX' tY' bY' pa' hm' I' => ?_)
    exact nm_r (nI_1 k) (ih (k + 1) (by omega) (by omega) m' T' _ _ _ tX' bX' tY' bY' pa' (by omega) (sg_IXc I' eR))
theorem x_outer {post : SX → Prop} (g : sg_Geo P G) (hP : sg_M pr P) (hl : sg_LH G low high)
    (h : ∀ m T cX cY cB tX bX tY bY pa, m ≤ 45 → sg_IX P G (sg_RX 10 11) m T tX bX tY bY pa → post (pr, nI m, cX, cY, cB, low, high, tX, bX, tY, bY, pa)) :
    ∀ d j, j + d = 10 → ∀ m T cX cY cB tX bX tY bY pa, m ≤ sg_cX j → sg_IX P G (sg_RX j (j + 1)) m T tX bX tY bY pa → wX_findMeetings_7 post (d + 1) (nI j) pr (nI m) cX cY cB low high tX bX tY bY pa := by
  intro d
  induction d with
  | zero =>
    intro j hj m T cX cY cB tX bX tY bY pa hm I
    have : j = 10 := by omega
    subst this
    exact br_t sg_e10 (h m T cX cY cB tX bX tY bY pa hm I)
  | succ d ih =>
    intro j hj m T cX cY cB tX bX tY bY pa hm I
    have hj' : j < 10 := by omega
    refine br_f (sg_n10 hj') (nm_r (nI_1 j) ⟨_, x_inner g hP hl hj' (fun m T cX cY cB tX bX tY bY pa hm I => ?_) (9 - j) (j + 1) (by omega) (by omega) m T cX cY cB tX bX tY bY pa (by omega) I⟩)
    exact ih (j + 1) (by omega) m T cX cY cB tX bX tY bY pa hm I
theorem x_findMeetings {post : SX → Prop} (g : sg_Geo P G) (hP : sg_M pr P) (hl : sg_LH G low high)
    (h : ∀ m T cX cY cB tX bX tY bY pa, m ≤ 45 → sg_Ex P G m T → sg_TX m T tX bX tY bY → (∀ i, i < m → sg_M (pa i) (fun k => P k ∧ sg_on G k (T i))) → post (pr, nI m, cX, cY, cB, low, high, tX, bX, tY, bY, pa)) : wpX_findMeetings post (pr, mc, cX, cY, cB, low, high, tX, bX, tY, bY, pa) := by
  have eR : ∀ a b, a < 10 → b < 10 → a ≠ b → sg_RX 10 11 a b ∨ sg_RX 10 11 b a := by intro a b ha hb hne; unfold sg_RX; omega
  refine ⟨11, x_outer g hP hl (fun m T cX cY cB tX bX tY bY pa hm I => ?_) 10 0 rfl 0 (fun _ => (0, 0)) cX cY cB tX bX tY bY pa (by decide) ⟨⟨?_, ?_, ?_, ?_⟩, ?_, ?_⟩⟩
  · exact h m T cX cY cB tX bX tY bY pa hm (sg_Ex_of I.1 eR) I.2.2 (sg_Msk_of I.1 I.2.1 eR)
  · intro i j _ hj; omega
  · intro i hi; omega
  · intro i hi; omega
  · intro a b p hr; unfold sg_RX at hr; omega
  · intro i hi; omega
  · intro i hi; omega
end
end
section
/-! ===== Y: the small methods. H k: the ends of segment k in the order in which they were given ===== -/
def sg_GH (G H : Nat → Int × Int × Int × Int) : Prop := ∀ k, k < 10 → (H k = G k ∨ H k = (sg_hx G k, sg_hy G k, sg_lx G k, sg_ly G k))
def sg_EN (H : Nat → Int × Int × Int × Int) (en : Nat → Int32) : Prop := ∀ k, k < 10 → en (4 * k) = sg_i (sg_lx H k) ∧ en (4 * k + 1) = sg_i (sg_ly H k) ∧ en (4 * k + 2) = sg_i (sg_hx H k) ∧ en (4 * k + 3) = sg_i (sg_hy H k)
def sg_TH (P : Nat → Prop) (th : Nat → Int32) : Prop := ∀ k, k < 10 → (th k = 0 ↔ ¬ P k)
theorem sg_GHi {G H : Nat → Int × Int × Int × Int} (h : sg_GH G H) {k : Nat} (hk : k < 10) (hi : sg_in G k) : sg_in H k := by
  obtain ⟨i1, i2, i3, i4, i5, i6, i7, i8⟩ := hi
  rcases h k hk with e | e
  · unfold sg_in sg_lx sg_ly sg_hx sg_hy; rw [e]; exact ⟨i1, i2, i3, i4, i5, i6, i7, i8⟩
  · unfold sg_in sg_lx sg_ly sg_hx sg_hy; rw [e]; exact ⟨i5, i6, i7, i8, i1, i2, i3, i4⟩
theorem sg_GHl {G H : Nat → Int × Int × Int × Int} (h : sg_GH G H) {k : Nat} (hk : k < 10) (x y : Rat) : sg_L (sg_lx H k) (sg_ly H k) (sg_hx H k) (sg_hy H k) x y ↔ sg_L (sg_lx G k) (sg_ly G k) (sg_hx G k) (sg_hy G k) x y := by
  rcases h k hk with e | e
  · unfold sg_lx sg_ly sg_hx sg_hy; rw [e]
  · unfold sg_lx sg_ly sg_hx sg_hy at *; rw [e]; exact sg_L_sw ..
theorem sg_GHb {G H : Nat → Int × Int × Int × Int} (h : sg_GH G H) {k : Nat} (hk : k < 10) (x y : Rat) : (sg_bt (sg_lx H k) (sg_hx H k) x ∧ sg_bt (sg_ly H k) (sg_hy H k) y) ↔ (sg_bt (sg_lx G k) (sg_hx G k) x ∧ sg_bt (sg_ly G k) (sg_hy G k) y) := by
  rcases h k hk with e | e
  · unfold sg_lx sg_ly sg_hx sg_hy; rw [e]
  · unfold sg_lx sg_ly sg_hx sg_hy at *; rw [e, sg_bt_sw, sg_bt_sw ((G k).2.2.2 : Rat)]
theorem sg_GHo {P : Nat → Prop} {G H : Nat → Int × Int × Int × Int} (g : sg_Geo P G) (h : sg_GH G H) {k : Nat} (hk : k < 10) (pk : P k) (p : Rat × Rat) :
    sg_on G k p ↔ (sg_L (sg_lx H k) (sg_ly H k) (sg_hx H k) (sg_hy H k) p.1 p.2 ∧ sg_bt (sg_lx H k) (sg_hx H k) p.1 ∧ sg_bt (sg_ly H k) (sg_hy H k) p.2) := by
  unfold sg_on
  rw [sg_box (sg_gl g hk pk), sg_GHl h hk, sg_GHb h hk]
theorem sg_ix {k : Nat} (c : Nat) : 4 * nI k + nI c = nI (4 * k + c) := by
  show nI 4 * nI k + nI c = _
  rw [pk_mul, nI_add]
theorem sg_i4 (k : Nat) : 4 * nI k = nI (4 * k) := by
  show nI 4 * nI k = _
  rw [pk_mul]
theorem sg_in40 {i : Nat} (h : i < 40) : vp_in (nI i) 40 := vp_in_nI h (by decide)
def sg_SP (p : Rat × Rat) (sp : Nat → Int64) : Prop := sp 0 = sg_l p.1.num ∧ sp 1 = sg_l (p.1.den : Int) ∧ sp 2 = sg_l p.2.num ∧ sp 3 = sg_l (p.2.den : Int)
def sg_b3 (p : Rat × Rat) : Prop := (-32000 ≤ p.1.num ∧ p.1.num ≤ 32000 ∧ (p.1.den : Int) ≤ 800) ∧ (-32000 ≤ p.2.num ∧ p.2.num ≤ 32000 ∧ (p.2.den : Int) ≤ 800)
theorem sg_bd3 {p : Rat × Rat} (h : sg_bd p) : sg_b3 p := by
  obtain ⟨⟨b1, b2, b3⟩, b4, b5, b6⟩ := h
  exact ⟨⟨by omega, by omega, b3⟩, by omega, by omega, b6⟩
theorem sg_rle1 {r : Rat} {p t b : Int} (hb : 0 < b) (e : r * (b : Rat) = t) : (p : Rat) ≤ r ↔ p * b ≤ t := by
  rw [← sg_mle (Rat.intCast_pos.mpr hb), e, ← Rat.intCast_mul, Rat.intCast_le_intCast]
theorem sg_rle2 {r : Rat} {p t b : Int} (hb : 0 < b) (e : r * (b : Rat) = t) : r ≤ (p : Rat) ↔ t ≤ p * b := by
  rw [← sg_mle (Rat.intCast_pos.mpr hb), e, ← Rat.intCast_mul, Rat.intCast_le_intCast]
section
variable {P : Nat → Prop} {G H : Nat → Int × Int × Int × Int} {fo : Int32} {th en : Nat → Int32} {pt sp : Nat → Int64}
theorem y_isPoint {post : Int32 → Prop} {p : Int32} (h1 : ∀ x y : Nat, x ≤ 20 → y ≤ 20 → p = nI (x + 32 * y) → post 1) (h0 : (∀ x y : Nat, x ≤ 20 → y ≤ 20 → p ≠ nI (x + 32 * y)) → post 0) : wpY_isPoint post (fo, th, en, pt, sp) p := by
  unfold wpY_isPoint
  refine br_c (fun h => h0 ?_) (fun h => ?_)
  · intro x y hx hy e
    rw [e] at h
    exact nI_pos (by omega) h
  · obtain ⟨n, hn, rfl⟩ := nI_of h
    have e1 : nI n - nI n / 32 * 32 = nI (n % 32) := pk_rem (d := 32) hn (by decide) (by decide)
    have e2 : nI n / 32 = nI (n / 32) := pk_div (d := 32) hn (by decide) (by decide)
    rw [e1, e2]
    have key : ∀ x y : Nat, x ≤ 20 → y ≤ 20 → nI n = nI (x + 32 * y) → n = x + 32 * y := fun x y hx hy e => (nI_eq hn (by omega)).mp e
    refine ⟨by decide, pk_lt 20 (n % 32) (fun h => h0 ?_) (fun h => ⟨by decide, pk_lt 20 (n / 32) (fun h' => h0 ?_) (fun h' => ?_)⟩)⟩
    · intro x y hx hy e
      have := key x y hx hy e; omega
    · intro x y hx hy e
      have := key x y hx hy e; omega
    · exact h1 (n % 32) (n / 32) h h' (congrArg nI (by omega))
theorem sg_pm {x y : Nat} (hx : x ≤ 20) (hy : y ≤ 20) : nI (x + 32 * y) - nI (x + 32 * y) / 32 * 32 = sg_i x := by
  rw [← sg_nI]
  exact (pk_rem (d := 32) (by omega) (by decide) (by decide)).trans (congrArg nI (by omega))
theorem sg_pd {x y : Nat} (hx : x ≤ 20) (hy : y ≤ 20) : nI (x + 32 * y) / 32 = sg_i y := by
  rw [← sg_nI]
  exact (pk_div (d := 32) (by omega) (by decide) (by decide)).trans (congrArg nI (by omega))
theorem y_is {post : Int32 → Prop} (hT : sg_TH P th) {k : Nat} (hk : k < 10) (h1 : P k → post 1) (h0 : ¬ P k → post 0) : wpY_is post (fo, th, en, pt, sp) (nI k) := by
  refine br_f (nI_pos (by omega)) (br_f (sg_n10 hk) ⟨sg_in10 hk, ?_⟩)
  rw [sg_c10 hk, hT k hk]
  exact ⟨h0, fun h => h1 (Classical.not_not.mp h)⟩
theorem y_isG {post : Int32 → Prop} (hT : sg_TH P th) {p : Int32} (h1 : ∀ k, k < 10 → p = nI k → P k → post 1) (h0 : (∀ k, k < 10 → p = nI k → ¬ P k) → post 0) : wpY_is post (fo, th, en, pt, sp) p := by
  by_cases c : p < 0
  · exact br_t c (h0 (fun k hk e => by rw [e] at c; exact absurd c (nI_pos (by omega))))
  · by_cases d : (10 : Int32) ≤ p
    · exact br_f c (br_t d (h0 (fun k hk e => by rw [e] at d; exact absurd d (sg_n10 hk))))
    · obtain ⟨n, hn, rfl⟩ := nI_of c
      have hk : n < 10 := by
        rcases Nat.lt_or_ge n 10 with h | h
        · exact h
        · exact absurd (nI_le (a := 10) h hn) d
      exact y_is hT hk (h1 n hk rfl) (fun hp => h0 (fun k' hk' e => by have := (nI_eq hn (by omega)).mp e; subst this; exact hp))
theorem y_e0 {post : Int32 → Prop} (hE : sg_EN H en) {k : Nat} (hk : k < 10) : wpY_end post (fo, th, en, pt, sp) (nI k) 0 ↔ post (sg_i (sg_lx H k)) := by
  unfold wpY_end
  dsimp only
  rw [show (4 * nI k + 0 : Int32) = nI (4 * k) from sg_ix 0, nI_clamp (by omega), (hE k hk).1]
  exact ⟨fun h => h.2, fun h => ⟨sg_in40 (by omega), h⟩⟩
theorem y_e1 {post : Int32 → Prop} (hE : sg_EN H en) {k : Nat} (hk : k < 10) : wpY_end post (fo, th, en, pt, sp) (nI k) 1 ↔ post (sg_i (sg_ly H k)) := by
  unfold wpY_end
  dsimp only
  rw [show (4 * nI k + 1 : Int32) = nI (4 * k + 1) from sg_ix 1, nI_clamp (by omega), (hE k hk).2.1]
  exact ⟨fun h => h.2, fun h => ⟨sg_in40 (by omega), h⟩⟩
theorem y_e2 {post : Int32 → Prop} (hE : sg_EN H en) {k : Nat} (hk : k < 10) : wpY_end post (fo, th, en, pt, sp) (nI k) 2 ↔ post (sg_i (sg_hx H k)) := by
  unfold wpY_end
  dsimp only
  rw [show (4 * nI k + 2 : Int32) = nI (4 * k + 2) from sg_ix 2, nI_clamp (by omega), (hE k hk).2.2.1]
  exact ⟨fun h => h.2, fun h => ⟨sg_in40 (by omega), h⟩⟩
theorem y_e3 {post : Int32 → Prop} (hE : sg_EN H en) {k : Nat} (hk : k < 10) : wpY_end post (fo, th, en, pt, sp) (nI k) 3 ↔ post (sg_i (sg_hy H k)) := by
  unfold wpY_end
  dsimp only
  rw [show (4 * nI k + 3 : Int32) = nI (4 * k + 3) from sg_ix 3, nI_clamp (by omega), (hE k hk).2.2.2]
  exact ⟨fun h => h.2, fun h => ⟨sg_in40 (by omega), h⟩⟩
theorem y_between {post : Int32 → Prop} {t b p q : Int} {r : Rat} (e : r * (b : Rat) = t) (hb : 0 < b) (hb' : b ≤ 800) (ht : -32000 ≤ t) (ht' : t ≤ 32000) (hp : 0 ≤ p) (hp' : p ≤ 20) (hq : 0 ≤ q) (hq' : q ≤ 20)
    (h1 : sg_bt p q r → post 1) (h0 : ¬ sg_bt p q r → post 0) : wpY_between post (fo, th, en, pt, sp) (sg_l t) (sg_l b) (sg_i p) (sg_i q) := by
  have Rp : sg_R p := ⟨by omega, by omega⟩
  have Rq : sg_R q := ⟨by omega, by omega⟩
  have w1 := sg_mb (a := p) (b := b) 20 800 (by omega) (by omega) (by omega) (by omega)
  have w2 := sg_mb (a := q) (b := b) 20 800 (by omega) (by omega) (by omega) (by omega)
  have L1 := sg_rle1 (p := p) hb e
  have L2 := sg_rle2 (p := p) hb e
  have L3 := sg_rle1 (p := q) hb e
  have L4 := sg_rle2 (p := q) hb e
  unfold sg_bt at h1 h0
  rw [L1, L2, L3, L4] at h1 h0
  unfold wpY_between wY_between_14 wY_between_30
  dsimp only
  rw [sg_ile Rq Rp, sg_il Rp, sg_il Rq, sg_lmul, sg_lmul, sg_llt ⟨by omega, by omega⟩ ⟨by omega, by omega⟩, sg_llt ⟨by omega, by omega⟩ ⟨by omega, by omega⟩, sg_llt ⟨by omega, by omega⟩ ⟨by omega, by omega⟩, sg_llt ⟨by omega, by omega⟩ ⟨by omega, by omega⟩]
  have mono : ∀ u v : Int, u ≤ v → u * b ≤ v * b := fun u v h => Int.mul_le_mul_of_nonneg_right h (by omega)
  refine br_c (fun c => br_t c (br_c (fun d => h0 ?_) (fun d => br_c (fun f => h0 ?_) (fun f => h1 ?_)))) (fun c => br_f c (br_c (fun d => h0 ?_) (fun d => br_c (fun f => h0 ?_) (fun f => h1 ?_))))
  all_goals first
    | (have := mono q p (by omega); omega)
    | (have := mono p q (by omega); omega)
theorem y_has {post : Int32 → Prop} (g : sg_Geo P G) (hG : sg_GH G H) (hE : sg_EN H en) {p : Rat × Rat} (hS : sg_SP p sp) (hb : sg_b3 p) {k : Nat} (hk : k < 10) (pk : P k) (h1 : sg_on G k p → post 1) (h0 : ¬ sg_on G k p → post 0) : wpY_has post (fo, th, en, pt, sp) (nI k) := by
  obtain ⟨s0, s1, s2, s3⟩ := hS
  obtain ⟨⟨b1, b2, b3⟩, b4, b5, b6⟩ := hb
  obtain ⟨i1, i2, i3, i4, i5, i6, i7, i8⟩ := sg_GHi hG hk (g.1 k hk)
  have d1 := sg_dp p.1
  have d2 := sg_dp p.2
  have n1 := sg_nd p.1
  have n2 := sg_nd p.2
  rw [sg_GHo g hG hk pk] at h1 h0
  -- the tail
  have tail : ∀ z : Int32, (z = 1 ∨ z = 0) → (¬ z = 0 → sg_L (sg_lx H k) (sg_ly H k) (sg_hx H k) (sg_hy H k) p.1 p.2) → (z = 0 → ¬ sg_L (sg_lx H k) (sg_ly H k) (sg_hx H k) (sg_hy H k) p.1 p.2) →
      wY_has_109 post (nI k) (sg_l p.1.num) (sg_l (p.1.den : Int)) (sg_l p.2.num) (sg_l (p.2.den : Int)) z fo th en pt sp := by
    intro z hz a b
    unfold wY_has_109
    refine br_c (fun c => h0 (fun q => b c q.1)) (fun c => ?_)
    rw [y_e0 hE hk, y_e2 hE hk]
    refine y_between n1 d1 b3 b1 b2 i1 i2 i5 i6 (fun q => br_f (by decide) ?_) (fun q => br_t rfl (h0 (fun o => q o.2.1)))
    rw [y_e1 hE hk, y_e3 hE hk]
    exact y_between n2 d2 b6 b4 b5 i3 i4 i7 i8 (fun r => br_f (by decide) (h1 ⟨a c, q, r⟩)) (fun r => br_t rfl (h0 (fun o => r o.2.2)))
  unfold wpY_has
  dsimp only
  rw [s0, s1, s2, s3]
  refine nm_e (nm_e (nm_e (nm_e ?_)))
  rw [y_e2 hE hk, y_e0 hE hk]
  refine nm_e ?_
  rw [y_e3 hE hk, y_e1 hE hk]
  refine nm_e ?_
  rw [y_e1 hE hk, y_e0 hE hk]
  have Rx : sg_R (sg_lx H k) := ⟨by omega, by omega⟩
  have Ry : sg_R (sg_ly H k) := ⟨by omega, by omega⟩
  rw [sg_isub, sg_isub, sg_il (a := sg_hx H k - sg_lx H k) ⟨by omega, by omega⟩, sg_il (a := sg_hy H k - sg_ly H k) ⟨by omega, by omega⟩, sg_il Rx, sg_il Ry]
  simp only [sg_lmul, sg_lsub]
  have w1 := sg_mb (a := sg_ly H k) (b := (p.2.den : Int)) 20 800 (by omega) (by omega) (by omega) (by omega)
  have w2 := sg_mb (a := sg_lx H k) (b := (p.1.den : Int)) 20 800 (by omega) (by omega) (by omega) (by omega)
  have w3 := sg_mb (a := sg_hx H k - sg_lx H k) (b := p.2.num - sg_ly H k * (p.2.den : Int)) 20 48000 (by omega) (by omega) (by omega) (by omega)
  have w4 := sg_mb (a := sg_hy H k - sg_ly H k) (b := p.1.num - sg_lx H k * (p.1.den : Int)) 20 48000 (by omega) (by omega) (by omega) (by omega)
  have w5 := sg_mb (a := (sg_hx H k - sg_lx H k) * (p.2.num - sg_ly H k * (p.2.den : Int))) (b := (p.1.den : Int)) 960000 800 (by omega) (by omega) (by omega) (by omega)
  have w6 := sg_mb (a := (sg_hy H k - sg_ly H k) * (p.1.num - sg_lx H k * (p.1.den : Int))) (b := (p.2.den : Int)) 960000 800 (by omega) (by omega) (by omega) (by omega)
  rw [sg_leq ⟨by omega, by omega⟩ ⟨by omega, by omega⟩]
  have key : ((sg_hx H k - sg_lx H k) * (p.2.num - sg_ly H k * (p.2.den : Int)) * (p.1.den : Int) = (sg_hy H k - sg_ly H k) * (p.1.num - sg_lx H k * (p.1.den : Int)) * (p.2.den : Int)) ↔ sg_L (sg_lx H k) (sg_ly H k) (sg_hx H k) (sg_hy H k) p.1 p.2 := by
    have q1 : (0 : Rat) < ((p.1.den : Int) : Rat) := Rat.intCast_pos.mpr d1
    have q2 : (0 : Rat) < ((p.2.den : Int) : Rat) := Rat.intCast_pos.mpr d2
    unfold sg_L
    rw [← sg_me (Rat.mul_pos q1 q2), ← Rat.intCast_inj]
    simp only [Rat.intCast_mul, Rat.intCast_sub]
    rw [← n1, ← n2]
    constructor <;> intro h <;> grind
  rw [key]
  exact ⟨fun c => tail 1 (Or.inl rfl) (fun _ => c) (fun z => absurd z (by decide)), fun c => tail 0 (Or.inr rfl) (fun z => absurd rfl z) (fun _ => c)⟩
end
end
section
/-! ===== Y: fractions, the common point ===== -/
theorem sg_lz {a : Int} (ha : sg_RL a) : sg_l a = 0 ↔ a = 0 := sg_leq (b := 0) ha ⟨by decide, by decide⟩
theorem sg_lz0 {a : Int} (ha : sg_RL a) : 0 ≤ sg_l a ↔ 0 ≤ a := sg_lle (a := 0) ⟨by decide, by decide⟩ ha
theorem sg_lzl {a : Int} (ha : sg_RL a) : sg_l a ≤ 0 ↔ a ≤ 0 := sg_lle (b := 0) ha ⟨by decide, by decide⟩
theorem sg_ldivx {a b : Int} (ha : -1000000 ≤ a) (ha' : a ≤ 1000000) (hb : 0 < b) (hb' : b ≤ 1000000) (hd : b ∣ a) : sg_l a / sg_l b = sg_l (a / b) := by
  apply Int64.toInt_inj.mp
  have hne : sg_l b ≠ -1 := by
    intro h
    rw [sg_lm1, sg_leq ⟨by omega, by omega⟩ ⟨by omega, by omega⟩] at h
    omega
  have h1 : a / b ≤ 1000000 := Int.ediv_le_of_le_mul hb (by omega)
  have h2 : -1000000 ≤ a / b := Int.le_ediv_of_mul_le hb (by omega)
  rw [Int64.toInt_div_of_ne_right _ _ hne, sg_lT ⟨by omega, by omega⟩, sg_lT ⟨by omega, by omega⟩, sg_lT ⟨by omega, by omega⟩, Int.tdiv_eq_ediv_of_dvd hd]
theorem sg_redG {p : Rat} {n d : Int} (hd : d ≠ 0) (hp : p * (d : Rat) = n) : p.num = (d.sign * n) / (Int.gcd n d : Int) ∧ (p.den : Int) = (d.sign * d) / (Int.gcd n d : Int) := by
  have hd0 : (d : Rat) ≠ 0 := by rw [Ne, Rat.intCast_eq_zero_iff]; exact hd
  have e : p = Rat.divInt n d := by
    rw [Rat.divInt_eq_div, ← hp, Rat.mul_div_cancel hd0]
  constructor
  · rw [e, Rat.num_divInt, Int.gcd_comm]
  · rw [e, Rat.den_divInt, if_neg hd, Int.natCast_ediv, Int.gcd_comm]
    congr 1
    rcases Int.lt_trichotomy d 0 with c | c | c
    · rw [Int.sign_eq_neg_one_of_neg c]; omega
    · exact absurd c hd
    · rw [Int.sign_eq_one_of_pos c]; omega
theorem sg_redGb {p : Rat} {n d : Int} (hd : d ≠ 0) (hd1 : -800 ≤ d) (hd2 : d ≤ 800) (hn1 : -32000 ≤ n) (hn2 : n ≤ 32000) (hp : p * (d : Rat) = n) : -32000 ≤ p.num ∧ p.num ≤ 32000 ∧ (p.den : Int) ≤ 800 := by
  obtain ⟨h1, h2⟩ := sg_redG hd hp
  have g1 : 0 < (Int.gcd n d : Int) := by have := Int.gcd_pos_of_ne_zero_right n hd; omega
  have s : (d.sign * n = n ∧ d.sign * d = d) ∨ (d.sign * n = -n ∧ d.sign * d = -d) := by
    rcases Int.lt_trichotomy d 0 with c | c | c
    · right; rw [Int.sign_eq_neg_one_of_neg c]; omega
    · exact absurd c hd
    · left; rw [Int.sign_eq_one_of_pos c]; omega
  rw [h1, h2]
  refine ⟨Int.le_ediv_of_mul_le g1 ?_, Int.ediv_le_of_le_mul g1 ?_, Int.ediv_le_of_le_mul g1 ?_⟩ <;> rcases s with ⟨a, b⟩ | ⟨a, b⟩ <;> omega
section
variable {P : Nat → Prop} {G H : Nat → Int × Int × Int × Int} {fo : Int32} {th en : Nat → Int32} {pt sp : Nat → Int64}
theorem y_gcd1 {post : Int64 → Prop} : ∀ (b a n : Nat), b < n → b < 1000000000 → a < 1000000000 → 0 < Nat.gcd a b → post (sg_l (Nat.gcd a b : Int)) → wY_divisor_28 post fo th en pt sp n (sg_l a) (sg_l b) := by
  intro b
  induction b using Nat.strongRecOn with
  | _ b ih =>
    intro a n hn hb' ha hg hp
    obtain ⟨n', rfl⟩ : ∃ n', n = n' + 1 := ⟨n - 1, by omega⟩
    by_cases hb : b = 0
    · subst hb
      rw [Nat.gcd_zero_right] at hg hp
      refine br_t ((sg_lz ⟨by omega, by omega⟩).mpr rfl) (br_f ?_ hp)
      rw [sg_lz ⟨by omega, by omega⟩]; omega
    · have hne : ¬ sg_l (b : Int) = 0 := by rw [sg_lz ⟨by omega, by omega⟩]; omega
      refine br_f hne ⟨hne, nm_r (sg_lrem (by omega) (by omega) (by omega) (by omega)) ?_⟩
      have hlt : a % b < b := Nat.mod_lt _ (by omega)
      have eg : Nat.gcd b (a % b) = Nat.gcd a b := by rw [Nat.gcd_comm b, ← Nat.gcd_rec, Nat.gcd_comm]
      rw [← Int.natCast_emod]
      exact ih (a % b) hlt b n' (by omega) (by omega) (by omega) (by rw [eg]; exact hg) (by rw [eg]; exact hp)
theorem y_divisor {post : Int64 → Prop} {x y : Int} (hx : -1000000 ≤ x) (hx' : x ≤ 1000000) (hy : -1000000 ≤ y) (hy' : y ≤ 1000000) (h0 : y ≠ 0) (h : post (sg_l (Int.gcd x y : Int))) : wpY_divisor post (fo, th, en, pt, sp) (sg_l x) (sg_l y) := by
  have hg : 0 < Nat.gcd x.natAbs y.natAbs := Nat.gcd_pos_of_pos_right _ (by omega)
  have fin : ∃ n, wY_divisor_28 post fo th en pt sp n (sg_l (x.natAbs : Int)) (sg_l (y.natAbs : Int)) := ⟨y.natAbs + 1, y_gcd1 y.natAbs x.natAbs _ (by omega) (by omega) (by omega) hg h⟩
  unfold wpY_divisor wY_divisor_12
  dsimp only
  rw [sg_lz0 ⟨by omega, by omega⟩, sg_lz0 ⟨by omega, by omega⟩, sg_lneg, sg_lneg]
  refine br_c (fun c => br_c (fun d => ?_) (fun d => nm_e ?_)) (fun c => br_c (fun d => ?_) (fun d => nm_e ?_))
  · rw [show (x.natAbs : Int) = x by omega, show (y.natAbs : Int) = y by omega] at fin; exact fin
  · rw [show (x.natAbs : Int) = x by omega, show (y.natAbs : Int) = -y by omega] at fin; exact fin
  · rw [show (x.natAbs : Int) = -x by omega, show (y.natAbs : Int) = y by omega] at fin; exact fin
  · rw [show (x.natAbs : Int) = -x by omega, show (y.natAbs : Int) = -y by omega] at fin; exact fin
theorem y_setAxis {post : SY → Prop} {a : Nat} (ha : a < 3) {n d : Int} {p : Rat} (hd : d ≠ 0) (hd1 : -800 ≤ d) (hd2 : d ≤ 800) (hn1 : -32000 ≤ n) (hn2 : n ≤ 32000) (hp : p * (d : Rat) = n)
    (h : post (fo, th, en, pt, vp_updL (vp_updL sp a (sg_l p.num)) (a + 1) (sg_l (p.den : Int)))) : wpY_setAxis post (fo, th, en, pt, sp) (nI a) (sg_l n) (sg_l d) := by
  obtain ⟨r1, r2⟩ := sg_redG hd hp
  have g1 : 0 < (Int.gcd n d : Int) := by have := Int.gcd_pos_of_ne_zero_right n hd; omega
  have g2 : (Int.gcd n d : Int) ∣ n := Int.gcd_dvd_left ..
  have g3 : (Int.gcd n d : Int) ∣ d := Int.gcd_dvd_right ..
  have g4 : (Int.gcd n d : Int) ≤ 800 := by
    have := Int.le_of_dvd (b := (d.natAbs : Int)) (by omega) (Int.dvd_natAbs.mpr g3)
    omega
  have z1 : ¬ sg_l (Int.gcd n d : Int) = 0 := by rw [sg_lz ⟨by omega, by omega⟩]; omega
  have v1 : vp_in (nI a) 4 := vp_in_nI (by omega) (by decide)
  have v2 : vp_in (nI (a + 1)) 4 := vp_in_nI (by omega) (by decide)
  unfold wpY_setAxis
  dsimp only
  refine y_divisor (by omega) (by omega) (by omega) (by omega) hd ?_
  unfold wY_setAxis_23
  rw [sg_lz0 ⟨by omega, by omega⟩, nI_1, nI_clamp (show a < 2 ^ 31 by omega), nI_clamp (show a + 1 < 2 ^ 31 by omega)]
  refine br_c (fun c => ?_) (fun c => ?_)
  · have e1 : ((1 : Int64) * sg_l n) / sg_l (Int.gcd n d : Int) = sg_l p.num := by
      rw [sg_l1, sg_lmul, sg_ldivx (by omega) (by omega) g1 (by omega) (by rw [Int.one_mul]; exact g2), r1, Int.sign_eq_one_of_pos (by omega)]
    have e2 : ((1 : Int64) * sg_l d) / sg_l (Int.gcd n d : Int) = sg_l (p.den : Int) := by
      rw [sg_l1, sg_lmul, sg_ldivx (by omega) (by omega) g1 (by omega) (by rw [Int.one_mul]; exact g3), r2, Int.sign_eq_one_of_pos (by omega)]
    rw [e1, e2]
    exact ⟨z1, v1, nm_e ⟨z1, v2, nm_e h⟩⟩
  · have e1 : ((-1 : Int64) * sg_l n) / sg_l (Int.gcd n d : Int) = sg_l p.num := by
      rw [sg_lm1, sg_lmul, sg_ldivx (by omega) (by omega) g1 (by omega) (Int.dvd_mul_of_dvd_right g2), r1, Int.sign_eq_neg_one_of_neg (by omega)]
    have e2 : ((-1 : Int64) * sg_l d) / sg_l (Int.gcd n d : Int) = sg_l (p.den : Int) := by
      rw [sg_lm1, sg_lmul, sg_ldivx (by omega) (by omega) g1 (by omega) (Int.dvd_mul_of_dvd_right g3), r2, Int.sign_eq_neg_one_of_neg (by omega)]
    rw [e1, e2]
    exact ⟨z1, v1, nm_e ⟨z1, v2, nm_e h⟩⟩
theorem sg_SPm (sp : Nat → Int64) (p : Rat × Rat) : sg_SP p (vp_updL (vp_updL (vp_updL (vp_updL sp 0 (sg_l p.1.num)) (0 + 1) (sg_l (p.1.den : Int))) 2 (sg_l p.2.num)) (2 + 1) (sg_l (p.2.den : Int))) := ⟨rfl, rfl, rfl, rfl⟩
theorem y_goTo {post : SY → Prop} {x y : Int} (hx : 0 ≤ x) (hx' : x ≤ 20) (hy : 0 ≤ y) (hy' : y ≤ 20) (h : ∀ sp', sg_SP ((x : Rat), (y : Rat)) sp' → post (fo, th, en, pt, sp')) : wpY_goTo post (fo, th, en, pt, sp) (sg_i x) (sg_i y) := by
  unfold wpY_goTo
  dsimp only
  rw [sg_il (a := x) ⟨by omega, by omega⟩, sg_il (a := y) ⟨by omega, by omega⟩]
  refine y_setAxis (a := 0) (d := 1) (p := (x : Rat)) (by omega) (by omega) (by omega) (by omega) (by omega) (by omega) (Rat.mul_one _) ?_
  refine y_setAxis (a := 2) (d := 1) (p := (y : Rat)) (by omega) (by omega) (by omega) (by omega) (by omega) (by omega) (Rat.mul_one _) ?_
  exact h _ (sg_SPm sp ((x : Rat), (y : Rat)))
/-- end c of segment k -/
def sg_ep (H : Nat → Int × Int × Int × Int) (k c : Nat) : Rat × Rat := if c = 0 then ((sg_lx H k : Rat), (sg_ly H k : Rat)) else ((sg_hx H k : Rat), (sg_hy H k : Rat))
theorem y_goToEnd {post : SY → Prop} (hE : sg_EN H en) {k : Nat} (hk : k < 10) (hi : sg_in H k) {c : Nat} (hc : c < 2) (h : ∀ sp', sg_SP (sg_ep H k c) sp' → post (fo, th, en, pt, sp')) : wpY_goToEnd post (fo, th, en, pt, sp) (nI k) (nI c) := by
  obtain ⟨i1, i2, i3, i4, i5, i6, i7, i8⟩ := hi
  unfold wpY_goToEnd
  dsimp only
  rcases (show c = 0 ∨ c = 1 by omega) with rfl | rfl
  · rw [show (2 * nI 0 : Int32) = 0 by decide, show (0 + 1 : Int32) = 1 by decide, y_e0 hE hk, y_e1 hE hk]
    exact y_goTo i1 i2 i3 i4 h
  · rw [show (2 * nI 1 : Int32) = 2 by decide, show (2 + 1 : Int32) = 3 by decide, y_e2 hE hk, y_e3 hE hk]
    exact y_goTo i5 i6 i7 i8 h
theorem sg_ep_on {G H : Nat → Int × Int × Int × Int} {P : Nat → Prop} (g : sg_Geo P G) (hG : sg_GH G H) {k : Nat} (hk : k < 10) (pk : P k) (c : Nat) : sg_on G k (sg_ep H k c) := by
  have l := sg_gl g hk pk
  have a := sg_O_a l
  have b := sg_O_c l
  unfold sg_ep sg_on
  rcases hG k hk with e | e <;> by_cases q : c = 0 <;> simp only [q, if_true, if_false, sg_lx, sg_ly, sg_hx, sg_hy, e] <;> first | exact a | exact b
theorem sg_ep_c {G H : Nat → Int × Int × Int × Int} (hG : sg_GH G H) {k : Nat} (hk : k < 10) (p : Rat × Rat) : (p = sg_ep H k 0 ∨ p = sg_ep H k 1) ↔ (p = ((sg_lx G k : Rat), (sg_ly G k : Rat)) ∨ p = ((sg_hx G k : Rat), (sg_hy G k : Rat))) := by
  unfold sg_ep
  rcases hG k hk with e | e
  · simp only [sg_lx, sg_ly, sg_hx, sg_hy, e, if_true]; rfl
  · simp only [sg_lx, sg_ly, sg_hx, sg_hy, e, if_true]; exact Or.comm
theorem sg_ep_b {H : Nat → Int × Int × Int × Int} {k : Nat} (hi : sg_in H k) (c : Nat) : sg_bd (sg_ep H k c) := by
  obtain ⟨i1, i2, i3, i4, i5, i6, i7, i8⟩ := hi
  unfold sg_ep sg_bd
  by_cases q : c = 0
  · rw [if_pos q]
    simp only [Rat.num_intCast, Rat.den_intCast]
    omega
  · rw [if_neg q]
    simp only [Rat.num_intCast, Rat.den_intCast]
    omega
theorem sg_on_bd {G : Nat → Int × Int × Int × Int} {P : Nat → Prop} (g : sg_Geo P G) {k : Nat} (hk : k < 10) (pk : P k) {p : Rat × Rat} (h : sg_on G k p) (hb : sg_b3 p) : sg_bd p := by
  obtain ⟨⟨b1, b2, b3⟩, b4, b5, b6⟩ := hb
  obtain ⟨i1, i2, i3, i4, i5, i6, i7, i8⟩ := g.1 k hk
  obtain ⟨_, u, v⟩ := (sg_box (sg_gl g hk pk)).mp h
  have d1 := sg_dp p.1
  have d2 := sg_dp p.2
  have w : ∀ (r : Rat) (a b : Int), 0 ≤ a → a ≤ 20 → 0 ≤ b → b ≤ 20 → sg_bt a b r → (r.den : Int) ≤ 800 → 0 ≤ r.num ∧ r.num ≤ 16000 := by
    intro r a b ha ha' hb hb' hbt hd
    have dd := sg_dp r
    have k0 : (0 : Int) * (r.den : Int) ≤ r.num := by
      rw [← sg_rle1 dd (sg_nd r)]
      have q1 : (0 : Rat) ≤ (a : Rat) := Rat.intCast_nonneg.mpr ha
      have q2 : (0 : Rat) ≤ (b : Rat) := Rat.intCast_nonneg.mpr hb
      rcases hbt with z | z
      · exact Rat.le_trans q1 z.1
      · exact Rat.le_trans q2 z.1
    have k1 : r.num ≤ 20 * (r.den : Int) := by
      rw [← sg_rle2 dd (sg_nd r)]
      have q1 : (a : Rat) ≤ ((20 : Int) : Rat) := Rat.intCast_le_intCast.mpr ha'
      have q2 : (b : Rat) ≤ ((20 : Int) : Rat) := Rat.intCast_le_intCast.mpr hb'
      rcases hbt with z | z
      · exact Rat.le_trans z.2 q2
      · exact Rat.le_trans z.2 q1
    omega
  have u' := w _ _ _ i1 i2 i5 i6 u b3
  have v' := w _ _ _ i3 i4 i7 i8 v b6
  exact ⟨⟨u'.1, u'.2, b3⟩, v'.1, v'.2, b6⟩
theorem sg_crossH {G H : Nat → Int × Int × Int × Int} (hG : sg_GH G H) {j k : Nat} (hj : j < 10) (hk : k < 10)
    (h : ((sg_hx H j : Rat) - sg_lx H j) * ((sg_hy H k : Rat) - sg_ly H k) - ((sg_hy H j : Rat) - sg_ly H j) * ((sg_hx H k : Rat) - sg_lx H k) = 0) :
    ((sg_hx G j : Rat) - sg_lx G j) * ((sg_hy G k : Rat) - sg_ly G k) - ((sg_hy G j : Rat) - sg_ly G j) * ((sg_hx G k : Rat) - sg_lx G k) = 0 := by
  rcases hG j hj with e | e <;> rcases hG k hk with f | f <;> simp only [sg_lx, sg_ly, sg_hx, sg_hy, e, f] at h ⊢ <;> grind
theorem y_common {post : Int32 → SY → Prop} (g : sg_Geo P G) (hG : sg_GH G H) (hE : sg_EN H en) {j k : Nat} (hj : j < 10) (hk : k < 10) (hne : j ≠ k) (pj : P j) (pk : P k)
    (h1 : ∀ p sp', sg_SP p sp' → sg_bd p → sg_on G j p → sg_on G k p → post 1 (fo, th, en, pt, sp'))
    (h0 : ∀ sp', (∀ p, sg_on G j p → sg_on G k p → False) → post 0 (fo, th, en, pt, sp')) : wpY_common post (fo, th, en, pt, sp) (nI j) (nI k) := by
  have lj := sg_gl g hj pj
  have lk := sg_gl g hk pk
  have hij := sg_GHi hG hj (g.1 j hj)
  obtain ⟨i1, i2, i3, i4, i5, i6, i7, i8⟩ := id hij
  obtain ⟨j1, j2, j3, j4, j5, j6, j7, j8⟩ := sg_GHi hG hk (g.1 k hk)
  simp only [wpY_common, wpY_across, y_e0 hE hj, y_e1 hE hj, y_e2 hE hj, y_e3 hE hj, y_e0 hE hk, y_e1 hE hk, y_e2 hE hk, y_e3 hE hk, sg_isub, sg_imul, forall_eq]
  generalize ew : (sg_hx H j - sg_lx H j) * (sg_hy H k - sg_ly H k) - (sg_hy H j - sg_ly H j) * (sg_hx H k - sg_lx H k) = w
  generalize eq : (sg_lx H k - sg_lx H j) * (sg_hy H k - sg_ly H k) - (sg_ly H k - sg_ly H j) * (sg_hx H k - sg_lx H k) = q
  have bw : -800 ≤ w ∧ w ≤ 800 := by rw [← ew]; exact sg_b8 (by omega) (by omega) (by omega) (by omega) (by omega) (by omega) (by omega) (by omega)
  have bq : -800 ≤ q ∧ q ≤ 800 := by rw [← eq]; exact sg_b8 (by omega) (by omega) (by omega) (by omega) (by omega) (by omega) (by omega) (by omega)
  have ew' : (w : Rat) = ((sg_hx H j : Rat) - sg_lx H j) * ((sg_hy H k : Rat) - sg_ly H k) - ((sg_hy H j : Rat) - sg_ly H j) * ((sg_hx H k : Rat) - sg_lx H k) := by
    rw [← ew]; simp only [Rat.intCast_mul, Rat.intCast_sub]
  have eq' : (q : Rat) = ((sg_lx H k : Rat) - sg_lx H j) * ((sg_hy H k : Rat) - sg_ly H k) - ((sg_ly H k : Rat) - sg_ly H j) * ((sg_hx H k : Rat) - sg_lx H k) := by
    rw [← eq]; simp only [Rat.intCast_mul, Rat.intCast_sub]
  rw [sg_iz ⟨by omega, by omega⟩]
  refine br_c (fun w0 => ?_) (fun w0 => ?_)
  · have w1 : ((sg_hx H j : Rat) - sg_lx H j) * ((sg_hy H k : Rat) - sg_ly H k) - ((sg_hy H j : Rat) - sg_ly H j) * ((sg_hx H k : Rat) - sg_lx H k) = 0 := by
      rw [← ew', w0]; rfl
    have w2 := sg_crossH hG hj hk w1
    have step : ∀ c, c < 2 → ∀ n sp, (∀ sp', ¬ sg_on G k (sg_ep H j c) → wY_common_14 post (nI j) (nI k) n (nI (c + 1)) fo th en pt sp') → wY_common_14 post (nI j) (nI k) (n + 1) (nI c) fo th en pt sp := by
      intro c hc n sp hn
      refine br_f (nI_ge (b := 2) hc (by decide)) (y_goToEnd hE hj hij hc (fun sp' hS => ?_))
      refine y_has g hG hE hS (sg_bd3 (sg_ep_b hij c)) hk pk (fun o => br_f (by decide) ?_) (fun o => br_t rfl (nm_r (nI_1 c) (hn sp' o)))
      exact h1 _ sp' hS (sg_ep_b hij c) (sg_ep_on g hG hj pj c) o
    refine ⟨3, step 0 (by omega) 2 sp (fun sp1 n0 => step 1 (by omega) 1 sp1 (fun sp2 n1 => br_t (by decide) (h0 sp2 ?_)))⟩
    intro p oj ok
    have := (sg_ep_c hG hj p).mpr (by
      rcases sg_touch lj lk w2 oj ok (fun u v a b => by
          have e := g.2.2 j k hj hk pj pk hne (u, v) p a b oj ok
          exact ⟨congrArg Prod.fst e, congrArg Prod.snd e⟩) with ⟨_, _, e, f⟩ | ⟨_, _, e, f⟩
      · exact Or.inr (Prod.ext e f)
      · exact Or.inl (Prod.ext e f))
    rcases this with e | e
    · exact n0 (e ▸ ok)
    · exact n1 (e ▸ ok)
  · have wn : (w : Rat) ≠ 0 := by rw [Ne, Rat.intCast_eq_zero_iff]; exact w0
    have et : (q : Rat) / (w : Rat) * (w : Rat) = q := Rat.div_mul_cancel wn
    have c1 := sg_mb (a := sg_lx H j) (b := w) 20 800 (by omega) (by omega) (by omega) (by omega)
    have c2 := sg_mb (a := q) (b := sg_hx H j - sg_lx H j) 800 20 (by omega) (by omega) (by omega) (by omega)
    have c3 := sg_mb (a := sg_ly H j) (b := w) 20 800 (by omega) (by omega) (by omega) (by omega)
    have c4 := sg_mb (a := q) (b := sg_hy H j - sg_ly H j) 800 20 (by omega) (by omega) (by omega) (by omega)
    have f1 : ((sg_lx H j : Rat) + (q : Rat) / (w : Rat) * ((sg_hx H j : Rat) - sg_lx H j)) * (w : Rat) = ((sg_lx H j * w + q * (sg_hx H j - sg_lx H j) : Int) : Rat) := by
      simp only [Rat.intCast_add, Rat.intCast_mul, Rat.intCast_sub]
      grind
    have f2 : ((sg_ly H j : Rat) + (q : Rat) / (w : Rat) * ((sg_hy H j : Rat) - sg_ly H j)) * (w : Rat) = ((sg_ly H j * w + q * (sg_hy H j - sg_ly H j) : Int) : Rat) := by
      simp only [Rat.intCast_add, Rat.intCast_mul, Rat.intCast_sub]
      grind
    have B1 := sg_redGb w0 bw.1 bw.2 (by omega) (by omega) f1
    have B2 := sg_redGb w0 bw.1 bw.2 (by omega) (by omega) f2
    rw [sg_il (a := sg_lx H j) ⟨by omega, by omega⟩, sg_il (a := w) ⟨by omega, by omega⟩, sg_il (a := q) ⟨by omega, by omega⟩, sg_il (a := sg_hx H j - sg_lx H j) ⟨by omega, by omega⟩]
    simp only [sg_lmul, sg_ladd]
    refine y_setAxis (a := 0) (by omega) w0 bw.1 bw.2 (by omega) (by omega) f1 ?_
    simp only [y_e1 hE hj, y_e3 hE hj, sg_isub]
    rw [sg_il (a := sg_ly H j) ⟨by omega, by omega⟩, sg_il (a := sg_hy H j - sg_ly H j) ⟨by omega, by omega⟩]
    simp only [sg_lmul, sg_ladd]
    refine y_setAxis (a := 2) (by omega) w0 bw.1 bw.2 (by omega) (by omega) f2 ?_
    have hS := sg_SPm sp ((sg_lx H j : Rat) + (q : Rat) / (w : Rat) * ((sg_hx H j : Rat) - sg_lx H j), (sg_ly H j : Rat) + (q : Rat) / (w : Rat) * ((sg_hy H j : Rat) - sg_ly H j))
    have no : ∀ p, sg_on G j p → sg_on G k p → p = ((sg_lx H j : Rat) + (q : Rat) / (w : Rat) * ((sg_hx H j : Rat) - sg_lx H j), (sg_ly H j : Rat) + (q : Rat) / (w : Rat) * ((sg_hy H j : Rat) - sg_ly H j)) := by
      intro p oj ok
      have a := ((sg_GHo g hG hj pj p).mp oj).1
      have b := ((sg_GHo g hG hk pk p).mp ok).1
      obtain ⟨u, v⟩ := sg_meetU ew' wn (et.trans eq') a b
      exact Prod.ext u v
    refine y_has g hG hE hS ⟨B1, B2⟩ hj pj (fun o => br_f (by decide) ?_) (fun o => br_t rfl (h0 _ (fun p oj ok => o (no p oj ok ▸ oj))))
    refine y_has g hG hE hS ⟨B1, B2⟩ hk pk (fun o' => br_f (by decide) ?_) (fun o' => br_t rfl (h0 _ (fun p oj ok => o' (no p oj ok ▸ ok))))
    exact h1 _ _ hS (sg_on_bd g hj pj o ⟨B1, B2⟩) o o'
end
end
section
/-! ===== Y: the table of meeting points, anew at each question ===== -/
def sg_TY (m : Nat) (T : Nat → Rat × Rat) (pt : Nat → Int64) : Prop := ∀ i, i < m → pt (4 * i) = sg_l (T i).1.num ∧ pt (4 * i + 1) = sg_l ((T i).1.den : Int) ∧ pt (4 * i + 2) = sg_l (T i).2.num ∧ pt (4 * i + 3) = sg_l ((T i).2.den : Int)
theorem sg_in180 {i : Nat} (h : i < 180) : vp_in (nI i) 180 := vp_in_nI h (by decide)
theorem sg_in4 {i : Nat} (h : i < 4) : vp_in (nI i) 4 := vp_in_nI h (by decide)
theorem sg_cl {i : Nat} (h : i < 1000) : (nI i).toNatClampNeg = i := nI_clamp (by omega)
theorem sg_x1 (k : Nat) : (4 * nI k + 1 : Int32) = nI (4 * k + 1) := sg_ix 1
theorem sg_x2 (k : Nat) : (4 * nI k + 2 : Int32) = nI (4 * k + 2) := sg_ix 2
theorem sg_x3 (k : Nat) : (4 * nI k + 3 : Int32) = nI (4 * k + 3) := sg_ix 3
theorem sg_x4 (k : Nat) : (4 * nI k + 4 : Int32) = nI (4 * k + 4) := sg_ix 4
def sg_s4 (f : Nat → Int64) (c e : Nat) : Nat → Int64 := fun k => if c < k ∧ k ≤ e then f (k - 4) else f k
theorem sg_s4_m (f : Nat → Int64) (e : Nat) : sg_s4 f e e = f := by funext k; exact if_neg (by omega)
theorem sg_s4_s (f : Nat → Int64) (c e : Nat) (h : c + 1 ≤ e) : vp_updL (sg_s4 f (c + 1) e) (c + 1) (sg_s4 f (c + 1) e (c + 1 - 4)) = sg_s4 f c e := by
  funext k
  unfold vp_updL sg_s4
  by_cases q : k = c + 1
  · subst q
    rw [if_pos rfl, if_neg (by omega), if_pos (by omega)]
  · rw [if_neg q]
    by_cases d : c + 1 < k ∧ k ≤ e
    · rw [if_pos d, if_pos (by omega)]
    · rw [if_neg d, if_neg (by omega)]
section
variable {P : Nat → Prop} {G H : Nat → Int × Int × Int × Int} {fo : Int32} {th en : Nat → Int32} {pt sp : Nat → Int64}
theorem y_order {post : Int64 → Prop} {m : Nat} {T : Nat → Rat × Rat} (hT : sg_TY m T pt) {i : Nat} (hi : i < m) (hm : m ≤ 45) (bd : sg_bd (T i)) {p : Rat × Rat} (hS : sg_SP p sp) (hb : sg_bd p)
    (h : ∀ r : Int, sg_RL r → (0 < r ↔ sg_ltp (T i) p) → (r = 0 ↔ T i = p) → post (sg_l r)) : wpY_order post (fo, th, en, pt, sp) (nI i) := by
  obtain ⟨⟨b1, b2, b3⟩, b4, b5, b6⟩ := bd
  obtain ⟨⟨a1, a2, a3⟩, a4, a5, a6⟩ := hb
  obtain ⟨t1, t2, t3, t4⟩ := hT i hi
  obtain ⟨s0, s1, s2, s3⟩ := hS
  have d1 := sg_dp (T i).1
  have d2 := sg_dp (T i).2
  have d3 := sg_dp p.1
  have d4 := sg_dp p.2
  unfold wpY_order
  dsimp only
  rw [sg_x1, sg_x2, sg_x3, sg_i4, sg_cl (show 4 * i < 1000 by omega), sg_cl (show 4 * i + 1 < 1000 by omega), sg_cl (show 4 * i + 2 < 1000 by omega), sg_cl (show 4 * i + 3 < 1000 by omega), t1, t2, t3, t4, s0, s1, s2, s3]
  simp only [sg_lmul, sg_lsub]
  have w1 := sg_mb (a := p.1.num) (b := (T i).1.den) 16000 800 (by omega) (by omega) (by omega) (by omega)
  have w2 := sg_mb (a := (T i).1.num) (b := p.1.den) 16000 800 (by omega) (by omega) (by omega) (by omega)
  have w3 := sg_mb (a := p.2.num) (b := (T i).2.den) 16000 800 (by omega) (by omega) (by omega) (by omega)
  have w4 := sg_mb (a := (T i).2.num) (b := p.2.den) 16000 800 (by omega) (by omega) (by omega) (by omega)
  have l1 := sg_rlt d1 d3 (sg_nd (T i).1) (sg_nd p.1)
  have l2 := sg_rlt d2 d4 (sg_nd (T i).2) (sg_nd p.2)
  have q1 := sg_req d1 d3 (sg_nd (T i).1) (sg_nd p.1)
  have q2 := sg_req d2 d4 (sg_nd (T i).2) (sg_nd p.2)
  refine ⟨sg_in180 (by omega), sg_in180 (by omega), nm_e ?_⟩
  rw [sg_lz ⟨by omega, by omega⟩]
  refine br_c (fun c => ⟨sg_in180 (by omega), sg_in180 (by omega), h _ ⟨by omega, by omega⟩ ?_ ?_⟩) (fun c => h _ ⟨by omega, by omega⟩ ?_ ?_)
  · rw [sg_ltpx, l1, q1, l2]; omega
  · rw [sg_pext, q1, q2]; omega
  · rw [sg_ltpx, l1, q1, l2]; omega
  · rw [sg_pext, q1, q2]; omega
theorem y_85 {post : SY → Prop} {m n : Nat} (hn : n < 45)
    (h : post (nI (m + 1), th, en, vp_updL (vp_updL (vp_updL (vp_updL pt (4 * n) (sp 0)) (4 * n + 1) (sp 1)) (4 * n + 2) (sp 2)) (4 * n + 3) (sp 3), sp)) : ∃ k, wY_insert_85 post (nI n) (nI m) k 0 th en pt sp := by
  have step : ∀ c, c < 4 → ∀ k pt, wY_insert_85 post (nI n) (nI m) k (nI (c + 1)) th en (vp_updL pt (4 * n + c) (sp c)) sp → wY_insert_85 post (nI n) (nI m) (k + 1) (nI c) th en pt sp := by
    intro c hc k pt hp
    refine br_f (nI_ge (b := 4) hc (by decide)) ?_
    rw [sg_ix c, sg_cl (show 4 * n + c < 1000 by omega), sg_cl (show c < 1000 by omega)]
    exact ⟨sg_in4 hc, sg_in180 (by omega), nm_e (nm_r (nI_1 c) hp)⟩
  refine ⟨5, step 0 (by omega) 4 pt (step 1 (by omega) 3 _ (step 2 (by omega) 2 _ (step 3 (by omega) 1 _ ?_)))⟩
  exact br_t (by decide) (nm_r (nI_1 m) h)
theorem y_54 {post : SY → Prop} {m n : Nat} (hn : n ≤ m) (hm : m < 45)
    (h : post (nI (m + 1), th, en, vp_updL (vp_updL (vp_updL (vp_updL (sg_s4 pt (4 * n + 3) (4 * m + 3)) (4 * n) (sp 0)) (4 * n + 1) (sp 1)) (4 * n + 2) (sp 2)) (4 * n + 3) (sp 3), sp)) : ∃ k, wY_insert_54 post (nI n) (nI m) k (4 * nI m + 3) th en pt sp := by
  have key : ∀ d c, 4 * n + 3 + d = c → c ≤ 4 * m + 3 → wY_insert_54 post (nI n) (nI m) (d + 1) (nI c) th en (sg_s4 pt c (4 * m + 3)) sp := by
    intro d
    induction d with
    | zero =>
      intro c hc hm'
      have : c = 4 * n + 3 := by omega
      subst this
      refine br_t ?_ (y_85 (by omega) h)
      rw [sg_x4]; exact nI_lt (by omega) (by omega)
    | succ d ih =>
      intro c hc hm'
      obtain ⟨e, rfl⟩ : ∃ e, c = e + 1 := ⟨c - 1, by omega⟩
      refine br_f ?_ ?_
      · rw [sg_x4]; exact nI_nlt (by omega) (by omega)
      · rw [show nI (e + 1) - 4 = nI (e + 1 - 4) from pk_sub (b := 4) (by omega), sg_cl (show e + 1 < 1000 by omega), sg_cl (show e + 1 - 4 < 1000 by omega)]
        exact ⟨sg_in180 (by omega), sg_in180 (by omega), nm_r (sg_s4_s pt e (4 * m + 3) hm') (nm_r (pk_m1 e) (ih e (by omega) (by omega)))⟩
  have := key (4 * m - 4 * n) (4 * m + 3) (by omega) (Nat.le_refl _)
  rw [sg_s4_m] at this
  rw [sg_x3]
  exact ⟨_, this⟩
theorem sg_TYn {m n : Nat} {T : Nat → Rat × Rat} {p : Rat × Rat} (hT : sg_TY m T pt) (hS : sg_SP p sp) (hn : n ≤ m) : sg_TY (m + 1) (sg_ins T n p) (vp_updL (vp_updL (vp_updL (vp_updL (sg_s4 pt (4 * n + 3) (4 * m + 3)) (4 * n) (sp 0)) (4 * n + 1) (sp 1)) (4 * n + 2) (sp 2)) (4 * n + 3) (sp 3)) := by
  obtain ⟨s0, s1, s2, s3⟩ := hS
  have un : ∀ k, (k < 4 * n ∨ 4 * n + 3 < k) → (vp_updL (vp_updL (vp_updL (vp_updL (sg_s4 pt (4 * n + 3) (4 * m + 3)) (4 * n) (sp 0)) (4 * n + 1) (sp 1)) (4 * n + 2) (sp 2)) (4 * n + 3) (sp 3)) k = sg_s4 pt (4 * n + 3) (4 * m + 3) k := by
    intro k hk
    rw [pk_uLn (by omega), pk_uLn (by omega), pk_uLn (by omega), pk_uLn (by omega)]
  intro i hi
  rcases Nat.lt_trichotomy i n with c | c | c
  · rw [un _ (by omega), un _ (by omega), un _ (by omega), un _ (by omega), sg_ins_l c]
    have lo : ∀ k, k < 4 * n → sg_s4 pt (4 * n + 3) (4 * m + 3) k = pt k := fun k hk => if_neg (by omega)
    rw [lo _ (by omega), lo _ (by omega), lo _ (by omega), lo _ (by omega)]
    exact hT i (by omega)
  · subst c
    rw [sg_ins_e, pk_uLs, pk_uLn (by omega), pk_uLn (by omega), pk_uLn (by omega), pk_uLs, pk_uLn (by omega), pk_uLn (by omega), pk_uLs, pk_uLn (by omega), pk_uLs]
    exact ⟨s0, s1, s2, s3⟩
  · rw [un _ (by omega), un _ (by omega), un _ (by omega), un _ (by omega), sg_ins_g c]
    have hi' : ∀ k, 4 * n + 3 < k → k ≤ 4 * m + 3 → sg_s4 pt (4 * n + 3) (4 * m + 3) k = pt (k - 4) := fun k h1 h2 => if_pos ⟨h1, h2⟩
    rw [hi' _ (by omega) (by omega), hi' _ (by omega) (by omega), hi' _ (by omega) (by omega), hi' _ (by omega) (by omega)]
    have := hT (i - 1) (by omega)
    rw [show 4 * i - 4 = 4 * (i - 1) by omega, show 4 * i + 1 - 4 = 4 * (i - 1) + 1 by omega, show 4 * i + 2 - 4 = 4 * (i - 1) + 2 by omega, show 4 * i + 3 - 4 = 4 * (i - 1) + 3 by omega]
    exact this
theorem y_insert {post : SY → Prop} {R : Nat → Nat → Prop} {m : Nat} {T : Nat → Rat × Rat} (hC : sg_Cov P G R m T) (hT : sg_TY m T pt) (g : sg_Geo P G) {j k : Nat} (hj : j < 10) (hk : k < 10) (hne : j ≠ k) (pj : P j) (pk : P k) (hm : m < 45)
    {p : Rat × Rat} (hS : sg_SP p sp) (hb : sg_bd p) (oj : sg_on G j p) (ok : sg_on G k p)
    (h : ∀ m' T' pt', m' ≤ m + 1 → sg_Cov P G (sg_R1 R j k) m' T' → sg_TY m' T' pt' → post (nI m', th, en, pt', sp)) :
    wpY_insert post (nI m, th, en, pt, sp) := by
  have hU : ∀ q, sg_on G j q → sg_on G k q → q = p := fun q a b => g.2.2 j k hj hk pj pk hne q p a b oj ok
  have fresh : ∀ n, n ≤ m → (∀ i, i < n → sg_ltp (T i) p) → (∀ i, n ≤ i → i < m → sg_ltp p (T i)) → ∃ e, wY_insert_54 post (nI n) (nI m) e (4 * nI m + 3) th en pt sp := by
    intro n hn lo hi
    exact y_54 hn hm (h (m + 1) (sg_ins T n p) _ (Nat.le_refl _) (sg_Cov_new hC hj hk hne pj pk oj ok hb hU hn lo hi) (sg_TYn hT hS hn))
  have stop : ∀ n, n ≤ m → (∀ i, i < n → sg_ltp (T i) p) → (n < m → ¬ sg_ltp (T n) p) → wY_insert_26 post (nI n) (nI m) th en pt sp := by
    intro n hn lo hs
    rcases Nat.lt_or_ge n m with c | c
    · refine br_f (nI_ge c (by omega)) (y_order hT c (by omega) (hC.2.1 n c) hS hb (fun r hr l e => ?_))
      rw [sg_lz hr, e]
      refine br_c (fun q => ?_) (fun q => nm_e ?_)
      · exact h m T pt (by omega) (sg_Cov_old hC hU c q) hT
      · refine fresh n hn lo (fun i hi him => ?_)
        have z : sg_ltp p (T n) := by
          rcases sg_ltp_tri (T n) p with a | a | a
          · exact absurd a (hs c)
          · exact absurd a q
          · exact a
        rcases sg_srt_le hC.1 hi him with a | a
        · exact sg_ltp_tr z a
        · rw [← a]; exact z
    · exact br_t (nI_le c (by omega)) (nm_e (fresh n hn lo (fun i hi him => absurd him (by omega))))
  have key : ∀ d n, n + d = m → (∀ i, i < n → sg_ltp (T i) p) → wY_insert_2 post (nI m) th en pt sp (d + 1) (nI n) := by
    intro d
    induction d with
    | zero =>
      intro n hn lo
      exact br_t (nI_le (by omega) (by omega)) (stop n (by omega) lo (fun c => absurd c (by omega)))
    | succ d ih =>
      intro n hn lo
      have c : n < m := by omega
      refine br_f (nI_ge c (by omega)) (y_order hT c (by omega) (hC.2.1 n c) hS hb (fun r hr l e => ?_))
      rw [sg_lzl hr]
      refine br_c (fun q => stop n (by omega) lo (fun _ a => ?_)) (fun q => ?_)
      · have := l.mpr a; omega
      · refine nm_r (nI_1 n) (ih (n + 1) (by omega) ?_)
        intro i hi
        rcases Nat.lt_succ_iff_lt_or_eq.mp hi with a | a
        · exact lo i a
        · subst a; exact l.mp (by omega)
  exact ⟨m + 1, key m 0 (by omega) (fun i hi => absurd hi (by omega))⟩
/-- the pairs that Y has looked at, at (j, k) -/
def sg_RY (j k : Nat) : Nat → Nat → Prop := fun a b => b < a ∧ a < 10 ∧ (a < j ∨ (a = j ∧ b < k))
def sg_cY (j : Nat) : Nat := j * (j - 1) / 2
theorem sg_cYs : ∀ j, j < 10 → sg_cY j + j = sg_cY (j + 1) ∧ sg_cY (j + 1) ≤ 45 := by decide
theorem y_inner {post : SY → Prop} {J : Int32 → Int32 → (Nat → Int32) → (Nat → Int32) → (Nat → Int64) → (Nat → Int64) → Prop}
    (g : sg_Geo P G) (hG : sg_GH G H) (hE : sg_EN H en) (hH : sg_TH P th) {j : Nat} (hj : j < 10)
    (h : ∀ m T pt sp, m ≤ sg_cY (j + 1) → sg_Cov P G (sg_RY (j + 1) 0) m T → sg_TY m T pt → J (nI (j + 1)) (nI m) th en pt sp) :
    ∀ d k, k + d = j → ∀ m T pt sp, m ≤ sg_cY j + k → sg_Cov P G (sg_RY j k) m T → sg_TY m T pt → wY_search_15 post J (nI j) (d + 1) (nI k) (nI m) th en pt sp := by
  intro d
  induction d with
  | zero =>
    intro k hk m T pt sp hm hC hT
    have : k = j := by omega
    subst this
    have := sg_cYs k hj
    refine br_t (nI_le (Nat.le_refl _) (by omega)) (nm_r (nI_1 k) (h m T pt sp (by omega) (sg_Cov_c hC ?_) hT))
    intro a b; unfold sg_RY; omega
  | succ d ih =>
    intro k hk m T pt sp hm hC hT
    have hk' : k < j := by omega
    have cx := sg_cYs j hj
    have eR : ∀ a b, sg_RY j (k + 1) a b → sg_R1 (sg_RY j k) j k a b := by
      intro a b; unfold sg_RY sg_R1; omega
    have skip : (∀ p, P j → P k → sg_on G j p → sg_on G k p → False) → ∀ sp, ∀ z, z = nI k + 1 → wY_search_15 post J (nI j) (d + 1) z (nI m) th en pt sp := by
      intro hn sp
      exact nm_r (nI_1 k) (ih (k + 1) (by omega) m T pt sp (by omega) (sg_Cov_c (sg_Cov_none hC hn) eR) hT)
    refine br_f (nI_ge hk' (by omega)) ⟨sg_in10 hj, ?_⟩
    rw [sg_c10 hj, sg_c10 (show k < 10 by omega), hH j hj, hH k (by omega)]
    refine br_c (fun q => skip (fun _ a _ _ _ => q a) sp) (fun pj => ⟨sg_in10 (by omega), br_c (fun q => skip (fun _ _ a _ _ => q a) sp) (fun pk => ?_)⟩)
    have pj' := Classical.not_not.mp pj
    have pk' := Classical.not_not.mp pk
    refine y_common g hG hE hj (by omega) (by omega) pj' pk' (fun p sp' hS hb oj ok => br_f (by decide) ?_) (fun sp' hn => br_t rfl (skip (fun p _ _ => hn p) sp'))
    refine y_insert hC hT g hj (by omega) (by omega) pj' pk' (by omega) hS hb oj ok (fun m' T' pt' hm' C' T'' => ?_)
    exact nm_r (nI_1 k) (ih (k + 1) (by omega) m' T' pt' sp' (by omega) (sg_Cov_c C' eR) T'')
theorem y_outer {post : SY → Prop} (g : sg_Geo P G) (hG : sg_GH G H) (hE : sg_EN H en) (hH : sg_TH P th)
    (h : ∀ m T pt sp, m ≤ 45 → sg_Cov P G (sg_RY 10 0) m T → sg_TY m T pt → post (nI m, th, en, pt, sp)) :
    ∀ d j, j + d = 10 → ∀ m T pt sp, m ≤ sg_cY j → sg_Cov P G (sg_RY j 0) m T → sg_TY m T pt → wY_search_7 post (d + 1) (nI j) (nI m) th en pt sp := by
  intro d
  induction d with
  | zero =>
    intro j hj m T pt sp hm hC hT
    have : j = 10 := by omega
    subst this
    exact br_t sg_e10 (h m T pt sp hm hC hT)
  | succ d ih =>
    intro j hj m T pt sp hm hC hT
    have hj' : j < 10 := by omega
    refine br_f (sg_n10 hj') ⟨_, y_inner g hG hE hH hj' (fun m T pt sp hm hC hT => ?_) j 0 (by omega) m T pt sp (by omega) hC hT⟩
    exact ih (j + 1) (by omega) m T pt sp hm hC hT
theorem y_search {post : SY → Prop} (g : sg_Geo P G) (hG : sg_GH G H) (hE : sg_EN H en) (hH : sg_TH P th) {m : Nat} {T : Nat → Rat × Rat} (hX : sg_Ex P G m T)
    (h : ∀ pt sp, sg_TY m T pt → post (nI m, th, en, pt, sp)) : wpY_search post (fo, th, en, pt, sp) := by
  have eR : ∀ a b, a < 10 → b < 10 → a ≠ b → sg_RY 10 0 a b ∨ sg_RY 10 0 b a := by intro a b ha hb hne; unfold sg_RY; omega
  refine ⟨11, y_outer g hG hE hH (fun m' T' pt sp hm' hC' hT' => ?_) 10 0 rfl 0 (fun _ => (0, 0)) pt sp (by decide) ⟨?_, ?_, ?_, ?_⟩ ?_⟩
  · obtain ⟨e, f⟩ := sg_Ex_u hX (sg_Ex_of hC' eR)
    subst e
    refine h pt sp (fun i hi => ?_)
    rw [f i hi]; exact hT' i hi
  · intro i j _ hj; omega
  · intro i hi; omega
  · intro i hi; omega
  · intro a b p hr; unfold sg_RY at hr; omega
  · intro i hi; omega
theorem y_goToMeeting {post : SY → Prop} {m : Nat} {T : Nat → Rat × Rat} (hT : sg_TY m T pt) {i : Nat} (hi : i < m) (hm : m ≤ 45) (h : ∀ sp', sg_SP (T i) sp' → post (fo, th, en, pt, sp')) : wpY_goToMeeting post (fo, th, en, pt, sp) (nI i) := by
  have step : ∀ c, c < 4 → ∀ k sp, wY_goToMeeting_2 post (nI i) fo k (nI (c + 1)) th en pt (vp_updL sp c (pt (4 * i + c))) → wY_goToMeeting_2 post (nI i) fo (k + 1) (nI c) th en pt sp := by
    intro c hc k sp hp
    refine br_f (nI_ge (b := 4) hc (by decide)) ?_
    rw [sg_ix c, sg_cl (show 4 * i + c < 1000 by omega), sg_cl (show c < 1000 by omega)]
    exact ⟨sg_in180 (by omega), sg_in4 hc, nm_e (nm_r (nI_1 c) hp)⟩
  refine ⟨5, step 0 (by omega) 4 sp (step 1 (by omega) 3 _ (step 2 (by omega) 2 _ (step 3 (by omega) 1 _ ?_)))⟩
  refine br_t (by decide) (h _ ?_)
  exact hT i hi
theorem y_setOn {post : Int32 → Prop} (g : sg_Geo P G) (hG : sg_GH G H) (hE : sg_EN H en) (hH : sg_TH P th) {p : Rat × Rat} (hS : sg_SP p sp) (hb : sg_b3 p) (h : ∀ x, sg_M x (fun k => P k ∧ sg_on G k p) → post x) : wpY_setOn post (fo, th, en, pt, sp) := by
  have key : ∀ e k, k + e = 10 → ∀ x, sg_M x (fun i => i < k ∧ P i ∧ sg_on G i p) → wY_setOn_4 post fo th en pt sp (e + 1) x (nI k) := by
    intro e
    induction e with
    | zero =>
      intro k hk x hx
      have : k = 10 := by omega
      subst this
      exact br_t sg_e10 (h x (sg_Mc hx (fun i hi => ⟨fun q => q.2, fun q => ⟨hi, q⟩⟩)))
    | succ e ih =>
      intro k hk x hx
      have hk' : k < 10 := by omega
      have no : ¬ (P k ∧ sg_on G k p) → ∀ z, z = nI k + 1 → wY_setOn_4 post fo th en pt sp (e + 1) x z := by
        intro hn
        refine nm_r (nI_1 k) (ih (k + 1) (by omega) x (sg_Mc hx (fun i hi => ⟨fun q => ⟨by omega, q.2⟩, fun q => ⟨?_, q.2⟩⟩)))
        rcases Nat.lt_succ_iff_lt_or_eq.mp q.1 with a | a
        · exact a
        · subst a; exact absurd q.2 hn
      refine br_f (sg_n10 hk') ⟨sg_in10 hk', ?_⟩
      rw [sg_c10 hk', hH k hk']
      refine br_c (fun q => no (fun a => q a.1)) (fun q => ?_)
      have pk := Classical.not_not.mp q
      refine y_has g hG hE hS hb hk' pk (fun o => br_f (by decide) (nm_e (nm_r (nI_1 k) (ih (k + 1) (by omega) _ (sg_Mc (sg_Mor hx (sg_M1 hk')) (fun i hi => ?_)))))) (fun o => br_t rfl (no (fun a => o a.2)))
      constructor
      · rintro (a | a)
        · exact ⟨by omega, a.2⟩
        · subst a; exact ⟨by omega, pk, o⟩
      · intro a
        rcases Nat.lt_succ_iff_lt_or_eq.mp a.1 with b | b
        · exact Or.inl ⟨b, a.2⟩
        · exact Or.inr b
  exact ⟨11, key 10 0 rfl 0 (sg_Mc sg_M0 (fun i hi => ⟨fun q => q.elim, fun q => absurd q.1 (by omega)⟩))⟩
theorem sg_peq {p : Rat} {n : Int} (hp : sg_RL p.num) (hd : sg_RL (p.den : Int)) (hn : sg_RL n) : (sg_l (p.den : Int) = 1 ∧ sg_l p.num = sg_l n) ↔ p = (n : Rat) := by
  rw [sg_l1, sg_leq hd ⟨by decide, by decide⟩, sg_leq hp hn]
  constructor
  · rintro ⟨a, b⟩
    rw [← b]; exact sg_den1 (by omega)
  · intro h
    rw [h]; exact ⟨rfl, rfl⟩
theorem y_isEnd {post : Int32 → Prop} (hE : sg_EN H en) {k : Nat} (hk : k < 10) (hi : sg_in H k) {p : Rat × Rat} (hS : sg_SP p sp) (hb : sg_b3 p) (h1 : (p = sg_ep H k 0 ∨ p = sg_ep H k 1) → post 1) (h0 : ¬ (p = sg_ep H k 0 ∨ p = sg_ep H k 1) → post 0) : wpY_isEnd post (fo, th, en, pt, sp) (nI k) := by
  obtain ⟨s0, s1, s2, s3⟩ := hS
  obtain ⟨⟨b1, b2, b3⟩, b4, b5, b6⟩ := hb
  obtain ⟨i1, i2, i3, i4, i5, i6, i7, i8⟩ := hi
  have R1 : sg_RL p.1.num := ⟨by omega, by omega⟩
  have R2 : sg_RL p.2.num := ⟨by omega, by omega⟩
  have R3 : sg_RL (p.1.den : Int) := ⟨by omega, by omega⟩
  have R4 : sg_RL (p.2.den : Int) := ⟨by omega, by omega⟩
  have E0 : p = sg_ep H k 0 ↔ ((sg_l (p.1.den : Int) = 1 ∧ sg_l p.1.num = sg_l (sg_lx H k)) ∧ (sg_l (p.2.den : Int) = 1 ∧ sg_l p.2.num = sg_l (sg_ly H k))) := by
    rw [sg_peq R1 R3 ⟨by omega, by omega⟩, sg_peq R2 R4 ⟨by omega, by omega⟩, sg_pext]
    rfl
  have E1 : p = sg_ep H k 1 ↔ ((sg_l (p.1.den : Int) = 1 ∧ sg_l p.1.num = sg_l (sg_hx H k)) ∧ (sg_l (p.2.den : Int) = 1 ∧ sg_l p.2.num = sg_l (sg_hy H k))) := by
    rw [sg_peq R1 R3 ⟨by omega, by omega⟩, sg_peq R2 R4 ⟨by omega, by omega⟩, sg_pext]
    rfl
  rw [E0, E1] at h1 h0
  have tail : ¬ ((sg_l (p.1.den : Int) = 1 ∧ sg_l p.1.num = sg_l (sg_lx H k)) ∧ (sg_l (p.2.den : Int) = 1 ∧ sg_l p.2.num = sg_l (sg_ly H k))) → wY_isEnd_61 post (nI k) 0 fo th en pt sp := by
    intro hn
    unfold wY_isEnd_61
    refine br_t rfl ?_
    rw [s0, s1, s2, s3, y_e2 hE hk, y_e3 hE hk, sg_il (a := sg_hx H k) ⟨by omega, by omega⟩, sg_il (a := sg_hy H k) ⟨by omega, by omega⟩]
    refine br_c (fun a => br_c (fun b => br_c (fun c => br_c (fun d => h1 (Or.inr ⟨⟨a, c⟩, b, d⟩)) (fun d => h0 ?_)) (fun c => h0 ?_)) (fun b => h0 ?_)) (fun a => h0 ?_)
    · rintro (z | z)
      · exact hn z
      · exact d z.2.2
    · rintro (z | z)
      · exact hn z
      · exact c z.1.2
    · rintro (z | z)
      · exact hn z
      · exact b z.2.1
    · rintro (z | z)
      · exact hn z
      · exact a z.1.1
  unfold wpY_isEnd wY_isEnd_60
  dsimp only
  rw [s0, s1, s2, s3, y_e0 hE hk, y_e1 hE hk, sg_il (a := sg_lx H k) ⟨by omega, by omega⟩, sg_il (a := sg_ly H k) ⟨by omega, by omega⟩]
  refine br_c (fun a => br_c (fun b => br_c (fun c => br_c (fun d => ?_) (fun d => tail (fun z => d z.2.2))) (fun c => tail (fun z => c z.1.2))) (fun b => tail (fun z => b z.2.1))) (fun a => tail (fun z => a z.1.1))
  exact br_f (by decide) (h1 (Or.inl ⟨⟨a, c⟩, b, d⟩))
end
end
section
/-! ===== the relation ===== -/
def sg_St (P : Nat → Prop) (G H : Nat → Int × Int × Int × Int) (m : Nat) (T : Nat → Rat × Rat) (pr mc : Int32) (low high tX bX tY bY pa th en : Nat → Int32) : Prop :=
  sg_Geo P G ∧ sg_GH G H ∧ sg_M pr P ∧ sg_LH G low high ∧ sg_EN H en ∧ sg_TH P th ∧ mc = nI m ∧ m ≤ 45 ∧ sg_Ex P G m T ∧ sg_TX m T tX bX tY bY ∧ (∀ i, i < m → sg_M (pa i) (fun k => P k ∧ sg_on G k (T i)))
def sg_Rel (u : SX) (v : SY) : Prop := match u, v with
  | (pr, mc, cX, cY, cB, low, high, tX, bX, tY, bY, pa), (fo, th, en, pt, sp) => ∃ P G H m T, sg_St P G H m T pr mc low high tX bX tY bY pa th en
def i_Rel (k : Nat) (u : SX) (v : SY) : Prop := sg_Rel u v
theorem i_up {k : Nat} {u : SX} {v : SY} (h : i_Rel k u v) : i_Rel (k + 3) u v := h
theorem i_vc0 : wpX_init (fun u => wpY_init (fun v => i_Rel 0 u v)) := by
  refine ⟨fun _ => False, fun _ => (0, 0, 0, 0), fun _ => (0, 0, 0, 0), 0, fun _ => (0, 0), ⟨?_, ?_, ?_⟩, ?_, ?_, ?_, ?_, ?_, rfl, by omega, ⟨?_, ?_, ?_, ?_⟩, ?_, ?_⟩
  · intro k hk; unfold sg_in sg_lx sg_ly sg_hx sg_hy; dsimp only; omega
  · intro k _ h; exact h.elim
  · intro a b _ _ h; exact h.elim
  · intro k hk; exact Or.inl rfl
  · exact sg_M0
  · intro k hk; exact ⟨rfl, rfl⟩
  · intro k hk; exact ⟨rfl, rfl, rfl, rfl⟩
  · intro k hk; exact ⟨fun _ h => h, fun _ => rfl⟩
  · intro i j _ h; omega
  · intro i h; omega
  · intro i h; omega
  · intro a b p _ h; exact h.elim
  · intro i h; omega
  · intro i h; omega
section
variable {P : Nat → Prop} {G H : Nat → Int × Int × Int × Int} {pr mc cX cY cB : Int32} {low high tX bX tY bY pa : Nat → Int32} {fo : Int32} {th en : Nat → Int32} {pt sp : Nat → Int64}
theorem y_segments {post : Int32 → Prop} (hH : sg_TH P th) (h : ∀ x, sg_M x P → post x) : wpY_segments post (fo, th, en, pt, sp) := by
  have key : ∀ e k, k + e = 10 → ∀ x, sg_M x (fun i => i < k ∧ P i) → wY_segments_4 post fo th en pt sp (e + 1) x (nI k) := by
    intro e
    induction e with
    | zero =>
      intro k hk x hx
      have : k = 10 := by omega
      subst this
      exact br_t sg_e10 (h x (sg_Mc hx (fun i hi => ⟨fun q => q.2, fun q => ⟨hi, q⟩⟩)))
    | succ e ih =>
      intro k hk x hx
      have hk' : k < 10 := by omega
      refine br_f (sg_n10 hk') ⟨sg_in10 hk', ?_⟩
      rw [sg_c10 hk', hH k hk']
      refine br_c (fun q => nm_r (nI_1 k) (ih (k + 1) (by omega) x (sg_Mc hx (fun i hi => ⟨fun q => ⟨by omega, q.2⟩, fun r => ⟨?_, r.2⟩⟩)))) (fun q => nm_e (nm_r (nI_1 k) (ih (k + 1) (by omega) _ (sg_Mc (sg_Mor hx (sg_M1 hk')) (fun i hi => ?_)))))
      · rcases Nat.lt_succ_iff_lt_or_eq.mp r.1 with a | a
        · exact a
        · subst a; exact absurd r.2 q
      · constructor
        · rintro (a | a)
          · exact ⟨by omega, a.2⟩
          · subst a; exact ⟨by omega, Classical.not_not.mp q⟩
        · intro a
          rcases Nat.lt_succ_iff_lt_or_eq.mp a.1 with b | b
          · exact Or.inl ⟨b, a.2⟩
          · exact Or.inr b
  exact ⟨11, key 10 0 rfl 0 (sg_Mc sg_M0 (fun i hi => ⟨fun q => q.elim, fun q => absurd q.1 (by omega)⟩))⟩
theorem sg_Msub {a x : Int32} {Q R : Nat → Prop} (ha : sg_M a Q) (hx : sg_M x R) : (a &&& x) = x ↔ ∀ i, i < 10 → R i → Q i := by
  constructor
  · intro e i hi r
    have := (hx i (by omega)).mpr ⟨hi, r⟩
    rw [← e] at this
    exact (((sg_Mand ha hx) i (by omega)).mp this).2.1
  · intro h
    exact sg_Mu (sg_Mand ha hx) hx (fun i hi => ⟨fun q => q.2, fun q => ⟨h i hi q, q⟩⟩)
def sg_mt (G : Nat → Int × Int × Int × Int) (j k : Nat) : Prop := j = k ∨ ∃ p, sg_on G j p ∧ sg_on G k p
theorem x_meet {post : Int32 → Prop} {m : Nat} {T : Nat → Rat × Rat} (hP : sg_M pr P) (hm : m ≤ 45) (hX : sg_Ex P G m T) (hM : ∀ i, i < m → sg_M (pa i) (fun k => P k ∧ sg_on G k (T i))) {j k : Nat} (hj : j < 10) (hk : k < 10)
    (h1 : P j → P k → sg_mt G j k → post 1) (h0 : ¬ (P j ∧ P k ∧ sg_mt G j k) → post 0) : wpX_meet post (pr, nI m, cX, cY, cB, low, high, tX, bX, tY, bY, pa) (nI j) (nI k) := by
  unfold wpX_meet; dsimp only
  refine x_isPresent hP hj (fun pj => br_f (by decide) (x_isPresent hP hk (fun pk => br_f (by decide) (br_c (fun e => h1 pj pk (Or.inl ((nI_eq (by omega) (by omega)).mp e))) (fun e => nm_e ?_))) (fun pk => br_t rfl (h0 (fun q => pk q.2.1))))) (fun pj => br_t rfl (h0 (fun q => pj q.1)))
  have hne : j ≠ k := fun q => e (congrArg nI q)
  have hx := sg_Mor (sg_M1 hj) (sg_M1 hk)
  have key : ∀ d i, i + d = m → (∀ l, l < i → ¬ (sg_on G j (T l) ∧ sg_on G k (T l))) → wX_meet_36 post (((1 : Int32) <<< (nI j &&& 31)) ||| ((1 : Int32) <<< (nI k &&& 31))) pr (nI m) cX cY cB low high tX bX tY bY pa (d + 1) (nI i) := by
    intro d
    induction d with
    | zero =>
      intro i hi hn
      refine br_t (nI_le (by omega) (by omega)) (h0 ?_)
      rintro ⟨_, _, a | ⟨p, oj, ok⟩⟩
      · exact hne a
      · obtain ⟨l, hl, el⟩ := hX.2.2.2 j k p ⟨hj, hk, hne⟩ pj pk oj ok
        exact hn l (by omega) (by rw [el]; exact ⟨oj, ok⟩)
    | succ d ih =>
      intro i hi hn
      have hi' : i < m := by omega
      refine br_f (nI_ge hi' (by omega)) ⟨sg_in45 (by omega), ?_⟩
      rw [sg_c45 (by omega), sg_Msub (hM i hi') hx]
      refine br_c (fun q => h1 pj pk (Or.inr ⟨T i, (q j hj (Or.inl rfl)).2, (q k hk (Or.inr rfl)).2⟩)) (fun q => nm_r (nI_1 i) (ih (i + 1) (by omega) ?_))
      intro l hl
      rcases Nat.lt_succ_iff_lt_or_eq.mp hl with a | a
      · exact hn l a
      · subst a
        intro o
        apply q
        rintro z hz (rfl | rfl)
        · exact ⟨pj, o.1⟩
        · exact ⟨pk, o.2⟩
  exact ⟨m + 1, key m 0 (by omega) (fun l hl => absurd hl (by omega))⟩
theorem y_meet {post : Int32 → SY → Prop} (g : sg_Geo P G) (hG : sg_GH G H) (hE : sg_EN H en) (hH : sg_TH P th) {j k : Nat} (hj : j < 10) (hk : k < 10)
    (h1 : P j → P k → sg_mt G j k → ∀ sp, post 1 (fo, th, en, pt, sp)) (h0 : ¬ (P j ∧ P k ∧ sg_mt G j k) → ∀ sp, post 0 (fo, th, en, pt, sp)) : wpY_meet post (fo, th, en, pt, sp) (nI j) (nI k) := by
  unfold wpY_meet; dsimp only
  refine y_is hH hj (fun pj => br_f (by decide) (y_is hH hk (fun pk => br_f (by decide) (br_c (fun e => h1 pj pk (Or.inl ((nI_eq (by omega) (by omega)).mp e)) sp) (fun e => ?_))) (fun pk => br_t rfl (h0 (fun q => pk q.2.1) sp)))) (fun pj => br_t rfl (h0 (fun q => pj q.1) sp))
  have hne : j ≠ k := fun q => e (congrArg nI q)
  refine y_common g hG hE hj hk hne pj pk (fun p sp' _ _ oj ok => br_f (by decide) (h1 pj pk (Or.inr ⟨p, oj, ok⟩) sp')) (fun sp' hn => br_t rfl (h0 ?_ sp'))
  rintro ⟨_, _, a | ⟨p, oj, ok⟩⟩
  · exact hne a
  · exact hn p oj ok
theorem x_isMeeting {post : Int32 → Prop} {m : Nat} (hm : m ≤ 45) {p : Int32} (h1 : ∀ i, i < m → p = nI i → post 1) (h0 : (∀ i, i < m → p ≠ nI i) → post 0) : wpX_isMeeting post (pr, nI m, cX, cY, cB, low, high, tX, bX, tY, bY, pa) p := by
  by_cases c : p < 0
  · exact br_t c (h0 (fun i hi e => by rw [e] at c; exact absurd c (nI_pos (by omega))))
  · obtain ⟨n, hn, rfl⟩ := nI_of c
    refine br_f c (pk_le m n (fun q => h0 (fun i hi e => ?_)) (fun q => h1 n q rfl) rfl rfl (by omega) hn)
    have := (nI_eq hn (by omega)).mp e
    omega
end
theorem i_vc_segments {k : Nat} {u : SX} {v : SY} (I : i_Rel k u v) (hk : k + 3 ≤ 1536) : wpX_segments (fun r => wpY_segments (fun r' => r' = r ∧ i_Rel (k + 3) u v) v) u := by
  obtain ⟨pr, mc, cX, cY, cB, low, high, tX, bX, tY, bY, pa⟩ := u
  obtain ⟨fo, th, en, pt, sp⟩ := v
  obtain ⟨P, G, H, m, T, g, hG, hP, hl, hE, hH, em, hm, hX, hT, hM⟩ := id I
  exact y_segments hH (fun x hx => ⟨sg_Mu hx hP (fun i _ => Iff.rfl), I⟩)
theorem i_vc_meet {k : Nat} {u : SX} {v : SY} (I : i_Rel k u v) (hk : k + 3 ≤ 1536) (v1 : Int32) (v2 : Int32) : wpX_meet (fun r => wpY_meet (fun r' v' => r' = r ∧ i_Rel (k + 3) u v') v v1 v2) u v1 v2 := by
  obtain ⟨pr, mc, cX, cY, cB, low, high, tX, bX, tY, bY, pa⟩ := u
  obtain ⟨fo, th, en, pt, sp⟩ := v
  obtain ⟨P, G, H, m, T, I⟩ := I
  obtain ⟨g, hG, hP, hl, hE, hH, rfl, hm, hX, hT, hM⟩ := id I
  by_cases c1 : ∃ j, j < 10 ∧ v1 = nI j
  · by_cases c2 : ∃ j, j < 10 ∧ v2 = nI j
    · obtain ⟨a, ha, rfl⟩ := c1
      obtain ⟨b, hb, rfl⟩ := c2
      refine x_meet hP hm hX hM ha hb (fun pa pb q => ?_) (fun q => ?_)
      · exact y_meet g hG hE hH ha hb (fun _ _ _ sp => ⟨rfl, P, G, H, m, T, I⟩) (fun q' sp => absurd ⟨pa, pb, q⟩ q')
      · exact y_meet g hG hE hH ha hb (fun pa pb q' sp => absurd ⟨pa, pb, q'⟩ q) (fun _ sp => ⟨rfl, P, G, H, m, T, I⟩)
    · unfold wpX_meet wpY_meet; dsimp only
      refine x_isPresentG hP (fun a ha ea pa' => br_f (by decide) (x_isPresentG hP (fun b hb eb _ => absurd ⟨b, hb, eb⟩ c2) (fun n2 => br_t rfl ?_))) (fun n1 => br_t rfl ?_)
      · exact y_isG hH (fun _ _ _ _ => br_f (by decide) (y_isG hH (fun b hb eb _ => absurd ⟨b, hb, eb⟩ c2) (fun _ => br_t rfl ⟨rfl, P, G, H, m, T, I⟩))) (fun _ => br_t rfl ⟨rfl, P, G, H, m, T, I⟩)
      · exact y_isG hH (fun a ha ea pa' => absurd pa' (n1 a ha ea)) (fun _ => br_t rfl ⟨rfl, P, G, H, m, T, I⟩)
  · unfold wpX_meet wpY_meet; dsimp only
    refine x_isPresentG hP (fun b hb eb _ => absurd ⟨b, hb, eb⟩ c1) (fun n1 => br_t rfl ?_)
    exact y_isG hH (fun b hb eb _ => absurd ⟨b, hb, eb⟩ c1) (fun _ => br_t rfl ⟨rfl, P, G, H, m, T, I⟩)
theorem i_vc_meetings {k : Nat} {u : SX} {v : SY} (I : i_Rel k u v) (hk : k + 3 ≤ 1536) : wpX_meetings (fun r => wpY_meetings (fun r' v' => r' = r ∧ i_Rel (k + 3) u v') v) u := by
  obtain ⟨pr, mc, cX, cY, cB, low, high, tX, bX, tY, bY, pa⟩ := u
  obtain ⟨fo, th, en, pt, sp⟩ := v
  obtain ⟨P, G, H, m, T, I⟩ := I
  obtain ⟨g, hG, hP, hl, hE, hH, rfl, hm, hX, hT, hM⟩ := id I
  unfold wpX_meetings wpY_meetings; dsimp only
  exact y_search g hG hE hH hX (fun pt sp _ => ⟨rfl, P, G, H, m, T, I⟩)
/-- Y's coordinate: c is 0 .. 3 -/
theorem y_coord {P : Nat → Prop} {G H : Nat → Int × Int × Int × Int} {fo : Int32} {th en : Nat → Int32} {pt sp : Nat → Int64} {post : Int32 → SY → Prop} (g : sg_Geo P G) (hG : sg_GH G H) (hE : sg_EN H en) (hH : sg_TH P th) {m : Nat} {T : Nat → Rat × Rat} (hm : m ≤ 45) (hX : sg_Ex P G m T) {p : Int32} {c : Nat} (hc : c < 4)
    (h1 : ∀ i, i < m → p = nI i → ∀ fo pt sp, sg_TY m T pt → post (pt (4 * i + c)).toInt32 (fo, th, en, pt, sp)) (h0 : (∀ i, i < m → p ≠ nI i) → ∀ fo pt sp, post (-1) (fo, th, en, pt, sp)) : wpY_coordinate post (fo, th, en, pt, sp) p (nI c) := by
  unfold wpY_coordinate; dsimp only
  refine y_search g hG hE hH hX (fun pt sp hT => ?_)
  by_cases q : p < 0
  · exact br_t q (h0 (fun i hi e => by rw [e] at q; exact absurd q (nI_pos (by omega))) _ _ _)
  · obtain ⟨n, hn, rfl⟩ := nI_of q
    refine br_f q (pk_le m n (fun r => h0 (fun i hi e => ?_) _ _ _) (fun r => ?_) rfl rfl (by omega) hn)
    · have := (nI_eq hn (by omega)).mp e
      omega
    · rw [sg_ix c, sg_cl (show 4 * n + c < 1000 by omega)]
      exact ⟨sg_in180 (by omega), h1 n r rfl _ pt sp hT⟩
theorem i_vc_top {k : Nat} {u : SX} {v : SY} (I : i_Rel k u v) (hk : k + 3 ≤ 1536) (v1 : Int32) (v2 : Int32) : wpX_top (fun r => wpY_top (fun r' v' => r' = r ∧ i_Rel (k + 3) u v') v v1 v2) u v1 v2 := by
  obtain ⟨pr, mc, cX, cY, cB, low, high, tX, bX, tY, bY, pa⟩ := u
  obtain ⟨fo, th, en, pt, sp⟩ := v
  obtain ⟨P, G, H, m, T, I⟩ := I
  obtain ⟨g, hG, hP, hl, hE, hH, rfl, hm, hX, hT, hM⟩ := id I
  unfold wpX_top wpX_isAxis wpY_top wY_top_9; dsimp only
  have inj : ∀ i j, i < m → j < m → nI i = nI j → i = j := fun i j hi hj e => (nI_eq (by omega) (by omega)).mp e
  by_cases a0 : v2 = 0
  · subst a0
    rw [show (2 * 0 : Int32) = nI 0 by decide]
    refine x_isMeeting hm (fun i hi e => br_f (by decide) (br_t rfl (br_f (by decide) (br_t rfl ?_)))) (fun n => br_t rfl ?_)
    · subst e
      rw [sg_c45 (by omega)]
      refine ⟨sg_in45 (by omega), br_t rfl (y_coord (c := 0) g hG hE hH hm hX (by omega) (fun j hj e fo pt sp hY => ⟨?_, P, G, H, m, T, I⟩) (fun n => absurd rfl (n i hi)))⟩
      have := inj i j hi hj e; subst this
      show (pt (4 * i)).toInt32 = _
      rw [(hY i hi).1, sg_li, (hT i hi).1]
    · exact br_t rfl (y_coord (c := 0) g hG hE hH hm hX (by omega) (fun j hj e => absurd e (n j hj)) (fun _ fo pt sp => ⟨rfl, P, G, H, m, T, I⟩))
  · by_cases a1 : v2 = 1
    · subst a1
      rw [show (2 * 1 : Int32) = nI 2 by decide]
      refine x_isMeeting hm (fun i hi e => br_f (by decide) (br_f (by decide) (br_t rfl (br_f (by decide) (br_f (by decide) ?_))))) (fun n => br_t rfl ?_)
      · subst e
        rw [sg_c45 (by omega)]
        refine ⟨sg_in45 (by omega), br_f (by decide) (br_t rfl (y_coord (c := 2) g hG hE hH hm hX (by omega) (fun j hj e fo pt sp hY => ⟨?_, P, G, H, m, T, I⟩) (fun n => absurd rfl (n i hi))))⟩
        have := inj i j hi hj e; subst this
        show (pt (4 * i + 2)).toInt32 = _
        rw [(hY i hi).2.2.1, sg_li, (hT i hi).2.2.1]
      · exact br_f (by decide) (br_t rfl (y_coord (c := 2) g hG hE hH hm hX (by omega) (fun j hj e => absurd e (n j hj)) (fun _ fo pt sp => ⟨rfl, P, G, H, m, T, I⟩)))
    · refine x_isMeeting hm (fun i hi e => br_f (by decide) (br_f a0 (br_f a1 (br_t rfl ?_)))) (fun n => br_t rfl ?_)
      · exact br_f a0 (br_f a1 ⟨rfl, P, G, H, m, T, I⟩)
      · exact br_f a0 (br_f a1 ⟨rfl, P, G, H, m, T, I⟩)
theorem i_vc_bottom {k : Nat} {u : SX} {v : SY} (I : i_Rel k u v) (hk : k + 3 ≤ 1536) (v1 : Int32) (v2 : Int32) : wpX_bottom (fun r => wpY_bottom (fun r' v' => r' = r ∧ i_Rel (k + 3) u v') v v1 v2) u v1 v2 := by
  obtain ⟨pr, mc, cX, cY, cB, low, high, tX, bX, tY, bY, pa⟩ := u
  obtain ⟨fo, th, en, pt, sp⟩ := v
  obtain ⟨P, G, H, m, T, I⟩ := I
  obtain ⟨g, hG, hP, hl, hE, hH, rfl, hm, hX, hT, hM⟩ := id I
  unfold wpX_bottom wpX_isAxis wpY_bottom wY_bottom_9; dsimp only
  have inj : ∀ i j, i < m → j < m → nI i = nI j → i = j := fun i j hi hj e => (nI_eq (by omega) (by omega)).mp e
  by_cases a0 : v2 = 0
  · subst a0
    rw [show (2 * 0 + 1 : Int32) = nI 1 by decide]
    refine x_isMeeting hm (fun i hi e => br_f (by decide) (br_t rfl (br_f (by decide) (br_t rfl ?_)))) (fun n => br_t rfl ?_)
    · subst e
      rw [sg_c45 (by omega)]
      refine ⟨sg_in45 (by omega), br_t rfl (y_coord (c := 1) g hG hE hH hm hX (by omega) (fun j hj e fo pt sp hY => ⟨?_, P, G, H, m, T, I⟩) (fun n => absurd rfl (n i hi)))⟩
      have := inj i j hi hj e; subst this
      show (pt (4 * i + 1)).toInt32 = _
      rw [(hY i hi).2.1, sg_li, (hT i hi).2.1]
    · exact br_t rfl (y_coord (c := 1) g hG hE hH hm hX (by omega) (fun j hj e => absurd e (n j hj)) (fun _ fo pt sp => ⟨rfl, P, G, H, m, T, I⟩))
  · by_cases a1 : v2 = 1
    · subst a1
      rw [show (2 * 1 + 1 : Int32) = nI 3 by decide]
      refine x_isMeeting hm (fun i hi e => br_f (by decide) (br_f (by decide) (br_t rfl (br_f (by decide) (br_f (by decide) ?_))))) (fun n => br_t rfl ?_)
      · subst e
        rw [sg_c45 (by omega)]
        refine ⟨sg_in45 (by omega), br_f (by decide) (br_t rfl (y_coord (c := 3) g hG hE hH hm hX (by omega) (fun j hj e fo pt sp hY => ⟨?_, P, G, H, m, T, I⟩) (fun n => absurd rfl (n i hi))))⟩
        have := inj i j hi hj e; subst this
        show (pt (4 * i + 3)).toInt32 = _
        rw [(hY i hi).2.2.2, sg_li, (hT i hi).2.2.2]
      · exact br_f (by decide) (br_t rfl (y_coord (c := 3) g hG hE hH hm hX (by omega) (fun j hj e => absurd e (n j hj)) (fun _ fo pt sp => ⟨rfl, P, G, H, m, T, I⟩)))
    · refine x_isMeeting hm (fun i hi e => br_f (by decide) (br_f a0 (br_f a1 (br_t rfl ?_)))) (fun n => br_t rfl ?_)
      · exact br_f a0 (br_f a1 ⟨rfl, P, G, H, m, T, I⟩)
      · exact br_f a0 (br_f a1 ⟨rfl, P, G, H, m, T, I⟩)
theorem i_vc_through {k : Nat} {u : SX} {v : SY} (I : i_Rel k u v) (hk : k + 3 ≤ 1536) (v1 : Int32) : wpX_through (fun r => wpY_through (fun r' v' => r' = r ∧ i_Rel (k + 3) u v') v v1) u v1 := by
  obtain ⟨pr, mc, cX, cY, cB, low, high, tX, bX, tY, bY, pa⟩ := u
  obtain ⟨fo, th, en, pt, sp⟩ := v
  obtain ⟨P, G, H, m, T, I⟩ := I
  obtain ⟨g, hG, hP, hl, hE, hH, rfl, hm, hX, hT, hM⟩ := id I
  unfold wpX_through wpY_through; dsimp only
  refine x_isMeeting hm (fun i hi e => br_f (by decide) ?_) (fun n => br_t rfl ?_)
  · subst e
    rw [sg_c45 (by omega)]
    refine ⟨sg_in45 (by omega), y_search g hG hE hH hX (fun pt sp hY => br_f (nI_pos (by omega)) (br_t (nI_lt hi (by omega)) ?_))⟩
    refine y_goToMeeting hY hi hm (fun sp' hS => y_setOn g hG hE hH hS (sg_bd3 (hX.2.1 i hi)) (fun x hx => ⟨sg_Mu hx (hM i hi) (fun _ _ => Iff.rfl), P, G, H, m, T, I⟩))
  · refine y_search g hG hE hH hX (fun pt sp hY => ?_)
    by_cases c : v1 < 0
    · exact br_t c ⟨rfl, P, G, H, m, T, I⟩
    · obtain ⟨i, hi, rfl⟩ := nI_of c
      refine br_f c (br_f (fun q => ?_) ⟨rfl, P, G, H, m, T, I⟩)
      exact n i ((nI_ltI hi (by omega)).mp q) rfl
end
section
/-! ===== on, remove, add ===== -/
theorem x_on {P : Nat → Prop} {G : Nat → Int × Int × Int × Int} {pr mc cX cY cB : Int32} {low high tX bX tY bY pa : Nat → Int32} {post : Int32 → Prop} (hP : sg_M pr P) (hl : sg_LH G low high) (hi : ∀ k, k < 10 → sg_in G k) {x y : Int} (hx : 0 ≤ x) (hx' : x ≤ 20) (hy : 0 ≤ y) (hy' : y ≤ 20)
    (h : ∀ z, sg_M z (fun k => P k ∧ sg_on G k ((x : Rat), (y : Rat))) → post z) : ∃ n, wX_on_19 post (sg_i (32 * x + y)) pr mc cX cY cB low high tX bX tY bY pa n 0 0 := by
  have key : ∀ e k, k + e = 10 → ∀ z, sg_M z (fun i => i < k ∧ P i ∧ sg_on G i ((x : Rat), (y : Rat))) → wX_on_19 post (sg_i (32 * x + y)) pr mc cX cY cB low high tX bX tY bY pa (e + 1) z (nI k) := by
    intro e
    induction e with
    | zero =>
      intro k hk z hz
      have : k = 10 := by omega
      subst this
      exact br_t sg_e10 (h z (sg_Mc hz (fun i hi => ⟨fun q => q.2, fun q => ⟨hi, q⟩⟩)))
    | succ e ih =>
      intro k hk z hz
      have hk' : k < 10 := by omega
      have no : ¬ (P k ∧ sg_on G k ((x : Rat), (y : Rat))) → ∀ w, w = nI k + 1 → wX_on_19 post (sg_i (32 * x + y)) pr mc cX cY cB low high tX bX tY bY pa (e + 1) z w := by
        intro hn
        refine nm_r (nI_1 k) (ih (k + 1) (by omega) z (sg_Mc hz (fun i hi => ⟨fun q => ⟨by omega, q.2⟩, fun q => ⟨?_, q.2⟩⟩)))
        rcases Nat.lt_succ_iff_lt_or_eq.mp q.1 with a | a
        · exact a
        · subst a; exact absurd q.2 hn
      refine br_f (sg_n10 hk') (x_isPresent hP hk' (fun pk => br_f (by decide) ?_) (fun pk => br_t rfl (no (fun a => pk a.1))))
      refine x_isOn hl hk' (hi k hk') hx hx' hy hy' (fun o => br_f (by decide) (nm_e (nm_r (nI_1 k) (ih (k + 1) (by omega) _ (sg_Mc (sg_Mor hz (sg_M1 hk')) (fun i hi => ?_)))))) (fun o => br_t rfl (no (fun a => o a.2)))
      constructor
      · rintro (a | a)
        · exact ⟨by omega, a.2⟩
        · subst a; exact ⟨by omega, pk, o⟩
      · intro a
        rcases Nat.lt_succ_iff_lt_or_eq.mp a.1 with b | b
        · exact Or.inl ⟨b, a.2⟩
        · exact Or.inr b
  exact ⟨11, key 10 0 rfl 0 (sg_Mc sg_M0 (fun i hi => ⟨fun q => q.elim, fun q => absurd q.1 (by omega)⟩))⟩
theorem sg_b3i {x y : Int} (hx : 0 ≤ x) (hx' : x ≤ 20) (hy : 0 ≤ y) (hy' : y ≤ 20) : sg_b3 ((x : Rat), (y : Rat)) := by
  unfold sg_b3
  simp only [Rat.num_intCast, Rat.den_intCast]
  omega
theorem sg_pinj {x y a b : Nat} (hx : x ≤ 20) (hy : y ≤ 20) (ha : a ≤ 20) (hb : b ≤ 20) (e : nI (x + 32 * y) = nI (a + 32 * b)) : x = a ∧ y = b := by
  have := (nI_eq (by omega) (by omega)).mp e
  omega
theorem i_vc_on {k : Nat} {u : SX} {v : SY} (I : i_Rel k u v) (hk : k + 3 ≤ 1536) (v1 : Int32) : wpX_on (fun r => wpY_on (fun r' v' => r' = r ∧ i_Rel (k + 3) u v') v v1) u v1 := by
  obtain ⟨pr, mc, cX, cY, cB, low, high, tX, bX, tY, bY, pa⟩ := u
  obtain ⟨fo, th, en, pt, sp⟩ := v
  obtain ⟨P, G, H, m, T, I⟩ := I
  obtain ⟨g, hG, hP, hl, hE, hH, rfl, hm, hX, hT, hM⟩ := id I
  unfold wpX_on wpY_on; dsimp only
  refine x_isPoint (fun x y hx hy e => br_f (by decide) ?_) (fun n => br_t rfl (y_isPoint (fun x y hx hy e => absurd e (n x y hx hy)) (fun _ => br_t rfl ⟨rfl, P, G, H, m, T, I⟩)))
  subst e
  refine x_placeOf hx hy (x_on hP hl g.1 (by omega) (by omega) (by omega) (by omega) (fun z hz => ?_))
  refine y_isPoint (fun a b ha hb e => br_f (by decide) ⟨by decide, by decide, ?_⟩) (fun n => absurd rfl (n x y hx hy))
  rw [sg_pm hx hy, sg_pd hx hy]
  refine y_goTo (by omega) (by omega) (by omega) (by omega) (fun sp' hS => y_setOn g hG hE hH hS (sg_b3i (by omega) (by omega) (by omega) (by omega)) (fun w hw => ⟨sg_Mu hw hz (fun _ _ => Iff.rfl), P, G, H, m, T, I⟩))
theorem sg_nb0 : vp_nar .boolean 0 = 0 := rfl
theorem sg_nb1 : vp_nar .boolean 1 = 1 := rfl
theorem i_vc_remove {k : Nat} {u : SX} {v : SY} (I : i_Rel k u v) (hk : k + 3 ≤ 1536) (v1 : Int32) : wpX_remove (fun r u' => wpY_remove (fun r' v' => r' = r ∧ i_Rel (k + 3) u' v') v v1) u v1 := by
  obtain ⟨pr, mc, cX, cY, cB, low, high, tX, bX, tY, bY, pa⟩ := u
  obtain ⟨fo, th, en, pt, sp⟩ := v
  obtain ⟨P, G, H, m, T, I⟩ := I
  obtain ⟨g, hG, hP, hl, hE, hH, rfl, hm, hX, hT, hM⟩ := id I
  unfold wpX_remove wpY_remove; dsimp only
  refine x_isPresentG hP (fun j hj e pj => br_f (by decide) (nm_e ?_)) (fun n => br_t rfl (y_isG hH (fun j hj e pj => absurd pj (n j hj e)) (fun _ => br_t rfl ⟨rfl, P, G, H, m, T, I⟩)))
  subst e
  have hP' := sg_Mdiff hP (sg_M1 hj)
  have g' : sg_Geo (fun i => P i ∧ ¬ i = j) G := ⟨g.1, fun a ha pa => g.2.1 a ha pa.1, fun a b ha hb pa pb => g.2.2 a b ha hb pa.1 pb.1⟩
  refine x_findMeetings g' hP' hl (fun m' T' cX cY cB tX bX tY bY pa hm' hX' hT' hM' => ?_)
  refine y_isG hH (fun i hi e pi => br_f (by decide) ⟨sg_in10 hj, ?_⟩) (fun n => absurd pj (n j hj rfl))
  rw [sg_c10 hj, sg_nb0]
  refine nm_e ⟨rfl, fun i => P i ∧ ¬ i = j, G, H, m', T', g', hG, hP', hl, hE, ?_, rfl, hm', hX', hT', hM'⟩
  intro i hi
  by_cases c : i = j
  · subst c
    rw [pk_us]
    exact ⟨fun _ q => q.2 rfl, fun _ => rfl⟩
  · rw [pk_un c, hH i hi]
    exact ⟨fun q r => q r.1, fun q r => q ⟨r, c⟩⟩
/-! refused -/
theorem sg_projI {a b c d x y u v : Int} (hj : sg_lt a b c d) (h1 : sg_L a b c d x y) (h2 : sg_L a b c d u v) :
    sg_lt x y u v ↔ (c - a) * x + (d - b) * y < (c - a) * u + (d - b) * v := by
  rw [sg_proj hj h1 h2, ← Rat.intCast_lt_intCast]
  simp only [Rat.intCast_add, Rat.intCast_mul, Rat.intCast_sub]
/-- Y's words: both ends of k in the line of the new segment, and their places on it not apart from it -/
def sg_yr (x1 y1 x2 y2 e0 e1 e2 e3 : Int) : Prop := ((x2 - x1) * (e1 - y1) = (y2 - y1) * (e0 - x1) ∧ (x2 - x1) * (e3 - y1) = (y2 - y1) * (e2 - x1)) ∧
  ((x2 - x1) * x1 + (y2 - y1) * y1 < (x2 - x1) * e0 + (y2 - y1) * e1 ∨ (x2 - x1) * x1 + (y2 - y1) * y1 < (x2 - x1) * e2 + (y2 - y1) * e3) ∧
  ((x2 - x1) * e0 + (y2 - y1) * e1 < (x2 - x1) * x2 + (y2 - y1) * y2 ∨ (x2 - x1) * e2 + (y2 - y1) * e3 < (x2 - x1) * x2 + (y2 - y1) * y2)
theorem sg_yr_sw (x1 y1 x2 y2 e0 e1 e2 e3 : Int) : sg_yr x1 y1 x2 y2 e0 e1 e2 e3 ↔ sg_yr x1 y1 x2 y2 e2 e3 e0 e1 := by
  unfold sg_yr
  constructor
  · rintro ⟨⟨a, b⟩, c, d⟩; exact ⟨⟨b, a⟩, c.symm, d.symm⟩
  · rintro ⟨⟨a, b⟩, c, d⟩; exact ⟨⟨b, a⟩, c.symm, d.symm⟩
theorem sg_yr_g {G : Nat → Int × Int × Int × Int} {k : Nat} {a b c d : Int} (hn : sg_lt a b c d) (hk : sg_lt (sg_lx G k) (sg_ly G k) (sg_hx G k) (sg_hy G k)) : sg_yr a b c d (sg_lx G k) (sg_ly G k) (sg_hx G k) (sg_hy G k) ↔ sg_ov G k a b c d := by
  unfold sg_yr sg_ov
  rw [← sg_Lc, ← sg_Lc]
  have hL := sg_lines hn hk
  constructor
  · rintro ⟨⟨l1, l2⟩, p, q⟩
    have z := (sg_projI hn l1 l2).mp hk
    refine ⟨(sg_projI hn (sg_L_a ..) l2).mpr ?_, (sg_projI hn l1 (sg_L_c ..)).mpr ?_, (hL.mpr ⟨l1, l2⟩).1, (hL.mpr ⟨l1, l2⟩).2⟩
    · omega
    · omega
  · rintro ⟨p, q, l⟩
    obtain ⟨l1, l2⟩ := hL.mp l
    exact ⟨⟨l1, l2⟩, Or.inr ((sg_projI hn (sg_L_a ..) l2).mp p), Or.inl ((sg_projI hn l1 (sg_L_c ..)).mp q)⟩
theorem sg_yr_r {G : Nat → Int × Int × Int × Int} {k : Nat} {a b c d : Int} (hn : sg_lt a b c d) (hk : sg_lt (sg_lx G k) (sg_ly G k) (sg_hx G k) (sg_hy G k)) : sg_yr c d a b (sg_lx G k) (sg_ly G k) (sg_hx G k) (sg_hy G k) ↔ sg_ov G k a b c d := by
  rw [← sg_yr_g hn hk]
  unfold sg_yr
  rw [← sg_Lc, ← sg_Lc, ← sg_Lc, ← sg_Lc]
  have n : ∀ x y : Int, (a - c) * x + (b - d) * y = -((c - a) * x + (d - b) * y) := by intro x y; grind
  simp only [n]
  constructor
  · rintro ⟨⟨l1, l2⟩, p, q⟩
    exact ⟨⟨(sg_L_sw ..).mp l1, (sg_L_sw ..).mp l2⟩, by omega, by omega⟩
  · rintro ⟨⟨l1, l2⟩, p, q⟩
    exact ⟨⟨(sg_L_sw ..).mp l1, (sg_L_sw ..).mp l2⟩, by omega, by omega⟩
section
variable {P : Nat → Prop} {G H : Nat → Int × Int × Int × Int} {fo : Int32} {th en : Nat → Int32} {pt sp : Nat → Int64}
theorem y_226 {post : Int32 → Prop} {J : Int32 → Int32 → Prop} (hH : sg_TH P th) {k : Nat} (hk : k < 10) {x1 x2 x3 x7 z0 : Int32} {L A : Prop} (h7 : ¬ x7 = 0 ↔ L) (hz : z0 = 0 ↔ A)
    (h1 : (¬ x3 = 0 ∨ (P k ∧ L ∧ A)) → J 1 (nI (k + 1))) (h0 : x3 = 0 → ¬ (P k ∧ L ∧ A) → J 0 (nI (k + 1))) : wY_refused_226 post J x1 x2 x3 (nI k) x7 z0 fo th en pt sp := by
  unfold wY_refused_226
  rw [sg_c10 hk, hH k hk, nI_1]
  refine br_c (fun a => ⟨sg_in10 hk, br_c (fun b => nm_e (h0 a (fun q => b q.1))) (fun b => br_c (fun c => nm_e (h0 a (fun q => h7.mpr q.2.1 c))) (fun c => br_c (fun d => nm_e (h1 (Or.inr ⟨Classical.not_not.mp b, h7.mp c, hz.mp d⟩))) (fun d => nm_e (h0 a (fun q => d (hz.mpr q.2.2))))))⟩) (fun a => nm_e (h1 (Or.inl a)))
theorem y_105 {post : Int32 → Prop} {J : Int32 → Int32 → Prop} (hE : sg_EN H en) (hH : sg_TH P th) {k : Nat} (hk : k < 10) (hi : sg_in H k) {x1 y1 x2 y2 : Nat} (hx1 : x1 ≤ 20) (hy1 : y1 ≤ 20) (hx2 : x2 ≤ 20) (hy2 : y2 ≤ 20) {x3 z0 : Int32} {L : Prop} (h7 : ¬ z0 = 0 ↔ L)
    (h1 : (¬ x3 = 0 ∨ (P k ∧ L ∧ ((((x2 : Int) - x1) * x1 + ((y2 : Int) - y1) * y1 < ((x2 : Int) - x1) * sg_lx H k + ((y2 : Int) - y1) * sg_ly H k ∨ ((x2 : Int) - x1) * x1 + ((y2 : Int) - y1) * y1 < ((x2 : Int) - x1) * sg_hx H k + ((y2 : Int) - y1) * sg_hy H k) ∧
      (((x2 : Int) - x1) * sg_lx H k + ((y2 : Int) - y1) * sg_ly H k < ((x2 : Int) - x1) * x2 + ((y2 : Int) - y1) * y2 ∨ ((x2 : Int) - x1) * sg_hx H k + ((y2 : Int) - y1) * sg_hy H k < ((x2 : Int) - x1) * x2 + ((y2 : Int) - y1) * y2)))) → J 1 (nI (k + 1)))
    (h0 : x3 = 0 → ¬ (P k ∧ L ∧ ((((x2 : Int) - x1) * x1 + ((y2 : Int) - y1) * y1 < ((x2 : Int) - x1) * sg_lx H k + ((y2 : Int) - y1) * sg_ly H k ∨ ((x2 : Int) - x1) * x1 + ((y2 : Int) - y1) * y1 < ((x2 : Int) - x1) * sg_hx H k + ((y2 : Int) - y1) * sg_hy H k) ∧
      (((x2 : Int) - x1) * sg_lx H k + ((y2 : Int) - y1) * sg_ly H k < ((x2 : Int) - x1) * x2 + ((y2 : Int) - y1) * y2 ∨ ((x2 : Int) - x1) * sg_hx H k + ((y2 : Int) - y1) * sg_hy H k < ((x2 : Int) - x1) * x2 + ((y2 : Int) - y1) * y2))) → J 0 (nI (k + 1))) :
    wY_refused_105 post J (nI (x1 + 32 * y1)) (nI (x2 + 32 * y2)) x3 (nI k) (sg_i ((x2 : Int) - x1)) (sg_i ((y2 : Int) - y1)) z0 fo th en pt sp := by
  obtain ⟨i1, i2, i3, i4, i5, i6, i7, i8⟩ := hi
  unfold wY_refused_105 wpY_place
  dsimp only
  rw [sg_pm hx1 hy1, sg_pd hx1 hy1, sg_pm hx2 hy2, sg_pd hx2 hy2]
  refine ⟨by decide, by decide, by decide, by decide, ?_⟩
  rw [y_e0 hE hk, y_e1 hE hk]
  refine nm_e ?_
  rw [y_e2 hE hk, y_e3 hE hk]
  refine nm_e ?_
  simp only [sg_imul, sg_iadd]
  have w1 := sg_mb (a := (x2 : Int) - x1) (b := (x1 : Int)) 20 20 (by omega) (by omega) (by omega) (by omega)
  have w2 := sg_mb (a := (y2 : Int) - y1) (b := (y1 : Int)) 20 20 (by omega) (by omega) (by omega) (by omega)
  have w3 := sg_mb (a := (x2 : Int) - x1) (b := (x2 : Int)) 20 20 (by omega) (by omega) (by omega) (by omega)
  have w4 := sg_mb (a := (y2 : Int) - y1) (b := (y2 : Int)) 20 20 (by omega) (by omega) (by omega) (by omega)
  have w5 := sg_mb (a := (x2 : Int) - x1) (b := sg_lx H k) 20 20 (by omega) (by omega) (by omega) (by omega)
  have w6 := sg_mb (a := (y2 : Int) - y1) (b := sg_ly H k) 20 20 (by omega) (by omega) (by omega) (by omega)
  have w7 := sg_mb (a := (x2 : Int) - x1) (b := sg_hx H k) 20 20 (by omega) (by omega) (by omega) (by omega)
  have w8 := sg_mb (a := (y2 : Int) - y1) (b := sg_hy H k) 20 20 (by omega) (by omega) (by omega) (by omega)
  have Rlo : sg_R (((x2 : Int) - x1) * x1 + ((y2 : Int) - y1) * y1) := ⟨by omega, by omega⟩
  have Rhi : sg_R (((x2 : Int) - x1) * x2 + ((y2 : Int) - y1) * y2) := ⟨by omega, by omega⟩
  have Rp : sg_R (((x2 : Int) - x1) * sg_lx H k + ((y2 : Int) - y1) * sg_ly H k) := ⟨by omega, by omega⟩
  have Rq : sg_R (((x2 : Int) - x1) * sg_hx H k + ((y2 : Int) - y1) * sg_hy H k) := ⟨by omega, by omega⟩
  generalize ((x2 : Int) - x1) * x1 + ((y2 : Int) - y1) * y1 = lo at *
  generalize ((x2 : Int) - x1) * x2 + ((y2 : Int) - y1) * y2 = hi at *
  generalize ((x2 : Int) - x1) * sg_lx H k + ((y2 : Int) - y1) * sg_ly H k = p at *
  generalize ((x2 : Int) - x1) * sg_hx H k + ((y2 : Int) - y1) * sg_hy H k = q at *
  unfold wY_refused_189 wY_refused_205 wY_refused_221
  rw [sg_ile Rq Rp, sg_ile Rp Rlo, sg_ile Rq Rlo, sg_ilt Rp Rhi, sg_ilt Rq Rhi]
  have A1 : (1 : Int32) = 0 ↔ False := by decide
  have A0 : (0 : Int32) = 0 ↔ True := by decide
  refine br_c (fun c => br_t c (br_c (fun d => ?_) (fun d => br_c (fun e => ?_) (fun e => ?_)))) (fun c => br_f c (br_c (fun d => ?_) (fun d => br_c (fun e => ?_) (fun e => ?_))))
  · exact y_226 hH hk h7 A1 (fun z => h1 (z.elim Or.inl (fun z => z.2.2.elim))) (fun z _ => h0 z (fun o => by have := o.2.2; omega))
  · exact y_226 hH hk h7 A0 (fun z => h1 (z.elim Or.inl (fun z => Or.inr ⟨z.1, z.2.1, by omega⟩))) (fun z n => h0 z (fun o => n ⟨o.1, o.2.1, trivial⟩))
  · exact y_226 hH hk h7 A1 (fun z => h1 (z.elim Or.inl (fun z => z.2.2.elim))) (fun z _ => h0 z (fun o => by have := o.2.2; omega))
  · exact y_226 hH hk h7 A1 (fun z => h1 (z.elim Or.inl (fun z => z.2.2.elim))) (fun z _ => h0 z (fun o => by have := o.2.2; omega))
  · exact y_226 hH hk h7 A0 (fun z => h1 (z.elim Or.inl (fun z => Or.inr ⟨z.1, z.2.1, by omega⟩))) (fun z n => h0 z (fun o => n ⟨o.1, o.2.1, trivial⟩))
  · exact y_226 hH hk h7 A1 (fun z => h1 (z.elim Or.inl (fun z => z.2.2.elim))) (fun z _ => h0 z (fun o => by have := o.2.2; omega))
theorem y_refused {post : Int32 → Prop} (g : sg_Geo P G) (hG : sg_GH G H) (hE : sg_EN H en) (hH : sg_TH P th) {x1 y1 x2 y2 : Nat} (hx1 : x1 ≤ 20) (hy1 : y1 ≤ 20) (hx2 : x2 ≤ 20) (hy2 : y2 ≤ 20)
    (h1 : ∀ k, k < 10 → P k → sg_yr x1 y1 x2 y2 (sg_lx H k) (sg_ly H k) (sg_hx H k) (sg_hy H k) → post 1) (h0 : (∀ k, k < 10 → P k → ¬ sg_yr x1 y1 x2 y2 (sg_lx H k) (sg_ly H k) (sg_hx H k) (sg_hy H k)) → post 0) :
    wpY_refused post (fo, th, en, pt, sp) (nI (x1 + 32 * y1)) (nI (x2 + 32 * y2)) := by
  have key : ∀ e k, k + e = 10 → ∀ x3 : Int32, ((x3 = 0 ∧ ∀ l, l < k → P l → ¬ sg_yr x1 y1 x2 y2 (sg_lx H l) (sg_ly H l) (sg_hx H l) (sg_hy H l)) ∨ (x3 = 1 ∧ ∃ l, l < 10 ∧ P l ∧ sg_yr x1 y1 x2 y2 (sg_lx H l) (sg_ly H l) (sg_hx H l) (sg_hy H l))) →
      wY_refused_5 post (nI (x1 + 32 * y1)) (nI (x2 + 32 * y2)) fo th en pt sp (e + 1) x3 (nI k) := by
    intro e
    induction e with
    | zero =>
      intro k hk x3 hx
      have : k = 10 := by omega
      subst this
      rcases hx with ⟨rfl, n⟩ | ⟨rfl, l, hl, pl, o⟩
      · exact br_t sg_e10 ⟨rfl, h0 n⟩
      · exact br_t sg_e10 ⟨rfl, h1 l hl pl o⟩
    | succ e ih =>
      intro k hk x3 hx
      have hk' : k < 10 := by omega
      have hi := sg_GHi hG hk' (g.1 k hk')
      obtain ⟨i1, i2, i3, i4, i5, i6, i7, i8⟩ := id hi
      have go : ∀ (z0 : Int32) (L : Prop), (¬ z0 = 0 ↔ L) → (L ↔ (((x2 : Int) - x1) * (sg_ly H k - y1) = ((y2 : Int) - y1) * (sg_lx H k - x1) ∧ ((x2 : Int) - x1) * (sg_hy H k - y1) = ((y2 : Int) - y1) * (sg_hx H k - x1))) →
          wY_refused_105 post (wY_refused_5 post (nI (x1 + 32 * y1)) (nI (x2 + 32 * y2)) fo th en pt sp (e + 1)) (nI (x1 + 32 * y1)) (nI (x2 + 32 * y2)) x3 (nI k) (sg_i ((x2 : Int) - x1)) (sg_i ((y2 : Int) - y1)) z0 fo th en pt sp := by
        intro z0 L h7 hL
        refine y_105 hE hH hk' hi hx1 hy1 hx2 hy2 h7 (fun z => ih (k + 1) (by omega) 1 (Or.inr ⟨rfl, ?_⟩)) (fun a z => ih (k + 1) (by omega) 0 (Or.inl ⟨rfl, ?_⟩))
        · rcases z with z | z
          · rcases hx with ⟨a, _⟩ | ⟨_, q⟩
            · exact absurd a z
            · exact q
          · exact ⟨k, hk', z.1, hL.mp z.2.1, z.2.2⟩
        · intro l hl
          rcases Nat.lt_succ_iff_lt_or_eq.mp hl with b | b
          · rcases hx with ⟨_, q⟩ | ⟨c, _⟩
            · exact q l b
            · exact absurd (c.symm.trans a) (by decide)
          · subst b
            exact fun pl o => z ⟨pl, hL.mpr o.1, o.2⟩
      refine br_f (sg_n10 hk') ?_
      rw [sg_pm hx1 hy1, sg_pd hx1 hy1, sg_pm hx2 hy2, sg_pd hx2 hy2, sg_isub, sg_isub]
      refine ⟨by decide, by decide, nm_e ⟨by decide, by decide, nm_e ?_⟩⟩
      rw [y_e1 hE hk']
      refine ⟨by decide, ?_⟩
      rw [y_e0 hE hk']
      refine ⟨by decide, ?_⟩
      have w1 := sg_mb (a := (x2 : Int) - x1) (b := sg_ly H k - y1) 20 20 (by omega) (by omega) (by omega) (by omega)
      have w2 := sg_mb (a := (y2 : Int) - y1) (b := sg_lx H k - x1) 20 20 (by omega) (by omega) (by omega) (by omega)
      have w3 := sg_mb (a := (x2 : Int) - x1) (b := sg_hy H k - y1) 20 20 (by omega) (by omega) (by omega) (by omega)
      have w4 := sg_mb (a := (y2 : Int) - y1) (b := sg_hx H k - x1) 20 20 (by omega) (by omega) (by omega) (by omega)
      rw [y_e3 hE hk']
      simp only [y_e2 hE hk', sg_isub, sg_imul]
      rw [sg_ieq ⟨by omega, by omega⟩ ⟨by omega, by omega⟩, sg_ieq ⟨by omega, by omega⟩ ⟨by omega, by omega⟩]
      refine br_c (fun c => ⟨by decide, by decide, br_c (fun d => ?_) (fun d => ?_)⟩) (fun c => ?_)
      · exact go 1 True ⟨fun _ => trivial, fun _ => by decide⟩ ⟨fun _ => ⟨c, d⟩, fun _ => trivial⟩
      · exact go 0 False ⟨fun z => z rfl, fun z => z.elim⟩ ⟨fun z => z.elim, fun z => d z.2⟩
      · exact go 0 False ⟨fun z => z rfl, fun z => z.elim⟩ ⟨fun z => z.elim, fun z => c z.1⟩
  exact ⟨11, key 10 0 rfl 0 (Or.inl ⟨rfl, fun l hl => absurd hl (by omega)⟩)⟩
end
end
section
/-! ===== add ===== -/
theorem sg_upG {G : Nat → Int × Int × Int × Int} {n : Nat} {v : Int × Int × Int × Int} {i : Nat} (h : i ≠ n) : (fun i => if i = n then v else G i) i = G i := if_neg h
theorem sg_on_up {G : Nat → Int × Int × Int × Int} {n : Nat} {v : Int × Int × Int × Int} {i : Nat} (h : i ≠ n) (p : Rat × Rat) : sg_on (fun i => if i = n then v else G i) i p ↔ sg_on G i p := by
  unfold sg_on sg_lx sg_ly sg_hx sg_hy
  rw [sg_upG h]
/-- the state's numbers after a segment n has come: still in order, still no two with two points in common -/
theorem sg_Geo_add {P : Nat → Prop} {G : Nat → Int × Int × Int × Int} (g : sg_Geo P G) {n : Nat} (hn : n < 10) (pn : ¬ P n) {a b c d : Int} (ha : 0 ≤ a) (ha' : a ≤ 20) (hb : 0 ≤ b) (hb' : b ≤ 20) (hc : 0 ≤ c) (hc' : c ≤ 20) (hd : 0 ≤ d) (hd' : d ≤ 20) (hlt : 32 * a + b < 32 * c + d)
    (ho : ∀ k, k < 10 → P k → ¬ sg_ov G k a b c d) : sg_Geo (fun i => P i ∨ i = n) (fun i => if i = n then (a, b, c, d) else G i) := by
  have lt : sg_lt a b c d := (sg_plt hb hb' hd hd').mpr hlt
  have onn : ∀ p, sg_on (fun i => if i = n then (a, b, c, d) else G i) n p ↔ sg_O a b c d p.1 p.2 := by
    intro p
    unfold sg_on sg_lx sg_ly sg_hx sg_hy
    simp only [if_true]
  have ap : ∀ k, k < 10 → P k → ∀ p q, sg_O a b c d p.1 p.2 → sg_on G k p → sg_O a b c d q.1 q.2 → sg_on G k q → p = q := by
    intro k hk pk p q o1 o2 o3 o4
    have := sg_apart lt (sg_gl g hk pk) (ho k hk pk) o1 o2 o3 o4
    exact Prod.ext this.1 this.2
  refine ⟨fun k hk => ?_, fun k hk pk => ?_, fun i j hi hj pi pj hne p q => ?_⟩
  · by_cases e : k = n
    · unfold sg_in sg_lx sg_ly sg_hx sg_hy
      simp only [e, if_true]
      exact ⟨ha, ha', hb, hb', hc, hc', hd, hd'⟩
    · have := g.1 k hk
      unfold sg_in sg_lx sg_ly sg_hx sg_hy at *
      simp only [e, if_false]
      exact this
  · by_cases e : k = n
    · unfold sg_od sg_lx sg_ly sg_hx sg_hy
      simp only [e, if_true]
      exact hlt
    · have := g.2.1 k hk (pk.resolve_right e)
      unfold sg_od sg_lx sg_ly sg_hx sg_hy at *
      simp only [e, if_false]
      exact this
  · by_cases e : i = n
    · subst e
      have f : j ≠ i := fun q => hne q.symm
      rw [onn, onn, sg_on_up f, sg_on_up f]
      exact fun o1 o2 o3 o4 => ap j hj (pj.resolve_right f) p q o1 o2 o3 o4
    · by_cases f : j = n
      · subst f
        rw [onn, onn, sg_on_up e, sg_on_up e]
        exact fun o1 o2 o3 o4 => ap i hi (pi.resolve_right e) p q o2 o1 o4 o3
      · rw [sg_on_up e, sg_on_up e, sg_on_up f, sg_on_up f]
        exact fun o1 o2 o3 o4 => g.2.2 i j hi hj (pi.resolve_right e) (pj.resolve_right f) hne p q o1 o2 o3 o4
section
variable {P : Nat → Prop} {G H : Nat → Int × Int × Int × Int} {fo : Int32} {th en : Nat → Int32} {pt sp : Nat → Int64}
theorem y_free {post : Int32 → SY → Prop} (hH : sg_TH P th) {x1 y1 x2 y2 : Nat} (hx1 : x1 ≤ 20) (hy1 : y1 ≤ 20) (hx2 : x2 ≤ 20) (hy2 : y2 ≤ 20)
    (h : ∀ k, k < 10 → ¬ P k → (∀ l, l < k → P l) → post (nI k) (fo, upd th k 1, upd (upd (upd (upd en (4 * k) (sg_i x1)) (4 * k + 1) (sg_i y1)) (4 * k + 2) (sg_i x2)) (4 * k + 3) (sg_i y2), pt, sp))
    (h10 : (∀ l, l < 10 → P l) → post (-2) (fo, th, en, pt, sp)) : ∃ n, wY_add_37 post (nI (x1 + 32 * y1)) (nI (x2 + 32 * y2)) fo th en pt sp n 0 := by
  have key : ∀ e k, k + e = 10 → (∀ l, l < k → P l) → wY_add_37 post (nI (x1 + 32 * y1)) (nI (x2 + 32 * y2)) fo th en pt sp (e + 1) (nI k) := by
    intro e
    induction e with
    | zero =>
      intro k hk hn
      have : k = 10 := by omega
      subst this
      exact br_t sg_e10 (h10 hn)
    | succ e ih =>
      intro k hk hn
      have hk' : k < 10 := by omega
      refine br_f (sg_n10 hk') ⟨sg_in10 hk', ?_⟩
      rw [sg_c10 hk', hH k hk', sg_nb1]
      refine br_c (fun q => ⟨sg_in10 hk', nm_e ?_⟩) (fun q => nm_r (nI_1 k) (ih (k + 1) (by omega) ?_))
      · unfold wpY_put
        dsimp only
        rw [sg_x1, sg_x2, sg_x3, sg_i4, sg_cl (show 4 * k < 1000 by omega), sg_cl (show 4 * k + 1 < 1000 by omega), sg_cl (show 4 * k + 2 < 1000 by omega), sg_cl (show 4 * k + 3 < 1000 by omega), sg_pm hx1 hy1, sg_pd hx1 hy1, sg_pm hx2 hy2, sg_pd hx2 hy2]
        exact ⟨by decide, sg_in40 (by omega), nm_e ⟨by decide, sg_in40 (by omega), nm_e ⟨by decide, sg_in40 (by omega), nm_e ⟨by decide, sg_in40 (by omega), nm_e (h k hk' q hn)⟩⟩⟩⟩
      · intro l hl
        rcases Nat.lt_succ_iff_lt_or_eq.mp hl with a | a
        · exact hn l a
        · subst a; exact Classical.not_not.mp q
  exact ⟨11, key 10 0 rfl (fun l hl => absurd hl (by omega))⟩
theorem sg_least {k l : Nat} (h1 : ¬ P k) (h2 : ∀ i, i < k → P i) (h3 : ¬ P l) (h4 : ∀ i, i < l → P i) : k = l := by
  rcases Nat.lt_trichotomy k l with c | c | c
  · exact absurd (h4 k c) h1
  · exact c
  · exact absurd (h2 l c) h3
end
/-- the two sides of add once the new segment's numbers are known: (a, b) comes before (c, d), and Y has them so or turned about -/
theorem sg_add {P : Nat → Prop} {G H : Nat → Int × Int × Int × Int} {m : Nat} {T : Nat → Rat × Rat} {pr cX cY cB : Int32} {low high tX bX tY bY pa : Nat → Int32} {fo : Int32} {th en : Nat → Int32} {pt sp : Nat → Int64}
    (I : sg_St P G H m T pr (nI m) low high tX bX tY bY pa th en) {a b c d x1 y1 x2 y2 : Nat} (ha : a ≤ 20) (hb : b ≤ 20) (hc : c ≤ 20) (hd : d ≤ 20) (hx1 : x1 ≤ 20) (hy1 : y1 ≤ 20) (hx2 : x2 ≤ 20) (hy2 : y2 ≤ 20)
    (hlt : 32 * a + b < 32 * c + d) (ho : (x1 = a ∧ y1 = b ∧ x2 = c ∧ y2 = d) ∨ (x1 = c ∧ y1 = d ∧ x2 = a ∧ y2 = b)) {Q : Int32 → SX → Int32 → SY → Prop} (hQ : ∀ r u v, sg_Rel u v → Q r u r v) {post : Int32 → SX → Prop}
    (hp : ∀ r u, wpY_refused (fun r_16 => ((r_16 = 0 → (∃ n37 : Nat, wY_add_37 (fun r' v' => Q r u r' v') (nI (x1 + 32 * y1)) (nI (x2 + 32 * y2)) fo th en pt sp n37 0)) ∧ (¬ r_16 = 0 → Q r u (-3) (fo, th, en, pt, sp)))) (fo, th, en, pt, sp) (nI (x1 + 32 * y1)) (nI (x2 + 32 * y2)) → post r u) :
    wX_add_58 post
      (sg_i (32 * (a : Int) + b)) (sg_i (32 * (c : Int) + d)) pr (nI m) cX cY cB low high tX bX tY bY pa := by
  obtain ⟨g, hG, hP, hl, hE, hH, _, hm, hX, hT, hM⟩ := id I
  have lt : sg_lt ((a : Int) : Rat) ((b : Int) : Rat) ((c : Int) : Rat) ((d : Int) : Rat) := (sg_plt (by omega) (by omega) (by omega) (by omega)).mpr (by omega)
  have eqv : ∀ k, k < 10 → P k → (sg_yr x1 y1 x2 y2 (sg_lx H k) (sg_ly H k) (sg_hx H k) (sg_hy H k) ↔ sg_ov G k a b c d) := by
    intro k hk pk
    have hk' := sg_gl g hk pk
    have e1 : sg_yr x1 y1 x2 y2 (sg_lx H k) (sg_ly H k) (sg_hx H k) (sg_hy H k) ↔ sg_yr x1 y1 x2 y2 (sg_lx G k) (sg_ly G k) (sg_hx G k) (sg_hy G k) := by
      rcases hG k hk with e | e
      · unfold sg_lx sg_ly sg_hx sg_hy; rw [e]
      · unfold sg_lx sg_ly sg_hx sg_hy at *; rw [e]; exact sg_yr_sw ..
    rw [e1]
    rcases ho with ⟨rfl, rfl, rfl, rfl⟩ | ⟨rfl, rfl, rfl, rfl⟩
    · exact sg_yr_g lt hk'
    · exact sg_yr_r lt hk'
  unfold wX_add_58
  refine x_overlapsAny hP hl g.1 (by omega) (by omega) (by omega) (by omega) (by omega) (by omega) (by omega) (by omega) (fun k hk pk o => br_f (by decide) ?_) (fun hn => br_t rfl ?_)
  · refine hp _ _ ?_
    exact y_refused g hG hE hH hx1 hy1 hx2 hy2 (fun _ _ _ _ => br_f (by decide) (hQ _ _ _ ⟨P, G, H, m, T, I⟩)) (fun n => absurd ((eqv k hk pk).mpr o) (n k hk pk))
  · have nr : ∀ {z : Int32 → Prop}, z 0 → wpY_refused z (fo, th, en, pt, sp) (nI (x1 + 32 * y1)) (nI (x2 + 32 * y2)) := fun hz => y_refused g hG hE hH hx1 hy1 hx2 hy2 (fun k hk pk o => absurd ((eqv k hk pk).mp o) (hn k hk pk)) (fun _ => hz)
    refine x_leastFree hP (fun k hk pk hk2 => br_t (nI_lt (b := 10) hk (by decide)) ⟨sg_in10 hk, ?_⟩) (fun hall => br_f (by decide) (hp _ _ (nr (br_t rfl (y_free hH hx1 hy1 hx2 hy2 (fun k hk pk _ => absurd (hall k hk) pk) (fun _ => hQ _ _ _ ⟨P, G, H, m, T, I⟩))))))
    rw [sg_c10 hk]
    refine nm_e ⟨sg_in10 hk, nm_e (nm_e ?_)⟩
    have g' := sg_Geo_add g hk pk (show (0 : Int) ≤ a by omega) (by omega) (show (0 : Int) ≤ b by omega) (by omega) (show (0 : Int) ≤ c by omega) (by omega) (show (0 : Int) ≤ d by omega) (by omega) (by omega) hn
    have hP' := sg_Mor hP (sg_M1 hk)
    have hl' : sg_LH (fun i => if i = k then ((a : Int), (b : Int), (c : Int), (d : Int)) else G i) (upd low k (sg_i (32 * (a : Int) + b))) (upd high k (sg_i (32 * (c : Int) + d))) := by
      intro i hi
      unfold sg_lx sg_ly sg_hx sg_hy
      by_cases e : i = k
      · subst e
        rw [pk_us, pk_us]
        simp only [if_true]
        exact ⟨trivial, trivial⟩
      · rw [pk_un e, pk_un e, sg_upG e]
        exact hl i hi
    refine x_findMeetings g' hP' hl' (fun m' T' cX cY cB tX bX tY bY pa hm' hX' hT' hM' => hp _ _ (nr (br_t rfl (y_free hH hx1 hy1 hx2 hy2 (fun k' hk' pk' hk2' => ?_) (fun hall => absurd (hall k hk) pk)))))
    have := sg_least pk hk2 pk' hk2'
    subst this
    refine hQ _ _ _ ⟨_, _, fun i => if i = k then ((x1 : Int), (y1 : Int), (x2 : Int), (y2 : Int)) else H i, m', T', g', ?_, hP', hl', ?_, ?_, rfl, hm', hX', hT', hM'⟩
    · intro i hi
      by_cases e : i = k
      · subst e
        simp only [if_true, sg_lx, sg_ly, sg_hx, sg_hy]
        rcases ho with ⟨rfl, rfl, rfl, rfl⟩ | ⟨rfl, rfl, rfl, rfl⟩
        · exact Or.inl rfl
        · exact Or.inr rfl
      · have := hG i hi
        unfold sg_lx sg_ly sg_hx sg_hy at *
        simp only [e, if_false]
        exact this
    · intro i hi
      by_cases e : i = k
      · subst e
        simp only [if_true, sg_lx, sg_ly, sg_hx, sg_hy]
        rw [pk_un (by omega), pk_un (by omega), pk_un (by omega), pk_us, pk_un (by omega), pk_un (by omega), pk_us, pk_un (by omega), pk_us, pk_us]
        exact ⟨rfl, rfl, rfl, rfl⟩
      · have un : ∀ j, (j < 4 * k ∨ 4 * k + 3 < j) → (upd (upd (upd (upd en (4 * k) (sg_i x1)) (4 * k + 1) (sg_i y1)) (4 * k + 2) (sg_i x2)) (4 * k + 3) (sg_i y2)) j = en j := by
          intro j hj
          rw [pk_un (by omega), pk_un (by omega), pk_un (by omega), pk_un (by omega)]
        rw [un _ (by omega), un _ (by omega), un _ (by omega), un _ (by omega)]
        have := hE i hi
        unfold sg_lx sg_ly sg_hx sg_hy at *
        simp only [e, if_false]
        exact this
    · intro i hi
      by_cases e : i = k
      · subst e
        rw [pk_us]
        exact ⟨fun q => absurd q (by decide), fun q => absurd (Or.inr rfl) q⟩
      · rw [pk_un e, hH i hi]
        exact ⟨fun q r => r.elim q e, fun q r => q (Or.inl r)⟩
theorem i_vc_add {k : Nat} {u : SX} {v : SY} (I : i_Rel k u v) (hk : k + 3 ≤ 1536) (v1 : Int32) (v2 : Int32) : wpX_add (fun r u' => wpY_add (fun r' v' => r' = r ∧ i_Rel (k + 3) u' v') v v1 v2) u v1 v2 := by
  obtain ⟨pr, mc, cX, cY, cB, low, high, tX, bX, tY, bY, pa⟩ := u
  obtain ⟨fo, th, en, pt, sp⟩ := v
  obtain ⟨P, G, H, m, T, I⟩ := I
  obtain ⟨g, hG, hP, hl, hE, hH, rfl, hm, hX, hT, hM⟩ := id I
  unfold wpX_add wpY_add; dsimp only
  refine x_isPoint (fun x1 y1 hx1 hy1 e1 => br_f (by decide) ?_) (fun n => br_t rfl (y_isPoint (fun x y hx hy e => absurd e (n x y hx hy)) (fun _ => br_t rfl ⟨rfl, P, G, H, m, T, I⟩)))
  have yp1 : ∀ {post : Int32 → Prop}, post 1 → wpY_isPoint post (fo, th, en, pt, sp) v1 := fun h => y_isPoint (fun _ _ _ _ _ => h) (fun n => absurd e1 (n x1 y1 hx1 hy1))
  refine x_isPoint (fun x2 y2 hx2 hy2 e2 => br_f (by decide) ?_) (fun n => br_t rfl (yp1 (br_f (by decide) (y_isPoint (fun x y hx hy e => absurd e (n x y hx hy)) (fun _ => br_t rfl ⟨rfl, P, G, H, m, T, I⟩)))))
  have yp2 : ∀ {post : Int32 → Prop}, post 1 → wpY_isPoint post (fo, th, en, pt, sp) v2 := fun h => y_isPoint (fun _ _ _ _ _ => h) (fun n => absurd e2 (n x2 y2 hx2 hy2))
  refine br_c (fun e => yp1 (br_f (by decide) (yp2 (br_f (by decide) (br_t e ⟨rfl, P, G, H, m, T, I⟩))))) (fun ne => ?_)
  subst e1 e2
  have ne' : ¬ (x1 = x2 ∧ y1 = y2) := by rintro ⟨rfl, rfl⟩; exact ne rfl
  refine x_placeOf hx1 hy1 (x_placeOf hx2 hy2 ?_)
  have Ra := sg_Rp (x := (x1 : Int)) (y := (y1 : Int)) (by omega) (by omega) (by omega) (by omega)
  have Rb := sg_Rp (x := (x2 : Int)) (y := (y2 : Int)) (by omega) (by omega) (by omega) (by omega)
  unfold wX_add_44
  rw [sg_ile Rb Ra]
  refine br_c (fun q => br_t q ?_) (fun q => br_f q ?_)
  · exact sg_add (Q := fun r u' r' v' => r' = r ∧ i_Rel (k + 3) u' v') I hx2 hy2 hx1 hy1 hx1 hy1 hx2 hy2 (by omega) (Or.inr ⟨rfl, rfl, rfl, rfl⟩) (fun r u v h => ⟨rfl, h⟩)
      (fun r u h => yp1 (br_f (by decide) (yp2 (br_f (by decide) (br_f ne h)))))
  · exact sg_add (Q := fun r u' r' v' => r' = r ∧ i_Rel (k + 3) u' v') I hx1 hy1 hx2 hy2 hx1 hy1 hx2 hy2 (by omega) (Or.inl ⟨rfl, rfl, rfl, rfl⟩) (fun r u v h => ⟨rfl, h⟩)
      (fun r u h => yp1 (br_f (by decide) (yp2 (br_f (by decide) (br_f ne h)))))
end
section
/-! ===== above, below: both sides in step ===== -/
section
variable {P : Nat → Prop} {G H : Nat → Int × Int × Int × Int} {pr mc cX cY cB : Int32} {low high tX bX tY bY pa : Nat → Int32} {fo : Int32} {th en : Nat → Int32} {pt sp : Nat → Int64}
theorem x_reaches {post : Int32 → Prop} (hl : sg_LH G low high) {k : Nat} (hk : k < 10) (hi : sg_in G k) {x y : Int} (hx : 0 ≤ x) (hx' : x ≤ 20) (hy : 0 ≤ y) (hy' : y ≤ 20)
    (h1 : sg_lx G k < sg_hx G k → sg_lx G k ≤ x → x ≤ sg_hx G k → post 1) (h0 : ¬ (sg_lx G k < sg_hx G k ∧ sg_lx G k ≤ x ∧ x ≤ sg_hx G k) → post 0) : wpX_reachesColumn post (pr, mc, cX, cY, cB, low, high, tX, bX, tY, bY, pa) (sg_i (32 * x + y)) (nI k) := by
  obtain ⟨i1, i2, i3, i4, i5, i6, i7, i8⟩ := hi
  simp only [wpX_reachesColumn, wpX_xOf, sg_c10 hk, (hl k hk).1, (hl k hk).2, sg_px i1 i2 i3 i4, sg_px i5 i6 i7 i8, sg_px hx hx' hy hy', sg_in10 hk, true_and]
  rw [sg_ile ⟨by omega, by omega⟩ ⟨by omega, by omega⟩, sg_ilt ⟨by omega, by omega⟩ ⟨by omega, by omega⟩, sg_ilt ⟨by omega, by omega⟩ ⟨by omega, by omega⟩]
  exact br_c (fun a => h0 (by omega)) (fun a => br_c (fun b => h0 (by omega)) (fun b => br_c (fun c => h0 (by omega)) (fun c => h1 (by omega) (by omega) (by omega))))
def sg_ht (G : Nat → Int × Int × Int × Int) (k : Nat) (x y : Int) : Int := (sg_ly G k - y) * (sg_hx G k - sg_lx G k) + (sg_hy G k - sg_ly G k) * (x - sg_lx G k)
theorem x_height {post : Int32 → Prop} (hl : sg_LH G low high) {k : Nat} (hk : k < 10) (hi : sg_in G k) {x y : Int} (hx : 0 ≤ x) (hx' : x ≤ 20) (hy : 0 ≤ y) (hy' : y ≤ 20)
    (h : post (sg_i (sg_ht G k x y))) : wpX_scaledHeight post (pr, mc, cX, cY, cB, low, high, tX, bX, tY, bY, pa) (sg_i (32 * x + y)) (nI k) := by
  obtain ⟨i1, i2, i3, i4, i5, i6, i7, i8⟩ := hi
  simp only [wpX_scaledHeight, wpX_xOf, wpX_yOf, sg_c10 hk, (hl k hk).1, (hl k hk).2, sg_px i1 i2 i3 i4, sg_py i1 i2 i3 i4, sg_px i5 i6 i7 i8, sg_py i5 i6 i7 i8, sg_px hx hx' hy hy', sg_py hx hx' hy hy', sg_isub, sg_imul, sg_iadd, forall_eq, sg_in10 hk, true_and]
  exact h
theorem y_149 {post : Int32 → Prop} {J : Int32 → Int32 → Int32 → Int32 → Prop} (hE : sg_EN H en) {k : Nat} (hk : k < 10) {x y : Nat} (hx : x ≤ 20) (hy : y ≤ 20) {x2 x3 x4 x5 x9 x10 z0 z1 : Int32}
    (h0 : x9 = 0 → J x3 x4 x5 (nI (k + 1)))
    (h1 : ¬ x9 = 0 → (x2 * ((sg_i (sg_ly H k) - sg_i y) * x10 + z1 * z0) ≤ 0 → J x3 x4 x5 (nI (k + 1))) ∧ (¬ x2 * ((sg_i (sg_ly H k) - sg_i y) * x10 + z1 * z0) ≤ 0 →
      ((x3 < 0 → J (nI k) (x2 * ((sg_i (sg_ly H k) - sg_i y) * x10 + z1 * z0)) x10 (nI (k + 1))) ∧ (¬ x3 < 0 →
        ((x4 * x10 ≤ x2 * ((sg_i (sg_ly H k) - sg_i y) * x10 + z1 * z0) * x5 → J x3 x4 x5 (nI (k + 1))) ∧ (¬ x4 * x10 ≤ x2 * ((sg_i (sg_ly H k) - sg_i y) * x10 + z1 * z0) * x5 → J (nI k) (x2 * ((sg_i (sg_ly H k) - sg_i y) * x10 + z1 * z0)) x10 (nI (k + 1)))))))) :
    wY_nearest_149 post J (nI (x + 32 * y)) x2 x3 x4 x5 (nI k) x9 x10 z0 z1 fo th en pt sp := by
  unfold wY_nearest_149 wY_nearest_201
  refine nm_e ?_
  rw [y_e1 hE hk, sg_pd hx hy, nI_1]
  refine ⟨by decide, nm_e (br_c (fun a => nm_e (h0 a)) (fun a => ?_))⟩
  obtain ⟨p, q⟩ := h1 a
  refine ⟨fun b => nm_e (p b), fun b => ?_⟩
  obtain ⟨r, s⟩ := q b
  refine ⟨fun c => nm_e (r c), fun c => ?_⟩
  obtain ⟨t, w⟩ := s c
  exact ⟨fun d => nm_e (t d), fun d => nm_e (w d)⟩
theorem y_96z {post : Int32 → Prop} {J : Int32 → Int32 → Int32 → Int32 → Prop} (hE : sg_EN H en) {k : Nat} (hk : k < 10) {x y : Nat} (hx : x ≤ 20) (hy : y ≤ 20) {x2 x3 x4 x5 x7 x8 : Int32}
    (h0 : J x3 x4 x5 (nI (k + 1))) : wY_nearest_96 post J (nI (x + 32 * y)) x2 x3 x4 x5 (nI k) x7 x8 0 fo th en pt sp := by
  unfold wY_nearest_96 wY_nearest_111
  simp only [y_e0 hE hk, y_e1 hE hk, y_e3 hE hk]
  have z : ∀ x10 z0 z1 : Int32, wY_nearest_149 post J (nI (x + 32 * y)) x2 x3 x4 x5 (nI k) 0 x10 z0 z1 fo th en pt sp := fun _ _ _ => y_149 hE hk hx hy (fun _ => h0) (fun a => absurd rfl a)
  exact br_c (fun a => br_c (fun _ => z _ _ _) (fun _ => z _ _ _)) (fun a => br_c (fun _ => z _ _ _) (fun _ => z _ _ _))
theorem y_96o {post : Int32 → Prop} {J : Int32 → Int32 → Int32 → Int32 → Prop} (g : sg_Geo P G) (hG : sg_GH G H) (hE : sg_EN H en) {k : Nat} (hk : k < 10) {x y : Nat} (hx : x ≤ 20) (hy : y ≤ 20) (hlt : sg_lx G k < sg_hx G k) {x2 x3 x4 x5 : Int32}
    (h : (x2 * sg_i (sg_ht G k x y) ≤ 0 → J x3 x4 x5 (nI (k + 1))) ∧ (¬ x2 * sg_i (sg_ht G k x y) ≤ 0 →
      ((x3 < 0 → J (nI k) (x2 * sg_i (sg_ht G k x y)) (sg_i (sg_hx G k - sg_lx G k)) (nI (k + 1))) ∧ (¬ x3 < 0 →
        ((x4 * sg_i (sg_hx G k - sg_lx G k) ≤ x2 * sg_i (sg_ht G k x y) * x5 → J x3 x4 x5 (nI (k + 1))) ∧ (¬ x4 * sg_i (sg_hx G k - sg_lx G k) ≤ x2 * sg_i (sg_ht G k x y) * x5 → J (nI k) (x2 * sg_i (sg_ht G k x y)) (sg_i (sg_hx G k - sg_lx G k)) (nI (k + 1)))))))) :
    wY_nearest_96 post J (nI (x + 32 * y)) x2 x3 x4 x5 (nI k) (sg_i (sg_hx H k - sg_lx H k)) (sg_i x) 1 fo th en pt sp := by
  have hi := g.1 k hk
  obtain ⟨i1, i2, i3, i4, i5, i6, i7, i8⟩ := hi
  obtain ⟨j1, j2, j3, j4, j5, j6, j7, j8⟩ := sg_GHi hG hk (g.1 k hk)
  unfold wY_nearest_96 wY_nearest_111
  simp only [y_e0 hE hk, y_e1 hE hk, y_e3 hE hk, sg_isub, sg_imul, sg_ineg]
  rw [sg_iz0 ⟨by omega, by omega⟩]
  have fin : ∀ (w s : Int), w = sg_hx G k - sg_lx G k → (sg_ly H k - y) * w + (sg_hy H k - sg_ly H k) * (x - sg_lx H k) * s = sg_ht G k x y →
      wY_nearest_149 post J (nI (x + 32 * y)) x2 x3 x4 x5 (nI k) 1 (sg_i w) (sg_i s) (sg_i ((sg_hy H k - sg_ly H k) * (x - sg_lx H k))) fo th en pt sp := by
    intro w s ew es
    refine y_149 hE hk hx hy (fun a => absurd a (by decide)) (fun _ => ?_)
    rw [sg_isub, sg_imul, sg_imul, sg_iadd, es, ew]
    exact h
  rcases hG k hk with e | e
  · have e0 : sg_lx H k = sg_lx G k := by unfold sg_lx; rw [e]
    have e1 : sg_ly H k = sg_ly G k := by unfold sg_ly; rw [e]
    have e2 : sg_hx H k = sg_hx G k := by unfold sg_hx; rw [e]
    have e3 : sg_hy H k = sg_hy G k := by unfold sg_hy; rw [e]
    have c : 0 ≤ sg_hx H k - sg_lx H k := by omega
    refine br_t c (br_t c ?_)
    refine fin _ 1 (by rw [e2, e0]) ?_
    rw [e0, e1, e2, e3]
    unfold sg_ht
    rw [Int.mul_one]
  · have e0 : sg_lx H k = sg_hx G k := by unfold sg_lx; rw [e]
    have e1 : sg_ly H k = sg_hy G k := by unfold sg_ly; rw [e]
    have e2 : sg_hx H k = sg_lx G k := by unfold sg_hx; rw [e]
    have e3 : sg_hy H k = sg_ly G k := by unfold sg_hy; rw [e]
    have c : ¬ 0 ≤ sg_hx H k - sg_lx H k := by omega
    refine br_f c (br_f c ?_)
    refine fin (-(sg_hx H k - sg_lx H k)) (-1) (by rw [e2, e0]; omega) ?_
    rw [e0, e1, e2, e3]
    unfold sg_ht
    grind
theorem sg_step {x y : Nat} (hx : x ≤ 20) (hy : y ≤ 20) (g : sg_Geo P G) (hG : sg_GH G H) (hP : sg_M pr P) (hl : sg_LH G low high) (hE : sg_EN H en) (hH : sg_TH P th) (d2 : Int32) :
    ∀ e k, k + e = 10 → ∀ b w z : Int32, (b = -1 ∨ ∃ l, l < 10 ∧ b = nI l) → ∃ r : Int32, (∀ post : Int32 → Prop, post r → wX_nearest_26 post d2 (sg_i (32 * (x : Int) + y)) pr mc cX cY cB low high tX bX tY bY pa (e + 1) b w z (nI k)) ∧ (∀ post : Int32 → Prop, post r → wY_nearest_21 post (nI (x + 32 * y)) d2 fo th en pt sp (e + 1) b w z (nI k)) := by
  intro e
  induction e with
  | zero =>
    intro k hk b w z hb
    have : k = 10 := by omega
    subst this
    exact ⟨b, fun post hp => br_t sg_e10 hp, fun post hp => br_t sg_e10 hp⟩
  | succ e ih =>
    intro k hk b w z hb
    have hk' : k < 10 := by omega
    have hi := g.1 k hk'
    obtain ⟨i1, i2, i3, i4, i5, i6, i7, i8⟩ := id hi
    obtain ⟨j1, j2, j3, j4, j5, j6, j7, j8⟩ := sg_GHi hG hk' hi
    -- Y's way to the join
    have yw : ∀ post : Int32 → Prop, (¬ (P k ∧ sg_lx G k < sg_hx G k ∧ sg_lx G k ≤ x ∧ x ≤ sg_hx G k) → wY_nearest_96 post (wY_nearest_21 post (nI (x + 32 * y)) d2 fo th en pt sp (e + 1)) (nI (x + 32 * y)) d2 b w z (nI k) (sg_i (sg_hx H k - sg_lx H k)) (sg_i x) 0 fo th en pt sp) →
        (P k → sg_lx G k < sg_hx G k → sg_lx G k ≤ x → x ≤ sg_hx G k → wY_nearest_96 post (wY_nearest_21 post (nI (x + 32 * y)) d2 fo th en pt sp (e + 1)) (nI (x + 32 * y)) d2 b w z (nI k) (sg_i (sg_hx H k - sg_lx H k)) (sg_i x) 1 fo th en pt sp) →
        wY_nearest_21 post (nI (x + 32 * y)) d2 fo th en pt sp (e + 1 + 1) b w z (nI k) := by
      intro post n0 n1
      refine br_f (sg_n10 hk') ?_
      rw [y_e2 hE hk', y_e0 hE hk', sg_isub]
      refine nm_e ⟨by decide, ?_⟩
      rw [sg_pm hx hy]
      refine nm_e ⟨sg_in10 hk', ?_⟩
      rw [sg_c10 hk', hH k hk', sg_iz ⟨by omega, by omega⟩, y_e0 hE hk', y_e2 hE hk', sg_il (a := (x : Int)) ⟨by omega, by omega⟩]
      unfold wY_nearest_95
      refine br_c (fun q => n0 (fun a => q a.1)) (fun q => ?_)
      have pk := Classical.not_not.mp q
      have od := g.2.1 k hk' pk
      unfold sg_od at od
      have ex : (sg_lx H k = sg_lx G k ∧ sg_hx H k = sg_hx G k) ∨ (sg_lx H k = sg_hx G k ∧ sg_hx H k = sg_lx G k) := by
        rcases hG k hk' with e | e
        · left; unfold sg_lx sg_hx; rw [e]; exact ⟨rfl, rfl⟩
        · right; unfold sg_lx sg_hx; rw [e]; exact ⟨rfl, rfl⟩
      refine br_c (fun c => n0 (fun a => by omega)) (fun c => ?_)
      refine y_between (b := 1) (r := ((x : Int) : Rat)) (Rat.mul_one _) (by omega) (by omega) (by omega) (by omega) j1 j2 j5 j6 (fun s => br_f (by decide) ?_) (fun s => br_t rfl (n0 (fun a => s ?_)))
      · unfold sg_bt at s
        rw [Rat.intCast_le_intCast, Rat.intCast_le_intCast, Rat.intCast_le_intCast, Rat.intCast_le_intCast] at s
        exact n1 pk (by omega) (by omega) (by omega)
      · unfold sg_bt
        rw [Rat.intCast_le_intCast, Rat.intCast_le_intCast, Rat.intCast_le_intCast, Rat.intCast_le_intCast]
        omega
    by_cases act : P k ∧ sg_lx G k < sg_hx G k ∧ sg_lx G k ≤ x ∧ x ≤ sg_hx G k
    · obtain ⟨pk, a1, a2, a3⟩ := act
      have xw : ∀ post : Int32 → Prop, ((d2 * sg_i (sg_ht G k x y) ≤ 0 → (∀ q, q = nI k + 1 → wX_nearest_26 post d2 (sg_i (32 * (x : Int) + y)) pr mc cX cY cB low high tX bX tY bY pa (e + 1) b w z q)) ∧ (¬ d2 * sg_i (sg_ht G k x y) ≤ 0 →
          ((b = -1 → (∀ q, q = nI k + 1 → wX_nearest_26 post d2 (sg_i (32 * (x : Int) + y)) pr mc cX cY cB low high tX bX tY bY pa (e + 1) (nI k) (d2 * sg_i (sg_ht G k x y)) (sg_i (sg_hx G k - sg_lx G k)) q)) ∧ (¬ b = -1 →
            ((w * sg_i (sg_hx G k - sg_lx G k) ≤ d2 * sg_i (sg_ht G k x y) * z → (∀ q, q = nI k + 1 → wX_nearest_26 post d2 (sg_i (32 * (x : Int) + y)) pr mc cX cY cB low high tX bX tY bY pa (e + 1) b w z q)) ∧
             (¬ w * sg_i (sg_hx G k - sg_lx G k) ≤ d2 * sg_i (sg_ht G k x y) * z → (∀ q, q = nI k + 1 → wX_nearest_26 post d2 (sg_i (32 * (x : Int) + y)) pr mc cX cY cB low high tX bX tY bY pa (e + 1) (nI k) (d2 * sg_i (sg_ht G k x y)) (sg_i (sg_hx G k - sg_lx G k)) q))))))) →
          wX_nearest_26 post d2 (sg_i (32 * (x : Int) + y)) pr mc cX cY cB low high tX bX tY bY pa (e + 1 + 1) b w z (nI k) := by
        intro post h
        refine br_f (sg_n10 hk') (x_isPresent hP hk' (fun _ => br_f (by decide) ?_) (fun q => absurd pk q))
        refine x_reaches hl hk' hi (by omega) (by omega) (by omega) (by omega) (fun _ _ _ => br_f (by decide) ⟨sg_in10 hk', ?_⟩) (fun q => absurd ⟨a1, a2, a3⟩ q)
        unfold wpX_xOf
        rw [sg_c10 hk', (hl k hk').1, (hl k hk').2, sg_px i1 i2 i3 i4, sg_px i5 i6 i7 i8]
        dsimp only
        rw [sg_isub]
        exact ⟨sg_in10 hk', nm_e (x_height hl hk' hi (by omega) (by omega) (by omega) (by omega) (nm_e h))⟩
      have bneg : b = -1 ↔ b < 0 := by
        rcases hb with rfl | ⟨l, hl, rfl⟩
        · decide
        · constructor
          · intro q
            have : nI l < 0 := by rw [q]; decide
            exact absurd this (nI_pos (by omega))
          · intro q
            exact absurd q (nI_pos (by omega))
      by_cases c1 : d2 * sg_i (sg_ht G k x y) ≤ 0
      · obtain ⟨r, hX, hY⟩ := ih (k + 1) (by omega) b w z hb
        refine ⟨r, fun post hp => xw post (br_t c1 (nm_r (nI_1 k) (hX post hp))), fun post hp => yw post (fun q => absurd ⟨pk, a1, a2, a3⟩ q) (fun _ _ _ _ => y_96o g hG hE hk' hx hy a1 (br_t c1 (hY post hp)))⟩
      · by_cases c2 : b = -1
        · obtain ⟨r, hX, hY⟩ := ih (k + 1) (by omega) (nI k) (d2 * sg_i (sg_ht G k x y)) (sg_i (sg_hx G k - sg_lx G k)) (Or.inr ⟨k, hk', rfl⟩)
          refine ⟨r, fun post hp => xw post (br_f c1 (br_t c2 (nm_r (nI_1 k) (hX post hp)))), fun post hp => yw post (fun q => absurd ⟨pk, a1, a2, a3⟩ q) (fun _ _ _ _ => y_96o g hG hE hk' hx hy a1 (br_f c1 (br_t (bneg.mp c2) (hY post hp))))⟩
        · by_cases c3 : w * sg_i (sg_hx G k - sg_lx G k) ≤ d2 * sg_i (sg_ht G k x y) * z
          · obtain ⟨r, hX, hY⟩ := ih (k + 1) (by omega) b w z hb
            refine ⟨r, fun post hp => xw post (br_f c1 (br_f c2 (br_t c3 (nm_r (nI_1 k) (hX post hp))))), fun post hp => yw post (fun q => absurd ⟨pk, a1, a2, a3⟩ q) (fun _ _ _ _ => y_96o g hG hE hk' hx hy a1 (br_f c1 (br_f (fun q => c2 (bneg.mpr q)) (br_t c3 (hY post hp)))))⟩
          · obtain ⟨r, hX, hY⟩ := ih (k + 1) (by omega) (nI k) (d2 * sg_i (sg_ht G k x y)) (sg_i (sg_hx G k - sg_lx G k)) (Or.inr ⟨k, hk', rfl⟩)
            refine ⟨r, fun post hp => xw post (br_f c1 (br_f c2 (br_f c3 (nm_r (nI_1 k) (hX post hp))))), fun post hp => yw post (fun q => absurd ⟨pk, a1, a2, a3⟩ q) (fun _ _ _ _ => y_96o g hG hE hk' hx hy a1 (br_f c1 (br_f (fun q => c2 (bneg.mpr q)) (br_f c3 (hY post hp)))))⟩
    · obtain ⟨r, hX, hY⟩ := ih (k + 1) (by omega) b w z hb
      refine ⟨r, fun post hp => ?_, fun post hp => yw post (fun _ => y_96z hE hk' hx hy (hY post hp)) (fun a1 a2 a3 a4 => absurd ⟨a1, a2, a3, a4⟩ act)⟩
      refine br_f (sg_n10 hk') (x_isPresent hP hk' (fun pk => br_f (by decide) ?_) (fun q => br_t rfl (nm_r (nI_1 k) (hX post hp))))
      exact x_reaches hl hk' hi (by omega) (by omega) (by omega) (by omega) (fun a b c => absurd ⟨pk, a, b, c⟩ act) (fun q => br_t rfl (nm_r (nI_1 k) (hX post hp)))
theorem sg_near {m : Nat} {T : Nat → Rat × Rat} (I : sg_St P G H m T pr mc low high tX bX tY bY pa th en) (v1 d2 : Int32) {Q : Int32 → Int32 → Prop} (hQ : ∀ r, Q r r) : wpX_nearest (fun r => wpY_nearest (fun r' => Q r r') (fo, th, en, pt, sp) v1 d2) (pr, mc, cX, cY, cB, low, high, tX, bX, tY, bY, pa) v1 d2 := by
  obtain ⟨g, hG, hP, hl, hE, hH, rfl, hm, hX, hT, hM⟩ := id I
  unfold wpX_nearest wpY_nearest; dsimp only
  refine x_isPoint (fun x y hx hy e => br_f (by decide) ?_) (fun n => br_t rfl (y_isPoint (fun x y hx hy e => absurd e (n x y hx hy)) (fun _ => br_t rfl (hQ _))))
  subst e
  obtain ⟨r, hX, hY⟩ := sg_step (pr := pr) (mc := nI m) (cX := cX) (cY := cY) (cB := cB) (tX := tX) (bX := bX) (tY := tY) (bY := bY) (pa := pa) (fo := fo) (pt := pt) (sp := sp) hx hy g hG hP hl hE hH d2 10 0 rfl (-1) 0 1 (Or.inl rfl)
  refine x_placeOf hx hy ⟨11, hX _ ?_⟩
  exact y_isPoint (fun _ _ _ _ _ => br_f (by decide) ⟨11, hY _ (hQ r)⟩) (fun n => absurd rfl (n x y hx hy))
end
theorem i_vc_above {k : Nat} {u : SX} {v : SY} (I : i_Rel k u v) (hk : k + 3 ≤ 1536) (v1 : Int32) : wpX_above (fun r => wpY_above (fun r' => r' = r ∧ i_Rel (k + 3) u v) v v1) u v1 := by
  obtain ⟨pr, mc, cX, cY, cB, low, high, tX, bX, tY, bY, pa⟩ := u
  obtain ⟨fo, th, en, pt, sp⟩ := v
  obtain ⟨P, G, H, m, T, I⟩ := I
  unfold wpX_above wpY_above; dsimp only
  exact sg_near (Q := fun r r' => r' = r ∧ i_Rel (k + 3) (pr, mc, cX, cY, cB, low, high, tX, bX, tY, bY, pa) (fo, th, en, pt, sp)) I v1 1 (fun r => ⟨rfl, P, G, H, m, T, I⟩)
theorem i_vc_below {k : Nat} {u : SX} {v : SY} (I : i_Rel k u v) (hk : k + 3 ≤ 1536) (v1 : Int32) : wpX_below (fun r => wpY_below (fun r' => r' = r ∧ i_Rel (k + 3) u v) v v1) u v1 := by
  obtain ⟨pr, mc, cX, cY, cB, low, high, tX, bX, tY, bY, pa⟩ := u
  obtain ⟨fo, th, en, pt, sp⟩ := v
  obtain ⟨P, G, H, m, T, I⟩ := I
  unfold wpX_below wpY_below; dsimp only
  exact sg_near (Q := fun r r' => r' = r ∧ i_Rel (k + 3) (pr, mc, cX, cY, cB, low, high, tX, bX, tY, bY, pa) (fo, th, en, pt, sp)) I v1 (-1) (fun r => ⟨rfl, P, G, H, m, T, I⟩)
end
section
/-! ===== counting ===== -/
noncomputable def sg_n (A : Nat → Prop) : Nat → Nat
  | 0 => 0
  | n + 1 => sg_n A n + @ite Nat (A n) (Classical.propDecidable (A n)) 1 0
noncomputable def sg_s (A : Nat → Prop) (f : Nat → Nat) : Nat → Nat
  | 0 => 0
  | n + 1 => sg_s A f n + @ite Nat (A n) (Classical.propDecidable (A n)) (f n) 0
theorem sg_n_t {A : Nat → Prop} {n : Nat} (h : A n) : sg_n A (n + 1) = sg_n A n + 1 := congrArg (sg_n A n + ·) (if_pos h)
theorem sg_n_f {A : Nat → Prop} {n : Nat} (h : ¬ A n) : sg_n A (n + 1) = sg_n A n := congrArg (sg_n A n + ·) (if_neg h)
theorem sg_s_t {A : Nat → Prop} {f : Nat → Nat} {n : Nat} (h : A n) : sg_s A f (n + 1) = sg_s A f n + f n := congrArg (sg_s A f n + ·) (if_pos h)
theorem sg_s_f {A : Nat → Prop} {f : Nat → Nat} {n : Nat} (h : ¬ A n) : sg_s A f (n + 1) = sg_s A f n := congrArg (sg_s A f n + ·) (if_neg h)
theorem sg_n_le (A : Nat → Prop) : ∀ n, sg_n A n ≤ n := by
  intro n
  induction n with
  | zero => exact Nat.le_refl _
  | succ n ih =>
    by_cases h : A n
    · rw [sg_n_t h]; omega
    · rw [sg_n_f h]; omega
theorem sg_n_c {A B : Nat → Prop} : ∀ n, (∀ i, i < n → (A i ↔ B i)) → sg_n A n = sg_n B n := by
  intro n
  induction n with
  | zero => intro _; rfl
  | succ n ih =>
    intro h
    have e := ih (fun i hi => h i (by omega))
    by_cases c : A n
    · rw [sg_n_t c, sg_n_t ((h n (by omega)).mp c), e]
    · rw [sg_n_f c, sg_n_f (fun q => c ((h n (by omega)).mpr q)), e]
theorem sg_s_c {A : Nat → Prop} {f g : Nat → Nat} : ∀ n, (∀ i, i < n → A i → f i = g i) → sg_s A f n = sg_s A g n := by
  intro n
  induction n with
  | zero => intro _; rfl
  | succ n ih =>
    intro h
    have e := ih (fun i hi => h i (by omega))
    by_cases c : A n
    · rw [sg_s_t c, sg_s_t c, e, h n (by omega) c]
    · rw [sg_s_f c, sg_s_f c, e]
theorem sg_n_sub {A B : Nat → Prop} : ∀ n, (∀ i, i < n → B i → A i) → sg_n (fun i => A i ∧ ¬ B i) n + sg_n B n = sg_n A n := by
  intro n
  induction n with
  | zero => intro _; rfl
  | succ n ih =>
    intro h
    have e := ih (fun i hi => h i (by omega))
    by_cases b : B n
    · rw [sg_n_f (A := fun i => A i ∧ ¬ B i) (fun q => q.2 b), sg_n_t b, sg_n_t (h n (by omega) b)]; omega
    · by_cases a : A n
      · rw [sg_n_t (A := fun i => A i ∧ ¬ B i) ⟨a, b⟩, sg_n_f b, sg_n_t a]; omega
      · rw [sg_n_f (A := fun i => A i ∧ ¬ B i) (fun q => a q.1), sg_n_f b, sg_n_f a]; omega
theorem sg_n_or {A B : Nat → Prop} : ∀ n, (∀ i, i < n → A i → ¬ B i) → sg_n (fun i => A i ∨ B i) n = sg_n A n + sg_n B n := by
  intro n
  induction n with
  | zero => intro _; rfl
  | succ n ih =>
    intro h
    have e := ih (fun i hi => h i (by omega))
    by_cases a : A n
    · rw [sg_n_t (A := fun i => A i ∨ B i) (Or.inl a), sg_n_t a, sg_n_f (h n (by omega) a)]; omega
    · by_cases b : B n
      · rw [sg_n_t (A := fun i => A i ∨ B i) (Or.inr b), sg_n_f a, sg_n_t b]; omega
      · rw [sg_n_f (A := fun i => A i ∨ B i) (fun q => q.elim a b), sg_n_f a, sg_n_f b]; omega
theorem sg_n_0 {A : Nat → Prop} : ∀ n, (∀ i, i < n → ¬ A i) → sg_n A n = 0 := by
  intro n
  induction n with
  | zero => intro _; rfl
  | succ n ih => intro h; rw [sg_n_f (h n (by omega))]; exact ih (fun i hi => h i (by omega))
theorem sg_n_1 {A : Nat → Prop} : ∀ n, (∃ i, i < n ∧ A i) → (∀ i j, i < n → j < n → A i → A j → i = j) → sg_n A n = 1 := by
  intro n
  induction n with
  | zero => rintro ⟨i, hi, _⟩; omega
  | succ n ih =>
    intro h u
    by_cases a : A n
    · rw [sg_n_t a, sg_n_0 n (fun i hi q => by have := u i n (by omega) (by omega) q a; omega)]
    · rw [sg_n_f a]
      refine ih ?_ (fun i j hi hj => u i j (by omega) (by omega))
      obtain ⟨i, hi, q⟩ := h
      refine ⟨i, ?_, q⟩
      rcases Nat.lt_succ_iff_lt_or_eq.mp hi with c | c
      · exact c
      · subst c; exact absurd q a
theorem sg_n_mono {A B : Nat → Prop} : ∀ n, (∀ i, i < n → A i → B i) → sg_n A n ≤ sg_n B n := by
  intro n
  induction n with
  | zero => intro _; exact Nat.le_refl _
  | succ n ih =>
    intro h
    have e := ih (fun i hi => h i (by omega))
    by_cases a : A n
    · rw [sg_n_t a, sg_n_t (h n (by omega) a)]; omega
    · rw [sg_n_f a]
      by_cases b : B n
      · rw [sg_n_t b]; omega
      · rw [sg_n_f b]; exact e
theorem sg_n_lt {A B : Nat → Prop} : ∀ n, (∀ i, i < n → A i → B i) → (∃ i, i < n ∧ B i ∧ ¬ A i) → sg_n A n + 1 ≤ sg_n B n := by
  intro n
  induction n with
  | zero => rintro _ ⟨i, hi, _⟩; omega
  | succ n ih =>
    intro h ⟨i, hi, b, a⟩
    by_cases c : i = n
    · subst c
      have := sg_n_mono i (fun j hj => h j (by omega))
      rw [sg_n_f a, sg_n_t b]; omega
    · have e := ih (fun j hj => h j (by omega)) ⟨i, by omega, b, a⟩
      by_cases a' : A n
      · rw [sg_n_t a', sg_n_t (h n (by omega) a')]; omega
      · rw [sg_n_f a']
        by_cases b' : B n
        · rw [sg_n_t b']; omega
        · rw [sg_n_f b']; exact e
/-! ===== degree, metEnds ===== -/
theorem sg_on_20 {G : Nat → Int × Int × Int × Int} {P : Nat → Prop} (g : sg_Geo P G) {k : Nat} (hk : k < 10) (pk : P k) {p : Rat × Rat} (h : sg_on G k p) : (0 ≤ p.1.num ∧ p.1.num ≤ 20 * (p.1.den : Int)) ∧ (0 ≤ p.2.num ∧ p.2.num ≤ 20 * (p.2.den : Int)) := by
  obtain ⟨i1, i2, i3, i4, i5, i6, i7, i8⟩ := g.1 k hk
  obtain ⟨_, u, v⟩ := (sg_box (sg_gl g hk pk)).mp h
  have w : ∀ (r : Rat) (a b : Int), 0 ≤ a → a ≤ 20 → 0 ≤ b → b ≤ 20 → sg_bt a b r → 0 ≤ r.num ∧ r.num ≤ 20 * (r.den : Int) := by
    intro r a b ha ha' hb hb' hbt
    have dd := sg_dp r
    have k0 : (0 : Int) * (r.den : Int) ≤ r.num := by
      rw [← sg_rle1 dd (sg_nd r)]
      have q1 : (0 : Rat) ≤ (a : Rat) := Rat.intCast_nonneg.mpr ha
      have q2 : (0 : Rat) ≤ (b : Rat) := Rat.intCast_nonneg.mpr hb
      rcases hbt with z | z
      · exact Rat.le_trans q1 z.1
      · exact Rat.le_trans q2 z.1
    have k1 : r.num ≤ 20 * (r.den : Int) := by
      rw [← sg_rle2 dd (sg_nd r)]
      have q1 : (a : Rat) ≤ ((20 : Int) : Rat) := Rat.intCast_le_intCast.mpr ha'
      have q2 : (b : Rat) ≤ ((20 : Int) : Rat) := Rat.intCast_le_intCast.mpr hb'
      rcases hbt with z | z
      · exact Rat.le_trans z.2 q2
      · exact Rat.le_trans z.2 q1
    omega
  exact ⟨w _ _ _ i1 i2 i5 i6 u, w _ _ _ i3 i4 i7 i8 v⟩
/-- T i is an end of segment k -/
def sg_en (H : Nat → Int × Int × Int × Int) (k : Nat) (p : Rat × Rat) : Prop := p = sg_ep H k 0 ∨ p = sg_ep H k 1
theorem sg_piff {p : Rat} (a : Int) (hd : p.den = 1) : p = (a : Rat) ↔ p.num = a := by
  constructor
  · intro h; rw [h]; rfl
  · intro h; rw [← h]; exact sg_den1 hd
section
variable {P : Nat → Prop} {G H : Nat → Int × Int × Int × Int} {pr mc cX cY cB : Int32} {low high tX bX tY bY pa : Nat → Int32} {fo : Int32} {th en : Nat → Int32} {pt sp : Nat → Int64}
theorem x_degree {post : Int32 → Prop} {m : Nat} {T : Nat → Rat × Rat} (hP : sg_M pr P) (hm : m ≤ 45) (hM : ∀ i, i < m → sg_M (pa i) (fun k => P k ∧ sg_on G k (T i))) {k : Nat} (hk : k < 10) (pk : P k)
    (h : post (nI (sg_n (fun i => sg_on G k (T i)) m))) : wpX_degree post (pr, nI m, cX, cY, cB, low, high, tX, bX, tY, bY, pa) (nI k) := by
  unfold wpX_degree; dsimp only
  refine x_isPresent hP hk (fun _ => br_f (by decide) ?_) (fun q => absurd pk q)
  have key : ∀ d i, i + d = m → wX_degree_14 post (nI k) pr (nI m) cX cY cB low high tX bX tY bY pa (d + 1) (nI (sg_n (fun i => sg_on G k (T i)) i)) (nI i) := by
    intro d
    induction d with
    | zero =>
      intro i hi
      have : i = m := by omega
      subst this
      exact br_t (nI_le (Nat.le_refl _) (by omega)) h
    | succ d ih =>
      intro i hi
      have hi' : i < m := by omega
      refine br_f (nI_ge hi' (by omega)) ⟨sg_in45 (by omega), ?_⟩
      rw [sg_c45 (by omega), sg_Mbit (hM i hi') hk]
      have nx := ih (i + 1) (by omega)
      refine br_c (fun q => br_f (by decide) (nm_e (nm_r (nI_1 i) ?_))) (fun q => br_t rfl (nm_r (nI_1 i) ?_))
      · rw [sg_n_t (A := fun i => sg_on G k (T i)) q.2] at nx
        rw [nI_1]; exact nx
      · rw [sg_n_f (A := fun i => sg_on G k (T i)) (fun o => q ⟨pk, o⟩)] at nx
        exact nx
  exact ⟨m + 1, key m 0 (by omega)⟩
theorem x_isEndOf {post : Int32 → Prop} {m : Nat} {T : Nat → Rat × Rat} (g : sg_Geo P G) (hG : sg_GH G H) (hl : sg_LH G low high) (hm : m ≤ 45) (hX : sg_Ex P G m T) (hT : sg_TX m T tX bX tY bY) {k i : Nat} (hk : k < 10) (hi : i < m)
    (h1 : sg_en H k (T i) → post 1) (h0 : ¬ sg_en H k (T i) → post 0) : wpX_isEndOf post (pr, mc, cX, cY, cB, low, high, tX, bX, tY, bY, pa) (nI k) (nI i) := by
  unfold sg_en at h1 h0
  rw [sg_ep_c hG hk, sg_pext, sg_pext] at h1 h0
  dsimp only at h1 h0
  obtain ⟨t1, t2, t3, t4⟩ := hT i hi
  obtain ⟨a, b, ha, hb, hne, pa', pb, oa, ob⟩ := hX.2.2.1 i hi
  obtain ⟨⟨u1, u2⟩, u3, u4⟩ := sg_on_20 g ha pa' oa
  obtain ⟨⟨b1, b2, b3⟩, b4, b5, b6⟩ := hX.2.1 i hi
  obtain ⟨i1, i2, i3, i4, i5, i6, i7, i8⟩ := g.1 k hk
  have v := sg_in45 (show i < 45 by omega)
  unfold wpX_isEndOf; dsimp only
  rw [sg_c45 (by omega), sg_c10 hk, t1, t2, t3, t4, (hl k hk).1, (hl k hk).2]
  have D1 : sg_i ((T i).1.den : Int) = 1 ↔ (T i).1.den = 1 := by
    rw [sg_i1, sg_ieq ⟨by omega, by omega⟩ ⟨by decide, by decide⟩]; omega
  have D2 : sg_i ((T i).2.den : Int) = 1 ↔ (T i).2.den = 1 := by
    rw [sg_i1, sg_ieq ⟨by omega, by omega⟩ ⟨by decide, by decide⟩]; omega
  have N1 : ∀ (r : Rat) (z : Int), ¬ r.den = 1 → ¬ r = (z : Rat) := by
    intro r z hr e
    exact hr (by rw [e]; rfl)
  rw [D1, D2]
  refine ⟨v, br_c (fun c => ⟨v, br_c (fun d => ⟨v, v, nm_e ⟨sg_in10 hk, ?_⟩⟩) (fun d => h0 ?_)⟩) (fun c => h0 ?_)⟩
  · rw [sg_piff _ c, sg_piff _ c, sg_piff _ d, sg_piff _ d] at h1 h0
    obtain ⟨x, ex⟩ := Int.eq_ofNat_of_zero_le u1
    obtain ⟨y, ey⟩ := Int.eq_ofNat_of_zero_le u3
    rw [ex, ey] at h1 h0 ⊢
    rw [ex, c] at u2
    rw [ey, d] at u4
    have hx : x ≤ 20 := by omega
    have hy : y ≤ 20 := by omega
    have e : (sg_i (x : Int) <<< ((5 : Int32) &&& 31)) ||| sg_i (y : Int) = sg_i (32 * (x : Int) + y) := by
      rw [← sg_nI, ← sg_nI]; exact sg_pk hx hy
    rw [e, sg_ieq (sg_Rp (by omega) (by omega) (by omega) (by omega)) (sg_Rp i1 i2 i3 i4), sg_ieq (sg_Rp (by omega) (by omega) (by omega) (by omega)) (sg_Rp i5 i6 i7 i8)]
    exact br_c (fun p => h1 (by omega)) (fun p => ⟨sg_in10 hk, br_c (fun q => h1 (by omega)) (fun q => h0 (by omega))⟩)
  · rintro (z | z)
    · exact N1 _ _ d z.2
    · exact N1 _ _ d z.2
  · rintro (z | z)
    · exact N1 _ _ c z.1
    · exact N1 _ _ c z.1
theorem x_metEnds {post : Int32 → Prop} {m : Nat} {T : Nat → Rat × Rat} (g : sg_Geo P G) (hG : sg_GH G H) (hl : sg_LH G low high) (hm : m ≤ 45) (hX : sg_Ex P G m T) (hT : sg_TX m T tX bX tY bY) {k : Nat} (hk : k < 10)
    (h : post (nI (sg_n (fun i => sg_en H k (T i)) m))) : wpX_metEnds post (pr, nI m, cX, cY, cB, low, high, tX, bX, tY, bY, pa) (nI k) := by
  have key : ∀ d i, i + d = m → wX_metEnds_4 post (nI k) pr (nI m) cX cY cB low high tX bX tY bY pa (d + 1) (nI (sg_n (fun i => sg_en H k (T i)) i)) (nI i) := by
    intro d
    induction d with
    | zero =>
      intro i hi
      have : i = m := by omega
      subst this
      exact br_t (nI_le (Nat.le_refl _) (by omega)) h
    | succ d ih =>
      intro i hi
      have hi' : i < m := by omega
      have nx := ih (i + 1) (by omega)
      refine br_f (nI_ge hi' (by omega)) (x_isEndOf g hG hl hm hX hT hk hi' (fun q => br_f (by decide) (nm_e (nm_r (nI_1 i) ?_))) (fun q => br_t rfl (nm_r (nI_1 i) ?_)))
      · rw [sg_n_t (A := fun i => sg_en H k (T i)) q] at nx
        rw [nI_1]; exact nx
      · rw [sg_n_f (A := fun i => sg_en H k (T i)) q] at nx
        exact nx
  exact ⟨m + 1, key m 0 (by omega)⟩
theorem y_degree {post : Int32 → SY → Prop} (g : sg_Geo P G) (hG : sg_GH G H) (hE : sg_EN H en) (hH : sg_TH P th) {m : Nat} {T : Nat → Rat × Rat} (hm : m ≤ 45) (hX : sg_Ex P G m T) {k : Nat} (hk : k < 10) (pk : P k)
    (h : ∀ fo pt sp, post (nI (sg_n (fun i => sg_on G k (T i)) m)) (fo, th, en, pt, sp)) : wpY_degree post (fo, th, en, pt, sp) (nI k) := by
  unfold wpY_degree; dsimp only
  refine y_search g hG hE hH hX (fun pt sp hY => ?_)
  have key : ∀ d i, i + d = m → ∀ sp, wY_degree_8 post (nI k) (d + 1) (nI (sg_n (fun i => sg_on G k (T i)) i)) (nI i) (nI m) th en pt sp := by
    intro d
    induction d with
    | zero =>
      intro i hi sp
      have : i = m := by omega
      subst this
      exact br_t (nI_le (Nat.le_refl _) (by omega)) (y_is hH hk (fun _ => br_f (by decide) (h _ _ _)) (fun q => absurd pk q))
    | succ d ih =>
      intro i hi sp
      have hi' : i < m := by omega
      have nx := ih (i + 1) (by omega)
      refine br_f (nI_ge hi' (by omega)) (y_is hH hk (fun _ => br_f (by decide) ?_) (fun q => absurd pk q))
      refine y_goToMeeting hY hi' hm (fun sp' hS => y_has g hG hE hS (sg_bd3 (hX.2.1 i hi')) hk pk (fun o => br_f (by decide) (nm_e (nm_r (nI_1 i) ?_))) (fun o => br_t rfl (nm_r (nI_1 i) ?_)))
      · rw [sg_n_t (A := fun i => sg_on G k (T i)) o] at nx
        rw [nI_1]; exact nx sp'
      · rw [sg_n_f (A := fun i => sg_on G k (T i)) o] at nx
        exact nx sp'
  exact ⟨m + 1, key m 0 (by omega) sp⟩
end
theorem i_vc_degree {k : Nat} {u : SX} {v : SY} (I : i_Rel k u v) (hk : k + 3 ≤ 1536) (v1 : Int32) : wpX_degree (fun r => wpY_degree (fun r' v' => r' = r ∧ i_Rel (k + 3) u v') v v1) u v1 := by
  obtain ⟨pr, mc, cX, cY, cB, low, high, tX, bX, tY, bY, pa⟩ := u
  obtain ⟨fo, th, en, pt, sp⟩ := v
  obtain ⟨P, G, H, m, T, I⟩ := I
  obtain ⟨g, hG, hP, hl, hE, hH, rfl, hm, hX, hT, hM⟩ := id I
  by_cases c : ∃ j, j < 10 ∧ v1 = nI j ∧ P j
  · obtain ⟨j, hj, rfl, pj⟩ := c
    exact x_degree hP hm hM hj pj (y_degree g hG hE hH hm hX hj pj (fun fo pt sp => ⟨rfl, P, G, H, m, T, I⟩))
  · unfold wpX_degree wpY_degree; dsimp only
    refine x_isPresentG hP (fun j hj e pj => absurd ⟨j, hj, e, pj⟩ c) (fun n => br_t rfl ?_)
    refine y_search g hG hE hH hX (fun pt sp hY => ⟨1, ?_⟩)
    have ni : ∀ {post : Int32 → Prop}, post 0 → wpY_is post (nI m, th, en, pt, sp) v1 := fun h => y_isG hH (fun j hj e pj => absurd ⟨j, hj, e, pj⟩ c) (fun _ => h)
    have fin : wY_degree_51 (fun r' v' => r' = -1 ∧ i_Rel (k + 3) (pr, nI m, cX, cY, cB, low, high, tX, bX, tY, bY, pa) v') v1 0 (nI m) th en pt sp := ni (br_t rfl ⟨rfl, P, G, H, m, T, I⟩)
    exact br_c (fun _ => fin) (fun _ => ni (br_t rfl fin))
end
section
/-! ===== pieces; corners and places ===== -/
section
variable {P : Nat → Prop} {G H : Nat → Int × Int × Int × Int} {pr mc cX cY cB : Int32} {low high tX bX tY bY pa : Nat → Int32} {fo : Int32} {th en : Nat → Int32} {pt sp : Nat → Int64}
theorem sg_en_on (g : sg_Geo P G) (hG : sg_GH G H) {k : Nat} (hk : k < 10) (pk : P k) {p : Rat × Rat} (h : sg_en H k p) : sg_on G k p := by
  rcases h with e | e
  · rw [e]; exact sg_ep_on g hG hk pk 0
  · rw [e]; exact sg_ep_on g hG hk pk 1
/-- the pieces of segment k -/
noncomputable def sg_pc (G H : Nat → Int × Int × Int × Int) (m : Nat) (T : Nat → Rat × Rat) (k : Nat) : Nat := 1 + sg_n (fun i => sg_on G k (T i) ∧ ¬ sg_en H k (T i)) m
theorem x_pieces {post : Int32 → Prop} {m : Nat} {T : Nat → Rat × Rat} (g : sg_Geo P G) (hG : sg_GH G H) (hP : sg_M pr P) (hl : sg_LH G low high) (hm : m ≤ 45) (hX : sg_Ex P G m T) (hT : sg_TX m T tX bX tY bY) (hM : ∀ i, i < m → sg_M (pa i) (fun k => P k ∧ sg_on G k (T i)))
    (h : post (nI (sg_s P (sg_pc G H m T) 10))) : wpX_pieces post (pr, nI m, cX, cY, cB, low, high, tX, bX, tY, bY, pa) := by
  have key : ∀ e k, k + e = 10 → wX_pieces_4 post pr (nI m) cX cY cB low high tX bX tY bY pa (e + 1) (nI (sg_s P (sg_pc G H m T) k)) (nI k) := by
    intro e
    induction e with
    | zero =>
      intro k hk
      have : k = 10 := by omega
      subst this
      exact br_t sg_e10 h
    | succ e ih =>
      intro k hk
      have hk' : k < 10 := by omega
      have nx := ih (k + 1) (by omega)
      refine br_f (sg_n10 hk') (x_isPresent hP hk' (fun pk => br_f (by decide) ?_) (fun pk => br_t rfl (nm_r (nI_1 k) ?_)))
      · refine x_degree hP hm hM hk' pk (x_metEnds g hG hl hm hX hT hk' (nm_r ?_ (nm_r (nI_1 k) nx)))
        rw [sg_s_t pk]
        have e := sg_n_sub (A := fun i => sg_on G k (T i)) (B := fun i => sg_en H k (T i)) m (fun i _ q => sg_en_on g hG hk' pk q)
        have e1 : (1 : Int32) + nI (sg_n (fun i => sg_on G k (T i)) m) - nI (sg_n (fun i => sg_en H k (T i)) m) = nI (sg_pc G H m T k) := by
          show nI 1 + nI _ - nI _ = _
          rw [nI_add, pk_sub (by omega)]
          unfold sg_pc
          exact congrArg nI (by omega)
        rw [e1, nI_add]
      · rw [sg_s_f pk] at nx
        exact nx
  exact ⟨11, key 10 0 rfl⟩
theorem y_pieces {post : Int32 → SY → Prop} (g : sg_Geo P G) (hG : sg_GH G H) (hE : sg_EN H en) (hH : sg_TH P th) {m : Nat} {T : Nat → Rat × Rat} (hm : m ≤ 45) (hX : sg_Ex P G m T)
    (h : ∀ fo pt sp, post (nI (sg_s P (sg_pc G H m T) 10)) (fo, th, en, pt, sp)) : wpY_pieces post (fo, th, en, pt, sp) := by
  unfold wpY_pieces; dsimp only
  refine y_search g hG hE hH hX (fun pt sp hY => ?_)
  have inner : ∀ {J : Int32 → Int32 → Int32 → (Nat → Int32) → (Nat → Int32) → (Nat → Int64) → (Nat → Int64) → Prop} {k : Nat}, k < 10 → P k → ∀ c, (∀ sp, J (nI (c + sg_n (fun i => sg_on G k (T i) ∧ ¬ sg_en H k (T i)) m)) (nI (k + 1)) (nI m) th en pt sp) →
      ∀ d i, i + d = m → ∀ sp, wY_pieces_33 post J (nI k) (d + 1) (nI (c + sg_n (fun i => sg_on G k (T i) ∧ ¬ sg_en H k (T i)) i)) (nI i) (nI m) th en pt sp := by
    intro J k hk pk c hJ d
    induction d with
    | zero =>
      intro i hi sp
      have : i = m := by omega
      subst this
      exact br_t (nI_le (Nat.le_refl _) (by omega)) (nm_r (nI_1 k) (hJ sp))
    | succ d ih =>
      intro i hi sp
      have hi' : i < m := by omega
      have nx := ih (i + 1) (by omega)
      refine br_f (nI_ge hi' (by omega)) ⟨sg_in10 hk, ?_⟩
      rw [sg_c10 hk, hH k hk]
      refine br_f (fun q => q pk) (y_goToMeeting hY hi' hm (fun sp' hS => ?_))
      have b3 := sg_bd3 (hX.2.1 i hi')
      refine y_has g hG hE hS b3 hk pk (fun o => br_f (by decide) (y_isEnd hE hk (sg_GHi hG hk (g.1 k hk)) hS b3 (fun q => br_f (by decide) (nm_r (nI_1 i) ?_)) (fun q => br_t rfl (nm_e (nm_r (nI_1 i) ?_))))) (fun o => br_t rfl (nm_r (nI_1 i) ?_))
      · rw [sg_n_f (A := fun i => sg_on G k (T i) ∧ ¬ sg_en H k (T i)) (fun z => z.2 q)] at nx
        exact nx sp'
      · rw [sg_n_t (A := fun i => sg_on G k (T i) ∧ ¬ sg_en H k (T i)) ⟨o, q⟩] at nx
        rw [nI_1]; exact nx sp'
      · rw [sg_n_f (A := fun i => sg_on G k (T i) ∧ ¬ sg_en H k (T i)) (fun z => o z.1)] at nx
        exact nx sp'
  have key : ∀ e k, k + e = 10 → ∀ sp, wY_pieces_8 post (e + 1) (nI (sg_s P (sg_pc G H m T) k)) (nI k) (nI m) th en pt sp := by
    intro e
    induction e with
    | zero =>
      intro k hk sp
      have : k = 10 := by omega
      subst this
      exact br_t sg_e10 (h _ _ _)
    | succ e ih =>
      intro k hk sp
      have hk' : k < 10 := by omega
      have nx := ih (k + 1) (by omega)
      refine br_f (sg_n10 hk') ⟨sg_in10 hk', ?_⟩
      rw [sg_c10 hk', hH k hk']
      refine br_c (fun q => ⟨1, ?_⟩) (fun q => nm_r (nI_1 _) ⟨m + 1, ?_⟩)
      · rw [sg_s_f q] at nx
        refine br_c (fun _ => nm_r (nI_1 k) (nx sp)) (fun _ => ⟨sg_in10 hk', ?_⟩)
        rw [sg_c10 hk']
        exact br_t ((hH k hk').mpr q) (nm_r (nI_1 k) (nx sp))
      · have pk := Classical.not_not.mp q
        rw [sg_s_t pk] at nx
        refine inner hk' pk (sg_s P (sg_pc G H m T) k + 1) (fun sp => ?_) m 0 (by omega) sp
        have := nx sp
        unfold sg_pc at this
        rw [← Nat.add_assoc] at this
        exact this
  exact ⟨11, key 10 0 rfl sp⟩
/-- no other segment is on end c of segment k -/
def sg_al (P : Nat → Prop) (G H : Nat → Int × Int × Int × Int) (k c : Nat) : Prop := ∀ i j, i < 10 → j < 10 → (P i ∧ sg_on G i (sg_ep H k c)) → (P j ∧ sg_on G j (sg_ep H k c)) → i = j
theorem sg_al_c (g : sg_Geo P G) (hG : sg_GH G H) {m : Nat} {T : Nat → Rat × Rat} (hX : sg_Ex P G m T) {k : Nat} (hk : k < 10) (pk : P k) (c : Nat) : sg_al P G H k c ↔ ¬ ∃ i, i < m ∧ T i = sg_ep H k c := by
  constructor
  · rintro h ⟨i, hi, e⟩
    obtain ⟨a, b, ha, hb, hne, pa, pb, oa, ob⟩ := hX.2.2.1 i hi
    rw [e] at oa ob
    exact hne (h a b ha hb ⟨pa, oa⟩ ⟨pb, ob⟩)
  · intro h i j hi hj a b
    apply Classical.byContradiction
    intro hne
    exact h (hX.2.2.2 i j _ ⟨hi, hj, hne⟩ a.1 b.1 a.2 b.2)
theorem sg_ep_ne (g : sg_Geo P G) (hG : sg_GH G H) {k : Nat} (hk : k < 10) (pk : P k) : sg_ep H k 0 ≠ sg_ep H k 1 := by
  have l := sg_gl g hk pk
  unfold sg_ep
  intro e
  have e1 := congrArg Prod.fst e
  have e2 := congrArg Prod.snd e
  rcases hG k hk with f | f <;> simp only [sg_lx, sg_ly, sg_hx, sg_hy, f, if_true] at e1 e2 l <;> (rw [if_neg (by omega)] at e1 e2; dsimp only at e1 e2; rw [e1, e2] at l; exact sg_lt_irr l)
theorem sg_met (g : sg_Geo P G) (hG : sg_GH G H) {m : Nat} {T : Nat → Rat × Rat} (hX : sg_Ex P G m T) {k : Nat} (hk : k < 10) (pk : P k) : sg_n (fun i => sg_en H k (T i)) m + sg_n (fun c => sg_al P G H k c) 2 = 2 := by
  have e1 : sg_n (fun i => sg_en H k (T i)) m = sg_n (fun i => T i = sg_ep H k 0) m + sg_n (fun i => T i = sg_ep H k 1) m :=
    sg_n_or m (fun i _ a b => sg_ep_ne g hG hk pk (a.symm.trans b))
  have one : ∀ c, sg_n (fun i => T i = sg_ep H k c) m + sg_n (fun _ => sg_al P G H k c) 1 = 1 := by
    intro c
    by_cases q : ∃ i, i < m ∧ T i = sg_ep H k c
    · rw [sg_n_1 m q (fun i j hi hj a b => sg_srt_inj hX.1 hi hj (a.trans b.symm)), sg_n_0 1 (fun _ _ z => (sg_al_c g hG hX hk pk c).mp z q)]
    · rw [sg_n_0 m (fun i hi z => q ⟨i, hi, z⟩), sg_n_1 1 ⟨0, by omega, (sg_al_c g hG hX hk pk c).mpr q⟩ (fun i j hi hj _ _ => by omega)]
  have e2 : sg_n (fun c => sg_al P G H k c) 2 = sg_n (fun _ => sg_al P G H k 0) 1 + sg_n (fun _ => sg_al P G H k 1) 1 := by
    by_cases a : sg_al P G H k 0 <;> by_cases b : sg_al P G H k 1
    · rw [sg_n_t (A := fun c => sg_al P G H k c) (n := 1) b, sg_n_t (A := fun c => sg_al P G H k c) (n := 0) a, sg_n_t (A := fun _ => sg_al P G H k 0) (n := 0) a, sg_n_t (A := fun _ => sg_al P G H k 1) (n := 0) b]; rfl
    · rw [sg_n_f (A := fun c => sg_al P G H k c) (n := 1) b, sg_n_t (A := fun c => sg_al P G H k c) (n := 0) a, sg_n_t (A := fun _ => sg_al P G H k 0) (n := 0) a, sg_n_f (A := fun _ => sg_al P G H k 1) (n := 0) b]; rfl
    · rw [sg_n_t (A := fun c => sg_al P G H k c) (n := 1) b, sg_n_f (A := fun c => sg_al P G H k c) (n := 0) a, sg_n_f (A := fun _ => sg_al P G H k 0) (n := 0) a, sg_n_t (A := fun _ => sg_al P G H k 1) (n := 0) b]; rfl
    · rw [sg_n_f (A := fun c => sg_al P G H k c) (n := 1) b, sg_n_f (A := fun c => sg_al P G H k c) (n := 0) a, sg_n_f (A := fun _ => sg_al P G H k 0) (n := 0) a, sg_n_f (A := fun _ => sg_al P G H k 1) (n := 0) b]; rfl
  have o0 := one 0
  have o1 := one 1
  omega
theorem x_corners {post : Int32 → Prop} {m : Nat} {T : Nat → Rat × Rat} (g : sg_Geo P G) (hG : sg_GH G H) (hP : sg_M pr P) (hl : sg_LH G low high) (hm : m ≤ 45) (hX : sg_Ex P G m T) (hT : sg_TX m T tX bX tY bY)
    (h : post (nI (m + sg_s P (fun k => sg_n (fun c => sg_al P G H k c) 2) 10))) : wpX_corners post (pr, nI m, cX, cY, cB, low, high, tX, bX, tY, bY, pa) := by
  have key : ∀ e k, k + e = 10 → wX_corners_7 post pr (nI m) cX cY cB low high tX bX tY bY pa (e + 1) (nI (m + sg_s P (fun k => sg_n (fun c => sg_al P G H k c) 2) k)) (nI k) := by
    intro e
    induction e with
    | zero =>
      intro k hk
      have : k = 10 := by omega
      subst this
      exact br_t sg_e10 h
    | succ e ih =>
      intro k hk
      have hk' : k < 10 := by omega
      have nx := ih (k + 1) (by omega)
      refine br_f (sg_n10 hk') (x_isPresent hP hk' (fun pk => br_f (by decide) ?_) (fun pk => br_t rfl (nm_r (nI_1 k) ?_)))
      · refine x_metEnds g hG hl hm hX hT hk' (nm_r ?_ (nm_r (nI_1 k) nx))
        rw [sg_s_t pk]
        have e := sg_met g hG hX hk' pk
        have e1 : (2 : Int32) - nI (sg_n (fun i => sg_en H k (T i)) m) = nI (sg_n (fun c => sg_al P G H k c) 2) := by
          show nI 2 - nI _ = _
          rw [pk_sub (by omega)]
          exact congrArg nI (by omega)
        rw [e1, nI_add, Nat.add_assoc]
      · rw [sg_s_f pk] at nx
        exact nx
  exact ⟨11, key 10 0 rfl⟩
theorem sg_two : ∀ k, sg_n (fun c => P (c / 2) ∧ sg_al P G H (c / 2) (c % 2)) (2 * k) = sg_s P (fun k => sg_n (fun c => sg_al P G H k c) 2) k := by
  intro k
  induction k with
  | zero => rfl
  | succ k ih =>
    show sg_n (fun c => P (c / 2) ∧ sg_al P G H (c / 2) (c % 2)) (2 * k + 1 + 1) = _
    have d0 : (2 * k) / 2 = k := by omega
    have d1 : (2 * k + 1) / 2 = k := by omega
    have m0 : (2 * k) % 2 = 0 := by omega
    have m1 : (2 * k + 1) % 2 = 1 := by omega
    by_cases pk : P k
    · rw [sg_s_t pk, ← ih]
      by_cases a : sg_al P G H k 0 <;> by_cases b : sg_al P G H k 1
      · rw [sg_n_t (A := fun c => P (c / 2) ∧ sg_al P G H (c / 2) (c % 2)) (n := 2 * k + 1) (by rw [d1, m1]; exact ⟨pk, b⟩), sg_n_t (A := fun c => P (c / 2) ∧ sg_al P G H (c / 2) (c % 2)) (n := 2 * k) (by rw [d0, m0]; exact ⟨pk, a⟩),
          sg_n_t (A := fun c => sg_al P G H k c) (n := 1) b, sg_n_t (A := fun c => sg_al P G H k c) (n := 0) a]; rfl
      · rw [sg_n_f (A := fun c => P (c / 2) ∧ sg_al P G H (c / 2) (c % 2)) (n := 2 * k + 1) (by rw [d1, m1]; exact fun q => b q.2), sg_n_t (A := fun c => P (c / 2) ∧ sg_al P G H (c / 2) (c % 2)) (n := 2 * k) (by rw [d0, m0]; exact ⟨pk, a⟩),
          sg_n_f (A := fun c => sg_al P G H k c) (n := 1) b, sg_n_t (A := fun c => sg_al P G H k c) (n := 0) a]; rfl
      · rw [sg_n_t (A := fun c => P (c / 2) ∧ sg_al P G H (c / 2) (c % 2)) (n := 2 * k + 1) (by rw [d1, m1]; exact ⟨pk, b⟩), sg_n_f (A := fun c => P (c / 2) ∧ sg_al P G H (c / 2) (c % 2)) (n := 2 * k) (by rw [d0, m0]; exact fun q => a q.2),
          sg_n_t (A := fun c => sg_al P G H k c) (n := 1) b, sg_n_f (A := fun c => sg_al P G H k c) (n := 0) a]; rfl
      · rw [sg_n_f (A := fun c => P (c / 2) ∧ sg_al P G H (c / 2) (c % 2)) (n := 2 * k + 1) (by rw [d1, m1]; exact fun q => b q.2), sg_n_f (A := fun c => P (c / 2) ∧ sg_al P G H (c / 2) (c % 2)) (n := 2 * k) (by rw [d0, m0]; exact fun q => a q.2),
          sg_n_f (A := fun c => sg_al P G H k c) (n := 1) b, sg_n_f (A := fun c => sg_al P G H k c) (n := 0) a]; rfl
    · rw [sg_s_f pk, ← ih]
      rw [sg_n_f (A := fun c => P (c / 2) ∧ sg_al P G H (c / 2) (c % 2)) (n := 2 * k + 1) (by rw [d1]; exact fun q => pk q.1), sg_n_f (A := fun c => P (c / 2) ∧ sg_al P G H (c / 2) (c % 2)) (n := 2 * k) (by rw [d0]; exact fun q => pk q.1)]
theorem y_places {post : Int32 → SY → Prop} (g : sg_Geo P G) (hG : sg_GH G H) (hE : sg_EN H en) (hH : sg_TH P th) {m : Nat} {T : Nat → Rat × Rat} (hX : sg_Ex P G m T)
    (h : ∀ fo pt sp, post (nI (m + sg_s P (fun k => sg_n (fun c => sg_al P G H k c) 2) 10)) (fo, th, en, pt, sp)) : wpY_places post (fo, th, en, pt, sp) := by
  unfold wpY_places; dsimp only
  refine y_search g hG hE hH hX (fun pt sp hY => ?_)
  have key : ∀ e c, c + e = 20 → ∀ sp, wY_places_11 post (e + 1) (nI (m + sg_n (fun c => P (c / 2) ∧ sg_al P G H (c / 2) (c % 2)) c)) (nI c) (nI m) th en pt sp := by
    intro e
    induction e with
    | zero =>
      intro c hc sp
      have : c = 20 := by omega
      subst this
      rw [sg_two 10]
      exact br_t (by decide) (h _ _ _)
    | succ e ih =>
      intro c hc sp
      have nx := ih (c + 1) (by omega)
      have hk : c / 2 < 10 := by omega
      have hi := sg_GHi hG hk (g.1 (c / 2) hk)
      refine br_f (nI_ge (b := 20) (by omega) (by decide)) ⟨by decide, ?_⟩
      rw [show nI c - nI c / 2 * 2 = nI (c % 2) from pk_rem (d := 2) (by omega) (by decide) (by decide)]
      refine nm_r (pk_div (d := 2) (by omega) (by decide) (by decide)) ⟨sg_in10 hk, ?_⟩
      rw [sg_c10 hk, hH (c / 2) hk]
      refine br_c (fun q => nm_r (nI_1 c) ?_) (fun q => ⟨by decide, ?_⟩)
      · rw [sg_n_f (A := fun c => P (c / 2) ∧ sg_al P G H (c / 2) (c % 2)) (fun z => q z.1)] at nx
        exact nx sp
      · have pk := Classical.not_not.mp q
        refine y_goToEnd hE hk hi (by omega) (fun sp' hS => y_setOn g hG hE hH hS (sg_bd3 (sg_ep_b hi _)) (fun x hx => ?_))
        rw [sg_Mone hx]
        refine br_c (fun a => nm_e (nm_r (nI_1 c) ?_)) (fun a => nm_r (nI_1 c) ?_)
        · rw [sg_n_t (A := fun c => P (c / 2) ∧ sg_al P G H (c / 2) (c % 2)) ⟨pk, a⟩, ← Nat.add_assoc] at nx
          rw [nI_1]; exact nx sp'
        · rw [sg_n_f (A := fun c => P (c / 2) ∧ sg_al P G H (c / 2) (c % 2)) (fun z => a z.2)] at nx
          exact nx sp'
  exact ⟨21, key 20 0 rfl sp⟩
end
theorem i_vc_pieces {k : Nat} {u : SX} {v : SY} (I : i_Rel k u v) (hk : k + 3 ≤ 1536) : wpX_pieces (fun r => wpY_pieces (fun r' v' => r' = r ∧ i_Rel (k + 3) u v') v) u := by
  obtain ⟨pr, mc, cX, cY, cB, low, high, tX, bX, tY, bY, pa⟩ := u
  obtain ⟨fo, th, en, pt, sp⟩ := v
  obtain ⟨P, G, H, m, T, I⟩ := I
  obtain ⟨g, hG, hP, hl, hE, hH, rfl, hm, hX, hT, hM⟩ := id I
  exact x_pieces g hG hP hl hm hX hT hM (y_pieces g hG hE hH hm hX (fun fo pt sp => ⟨rfl, P, G, H, m, T, I⟩))
end
section
/-! ===== groups: each side reaches the least closed set ===== -/
def sg_cd (P : Nat → Prop) (G : Nat → Int × Int × Int × Int) (S : Nat → Prop) : Prop := ∀ a b, a < 10 → b < 10 → P a → P b → S a → sg_mt G a b → S b
def sg_Cl (P : Nat → Prop) (G : Nat → Int × Int × Int × Int) (k l : Nat) : Prop := ∀ S : Nat → Prop, S k → sg_cd P G S → S l
theorem sg_Cl_0 {P : Nat → Prop} {G : Nat → Int × Int × Int × Int} (k : Nat) : sg_Cl P G k k := fun _ h _ => h
theorem sg_Cl_s {P : Nat → Prop} {G : Nat → Int × Int × Int × Int} {k a b : Nat} (h : sg_Cl P G k a) (ha : a < 10) (hb : b < 10) (pa : P a) (pb : P b) (m : sg_mt G a b) : sg_Cl P G k b :=
  fun S h0 hc => hc a b ha hb pa pb (h S h0 hc) m
/-- after r rounds -/
def sg_In (P : Nat → Prop) (G : Nat → Int × Int × Int × Int) (k r : Nat) (S : Nat → Prop) : Prop := S k ∧ (∀ l, l < 10 → S l → sg_Cl P G k l) ∧ (sg_cd P G S ∨ r + 1 ≤ sg_n S 10)
theorem sg_In_0 {P : Nat → Prop} {G : Nat → Int × Int × Int × Int} {k : Nat} (hk : k < 10) : sg_In P G k 0 (fun i => i = k) := by
  refine ⟨rfl, ?_, Or.inr ?_⟩
  · intro l _ e; rw [e]; exact sg_Cl_0 k
  · rw [sg_n_1 (A := fun i => i = k) 10 ⟨k, hk, rfl⟩ (fun i j _ _ a b => Eq.trans a (Eq.symm b))]; exact Nat.le_refl _
theorem sg_In_s {P : Nat → Prop} {G : Nat → Int × Int × Int × Int} {k r : Nat} (hk : k < 10) {S S' : Nat → Prop} (h : sg_In P G k r S) (mono : ∀ l, l < 10 → S l → S' l) (sound : ∀ l, l < 10 → S' l → sg_Cl P G k l) (prog : (∀ l, l < 10 → S' l → S l) → sg_cd P G S) : sg_In P G k (r + 1) S' := by
  obtain ⟨h0, h1, h2⟩ := h
  refine ⟨mono k hk h0, sound, ?_⟩
  by_cases c : ∀ l, l < 10 → S' l → S l
  · left
    have q := prog c
    intro a b ha hb pa pb sa m
    exact mono b hb (q a b ha hb pa pb (c a ha sa) m)
  · right
    have c' : ∃ l, l < 10 ∧ S' l ∧ ¬ S l := by
      apply Classical.byContradiction
      intro n
      apply c
      intro l hl sl
      apply Classical.byContradiction
      intro q
      exact n ⟨l, hl, sl, q⟩
    rcases h2 with q | q
    · obtain ⟨l, hl, sl, nl⟩ := c'
      exact absurd (sound l hl sl S h0 q) nl
    · have := sg_n_lt 10 mono c'
      omega
theorem sg_In_10 {P : Nat → Prop} {G : Nat → Int × Int × Int × Int} {k : Nat} {S : Nat → Prop} (h : sg_In P G k 10 S) : ∀ l, l < 10 → (S l ↔ sg_Cl P G k l) := by
  obtain ⟨h0, h1, h2⟩ := h
  have hc : sg_cd P G S := by
    rcases h2 with q | q
    · exact q
    · have := sg_n_le S 10; omega
  exact fun l hl => ⟨h1 l hl, fun q => q S h0 hc⟩
section
variable {P : Nat → Prop} {G H : Nat → Int × Int × Int × Int} {pr mc cX cY cB : Int32} {low high tX bX tY bY pa : Nat → Int32} {fo : Int32} {th en : Nat → Int32} {pt sp : Nat → Int64}
theorem x_groupOf {post : Int32 → Prop} {m : Nat} {T : Nat → Rat × Rat} (hm : m ≤ 45) (hX : sg_Ex P G m T) (hM : ∀ i, i < m → sg_M (pa i) (fun k => P k ∧ sg_on G k (T i))) {k : Nat} (hk : k < 10)
    (h : ∀ x, sg_M x (sg_Cl P G k) → post x) : wpX_groupOf post (pr, nI m, cX, cY, cB, low, high, tX, bX, tY, bY, pa) (nI k) := by
  have inner : ∀ {J : Int32 → Int32 → Prop} {r : Nat} {S0 : Nat → Prop}, sg_In P G k r S0 → (∀ x S, sg_M x S → sg_In P G k (r + 1) S → J x (nI (r + 1))) →
      ∀ d i, i + d = m → ∀ x S, sg_M x S → (∀ l, l < 10 → S0 l → S l) → (∀ l, l < 10 → S l → sg_Cl P G k l) →
        ((∀ l, l < 10 → S l → S0 l) → ∀ i', i' < i → ∀ a b, a < 10 → b < 10 → P a → P b → sg_on G a (T i') → sg_on G b (T i') → S0 a → S0 b) →
        wX_groupOf_15 post J (nI r) pr (nI m) cX cY cB low high tX bX tY bY pa (d + 1) x (nI i) := by
    intro J r S0 h0 hJ d
    induction d with
    | zero =>
      intro i hi x S hx mono sound prog
      refine br_t (nI_le (by omega) (by omega)) (nm_r (nI_1 r) (hJ x S hx (sg_In_s hk h0 mono sound (fun q => ?_))))
      intro a b ha hb pa pb sa mt
      rcases mt with e | ⟨p, oa, ob⟩
      · rw [← e]; exact sa
      · by_cases e : a = b
        · rw [← e]; exact sa
        · obtain ⟨i', hi', ei⟩ := hX.2.2.2 a b p ⟨ha, hb, e⟩ pa pb oa ob
          rw [← ei] at oa ob
          exact prog q i' (by omega) a b ha hb pa pb oa ob sa
    | succ d ih =>
      intro i hi x S hx mono sound prog
      have hi' : i < m := by omega
      refine br_f (nI_ge hi' (by omega)) ⟨sg_in45 (by omega), ?_⟩
      rw [sg_c45 (by omega), sg_Mz (sg_Mand (hM i hi') hx)]
      refine br_c (fun q => nm_r (nI_1 i) (ih (i + 1) (by omega) x S hx mono sound (fun c i' h' => ?_))) (fun q => ⟨sg_in45 (by omega), nm_e (nm_r (nI_1 i) (ih (i + 1) (by omega) _ _ (sg_Mor hx (hM i hi')) (fun l hl s => Or.inl (mono l hl s)) (fun l hl s => ?_) (fun c i' h' => ?_)))⟩)
      · rcases Nat.lt_succ_iff_lt_or_eq.mp h' with z | z
        · exact prog c i' z
        · subst z
          intro a b ha hb pa pb oa ob sa
          exact absurd ⟨⟨pa, oa⟩, mono a ha sa⟩ (q a ha)
      · rcases s with s | s
        · exact sound l hl s
        · apply Classical.byContradiction
          intro nl
          apply q
          intro a ha z
          exact nl (sg_Cl_s (sound a ha z.2) ha hl z.1.1 s.1 (Or.inr ⟨T i, z.1.2, s.2⟩))
      · rcases Nat.lt_succ_iff_lt_or_eq.mp h' with z | z
        · exact prog (fun l hl s => c l hl (Or.inl s)) i' z
        · subst z
          intro a b ha hb pa pb oa ob sa
          exact c b hb (Or.inr ⟨pb, ob⟩)
  have key : ∀ e r, r + e = 10 → ∀ x S, sg_M x S → sg_In P G k r S → wX_groupOf_6 post pr (nI m) cX cY cB low high tX bX tY bY pa (e + 1) x (nI r) := by
    intro e
    induction e with
    | zero =>
      intro r hr x S hx hS
      have : r = 10 := by omega
      subst this
      exact br_t sg_e10 (h x (sg_Mc hx (sg_In_10 hS)))
    | succ e ih =>
      intro r hr x S hx hS
      refine br_f (sg_n10 (by omega)) ⟨m + 1, inner hS (fun x' S' hx' hS' => ih (r + 1) (by omega) x' S' hx' hS') m 0 (by omega) x S hx (fun _ _ s => s) hS.2.1 (fun _ i' h' => absurd h' (by omega))⟩
  unfold wpX_groupOf; dsimp only
  exact nm_e ⟨11, key 10 0 rfl _ _ (sg_M1 hk) (sg_In_0 hk)⟩
theorem y_group {post : Int32 → SY → Prop} (g : sg_Geo P G) (hG : sg_GH G H) (hE : sg_EN H en) (hH : sg_TH P th) {k : Nat} (hk : k < 10)
    (h : ∀ x sp, sg_M x (sg_Cl P G k) → post x (fo, th, en, pt, sp)) : wpY_group post (fo, th, en, pt, sp) (nI k) := by
  have inner : ∀ {J : Int32 → Int32 → Int32 → (Nat → Int32) → (Nat → Int32) → (Nat → Int64) → (Nat → Int64) → Prop} {r : Nat} {S0 : Nat → Prop}, sg_In P G k r S0 → (∀ x S sp, sg_M x S → sg_In P G k (r + 1) S → J x (nI (r + 1)) fo th en pt sp) →
      ∀ d c, c + d = 100 → ∀ x S sp, sg_M x S → (∀ l, l < 10 → S0 l → S l) → (∀ l, l < 10 → S l → sg_Cl P G k l) →
        ((∀ l, l < 10 → S l → S0 l) → ∀ c', c' < c → P (c' / 10) → P (c' % 10) → S0 (c' / 10) → sg_mt G (c' / 10) (c' % 10) → S0 (c' % 10)) →
        wY_group_15 post J (nI r) (d + 1) x (nI c) fo th en pt sp := by
    intro J r S0 h0 hJ d
    induction d with
    | zero =>
      intro c hc x S sp hx mono sound prog
      have : c = 100 := by omega
      subst this
      refine br_t (by decide) (nm_r (nI_1 r) (hJ x S sp hx (sg_In_s hk h0 mono sound (fun q => ?_))))
      intro a b ha hb pa pb sa mt
      have := prog q (10 * a + b) (by omega)
      rw [show (10 * a + b) / 10 = a by omega, show (10 * a + b) % 10 = b by omega] at this
      exact this pa pb sa mt
    | succ d ih =>
      intro c hc x S sp hx mono sound prog
      have ha : c / 10 < 10 := by omega
      have hb : c % 10 < 10 := by omega
      refine br_f (nI_ge (b := 100) (by omega) (by decide)) ⟨by decide, ?_⟩
      rw [show nI c - nI c / 10 * 10 = nI (c % 10) from pk_rem (d := 10) (by omega) (by decide) (by decide), show nI c / 10 = nI (c / 10) from pk_div (d := 10) (by omega) (by decide) (by decide), sg_Mbit hx ha]
      have no : ∀ sp, ¬ (S (c / 10) ∧ P (c / 10) ∧ P (c % 10) ∧ sg_mt G (c / 10) (c % 10)) → ∀ z, z = nI c + 1 → wY_group_15 post J (nI r) (d + 1) x z fo th en pt sp := by
        intro sp hn
        refine nm_r (nI_1 c) (ih (c + 1) (by omega) x S sp hx mono sound (fun q c' h' => ?_))
        rcases Nat.lt_succ_iff_lt_or_eq.mp h' with z | z
        · exact prog q c' z
        · subst z
          intro pa pb sa mt
          exact absurd ⟨mono _ ha sa, pa, pb, mt⟩ hn
      refine br_c (fun sa => ⟨by decide, by decide, y_meet g hG hE hH ha hb (fun pa pb mt sp => br_f (by decide) ⟨by decide, nm_e (nm_r (nI_1 c) (ih (c + 1) (by omega) _ _ sp (sg_Mor hx (sg_M1 hb)) (fun l hl s => Or.inl (mono l hl s)) (fun l hl s => ?_) (fun q c' h' => ?_)))⟩) (fun q sp => br_t rfl (no sp (fun z => q z.2)))⟩) (fun sa => no sp (fun z => sa z.1))
      · rcases s with s | s
        · exact sound l hl s
        · rw [s]; exact sg_Cl_s (sound _ ha sa) ha hb pa pb mt
      · rcases Nat.lt_succ_iff_lt_or_eq.mp h' with z | z
        · exact prog (fun l hl s => q l hl (Or.inl s)) c' z
        · subst z
          intro _ _ _ _
          exact q _ hb (Or.inr rfl)
  have key : ∀ e r, r + e = 10 → ∀ x S sp, sg_M x S → sg_In P G k r S → wY_group_6 post (e + 1) x (nI r) fo th en pt sp := by
    intro e
    induction e with
    | zero =>
      intro r hr x S sp hx hS
      have : r = 10 := by omega
      subst this
      exact br_t sg_e10 (h x sp (sg_Mc hx (sg_In_10 hS)))
    | succ e ih =>
      intro r hr x S sp hx hS
      refine br_f (sg_n10 (by omega)) ⟨101, inner hS (fun x' S' sp' hx' hS' => ih (r + 1) (by omega) x' S' sp' hx' hS') 100 0 (by omega) x S sp hx (fun _ _ s => s) hS.2.1 (fun _ i' h' => absurd h' (by omega))⟩
  unfold wpY_group; dsimp only
  exact nm_e ⟨11, key 10 0 rfl _ _ sp (sg_M1 hk) (sg_In_0 hk)⟩
theorem sg_Mex (Q : Nat → Prop) : ∃ x, sg_M x Q := by
  have key : ∀ n, n ≤ 10 → ∃ x, sg_M x (fun i => i < n ∧ Q i) := by
    intro n
    induction n with
    | zero => intro _; exact ⟨0, sg_Mc sg_M0 (fun i hi => ⟨fun q => q.elim, fun q => absurd q.1 (by omega)⟩)⟩
    | succ n ih =>
      intro hn
      obtain ⟨x, hx⟩ := ih (by omega)
      by_cases c : Q n
      · refine ⟨_, sg_Mc (sg_Mor hx (sg_M1 (show n < 10 by omega))) (fun i hi => ⟨?_, ?_⟩)⟩
        · rintro (a | a)
          · exact ⟨by omega, a.2⟩
          · subst a; exact ⟨by omega, c⟩
        · intro a
          rcases Nat.lt_succ_iff_lt_or_eq.mp a.1 with b | b
          · exact Or.inl ⟨b, a.2⟩
          · exact Or.inr b
      · refine ⟨x, sg_Mc hx (fun i hi => ⟨fun a => ⟨by omega, a.2⟩, fun a => ⟨?_, a.2⟩⟩)⟩
        rcases Nat.lt_succ_iff_lt_or_eq.mp a.1 with b | b
        · exact b
        · subst b; exact absurd a.2 c
  obtain ⟨x, hx⟩ := key 10 (Nat.le_refl _)
  exact ⟨x, sg_Mc hx (fun i hi => ⟨fun a => a.2, fun a => ⟨hi, a⟩⟩)⟩
theorem sg_grp {m : Nat} {T : Nat → Rat × Rat} (I : sg_St P G H m T pr mc low high tX bX tY bY pa th en) :
    ∀ e k, k + e = 10 → ∀ x c L, sg_M x L → ∃ r : Int32, (∀ (post : Int32 → Prop) cX cY cB, post r → wX_groups_9 post pr mc cX cY cB low high tX bX tY bY pa (e + 1) x c (nI k)) ∧ (∀ (post : Int32 → SY → Prop) fo pt sp, (∀ sp, post r (fo, th, en, pt, sp)) → wY_groups_9 post (e + 1) x c (nI k) fo th en pt sp) := by
  obtain ⟨g, hG, hP, hl, hE, hH, rfl, hm, hX, hT, hM⟩ := id I
  intro e
  induction e with
  | zero =>
    intro k hk x c L hx
    have : k = 10 := by omega
    subst this
    exact ⟨c, fun post _ _ _ hp => br_t sg_e10 hp, fun post fo pt sp hp => br_t sg_e10 (hp sp)⟩
  | succ e ih =>
    intro k hk x c L hx
    have hk' : k < 10 := by omega
    by_cases q : L k
    · obtain ⟨z, hz⟩ := sg_Mex (sg_Cl P G k)
      obtain ⟨r, hX', hY'⟩ := ih (k + 1) (by omega) (x &&& (z ^^^ (-1))) (c + 1) _ (sg_Mdiff hx hz)
      refine ⟨r, fun post cX cY cB hp => ?_, fun post fo pt sp hp => ?_⟩
      · refine br_f (sg_n10 hk') (br_t ((sg_Mbit hx hk').mpr q) (x_groupOf hm hX hM hk' (fun w hw => ?_)))
        rw [sg_Mu hw hz (fun _ _ => Iff.rfl)]
        exact nm_e (nm_e (nm_r (nI_1 k) (hX' post cX cY cB hp)))
      · refine br_f (sg_n10 hk') (br_t ((sg_Mbit hx hk').mpr q) (y_group g hG hE hH hk' (fun w sp' hw => ?_)))
        rw [sg_Mu hw hz (fun _ _ => Iff.rfl)]
        exact nm_e (nm_e (nm_r (nI_1 k) (hY' post fo pt sp' hp)))
    · obtain ⟨r, hX', hY'⟩ := ih (k + 1) (by omega) x c L hx
      refine ⟨r, fun post cX cY cB hp => ?_, fun post fo pt sp hp => ?_⟩
      · exact br_f (sg_n10 hk') (br_f (fun b => q ((sg_Mbit hx hk').mp b)) (nm_r (nI_1 k) (hX' post cX cY cB hp)))
      · exact br_f (sg_n10 hk') (br_f (fun b => q ((sg_Mbit hx hk').mp b)) (nm_r (nI_1 k) (hY' post fo pt sp hp)))
theorem sg_groups {m : Nat} {T : Nat → Rat × Rat} (I : sg_St P G H m T pr mc low high tX bX tY bY pa th en) : ∃ r : Int32, (∀ (post : Int32 → Prop) cX cY cB, post r → wpX_groups post (pr, mc, cX, cY, cB, low, high, tX, bX, tY, bY, pa)) ∧ (∀ (post : Int32 → SY → Prop) fo pt sp, (∀ sp, post r (fo, th, en, pt, sp)) → wpY_groups post (fo, th, en, pt, sp)) := by
  obtain ⟨g, hG, hP, hl, hE, hH, em, hm, hX, hT, hM⟩ := id I
  obtain ⟨r, a, b⟩ := sg_grp I 10 0 rfl pr 0 P hP
  refine ⟨r, fun post cX cY cB hp => ⟨11, a post cX cY cB hp⟩, fun post fo pt sp hp => ?_⟩
  unfold wpY_groups; dsimp only
  refine y_segments hH (fun x hx => ⟨11, ?_⟩)
  rw [sg_Mu hx hP (fun _ _ => Iff.rfl)]
  exact b post fo pt sp hp
end
theorem i_vc_groups {k : Nat} {u : SX} {v : SY} (I : i_Rel k u v) (hk : k + 3 ≤ 1536) : wpX_groups (fun r => wpY_groups (fun r' v' => r' = r ∧ i_Rel (k + 3) u v') v) u := by
  obtain ⟨pr, mc, cX, cY, cB, low, high, tX, bX, tY, bY, pa⟩ := u
  obtain ⟨fo, th, en, pt, sp⟩ := v
  obtain ⟨P, G, H, m, T, I⟩ := I
  obtain ⟨r, a, b⟩ := sg_groups I
  exact a _ cX cY cB (b _ fo pt sp (fun sp => ⟨rfl, P, G, H, m, T, I⟩))
theorem i_vc_faces {k : Nat} {u : SX} {v : SY} (I : i_Rel k u v) (hk : k + 3 ≤ 1536) : wpX_faces (fun r => wpY_faces (fun r' v' => r' = r ∧ i_Rel (k + 3) u v') v) u := by
  obtain ⟨pr, mc, cX, cY, cB, low, high, tX, bX, tY, bY, pa⟩ := u
  obtain ⟨fo, th, en, pt, sp⟩ := v
  obtain ⟨P, G, H, m, T, I⟩ := I
  obtain ⟨g, hG, hP, hl, hE, hH, rfl, hm, hX, hT, hM⟩ := id I
  obtain ⟨r, a, b⟩ := sg_groups I
  unfold wpX_faces wpY_faces; dsimp only
  refine x_pieces g hG hP hl hm hX hT hM (x_corners g hG hP hl hm hX hT (a _ cX cY cB ?_))
  refine y_places g hG hE hH hX (fun fo pt sp => y_pieces g hG hE hH hm hX (fun fo pt sp => b _ fo pt sp (fun sp => ⟨rfl, P, G, H, m, T, I⟩)))
end
