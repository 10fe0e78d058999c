/-! ===== the segments as numbers; a segment k: (lower x, lower y, upper x, upper y) ===== -/
def sg_lx (G : Nat → Int × Int × Int × Int) (k : Nat) : Int := (G k).1
def sg_ly (G : Nat → Int × Int × Int × Int) (k : Nat) : Int := (G k).2.1
def sg_hx (G : Nat → Int × Int × Int × Int) (k : Nat) : Int := (G k).2.2.1
def sg_hy (G : Nat → Int × Int × Int × Int) (k : Nat) : Int := (G k).2.2.2
def sg_on (G : Nat → Int × Int × Int × Int) (k : Nat) (p : Rat × Rat) : Prop := sg_O (sg_lx G k) (sg_ly G k) (sg_hx G k) (sg_hy G k) p.1 p.2
def sg_in (G : Nat → Int × Int × Int × Int) (k : Nat) : Prop := 0 ≤ sg_lx G k ∧ sg_lx G k ≤ 20 ∧ 0 ≤ sg_ly G k ∧ sg_ly G k ≤ 20 ∧ 0 ≤ sg_hx G k ∧ sg_hx G k ≤ 20 ∧ 0 ≤ sg_hy G k ∧ sg_hy G k ≤ 20
def sg_od (G : Nat → Int × Int × Int × Int) (k : Nat) : Prop := 32 * sg_lx G k + sg_ly G k < 32 * sg_hx G k + sg_hy G k
def sg_un (P : Nat → Prop) (G : Nat → Int × Int × Int × Int) : Prop := ∀ a b, a < 10 → b < 10 → P a → P b → a ≠ b → ∀ p q, sg_on G a p → sg_on G b p → sg_on G a q → sg_on G b q → p = q
def sg_Geo (P : Nat → Prop) (G : Nat → Int × Int × Int × Int) : Prop := (∀ k, k < 10 → sg_in G k) ∧ (∀ k, k < 10 → P k → sg_od G k) ∧ sg_un P G
theorem sg_cs (a b : Int) : ((a - b : Int) : Rat) = (a : Rat) - (b : Rat) := Rat.intCast_sub a b
/-- the order of places is the order of points -/
theorem sg_plt {x y u v : Int} (hy : 0 ≤ y) (hy' : y ≤ 20) (hv : 0 ≤ v) (hv' : v ≤ 20) : sg_lt x y u v ↔ 32 * x + y < 32 * u + v := by
  unfold sg_lt
  rw [Rat.intCast_lt_intCast, Rat.intCast_lt_intCast, Rat.intCast_inj]
  omega
theorem sg_ple {x y u v : Int} (hy : 0 ≤ y) (hy' : y ≤ 20) (hv : 0 ≤ v) (hv' : v ≤ 20) : sg_le x y u v ↔ 32 * x + y ≤ 32 * u + v := by
  unfold sg_le
  rw [Rat.intCast_lt_intCast, Rat.intCast_le_intCast, Rat.intCast_inj]
  omega
theorem sg_Lc (a b c d x y : Int) : sg_L a b c d x y ↔ (c - a) * (y - b) = (d - b) * (x - a) := by
  unfold sg_L
  rw [← Rat.intCast_inj]
  simp only [Rat.intCast_mul, Rat.intCast_sub]
theorem sg_gl {P : Nat → Prop} {G : Nat → Int × Int × Int × Int} (g : sg_Geo P G) {k : Nat} (hk : k < 10) (hp : P k) : sg_lt (sg_lx G k) (sg_ly G k) (sg_hx G k) (sg_hy G k) := by
  obtain ⟨h1, h2, h3, h4, h5, h6, h7, h8⟩ := g.1 k hk
  exact (sg_plt h3 h4 h7 h8).mpr (g.2.1 k hk hp)
/-! ===== fractions ===== -/
theorem sg_nd (p : Rat) : p * ((p.den : Int) : Rat) = ((p.num : Int) : Rat) := by
  have h : ((p.den : Int) : Rat) ≠ 0 := by
    rw [Ne, Rat.intCast_eq_zero_iff]
    have := p.den_nz
    omega
  have e : p = (p.num : Rat) / ((p.den : Int) : Rat) := by
    rw [← Rat.divInt_eq_div, Rat.num_divInt_den]
  have := Rat.div_mul_cancel (a := ((p.num : Int) : Rat)) h
  rw [← e] at this
  exact this
theorem sg_dp (p : Rat) : 0 < ((p.den : Nat) : Int) := by have := p.den_nz; omega
theorem sg_rlt {p q : Rat} {n d m e : Int} (hd : 0 < d) (he : 0 < e) (hp : p * (d : Rat) = n) (hq : q * (e : Rat) = m) : p < q ↔ n * e < m * d := by
  have k1 : (0 : Rat) < (d : Rat) := Rat.intCast_pos.mpr hd
  have k2 : (0 : Rat) < (e : Rat) := Rat.intCast_pos.mpr he
  rw [← sg_ml (Rat.mul_pos k1 k2), ← Rat.intCast_lt_intCast, Rat.intCast_mul, Rat.intCast_mul, ← hp, ← hq]
  constructor <;> intro h <;> grind
theorem sg_req {p q : Rat} {n d m e : Int} (hd : 0 < d) (he : 0 < e) (hp : p * (d : Rat) = n) (hq : q * (e : Rat) = m) : p = q ↔ n * e = m * d := by
  have k1 : (0 : Rat) < (d : Rat) := Rat.intCast_pos.mpr hd
  have k2 : (0 : Rat) < (e : Rat) := Rat.intCast_pos.mpr he
  rw [← sg_me (Rat.mul_pos k1 k2), ← Rat.intCast_inj, Rat.intCast_mul, Rat.intCast_mul, ← hp, ← hq]
  constructor <;> intro h <;> grind
theorem sg_red {p : Rat} {n d : Int} (hd : 0 < d) (hn : 0 ≤ n) (hp : p * (d : Rat) = n) : p.num = n / (Int.gcd n d : Int) ∧ (p.den : Int) = d / (Int.gcd n d : Int) := by
  have hd0 : (d : Rat) ≠ 0 := by rw [Ne, Rat.intCast_eq_zero_iff]; omega
  have e : p = Rat.divInt n d := by
    rw [Rat.divInt_eq_div, ← hp, Rat.mul_div_cancel hd0]
  constructor
  · rw [e, Rat.num_divInt, Int.sign_eq_one_of_pos hd, Int.one_mul, Int.gcd_comm]
  · rw [e, Rat.den_divInt, if_neg (by omega), Int.natCast_ediv, Int.natAbs_of_nonneg (by omega), Int.gcd_comm]
theorem sg_redb {p : Rat} {n d : Int} (hd : 0 < d) (hn : 0 ≤ n) (hp : p * (d : Rat) = n) : 0 ≤ p.num ∧ p.num ≤ n ∧ (p.den : Int) ≤ d := by
  obtain ⟨h1, h2⟩ := sg_red hd hn hp
  rw [h1, h2]
  exact ⟨Int.ediv_nonneg hn (by omega), Int.ediv_le_self _ hn, Int.ediv_le_self _ (by omega)⟩
theorem sg_int1 {p : Rat} {n : Int} (hp : p = n) : p.num = n ∧ p.den = 1 := by rw [hp]; exact ⟨rfl, rfl⟩
theorem sg_den1 {p : Rat} (h : p.den = 1) : p = (p.num : Rat) := Rat.ext rfl h
/-! ===== sorted tables of points ===== -/
def sg_ltp (p q : Rat × Rat) : Prop := sg_lt p.1 p.2 q.1 q.2
theorem sg_ltp_irr (p : Rat × Rat) : ¬ sg_ltp p p := sg_lt_irr
theorem sg_ltp_tr {p q r : Rat × Rat} (h : sg_ltp p q) (k : sg_ltp q r) : sg_ltp p r := sg_lt_trans h k
theorem sg_ltp_tri (p q : Rat × Rat) : sg_ltp p q ∨ p = q ∨ sg_ltp q p := by
  rcases sg_total p.1 p.2 q.1 q.2 with h | h
  · rcases sg_lt_or h with k | ⟨k, l⟩
    · exact Or.inl k
    · exact Or.inr (Or.inl (Prod.ext k l))
  · exact Or.inr (Or.inr h)
def sg_srt (m : Nat) (T : Nat → Rat × Rat) : Prop := ∀ i j, i < j → j < m → sg_ltp (T i) (T j)
theorem sg_srt_le {m : Nat} {T : Nat → Rat × Rat} (h : sg_srt m T) {i j : Nat} (hij : i ≤ j) (hj : j < m) : sg_ltp (T i) (T j) ∨ T i = T j := by
  rcases Nat.lt_or_eq_of_le hij with k | k
  · exact Or.inl (h i j k hj)
  · subst k; exact Or.inr rfl
theorem sg_srt_inj {m : Nat} {T : Nat → Rat × Rat} (h : sg_srt m T) {i j : Nat} (hi : i < m) (hj : j < m) (e : T i = T j) : i = j := by
  rcases Nat.lt_trichotomy i j with k | k | k
  · have := h i j k hj; rw [e] at this; exact absurd this (sg_ltp_irr _)
  · exact k
  · have := h j i k hi; rw [e] at this; exact absurd this (sg_ltp_irr _)
theorem sg_uq1 {m m' : Nat} {T T' : Nat → Rat × Rat} (h : sg_srt m T) (h' : sg_srt m' T') (e : ∀ p, (∃ i, i < m ∧ T i = p) ↔ (∃ i, i < m' ∧ T' i = p)) : ∀ i, i < m → (i < m' ∧ T i = T' i) := by
  intro i
  induction i using Nat.strongRecOn with
  | _ i ih =>
    intro hi
    obtain ⟨a, ha, ea⟩ := (e (T i)).mp ⟨i, hi, rfl⟩
    have hai : i ≤ a := by
      rcases Nat.lt_or_ge a i with k | k
      · obtain ⟨_, e2⟩ := ih a k (by omega)
        have := h a i k hi
        rw [e2, ea] at this
        exact absurd this (sg_ltp_irr _)
      · exact k
    have hi' : i < m' := by omega
    refine ⟨hi', ?_⟩
    obtain ⟨b, hb, eb⟩ := (e (T' i)).mpr ⟨i, hi', rfl⟩
    have hbi : i ≤ b := by
      rcases Nat.lt_or_ge b i with k | k
      · obtain ⟨_, e2⟩ := ih b k hb
        have := h' b i k hi'
        rw [← e2, eb] at this
        exact absurd this (sg_ltp_irr _)
      · exact k
    rcases sg_srt_le h' hai ha with k | k
    · rw [ea] at k
      rcases sg_srt_le h hbi hb with l | l
      · rw [eb] at l; exact absurd (sg_ltp_tr k l) (sg_ltp_irr _)
      · rw [eb] at l; exact l
    · rw [ea] at k; exact k.symm
theorem sg_uq {m m' : Nat} {T T' : Nat → Rat × Rat} (h : sg_srt m T) (h' : sg_srt m' T') (e : ∀ p, (∃ i, i < m ∧ T i = p) ↔ (∃ i, i < m' ∧ T' i = p)) : m = m' ∧ ∀ i, i < m → T i = T' i := by
  have a := sg_uq1 h h' e
  have b := sg_uq1 h' h (fun p => (e p).symm)
  refine ⟨?_, fun i hi => (a i hi).2⟩
  rcases Nat.lt_trichotomy m m' with k | k | k
  · have := (b m k).1; omega
  · exact k
  · have := (a m' k).1; omega
def sg_ins {α : Type} (f : Nat → α) (n : Nat) (v : α) : Nat → α := fun i => if i < n then f i else if i = n then v else f (i - 1)
theorem sg_ins_l {α : Type} {f : Nat → α} {n : Nat} {v : α} {i : Nat} (h : i < n) : sg_ins f n v i = f i := if_pos h
theorem sg_ins_e {α : Type} {f : Nat → α} {n : Nat} {v : α} : sg_ins f n v n = v := by unfold sg_ins; rw [if_neg (by omega), if_pos rfl]
theorem sg_ins_g {α : Type} {f : Nat → α} {n : Nat} {v : α} {i : Nat} (h : n < i) : sg_ins f n v i = f (i - 1) := by unfold sg_ins; rw [if_neg (by omega), if_neg (by omega)]
/-- every place of the grown table holds the new point or an old one -/
theorem sg_ins_c {α : Type} (f : Nat → α) (v : α) {n m i : Nat} (hn : n ≤ m) (hi : i < m + 1) : (i = n ∧ sg_ins f n v i = v) ∨ ∃ j, j < m ∧ sg_ins f n v i = f j ∧ ((i < n ∧ j = i) ∨ (n < i ∧ j + 1 = i)) := by
  rcases Nat.lt_trichotomy i n with h | h | h
  · exact Or.inr ⟨i, by omega, sg_ins_l h, Or.inl ⟨h, rfl⟩⟩
  · subst h; exact Or.inl ⟨rfl, sg_ins_e⟩
  · exact Or.inr ⟨i - 1, by omega, sg_ins_g h, Or.inr ⟨h, by omega⟩⟩
theorem sg_ins_m {α : Type} (f : Nat → α) (v : α) {n m : Nat} (hn : n ≤ m) {j : Nat} (hj : j < m) : ∃ i, i < m + 1 ∧ sg_ins f n v i = f j := by
  rcases Nat.lt_or_ge j n with h | h
  · exact ⟨j, by omega, sg_ins_l h⟩
  · exact ⟨j + 1, by omega, by rw [sg_ins_g (by omega)]; rfl⟩
theorem sg_ins_srt {m n : Nat} {T : Nat → Rat × Rat} {p : Rat × Rat} (h : sg_srt m T) (hn : n ≤ m) (lo : ∀ i, i < n → sg_ltp (T i) p) (hi : ∀ i, n ≤ i → i < m → sg_ltp p (T i)) : sg_srt (m + 1) (sg_ins T n p) := by
  intro i j hij hj
  rcases sg_ins_c T p hn (show i < m + 1 by omega) with ⟨a, ea⟩ | ⟨a, ha, ea, ca⟩ <;> rcases sg_ins_c T p hn hj with ⟨b, eb⟩ | ⟨b, hb, eb, cb⟩ <;> rw [ea, eb]
  · omega
  · exact hi b (by omega) hb
  · exact lo a (by omega)
  · exact h a b (by omega) hb
/-! ===== which pairs a table knows ===== -/
def sg_bd (p : Rat × Rat) : Prop := (0 ≤ p.1.num ∧ p.1.num ≤ 16000 ∧ (p.1.den : Int) ≤ 800) ∧ (0 ≤ p.2.num ∧ p.2.num ≤ 16000 ∧ (p.2.den : Int) ≤ 800)
def sg_Cov (P : Nat → Prop) (G : Nat → Int × Int × Int × Int) (R : Nat → Nat → Prop) (m : Nat) (T : Nat → Rat × Rat) : Prop :=
  sg_srt m T ∧ (∀ i, i < m → sg_bd (T i)) ∧
  (∀ i, i < m → ∃ a b, a < 10 ∧ b < 10 ∧ a ≠ b ∧ P a ∧ P b ∧ sg_on G a (T i) ∧ sg_on G b (T i)) ∧
  (∀ a b p, R a b → P a → P b → sg_on G a p → sg_on G b p → ∃ i, i < m ∧ T i = p)
def sg_Msk (P : Nat → Prop) (G : Nat → Int × Int × Int × Int) (R : Nat → Nat → Prop) (m : Nat) (T : Nat → Rat × Rat) (a : Nat → Int32) : Prop :=
  ∀ i, i < m → sg_M (a i) (fun k => P k ∧ sg_on G k (T i) ∧ ∃ l, (R k l ∨ R l k) ∧ P l ∧ sg_on G l (T i))
def sg_R1 (R : Nat → Nat → Prop) (j k : Nat) : Nat → Nat → Prop := fun a b => R a b ∨ (a = j ∧ b = k)
theorem sg_Cov_c {P : Nat → Prop} {G : Nat → Int × Int × Int × Int} {R S : Nat → Nat → Prop} {m : Nat} {T : Nat → Rat × Rat} (h : sg_Cov P G R m T) (e : ∀ a b, S a b → R a b) : sg_Cov P G S m T :=
  ⟨h.1, h.2.1, h.2.2.1, fun a b p hr => h.2.2.2 a b p (e a b hr)⟩
theorem sg_Msk_c {P : Nat → Prop} {G : Nat → Int × Int × Int × Int} {R S : Nat → Nat → Prop} {m : Nat} {T : Nat → Rat × Rat} {z : Nat → Int32} (h : sg_Msk P G R m T z) (e : ∀ a b, S a b ↔ R a b) : sg_Msk P G S m T z := by
  intro i hi
  refine sg_Mc (h i hi) (fun k hk => ?_)
  simp only [e]
theorem sg_Cov_none {P : Nat → Prop} {G : Nat → Int × Int × Int × Int} {R : Nat → Nat → Prop} {m : Nat} {T : Nat → Rat × Rat} (h : sg_Cov P G R m T) {j k : Nat}
    (hn : ∀ p, P j → P k → sg_on G j p → sg_on G k p → False) : sg_Cov P G (sg_R1 R j k) m T := by
  refine ⟨h.1, h.2.1, h.2.2.1, ?_⟩
  rintro a b p (hr | ⟨rfl, rfl⟩) pa pb oa ob
  · exact h.2.2.2 a b p hr pa pb oa ob
  · exact (hn p pa pb oa ob).elim
theorem sg_Msk_none {P : Nat → Prop} {G : Nat → Int × Int × Int × Int} {R : Nat → Nat → Prop} {m : Nat} {T : Nat → Rat × Rat} {z : Nat → Int32} (h : sg_Msk P G R m T z) {j k : Nat}
    (hn : ∀ p, P j → P k → sg_on G j p → sg_on G k p → False) : sg_Msk P G (sg_R1 R j k) m T z := by
  intro i hi
  refine sg_Mc (h i hi) (fun a ha => ?_)
  constructor
  · rintro ⟨pa, oa, l, hr | hr, pl, ol⟩
    · exact ⟨pa, oa, l, Or.inl (Or.inl hr), pl, ol⟩
    · exact ⟨pa, oa, l, Or.inr (Or.inl hr), pl, ol⟩
  · rintro ⟨pa, oa, l, (hr | ⟨rfl, rfl⟩) | (hr | ⟨rfl, rfl⟩), pl, ol⟩
    · exact ⟨pa, oa, l, Or.inl hr, pl, ol⟩
    · exact (hn _ pa pl oa ol).elim
    · exact ⟨pa, oa, l, Or.inr hr, pl, ol⟩
    · exact (hn _ pl pa ol oa).elim
theorem sg_Cov_old {P : Nat → Prop} {G : Nat → Int × Int × Int × Int} {R : Nat → Nat → Prop} {m : Nat} {T : Nat → Rat × Rat} (h : sg_Cov P G R m T) {j k n : Nat} {p : Rat × Rat}
    (hU : ∀ q, sg_on G j q → sg_on G k q → q = p) (hn : n < m) (e : T n = p) : sg_Cov P G (sg_R1 R j k) m T := by
  refine ⟨h.1, h.2.1, h.2.2.1, ?_⟩
  rintro a b q (hr | ⟨rfl, rfl⟩) pa pb oa ob
  · exact h.2.2.2 a b q hr pa pb oa ob
  · exact ⟨n, hn, e.trans (hU q oa ob).symm⟩
theorem sg_Cov_new {P : Nat → Prop} {G : Nat → Int × Int × Int × Int} {R : Nat → Nat → Prop} {m : Nat} {T : Nat → Rat × Rat} (h : sg_Cov P G R m T) {j k n : Nat} {p : Rat × Rat}
    (hj : j < 10) (hk : k < 10) (hne : j ≠ k) (pj : P j) (pk : P k) (oj : sg_on G j p) (ok : sg_on G k p) (hb : sg_bd p)
    (hU : ∀ q, sg_on G j q → sg_on G k q → q = p) (hn : n ≤ m) (lo : ∀ i, i < n → sg_ltp (T i) p) (hi : ∀ i, n ≤ i → i < m → sg_ltp p (T i)) : sg_Cov P G (sg_R1 R j k) (m + 1) (sg_ins T n p) := by
  refine ⟨sg_ins_srt h.1 hn lo hi, ?_, ?_, ?_⟩
  · intro i hi
    rcases sg_ins_c T p hn hi with ⟨_, ea⟩ | ⟨a, ha, ea, _⟩ <;> rw [ea]
    · exact hb
    · exact h.2.1 a ha
  · intro i hi
    rcases sg_ins_c T p hn hi with ⟨_, ea⟩ | ⟨a, ha, ea, _⟩ <;> rw [ea]
    · exact ⟨j, k, hj, hk, hne, pj, pk, oj, ok⟩
    · exact h.2.2.1 a ha
  · rintro a b q (hr | ⟨rfl, rfl⟩) pa pb oa ob
    · obtain ⟨i, hi, ei⟩ := h.2.2.2 a b q hr pa pb oa ob
      obtain ⟨i', hi', ei'⟩ := sg_ins_m T p hn hi
      exact ⟨i', hi', ei'.trans ei⟩
    · exact ⟨n, by omega, by rw [sg_ins_e, hU q oa ob]⟩
/-- the mask at a point that the pair does not meet in stays -/
theorem sg_Msk_1 {P : Nat → Prop} {G : Nat → Int × Int × Int × Int} {R : Nat → Nat → Prop} {x : Int32} {q p : Rat × Rat} {j k : Nat}
    (h : sg_M x (fun a => P a ∧ sg_on G a q ∧ ∃ l, (R a l ∨ R l a) ∧ P l ∧ sg_on G l q)) (hU : ∀ q, sg_on G j q → sg_on G k q → q = p) (hq : q ≠ p) :
    sg_M x (fun a => P a ∧ sg_on G a q ∧ ∃ l, (sg_R1 R j k a l ∨ sg_R1 R j k l a) ∧ P l ∧ sg_on G l q) := by
  refine sg_Mc h (fun a ha => ?_)
  constructor
  · rintro ⟨pa, oa, l, hr | hr, pl, ol⟩
    · exact ⟨pa, oa, l, Or.inl (Or.inl hr), pl, ol⟩
    · exact ⟨pa, oa, l, Or.inr (Or.inl hr), pl, ol⟩
  · rintro ⟨pa, oa, l, (hr | ⟨rfl, rfl⟩) | (hr | ⟨rfl, rfl⟩), pl, ol⟩
    · exact ⟨pa, oa, l, Or.inl hr, pl, ol⟩
    · exact absurd (hU q oa ol) hq
    · exact ⟨pa, oa, l, Or.inr hr, pl, ol⟩
    · exact absurd (hU q ol oa) hq
theorem sg_Msk_old {P : Nat → Prop} {G : Nat → Int × Int × Int × Int} {R : Nat → Nat → Prop} {m : Nat} {T : Nat → Rat × Rat} {z : Nat → Int32} (hC : sg_Cov P G R m T) (h : sg_Msk P G R m T z) {j k n : Nat} {p : Rat × Rat} {x : Int32}
    (hj : j < 10) (hk : k < 10) (pj : P j) (pk : P k) (oj : sg_on G j p) (ok : sg_on G k p) (hx : sg_M x (fun i => i = j ∨ i = k))
    (hU : ∀ q, sg_on G j q → sg_on G k q → q = p) (hn : n < m) (e : T n = p) : sg_Msk P G (sg_R1 R j k) m T (upd z n (z n ||| x)) := by
  intro i hi
  by_cases c : i = n
  · subst c
    rw [pk_us]
    refine sg_Mc (sg_Mor (h i hi) hx) (fun a ha => ?_)
    constructor
    · rintro (⟨pa, oa, l, hr | hr, pl, ol⟩ | (rfl | rfl))
      · exact ⟨pa, oa, l, Or.inl (Or.inl hr), pl, ol⟩
      · exact ⟨pa, oa, l, Or.inr (Or.inl hr), pl, ol⟩
      · rw [e]; exact ⟨pj, oj, k, Or.inl (Or.inr ⟨rfl, rfl⟩), pk, ok⟩
      · rw [e]; exact ⟨pk, ok, j, Or.inr (Or.inr ⟨rfl, rfl⟩), pj, oj⟩
    · rintro ⟨pa, oa, l, (hr | ⟨rfl, rfl⟩) | (hr | ⟨rfl, rfl⟩), pl, ol⟩
      · exact Or.inl ⟨pa, oa, l, Or.inl hr, pl, ol⟩
      · exact Or.inr (Or.inl rfl)
      · exact Or.inl ⟨pa, oa, l, Or.inr hr, pl, ol⟩
      · exact Or.inr (Or.inr rfl)
  · rw [pk_un c]
    refine sg_Msk_1 (h i hi) hU (fun hq => c ?_)
    exact sg_srt_inj hC.1 hi hn (hq.trans e.symm)
theorem sg_Msk_new {P : Nat → Prop} {G : Nat → Int × Int × Int × Int} {R : Nat → Nat → Prop} {m : Nat} {T : Nat → Rat × Rat} {z : Nat → Int32} (hC : sg_Cov P G R m T) (h : sg_Msk P G R m T z) {j k n : Nat} {p : Rat × Rat} {x : Int32}
    (hj : j < 10) (hk : k < 10) (pj : P j) (pk : P k) (oj : sg_on G j p) (ok : sg_on G k p) (hx : sg_M x (fun i => i = j ∨ i = k))
    (hU : ∀ q, sg_on G j q → sg_on G k q → q = p) (hn : n ≤ m) (hnot : ∀ i, i < m → T i ≠ p) : sg_Msk P G (sg_R1 R j k) (m + 1) (sg_ins T n p) (sg_ins z n x) := by
  intro i hi
  rcases Nat.lt_trichotomy i n with c | c | c
  · rw [sg_ins_l c, sg_ins_l c]
    exact sg_Msk_1 (h i (by omega)) hU (hnot i (by omega))
  · subst c
    rw [sg_ins_e, sg_ins_e]
    refine sg_Mc hx (fun a ha => ?_)
    constructor
    · rintro (rfl | rfl)
      · exact ⟨pj, oj, k, Or.inl (Or.inr ⟨rfl, rfl⟩), pk, ok⟩
      · exact ⟨pk, ok, j, Or.inr (Or.inr ⟨rfl, rfl⟩), pj, oj⟩
    · rintro ⟨pa, oa, l, (hr | ⟨rfl, rfl⟩) | (hr | ⟨rfl, rfl⟩), pl, ol⟩
      · obtain ⟨i', hi', e'⟩ := hC.2.2.2 a l p hr pa pl oa ol
        exact absurd e' (hnot i' hi')
      · exact Or.inl rfl
      · obtain ⟨i', hi', e'⟩ := hC.2.2.2 l a p hr pl pa ol oa
        exact absurd e' (hnot i' hi')
      · exact Or.inr rfl
  · rw [sg_ins_g c, sg_ins_g c]
    exact sg_Msk_1 (h (i - 1) (by omega)) hU (hnot (i - 1) (by omega))
/-- a table that knows all pairs -/
def sg_Ex (P : Nat → Prop) (G : Nat → Int × Int × Int × Int) (m : Nat) (T : Nat → Rat × Rat) : Prop := sg_Cov P G (fun a b => a < 10 ∧ b < 10 ∧ a ≠ b) m T
theorem sg_Ex_of {P : Nat → Prop} {G : Nat → Int × Int × Int × Int} {R : Nat → Nat → Prop} {m : Nat} {T : Nat → Rat × Rat} (h : sg_Cov P G R m T) (e : ∀ a b, a < 10 → b < 10 → a ≠ b → R a b ∨ R b a) : sg_Ex P G m T := by
  refine ⟨h.1, h.2.1, h.2.2.1, ?_⟩
  rintro a b p ⟨ha, hb, hne⟩ pa pb oa ob
  rcases e a b ha hb hne with r | r
  · exact h.2.2.2 a b p r pa pb oa ob
  · exact h.2.2.2 b a p r pb pa ob oa
theorem sg_Ex_u {P : Nat → Prop} {G : Nat → Int × Int × Int × Int} {m m' : Nat} {T T' : Nat → Rat × Rat} (h : sg_Ex P G m T) (h' : sg_Ex P G m' T') : m = m' ∧ ∀ i, i < m → T i = T' i := by
  refine sg_uq h.1 h'.1 (fun p => ?_)
  constructor
  · rintro ⟨i, hi, rfl⟩
    obtain ⟨a, b, ha, hb, hne, pa, pb, oa, ob⟩ := h.2.2.1 i hi
    exact h'.2.2.2 a b _ ⟨ha, hb, hne⟩ pa pb oa ob
  · rintro ⟨i, hi, rfl⟩
    obtain ⟨a, b, ha, hb, hne, pa, pb, oa, ob⟩ := h'.2.2.1 i hi
    exact h.2.2.2 a b _ ⟨ha, hb, hne⟩ pa pb oa ob
theorem sg_Msk_of {P : Nat → Prop} {G : Nat → Int × Int × Int × Int} {R : Nat → Nat → Prop} {m : Nat} {T : Nat → Rat × Rat} {z : Nat → Int32} (hC : sg_Cov P G R m T) (h : sg_Msk P G R m T z) (e : ∀ a b, a < 10 → b < 10 → a ≠ b → R a b ∨ R b a) : ∀ i, i < m → sg_M (z i) (fun k => P k ∧ sg_on G k (T i)) := by
  intro i hi
  refine sg_Mc (h i hi) (fun a ha => ?_)
  constructor
  · rintro ⟨pa, oa, _⟩; exact ⟨pa, oa⟩
  · rintro ⟨pa, oa⟩
    refine ⟨pa, oa, ?_⟩
    obtain ⟨b, c, hb, hc, hne, pb, pc, ob, oc⟩ := hC.2.2.1 i hi
    by_cases q : a = b
    · subst q; exact ⟨c, e a c ha hc hne, pc, oc⟩
    · exact ⟨b, e a b ha hb q, pb, ob⟩
