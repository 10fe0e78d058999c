/-! ===== Y: fractions, the common point ===== -/
theorem sg_lz {a : Int} (ha : sg_RL a) : sg_l a = 0 ↔ a = 0 := sg_leq (b := 0) ha ⟨by decide, by decide⟩
theorem sg_lz0 {a : Int} (ha : sg_RL a) : 0 ≤ sg_l a ↔ 0 ≤ a := sg_lle (a := 0) ⟨by decide, by decide⟩ ha
theorem sg_lzl {a : Int} (ha : sg_RL a) : sg_l a ≤ 0 ↔ a ≤ 0 := sg_lle (b := 0) ha ⟨by decide, by decide⟩
theorem sg_ldivx {a b : Int} (ha : -1000000 ≤ a) (ha' : a ≤ 1000000) (hb : 0 < b) (hb' : b ≤ 1000000) (hd : b ∣ a) : sg_l a / sg_l b = sg_l (a / b) := by
  apply Int64.toInt_inj.mp
  have hne : sg_l b ≠ -1 := by
    intro h
    rw [sg_lm1, sg_leq ⟨by omega, by omega⟩ ⟨by omega, by omega⟩] at h
    omega
  have h1 : a / b ≤ 1000000 := Int.ediv_le_of_le_mul hb (by omega)
  have h2 : -1000000 ≤ a / b := Int.le_ediv_of_mul_le hb (by omega)
  rw [Int64.toInt_div_of_ne_right _ _ hne, sg_lT ⟨by omega, by omega⟩, sg_lT ⟨by omega, by omega⟩, sg_lT ⟨by omega, by omega⟩, Int.tdiv_eq_ediv_of_dvd hd]
theorem sg_redG {p : Rat} {n d : Int} (hd : d ≠ 0) (hp : p * (d : Rat) = n) : p.num = (d.sign * n) / (Int.gcd n d : Int) ∧ (p.den : Int) = (d.sign * d) / (Int.gcd n d : Int) := by
  have hd0 : (d : Rat) ≠ 0 := by rw [Ne, Rat.intCast_eq_zero_iff]; exact hd
  have e : p = Rat.divInt n d := by
    rw [Rat.divInt_eq_div, ← hp, Rat.mul_div_cancel hd0]
  constructor
  · rw [e, Rat.num_divInt, Int.gcd_comm]
  · rw [e, Rat.den_divInt, if_neg hd, Int.natCast_ediv, Int.gcd_comm]
    congr 1
    rcases Int.lt_trichotomy d 0 with c | c | c
    · rw [Int.sign_eq_neg_one_of_neg c]; omega
    · exact absurd c hd
    · rw [Int.sign_eq_one_of_pos c]; omega
theorem sg_redGb {p : Rat} {n d : Int} (hd : d ≠ 0) (hd1 : -800 ≤ d) (hd2 : d ≤ 800) (hn1 : -32000 ≤ n) (hn2 : n ≤ 32000) (hp : p * (d : Rat) = n) : -32000 ≤ p.num ∧ p.num ≤ 32000 ∧ (p.den : Int) ≤ 800 := by
  obtain ⟨h1, h2⟩ := sg_redG hd hp
  have g1 : 0 < (Int.gcd n d : Int) := by have := Int.gcd_pos_of_ne_zero_right n hd; omega
  have s : (d.sign * n = n ∧ d.sign * d = d) ∨ (d.sign * n = -n ∧ d.sign * d = -d) := by
    rcases Int.lt_trichotomy d 0 with c | c | c
    · right; rw [Int.sign_eq_neg_one_of_neg c]; omega
    · exact absurd c hd
    · left; rw [Int.sign_eq_one_of_pos c]; omega
  rw [h1, h2]
  refine ⟨Int.le_ediv_of_mul_le g1 ?_, Int.ediv_le_of_le_mul g1 ?_, Int.ediv_le_of_le_mul g1 ?_⟩ <;> rcases s with ⟨a, b⟩ | ⟨a, b⟩ <;> omega
section
variable {P : Nat → Prop} {G H : Nat → Int × Int × Int × Int} {fo : Int32} {th en : Nat → Int32} {pt sp : Nat → Int64}
theorem y_gcd1 {post : Int64 → Prop} : ∀ (b a n : Nat), b < n → b < 1000000000 → a < 1000000000 → 0 < Nat.gcd a b → post (sg_l (Nat.gcd a b : Int)) → wY_divisor_28 post fo th en pt sp n (sg_l a) (sg_l b) := by
  intro b
  induction b using Nat.strongRecOn with
  | _ b ih =>
    intro a n hn hb' ha hg hp
    obtain ⟨n', rfl⟩ : ∃ n', n = n' + 1 := ⟨n - 1, by omega⟩
    by_cases hb : b = 0
    · subst hb
      rw [Nat.gcd_zero_right] at hg hp
      refine br_t ((sg_lz ⟨by omega, by omega⟩).mpr rfl) (br_f ?_ hp)
      rw [sg_lz ⟨by omega, by omega⟩]; omega
    · have hne : ¬ sg_l (b : Int) = 0 := by rw [sg_lz ⟨by omega, by omega⟩]; omega
      refine br_f hne ⟨hne, nm_r (sg_lrem (by omega) (by omega) (by omega) (by omega)) ?_⟩
      have hlt : a % b < b := Nat.mod_lt _ (by omega)
      have eg : Nat.gcd b (a % b) = Nat.gcd a b := by rw [Nat.gcd_comm b, ← Nat.gcd_rec, Nat.gcd_comm]
      rw [← Int.natCast_emod]
      exact ih (a % b) hlt b n' (by omega) (by omega) (by omega) (by rw [eg]; exact hg) (by rw [eg]; exact hp)
theorem y_divisor {post : Int64 → Prop} {x y : Int} (hx : -1000000 ≤ x) (hx' : x ≤ 1000000) (hy : -1000000 ≤ y) (hy' : y ≤ 1000000) (h0 : y ≠ 0) (h : post (sg_l (Int.gcd x y : Int))) : wpY_divisor post (fo, th, en, pt, sp) (sg_l x) (sg_l y) := by
  have hg : 0 < Nat.gcd x.natAbs y.natAbs := Nat.gcd_pos_of_pos_right _ (by omega)
  have fin : ∃ n, wY_divisor_28 post fo th en pt sp n (sg_l (x.natAbs : Int)) (sg_l (y.natAbs : Int)) := ⟨y.natAbs + 1, y_gcd1 y.natAbs x.natAbs _ (by omega) (by omega) (by omega) hg h⟩
  unfold wpY_divisor wY_divisor_12
  dsimp only
  rw [sg_lz0 ⟨by omega, by omega⟩, sg_lz0 ⟨by omega, by omega⟩, sg_lneg, sg_lneg]
  refine br_c (fun c => br_c (fun d => ?_) (fun d => nm_e ?_)) (fun c => br_c (fun d => ?_) (fun d => nm_e ?_))
  · rw [show (x.natAbs : Int) = x by omega, show (y.natAbs : Int) = y by omega] at fin; exact fin
  · rw [show (x.natAbs : Int) = x by omega, show (y.natAbs : Int) = -y by omega] at fin; exact fin
  · rw [show (x.natAbs : Int) = -x by omega, show (y.natAbs : Int) = y by omega] at fin; exact fin
  · rw [show (x.natAbs : Int) = -x by omega, show (y.natAbs : Int) = -y by omega] at fin; exact fin
theorem y_setAxis {post : SY → Prop} {a : Nat} (ha : a < 3) {n d : Int} {p : Rat} (hd : d ≠ 0) (hd1 : -800 ≤ d) (hd2 : d ≤ 800) (hn1 : -32000 ≤ n) (hn2 : n ≤ 32000) (hp : p * (d : Rat) = n)
    (h : post (fo, th, en, pt, vp_updL (vp_updL sp a (sg_l p.num)) (a + 1) (sg_l (p.den : Int)))) : wpY_setAxis post (fo, th, en, pt, sp) (nI a) (sg_l n) (sg_l d) := by
  obtain ⟨r1, r2⟩ := sg_redG hd hp
  have g1 : 0 < (Int.gcd n d : Int) := by have := Int.gcd_pos_of_ne_zero_right n hd; omega
  have g2 : (Int.gcd n d : Int) ∣ n := Int.gcd_dvd_left ..
  have g3 : (Int.gcd n d : Int) ∣ d := Int.gcd_dvd_right ..
  have g4 : (Int.gcd n d : Int) ≤ 800 := by
    have := Int.le_of_dvd (b := (d.natAbs : Int)) (by omega) (Int.dvd_natAbs.mpr g3)
    omega
  have z1 : ¬ sg_l (Int.gcd n d : Int) = 0 := by rw [sg_lz ⟨by omega, by omega⟩]; omega
  have v1 : vp_in (nI a) 4 := vp_in_nI (by omega) (by decide)
  have v2 : vp_in (nI (a + 1)) 4 := vp_in_nI (by omega) (by decide)
  unfold wpY_setAxis
  dsimp only
  refine y_divisor (by omega) (by omega) (by omega) (by omega) hd ?_
  unfold wY_setAxis_23
  rw [sg_lz0 ⟨by omega, by omega⟩, nI_1, nI_clamp (show a < 2 ^ 31 by omega), nI_clamp (show a + 1 < 2 ^ 31 by omega)]
  refine br_c (fun c => ?_) (fun c => ?_)
  · have e1 : ((1 : Int64) * sg_l n) / sg_l (Int.gcd n d : Int) = sg_l p.num := by
      rw [sg_l1, sg_lmul, sg_ldivx (by omega) (by omega) g1 (by omega) (by rw [Int.one_mul]; exact g2), r1, Int.sign_eq_one_of_pos (by omega)]
    have e2 : ((1 : Int64) * sg_l d) / sg_l (Int.gcd n d : Int) = sg_l (p.den : Int) := by
      rw [sg_l1, sg_lmul, sg_ldivx (by omega) (by omega) g1 (by omega) (by rw [Int.one_mul]; exact g3), r2, Int.sign_eq_one_of_pos (by omega)]
    rw [e1, e2]
    exact ⟨z1, v1, nm_e ⟨z1, v2, nm_e h⟩⟩
  · have e1 : ((-1 : Int64) * sg_l n) / sg_l (Int.gcd n d : Int) = sg_l p.num := by
      rw [sg_lm1, sg_lmul, sg_ldivx (by omega) (by omega) g1 (by omega) (Int.dvd_mul_of_dvd_right g2), r1, Int.sign_eq_neg_one_of_neg (by omega)]
    have e2 : ((-1 : Int64) * sg_l d) / sg_l (Int.gcd n d : Int) = sg_l (p.den : Int) := by
      rw [sg_lm1, sg_lmul, sg_ldivx (by omega) (by omega) g1 (by omega) (Int.dvd_mul_of_dvd_right g3), r2, Int.sign_eq_neg_one_of_neg (by omega)]
    rw [e1, e2]
    exact ⟨z1, v1, nm_e ⟨z1, v2, nm_e h⟩⟩
theorem sg_SPm (sp : Nat → Int64) (p : Rat × Rat) : sg_SP p (vp_updL (vp_updL (vp_updL (vp_updL sp 0 (sg_l p.1.num)) (0 + 1) (sg_l (p.1.den : Int))) 2 (sg_l p.2.num)) (2 + 1) (sg_l (p.2.den : Int))) := ⟨rfl, rfl, rfl, rfl⟩
theorem y_goTo {post : SY → Prop} {x y : Int} (hx : 0 ≤ x) (hx' : x ≤ 20) (hy : 0 ≤ y) (hy' : y ≤ 20) (h : ∀ sp', sg_SP ((x : Rat), (y : Rat)) sp' → post (fo, th, en, pt, sp')) : wpY_goTo post (fo, th, en, pt, sp) (sg_i x) (sg_i y) := by
  unfold wpY_goTo
  dsimp only
  rw [sg_il (a := x) ⟨by omega, by omega⟩, sg_il (a := y) ⟨by omega, by omega⟩]
  refine y_setAxis (a := 0) (d := 1) (p := (x : Rat)) (by omega) (by omega) (by omega) (by omega) (by omega) (by omega) (Rat.mul_one _) ?_
  refine y_setAxis (a := 2) (d := 1) (p := (y : Rat)) (by omega) (by omega) (by omega) (by omega) (by omega) (by omega) (Rat.mul_one _) ?_
  exact h _ (sg_SPm sp ((x : Rat), (y : Rat)))
/-- end c of segment k -/
def sg_ep (H : Nat → Int × Int × Int × Int) (k c : Nat) : Rat × Rat := if c = 0 then ((sg_lx H k : Rat), (sg_ly H k : Rat)) else ((sg_hx H k : Rat), (sg_hy H k : Rat))
theorem y_goToEnd {post : SY → Prop} (hE : sg_EN H en) {k : Nat} (hk : k < 10) (hi : sg_in H k) {c : Nat} (hc : c < 2) (h : ∀ sp', sg_SP (sg_ep H k c) sp' → post (fo, th, en, pt, sp')) : wpY_goToEnd post (fo, th, en, pt, sp) (nI k) (nI c) := by
  obtain ⟨i1, i2, i3, i4, i5, i6, i7, i8⟩ := hi
  unfold wpY_goToEnd
  dsimp only
  rcases (show c = 0 ∨ c = 1 by omega) with rfl | rfl
  · rw [show (2 * nI 0 : Int32) = 0 by decide, show (0 + 1 : Int32) = 1 by decide, y_e0 hE hk, y_e1 hE hk]
    exact y_goTo i1 i2 i3 i4 h
  · rw [show (2 * nI 1 : Int32) = 2 by decide, show (2 + 1 : Int32) = 3 by decide, y_e2 hE hk, y_e3 hE hk]
    exact y_goTo i5 i6 i7 i8 h
theorem sg_ep_on {G H : Nat → Int × Int × Int × Int} {P : Nat → Prop} (g : sg_Geo P G) (hG : sg_GH G H) {k : Nat} (hk : k < 10) (pk : P k) (c : Nat) : sg_on G k (sg_ep H k c) := by
  have l := sg_gl g hk pk
  have a := sg_O_a l
  have b := sg_O_c l
  unfold sg_ep sg_on
  rcases hG k hk with e | e <;> by_cases q : c = 0 <;> simp only [q, if_true, if_false, sg_lx, sg_ly, sg_hx, sg_hy, e] <;> first | exact a | exact b
theorem sg_ep_c {G H : Nat → Int × Int × Int × Int} (hG : sg_GH G H) {k : Nat} (hk : k < 10) (p : Rat × Rat) : (p = sg_ep H k 0 ∨ p = sg_ep H k 1) ↔ (p = ((sg_lx G k : Rat), (sg_ly G k : Rat)) ∨ p = ((sg_hx G k : Rat), (sg_hy G k : Rat))) := by
  unfold sg_ep
  rcases hG k hk with e | e
  · simp only [sg_lx, sg_ly, sg_hx, sg_hy, e, if_true]; rfl
  · simp only [sg_lx, sg_ly, sg_hx, sg_hy, e, if_true]; exact Or.comm
theorem sg_ep_b {H : Nat → Int × Int × Int × Int} {k : Nat} (hi : sg_in H k) (c : Nat) : sg_bd (sg_ep H k c) := by
  obtain ⟨i1, i2, i3, i4, i5, i6, i7, i8⟩ := hi
  unfold sg_ep sg_bd
  by_cases q : c = 0
  · rw [if_pos q]
    simp only [Rat.num_intCast, Rat.den_intCast]
    omega
  · rw [if_neg q]
    simp only [Rat.num_intCast, Rat.den_intCast]
    omega
theorem sg_on_bd {G : Nat → Int × Int × Int × Int} {P : Nat → Prop} (g : sg_Geo P G) {k : Nat} (hk : k < 10) (pk : P k) {p : Rat × Rat} (h : sg_on G k p) (hb : sg_b3 p) : sg_bd p := by
  obtain ⟨⟨b1, b2, b3⟩, b4, b5, b6⟩ := hb
  obtain ⟨i1, i2, i3, i4, i5, i6, i7, i8⟩ := g.1 k hk
  obtain ⟨_, u, v⟩ := (sg_box (sg_gl g hk pk)).mp h
  have d1 := sg_dp p.1
  have d2 := sg_dp p.2
  have w : ∀ (r : Rat) (a b : Int), 0 ≤ a → a ≤ 20 → 0 ≤ b → b ≤ 20 → sg_bt a b r → (r.den : Int) ≤ 800 → 0 ≤ r.num ∧ r.num ≤ 16000 := by
    intro r a b ha ha' hb hb' hbt hd
    have dd := sg_dp r
    have k0 : (0 : Int) * (r.den : Int) ≤ r.num := by
      rw [← sg_rle1 dd (sg_nd r)]
      have q1 : (0 : Rat) ≤ (a : Rat) := Rat.intCast_nonneg.mpr ha
      have q2 : (0 : Rat) ≤ (b : Rat) := Rat.intCast_nonneg.mpr hb
      rcases hbt with z | z
      · exact Rat.le_trans q1 z.1
      · exact Rat.le_trans q2 z.1
    have k1 : r.num ≤ 20 * (r.den : Int) := by
      rw [← sg_rle2 dd (sg_nd r)]
      have q1 : (a : Rat) ≤ ((20 : Int) : Rat) := Rat.intCast_le_intCast.mpr ha'
      have q2 : (b : Rat) ≤ ((20 : Int) : Rat) := Rat.intCast_le_intCast.mpr hb'
      rcases hbt with z | z
      · exact Rat.le_trans z.2 q2
      · exact Rat.le_trans z.2 q1
    omega
  have u' := w _ _ _ i1 i2 i5 i6 u b3
  have v' := w _ _ _ i3 i4 i7 i8 v b6
  exact ⟨⟨u'.1, u'.2, b3⟩, v'.1, v'.2, b6⟩
theorem sg_crossH {G H : Nat → Int × Int × Int × Int} (hG : sg_GH G H) {j k : Nat} (hj : j < 10) (hk : k < 10)
    (h : ((sg_hx H j : Rat) - sg_lx H j) * ((sg_hy H k : Rat) - sg_ly H k) - ((sg_hy H j : Rat) - sg_ly H j) * ((sg_hx H k : Rat) - sg_lx H k) = 0) :
    ((sg_hx G j : Rat) - sg_lx G j) * ((sg_hy G k : Rat) - sg_ly G k) - ((sg_hy G j : Rat) - sg_ly G j) * ((sg_hx G k : Rat) - sg_lx G k) = 0 := by
  rcases hG j hj with e | e <;> rcases hG k hk with f | f <;> simp only [sg_lx, sg_ly, sg_hx, sg_hy, e, f] at h ⊢ <;> grind
theorem y_common {post : Int32 → SY → Prop} (g : sg_Geo P G) (hG : sg_GH G H) (hE : sg_EN H en) {j k : Nat} (hj : j < 10) (hk : k < 10) (hne : j ≠ k) (pj : P j) (pk : P k)
    (h1 : ∀ p sp', sg_SP p sp' → sg_bd p → sg_on G j p → sg_on G k p → post 1 (fo, th, en, pt, sp'))
    (h0 : ∀ sp', (∀ p, sg_on G j p → sg_on G k p → False) → post 0 (fo, th, en, pt, sp')) : wpY_common post (fo, th, en, pt, sp) (nI j) (nI k) := by
  have lj := sg_gl g hj pj
  have lk := sg_gl g hk pk
  have hij := sg_GHi hG hj (g.1 j hj)
  obtain ⟨i1, i2, i3, i4, i5, i6, i7, i8⟩ := id hij
  obtain ⟨j1, j2, j3, j4, j5, j6, j7, j8⟩ := sg_GHi hG hk (g.1 k hk)
  simp only [wpY_common, wpY_across, y_e0 hE hj, y_e1 hE hj, y_e2 hE hj, y_e3 hE hj, y_e0 hE hk, y_e1 hE hk, y_e2 hE hk, y_e3 hE hk, sg_isub, sg_imul, forall_eq]
  generalize ew : (sg_hx H j - sg_lx H j) * (sg_hy H k - sg_ly H k) - (sg_hy H j - sg_ly H j) * (sg_hx H k - sg_lx H k) = w
  generalize eq : (sg_lx H k - sg_lx H j) * (sg_hy H k - sg_ly H k) - (sg_ly H k - sg_ly H j) * (sg_hx H k - sg_lx H k) = q
  have bw : -800 ≤ w ∧ w ≤ 800 := by rw [← ew]; exact sg_b8 (by omega) (by omega) (by omega) (by omega) (by omega) (by omega) (by omega) (by omega)
  have bq : -800 ≤ q ∧ q ≤ 800 := by rw [← eq]; exact sg_b8 (by omega) (by omega) (by omega) (by omega) (by omega) (by omega) (by omega) (by omega)
  have ew' : (w : Rat) = ((sg_hx H j : Rat) - sg_lx H j) * ((sg_hy H k : Rat) - sg_ly H k) - ((sg_hy H j : Rat) - sg_ly H j) * ((sg_hx H k : Rat) - sg_lx H k) := by
    rw [← ew]; simp only [Rat.intCast_mul, Rat.intCast_sub]
  have eq' : (q : Rat) = ((sg_lx H k : Rat) - sg_lx H j) * ((sg_hy H k : Rat) - sg_ly H k) - ((sg_ly H k : Rat) - sg_ly H j) * ((sg_hx H k : Rat) - sg_lx H k) := by
    rw [← eq]; simp only [Rat.intCast_mul, Rat.intCast_sub]
  rw [sg_iz ⟨by omega, by omega⟩]
  refine br_c (fun w0 => ?_) (fun w0 => ?_)
  · have w1 : ((sg_hx H j : Rat) - sg_lx H j) * ((sg_hy H k : Rat) - sg_ly H k) - ((sg_hy H j : Rat) - sg_ly H j) * ((sg_hx H k : Rat) - sg_lx H k) = 0 := by
      rw [← ew', w0]; rfl
    have w2 := sg_crossH hG hj hk w1
    have step : ∀ c, c < 2 → ∀ n sp, (∀ sp', ¬ sg_on G k (sg_ep H j c) → wY_common_14 post (nI j) (nI k) n (nI (c + 1)) fo th en pt sp') → wY_common_14 post (nI j) (nI k) (n + 1) (nI c) fo th en pt sp := by
      intro c hc n sp hn
      refine br_f (nI_ge (b := 2) hc (by decide)) (y_goToEnd hE hj hij hc (fun sp' hS => ?_))
      refine y_has g hG hE hS (sg_bd3 (sg_ep_b hij c)) hk pk (fun o => br_f (by decide) ?_) (fun o => br_t rfl (nm_r (nI_1 c) (hn sp' o)))
      exact h1 _ sp' hS (sg_ep_b hij c) (sg_ep_on g hG hj pj c) o
    refine ⟨3, step 0 (by omega) 2 sp (fun sp1 n0 => step 1 (by omega) 1 sp1 (fun sp2 n1 => br_t (by decide) (h0 sp2 ?_)))⟩
    intro p oj ok
    have := (sg_ep_c hG hj p).mpr (by
      rcases sg_touch lj lk w2 oj ok (fun u v a b => by
          have e := g.2.2 j k hj hk pj pk hne (u, v) p a b oj ok
          exact ⟨congrArg Prod.fst e, congrArg Prod.snd e⟩) with ⟨_, _, e, f⟩ | ⟨_, _, e, f⟩
      · exact Or.inr (Prod.ext e f)
      · exact Or.inl (Prod.ext e f))
    rcases this with e | e
    · exact n0 (e ▸ ok)
    · exact n1 (e ▸ ok)
  · have wn : (w : Rat) ≠ 0 := by rw [Ne, Rat.intCast_eq_zero_iff]; exact w0
    have et : (q : Rat) / (w : Rat) * (w : Rat) = q := Rat.div_mul_cancel wn
    have c1 := sg_mb (a := sg_lx H j) (b := w) 20 800 (by omega) (by omega) (by omega) (by omega)
    have c2 := sg_mb (a := q) (b := sg_hx H j - sg_lx H j) 800 20 (by omega) (by omega) (by omega) (by omega)
    have c3 := sg_mb (a := sg_ly H j) (b := w) 20 800 (by omega) (by omega) (by omega) (by omega)
    have c4 := sg_mb (a := q) (b := sg_hy H j - sg_ly H j) 800 20 (by omega) (by omega) (by omega) (by omega)
    have f1 : ((sg_lx H j : Rat) + (q : Rat) / (w : Rat) * ((sg_hx H j : Rat) - sg_lx H j)) * (w : Rat) = ((sg_lx H j * w + q * (sg_hx H j - sg_lx H j) : Int) : Rat) := by
      simp only [Rat.intCast_add, Rat.intCast_mul, Rat.intCast_sub]
      grind
    have f2 : ((sg_ly H j : Rat) + (q : Rat) / (w : Rat) * ((sg_hy H j : Rat) - sg_ly H j)) * (w : Rat) = ((sg_ly H j * w + q * (sg_hy H j - sg_ly H j) : Int) : Rat) := by
      simp only [Rat.intCast_add, Rat.intCast_mul, Rat.intCast_sub]
      grind
    have B1 := sg_redGb w0 bw.1 bw.2 (by omega) (by omega) f1
    have B2 := sg_redGb w0 bw.1 bw.2 (by omega) (by omega) f2
    rw [sg_il (a := sg_lx H j) ⟨by omega, by omega⟩, sg_il (a := w) ⟨by omega, by omega⟩, sg_il (a := q) ⟨by omega, by omega⟩, sg_il (a := sg_hx H j - sg_lx H j) ⟨by omega, by omega⟩]
    simp only [sg_lmul, sg_ladd]
    refine y_setAxis (a := 0) (by omega) w0 bw.1 bw.2 (by omega) (by omega) f1 ?_
    simp only [y_e1 hE hj, y_e3 hE hj, sg_isub]
    rw [sg_il (a := sg_ly H j) ⟨by omega, by omega⟩, sg_il (a := sg_hy H j - sg_ly H j) ⟨by omega, by omega⟩]
    simp only [sg_lmul, sg_ladd]
    refine y_setAxis (a := 2) (by omega) w0 bw.1 bw.2 (by omega) (by omega) f2 ?_
    have hS := sg_SPm sp ((sg_lx H j : Rat) + (q : Rat) / (w : Rat) * ((sg_hx H j : Rat) - sg_lx H j), (sg_ly H j : Rat) + (q : Rat) / (w : Rat) * ((sg_hy H j : Rat) - sg_ly H j))
    have no : ∀ p, sg_on G j p → sg_on G k p → p = ((sg_lx H j : Rat) + (q : Rat) / (w : Rat) * ((sg_hx H j : Rat) - sg_lx H j), (sg_ly H j : Rat) + (q : Rat) / (w : Rat) * ((sg_hy H j : Rat) - sg_ly H j)) := by
      intro p oj ok
      have a := ((sg_GHo g hG hj pj p).mp oj).1
      have b := ((sg_GHo g hG hk pk p).mp ok).1
      obtain ⟨u, v⟩ := sg_meetU ew' wn (et.trans eq') a b
      exact Prod.ext u v
    refine y_has g hG hE hS ⟨B1, B2⟩ hj pj (fun o => br_f (by decide) ?_) (fun o => br_t rfl (h0 _ (fun p oj ok => o (no p oj ok ▸ oj))))
    refine y_has g hG hE hS ⟨B1, B2⟩ hk pk (fun o' => br_f (by decide) ?_) (fun o' => br_t rfl (h0 _ (fun p oj ok => o' (no p oj ok ▸ ok))))
    exact h1 _ _ hS (sg_on_bd g hj pj o ⟨B1, B2⟩) o o'
end
