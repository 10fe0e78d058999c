/-! ===== the plane over Rat: lines, the order by x and then y, points on a segment ===== -/
def sg_L (a b c d x y : Rat) : Prop := (c - a) * (y - b) = (d - b) * (x - a)
def sg_le (a b x y : Rat) : Prop := a < x ∨ (a = x ∧ b ≤ y)
def sg_lt (a b x y : Rat) : Prop := a < x ∨ (a = x ∧ b < y)
def sg_O (a b c d x y : Rat) : Prop := sg_L a b c d x y ∧ sg_le a b x y ∧ sg_le x y c d
def sg_bt (p q t : Rat) : Prop := (p ≤ t ∧ t ≤ q) ∨ (q ≤ t ∧ t ≤ p)
theorem sg_le_refl (a b : Rat) : sg_le a b a b := Or.inr ⟨rfl, Rat.le_refl⟩
theorem sg_le_of_lt {a b x y : Rat} (h : sg_lt a b x y) : sg_le a b x y := by unfold sg_lt at h; unfold sg_le; grind
theorem sg_le_trans {a b c d e f : Rat} (h : sg_le a b c d) (k : sg_le c d e f) : sg_le a b e f := by unfold sg_le at *; grind
theorem sg_lt_le {a b c d e f : Rat} (h : sg_lt a b c d) (k : sg_le c d e f) : sg_lt a b e f := by unfold sg_le sg_lt at *; grind
theorem sg_le_lt {a b c d e f : Rat} (h : sg_le a b c d) (k : sg_lt c d e f) : sg_lt a b e f := by unfold sg_le sg_lt at *; grind
theorem sg_lt_trans {a b c d e f : Rat} (h : sg_lt a b c d) (k : sg_lt c d e f) : sg_lt a b e f := sg_lt_le h (sg_le_of_lt k)
theorem sg_le_anti {a b c d : Rat} (h : sg_le a b c d) (k : sg_le c d a b) : a = c ∧ b = d := by unfold sg_le at *; grind
theorem sg_lt_irr {a b : Rat} : ¬ sg_lt a b a b := by unfold sg_lt; grind
theorem sg_total (a b c d : Rat) : sg_le a b c d ∨ sg_lt c d a b := by unfold sg_le sg_lt; grind
theorem sg_lt_or {a b c d : Rat} (h : sg_le a b c d) : sg_lt a b c d ∨ (a = c ∧ b = d) := by unfold sg_le at h; unfold sg_lt; grind
theorem sg_L_a (a b c d : Rat) : sg_L a b c d a b := by unfold sg_L; grind
theorem sg_L_c (a b c d : Rat) : sg_L a b c d c d := by unfold sg_L; grind
theorem sg_L_sw (a b c d x y : Rat) : sg_L a b c d x y ↔ sg_L c d a b x y := by unfold sg_L; grind
theorem sg_O_a {a b c d : Rat} (h : sg_lt a b c d) : sg_O a b c d a b := ⟨sg_L_a .., sg_le_refl .., sg_le_of_lt h⟩
theorem sg_O_c {a b c d : Rat} (h : sg_lt a b c d) : sg_O a b c d c d := ⟨sg_L_c .., sg_le_of_lt h, sg_le_refl ..⟩
theorem sg_bt_sw (p q t : Rat) : sg_bt p q t ↔ sg_bt q p t := ⟨Or.symm, Or.symm⟩
theorem sg_ml {s t w : Rat} (hw : 0 < w) : s * w < t * w ↔ s < t := Rat.mul_lt_mul_right hw
theorem sg_me {s t w : Rat} (hw : 0 < w) : s * w = t * w ↔ s = t := by
  constructor
  · intro h
    have : (s - t) * w = 0 := by grind
    rcases Rat.mul_eq_zero.mp this with h1 | h1 <;> grind
  · intro h; rw [h]
theorem sg_mle {s t w : Rat} (hw : 0 < w) : s * w ≤ t * w ↔ s ≤ t := by
  rw [← Rat.not_lt, ← Rat.not_lt, sg_ml hw]
/-- a point of the line by its share -/
theorem sg_share {a b c d x y : Rat} (h : sg_lt a b c d) (hL : sg_L a b c d x y) : ∃ t, x = a + t * (c - a) ∧ y = b + t * (d - b) := by
  unfold sg_L at hL
  rcases h with h | ⟨h, h2⟩
  · have hne : c - a ≠ 0 := by grind
    have hp : 0 < c - a := by grind
    refine ⟨(x - a) / (c - a), ?_, ?_⟩
    · rw [Rat.div_mul_cancel hne]; grind
    · have : (y - b) = (x - a) / (c - a) * (d - b) := by
        rw [← sg_me hp]
        have e : (x - a) / (c - a) * (c - a) = x - a := Rat.div_mul_cancel hne
        grind
      grind
  · have hne : d - b ≠ 0 := by grind
    refine ⟨(y - b) / (d - b), ?_, ?_⟩
    · subst h
      have : (d - b) * (x - a) = 0 := by grind
      rcases Rat.mul_eq_zero.mp this with h1 | h1 <;> grind
    · rw [Rat.div_mul_cancel hne]; grind
theorem sg_tle {a b c d : Rat} (h : sg_lt a b c d) (s t : Rat) : sg_le (a + s * (c - a)) (b + s * (d - b)) (a + t * (c - a)) (b + t * (d - b)) ↔ s ≤ t := by
  unfold sg_le
  rcases h with h | ⟨h, h2⟩
  · have hp : 0 < c - a := by grind
    have e1 : a + s * (c - a) < a + t * (c - a) ↔ s < t := by rw [Rat.add_lt_add_left, sg_ml hp]
    have e2 : a + s * (c - a) = a + t * (c - a) ↔ s = t := by
      constructor
      · intro h; exact (sg_me hp).mp (by grind)
      · intro h; rw [h]
    rw [e1, e2]
    constructor
    · rintro (h | ⟨h, _⟩) <;> grind
    · intro h
      by_cases hs : s = t
      · subst hs; exact Or.inr ⟨rfl, Rat.le_refl⟩
      · left; grind
  · have hp : 0 < d - b := by grind
    subst h
    have e1 : b + s * (d - b) ≤ b + t * (d - b) ↔ s ≤ t := by rw [Rat.add_le_add_left, sg_mle hp]
    rw [e1]
    constructor
    · rintro (h | ⟨_, h⟩)
      · grind
      · exact h
    · intro h; right; exact ⟨by grind, h⟩
theorem sg_tlt {a b c d : Rat} (h : sg_lt a b c d) (s t : Rat) : sg_lt (a + s * (c - a)) (b + s * (d - b)) (a + t * (c - a)) (b + t * (d - b)) ↔ s < t := by
  rw [← Rat.not_le, ← sg_tle h t s]
  constructor
  · intro h1 h2; exact sg_lt_irr (sg_lt_le h1 h2)
  · intro h1
    rcases sg_total (a + t * (c - a)) (b + t * (d - b)) (a + s * (c - a)) (b + s * (d - b)) with h2 | h2
    · exact absurd h2 h1
    · exact h2
theorem sg_t0 {a b c d : Rat} (h : sg_lt a b c d) (t : Rat) : sg_le a b (a + t * (c - a)) (b + t * (d - b)) ↔ 0 ≤ t := by
  have := sg_tle h 0 t
  rwa [show a + 0 * (c - a) = a by grind, show b + 0 * (d - b) = b by grind] at this
theorem sg_t1 {a b c d : Rat} (h : sg_lt a b c d) (t : Rat) : sg_le (a + t * (c - a)) (b + t * (d - b)) c d ↔ t ≤ 1 := by
  have := sg_tle h t 1
  rwa [show a + 1 * (c - a) = c by grind, show b + 1 * (d - b) = d by grind] at this
theorem sg_tbt {t : Rat} (h0 : 0 ≤ t) (h1 : t ≤ 1) (b d : Rat) : sg_bt b d (b + t * (d - b)) := by
  unfold sg_bt
  rcases @Rat.le_total b d with h | h
  · left
    have k1 := Rat.mul_nonneg h0 (show 0 ≤ d - b by grind)
    have k2 := Rat.mul_nonneg (show 0 ≤ 1 - t by grind) (show 0 ≤ d - b by grind)
    constructor <;> grind
  · right
    have k1 := Rat.mul_nonneg h0 (show 0 ≤ b - d by grind)
    have k2 := Rat.mul_nonneg (show 0 ≤ 1 - t by grind) (show 0 ≤ b - d by grind)
    constructor <;> grind
theorem sg_btt {a c t : Rat} (h : a < c) (k : sg_bt a c (a + t * (c - a))) : 0 ≤ t ∧ t ≤ 1 := by
  have hp : 0 < c - a := by grind
  rcases k with ⟨k1, k2⟩ | ⟨k1, k2⟩
  · exact ⟨(sg_mle hp).mp (by grind), (sg_mle hp).mp (by grind)⟩
  · exfalso; grind
theorem sg_box {a b c d x y : Rat} (h : sg_lt a b c d) : sg_O a b c d x y ↔ (sg_L a b c d x y ∧ sg_bt a c x ∧ sg_bt b d y) := by
  constructor
  · rintro ⟨hL, h1, h2⟩
    refine ⟨hL, ?_⟩
    obtain ⟨t, rfl, rfl⟩ := sg_share h hL
    rw [sg_t0 h] at h1
    rw [sg_t1 h] at h2
    exact ⟨sg_tbt h1 h2 .., sg_tbt h1 h2 ..⟩
  · rintro ⟨hL, h1, h2⟩
    refine ⟨hL, ?_⟩
    obtain ⟨t, rfl, rfl⟩ := sg_share h hL
    rw [sg_t0 h, sg_t1 h]
    rcases h with h | ⟨_, h⟩
    · exact sg_btt h h1
    · exact sg_btt h h2
/-! ===== two lines that cross ===== -/
theorem sg_cross1 {a b c d e f g h x y : Rat} (hJ : sg_L a b c d x y) (hK : sg_L e f g h x y) :
    ((c - a) * (h - f) - (d - b) * (g - e)) * (x - a) = ((e - a) * (h - f) - (f - b) * (g - e)) * (c - a) ∧
    ((c - a) * (h - f) - (d - b) * (g - e)) * (y - b) = ((e - a) * (h - f) - (f - b) * (g - e)) * (d - b) := by
  unfold sg_L at hJ hK
  constructor <;> grind
theorem sg_cross2 {a b c d e f g h t s w x y : Rat} (hw : w = (c - a) * (h - f) - (d - b) * (g - e)) (hw0 : w ≠ 0)
    (ht : t * w = (e - a) * (h - f) - (f - b) * (g - e)) (hs : s * w = (e - a) * (d - b) - (f - b) * (c - a))
    (hx : x = a + t * (c - a)) (hy : y = b + t * (d - b)) : x = e + s * (g - e) ∧ y = f + s * (h - f) := by
  have k : ∀ z : Rat, w * z = 0 → z = 0 := by
    intro z hz
    rcases Rat.mul_eq_zero.mp hz with h1 | h1
    · exact absurd h1 hw0
    · exact h1
  constructor
  · have := k (x - (e + s * (g - e))) (by grind)
    grind
  · have := k (y - (f + s * (h - f))) (by grind)
    grind
theorem sg_Lt (a b c d t : Rat) : sg_L a b c d (a + t * (c - a)) (b + t * (d - b)) := by unfold sg_L; grind
/-- the point that X reckons: it is on both lines, on both segments just when both shares are within, and no other point is on both lines -/
theorem sg_meetX {a b c d e f g h t s w : Rat} (hj : sg_lt a b c d) (hk : sg_lt e f g h) (hw : w = (c - a) * (h - f) - (d - b) * (g - e)) (hw0 : w ≠ 0)
    (ht : t * w = (e - a) * (h - f) - (f - b) * (g - e)) (hs : s * w = (e - a) * (d - b) - (f - b) * (c - a)) :
    (sg_O a b c d (a + t * (c - a)) (b + t * (d - b)) ∧ sg_O e f g h (a + t * (c - a)) (b + t * (d - b))) ↔ (0 ≤ t ∧ t ≤ 1 ∧ 0 ≤ s ∧ s ≤ 1) := by
  obtain ⟨ex, ey⟩ := sg_cross2 hw hw0 ht hs rfl rfl
  unfold sg_O
  rw [sg_t0 hj, sg_t1 hj]
  rw [ex, ey]
  rw [sg_t0 hk, sg_t1 hk]
  have h1 := sg_Lt a b c d t
  rw [ex, ey] at h1
  have h2 := sg_Lt e f g h s
  constructor
  · rintro ⟨⟨_, p, q⟩, _, r, z⟩; exact ⟨p, q, r, z⟩
  · rintro ⟨p, q, r, z⟩; exact ⟨⟨h1, p, q⟩, h2, r, z⟩
theorem sg_meetU {a b c d e f g h t w x y : Rat} (hw : w = (c - a) * (h - f) - (d - b) * (g - e)) (hw0 : w ≠ 0)
    (ht : t * w = (e - a) * (h - f) - (f - b) * (g - e)) (hJ : sg_L a b c d x y) (hK : sg_L e f g h x y) : x = a + t * (c - a) ∧ y = b + t * (d - b) := by
  obtain ⟨h1, h2⟩ := sg_cross1 hJ hK
  have k : ∀ z : Rat, w * z = 0 → z = 0 := by
    intro z hz
    rcases Rat.mul_eq_zero.mp hz with h1 | h1
    · exact absurd h1 hw0
    · exact h1
  constructor
  · have := k (x - (a + t * (c - a))) (by grind)
    grind
  · have := k (y - (b + t * (d - b))) (by grind)
    grind
/-! ===== lines of one direction ===== -/
theorem sg_dir {p q z : Rat} (h : p ≠ 0 ∨ q ≠ 0) (h1 : p * z = 0) (h2 : q * z = 0) : z = 0 := by
  rcases h with h | h
  · rcases Rat.mul_eq_zero.mp h1 with k | k
    · exact absurd k h
    · exact k
  · rcases Rat.mul_eq_zero.mp h2 with k | k
    · exact absurd k h
    · exact k
theorem sg_ltne {a b c d : Rat} (h : sg_lt a b c d) : c - a ≠ 0 ∨ d - b ≠ 0 := by unfold sg_lt at h; grind
theorem sg_same {a b c d e f g h x y u v : Rat} (hj : c - a ≠ 0 ∨ d - b ≠ 0) (hw : (c - a) * (h - f) - (d - b) * (g - e) = 0)
    (hJ : sg_L a b c d x y) (hK : sg_L e f g h x y) (hP : sg_L a b c d u v) : sg_L e f g h u v := by
  unfold sg_L at *
  have := sg_dir (z := (g - e) * (v - f) - (h - f) * (u - e)) hj (by grind) (by grind)
  grind
theorem sg_para {a b c d e f g h x y u v : Rat} (hne : u - x ≠ 0 ∨ v - y ≠ 0) (h1 : sg_L a b c d x y) (h2 : sg_L a b c d u v) (h3 : sg_L e f g h x y) (h4 : sg_L e f g h u v) :
    (c - a) * (h - f) - (d - b) * (g - e) = 0 := by
  unfold sg_L at *
  exact sg_dir hne (by grind) (by grind)
/-- segments of one direction with just one point in common touch end to end -/
theorem sg_touch {a b c d e f g h x y : Rat} (hj : sg_lt a b c d) (hk : sg_lt e f g h) (hw : (c - a) * (h - f) - (d - b) * (g - e) = 0)
    (hJ : sg_O a b c d x y) (hK : sg_O e f g h x y) (hU : ∀ u v, sg_O a b c d u v → sg_O e f g h u v → u = x ∧ v = y) : (c = e ∧ d = f ∧ x = c ∧ y = d) ∨ (g = a ∧ h = b ∧ x = a ∧ y = b) := by
  have hw' : (g - e) * (d - b) - (h - f) * (c - a) = 0 := by grind
  have lJ : ∀ u v, sg_L e f g h u v → sg_L a b c d u v := fun u v hl => sg_same (sg_ltne hk) hw' hK.1 hJ.1 hl
  have lK : ∀ u v, sg_L a b c d u v → sg_L e f g h u v := fun u v hl => sg_same (sg_ltne hj) hw hJ.1 hK.1 hl
  -- the greater of the two lower ends is x y, and so is the lesser of the two upper ones
  have lo : (a = x ∧ b = y) ∨ (e = x ∧ f = y) := by
    rcases sg_total a b e f with q | q
    · right; exact hU e f ⟨lJ _ _ (sg_L_a ..), q, sg_le_trans hK.2.1 hJ.2.2⟩ (sg_O_a hk)
    · left; exact hU a b (sg_O_a hj) ⟨lK _ _ (sg_L_a ..), sg_le_of_lt q, sg_le_trans hJ.2.1 hK.2.2⟩
  have hi : (c = x ∧ d = y) ∨ (g = x ∧ h = y) := by
    rcases sg_total c d g h with q | q
    · left; exact hU c d (sg_O_c hj) ⟨lK _ _ (sg_L_c ..), sg_le_trans hK.2.1 hJ.2.2, q⟩
    · right; exact hU g h ⟨lJ _ _ (sg_L_c ..), sg_le_trans hJ.2.1 hK.2.2, sg_le_of_lt q⟩ (sg_O_c hk)
  unfold sg_lt at hj hk
  rcases lo with ⟨p1, p2⟩ | ⟨p1, p2⟩ <;> rcases hi with ⟨q1, q2⟩ | ⟨q1, q2⟩ <;> grind
/-- segments that don't overlap have at most one point in common -/
theorem sg_apart {a b c d e f g h : Rat} (hj : sg_lt a b c d) (hk : sg_lt e f g h)
    (hn : ¬ (sg_lt a b g h ∧ sg_lt e f c d ∧ sg_L e f g h a b ∧ sg_L e f g h c d)) {x y u v : Rat}
    (h1 : sg_O a b c d x y) (h2 : sg_O e f g h x y) (h3 : sg_O a b c d u v) (h4 : sg_O e f g h u v) : x = u ∧ y = v := by
  have key : ∀ x y u v : Rat, sg_O a b c d x y → sg_O e f g h x y → sg_O a b c d u v → sg_O e f g h u v → ¬ sg_lt x y u v := by
    intro x y u v h1 h2 h3 h4 hlt
    apply hn
    have hne : u - x ≠ 0 ∨ v - y ≠ 0 := sg_ltne hlt
    have hw := sg_para hne h1.1 h3.1 h2.1 h4.1
    refine ⟨sg_le_lt h1.2.1 (sg_lt_le hlt h4.2.2), sg_le_lt h2.2.1 (sg_lt_le hlt h3.2.2), ?_, ?_⟩
    · exact sg_same (sg_ltne hj) hw h1.1 h2.1 (sg_L_a ..)
    · exact sg_same (sg_ltne hj) hw h1.1 h2.1 (sg_L_c ..)
  rcases sg_total x y u v with q | q
  · rcases sg_lt_or q with r | r
    · exact absurd r (key _ _ _ _ h1 h2 h3 h4)
    · exact r
  · exact absurd q (key _ _ _ _ h3 h4 h1 h2)
/-! ===== refused: X's words against Y's ===== -/
theorem sg_lines {a b c d e f g h : Rat} (hj : sg_lt a b c d) (hk : sg_lt e f g h) : (sg_L e f g h a b ∧ sg_L e f g h c d) ↔ (sg_L a b c d e f ∧ sg_L a b c d g h) := by
  constructor
  · rintro ⟨h1, h2⟩
    have hw := sg_para (sg_ltne hj) (sg_L_a a b c d) (sg_L_c a b c d) h1 h2
    have hw' : (g - e) * (d - b) - (h - f) * (c - a) = 0 := by grind
    exact ⟨sg_same (sg_ltne hk) hw' h1 (sg_L_a a b c d) (sg_L_a ..), sg_same (sg_ltne hk) hw' h1 (sg_L_a a b c d) (sg_L_c ..)⟩
  · rintro ⟨h1, h2⟩
    have hw := sg_para (sg_ltne hk) (sg_L_a e f g h) (sg_L_c e f g h) h1 h2
    have hw' : (c - a) * (h - f) - (d - b) * (g - e) = 0 := by grind
    exact ⟨sg_same (sg_ltne hj) hw' h1 (sg_L_a e f g h) (sg_L_a ..), sg_same (sg_ltne hj) hw' h1 (sg_L_a e f g h) (sg_L_c ..)⟩
theorem sg_sq {p q : Rat} (h : p ≠ 0 ∨ q ≠ 0) : 0 < p * p + q * q := by
  have k : ∀ z : Rat, 0 ≤ z * z := by
    intro z
    rcases @Rat.le_total 0 z with h | h
    · exact Rat.mul_nonneg h h
    · have := Rat.mul_nonneg (show 0 ≤ -z by grind) (show 0 ≤ -z by grind)
      grind
  have k2 : ∀ z : Rat, z ≠ 0 → z * z ≠ 0 := by
    intro z hz h
    rcases Rat.mul_eq_zero.mp h with h | h <;> exact hz h
  have hp := k p
  have hq := k q
  rcases h with h | h
  · have := k2 p h; grind
  · have := k2 q h; grind
theorem sg_proj {a b c d x y u v : Rat} (hj : sg_lt a b c d) (h1 : sg_L a b c d x y) (h2 : sg_L a b c d u v) :
    sg_lt x y u v ↔ (c - a) * x + (d - b) * y < (c - a) * u + (d - b) * v := by
  have hs := sg_sq (sg_ltne hj)
  obtain ⟨s, rfl, rfl⟩ := sg_share hj h1
  obtain ⟨t, rfl, rfl⟩ := sg_share hj h2
  rw [sg_tlt hj, ← sg_ml hs]
  constructor <;> intro k <;> grind
