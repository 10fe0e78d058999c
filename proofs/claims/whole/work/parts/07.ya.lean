/-! ===== Y: the small methods. H k: the ends of segment k in the order in which they were given ===== -/
def sg_GH (G H : Nat → Int × Int × Int × Int) : Prop := ∀ k, k < 10 → (H k = G k ∨ H k = (sg_hx G k, sg_hy G k, sg_lx G k, sg_ly G k))
def sg_EN (H : Nat → Int × Int × Int × Int) (en : Nat → Int32) : Prop := ∀ k, k < 10 → en (4 * k) = sg_i (sg_lx H k) ∧ en (4 * k + 1) = sg_i (sg_ly H k) ∧ en (4 * k + 2) = sg_i (sg_hx H k) ∧ en (4 * k + 3) = sg_i (sg_hy H k)
def sg_TH (P : Nat → Prop) (th : Nat → Int32) : Prop := ∀ k, k < 10 → (th k = 0 ↔ ¬ P k)
theorem sg_GHi {G H : Nat → Int × Int × Int × Int} (h : sg_GH G H) {k : Nat} (hk : k < 10) (hi : sg_in G k) : sg_in H k := by
  obtain ⟨i1, i2, i3, i4, i5, i6, i7, i8⟩ := hi
  rcases h k hk with e | e
  · unfold sg_in sg_lx sg_ly sg_hx sg_hy; rw [e]; exact ⟨i1, i2, i3, i4, i5, i6, i7, i8⟩
  · unfold sg_in sg_lx sg_ly sg_hx sg_hy; rw [e]; exact ⟨i5, i6, i7, i8, i1, i2, i3, i4⟩
theorem sg_GHl {G H : Nat → Int × Int × Int × Int} (h : sg_GH G H) {k : Nat} (hk : k < 10) (x y : Rat) : sg_L (sg_lx H k) (sg_ly H k) (sg_hx H k) (sg_hy H k) x y ↔ sg_L (sg_lx G k) (sg_ly G k) (sg_hx G k) (sg_hy G k) x y := by
  rcases h k hk with e | e
  · unfold sg_lx sg_ly sg_hx sg_hy; rw [e]
  · unfold sg_lx sg_ly sg_hx sg_hy at *; rw [e]; exact sg_L_sw ..
theorem sg_GHb {G H : Nat → Int × Int × Int × Int} (h : sg_GH G H) {k : Nat} (hk : k < 10) (x y : Rat) : (sg_bt (sg_lx H k) (sg_hx H k) x ∧ sg_bt (sg_ly H k) (sg_hy H k) y) ↔ (sg_bt (sg_lx G k) (sg_hx G k) x ∧ sg_bt (sg_ly G k) (sg_hy G k) y) := by
  rcases h k hk with e | e
  · unfold sg_lx sg_ly sg_hx sg_hy; rw [e]
  · unfold sg_lx sg_ly sg_hx sg_hy at *; rw [e, sg_bt_sw, sg_bt_sw ((G k).2.2.2 : Rat)]
theorem sg_GHo {P : Nat → Prop} {G H : Nat → Int × Int × Int × Int} (g : sg_Geo P G) (h : sg_GH G H) {k : Nat} (hk : k < 10) (pk : P k) (p : Rat × Rat) :
    sg_on G k p ↔ (sg_L (sg_lx H k) (sg_ly H k) (sg_hx H k) (sg_hy H k) p.1 p.2 ∧ sg_bt (sg_lx H k) (sg_hx H k) p.1 ∧ sg_bt (sg_ly H k) (sg_hy H k) p.2) := by
  unfold sg_on
  rw [sg_box (sg_gl g hk pk), sg_GHl h hk, sg_GHb h hk]
theorem sg_ix {k : Nat} (c : Nat) : 4 * nI k + nI c = nI (4 * k + c) := by
  show nI 4 * nI k + nI c = _
  rw [pk_mul, nI_add]
theorem sg_i4 (k : Nat) : 4 * nI k = nI (4 * k) := by
  show nI 4 * nI k = _
  rw [pk_mul]
theorem sg_in40 {i : Nat} (h : i < 40) : vp_in (nI i) 40 := vp_in_nI h (by decide)
def sg_SP (p : Rat × Rat) (sp : Nat → Int64) : Prop := sp 0 = sg_l p.1.num ∧ sp 1 = sg_l (p.1.den : Int) ∧ sp 2 = sg_l p.2.num ∧ sp 3 = sg_l (p.2.den : Int)
def sg_b3 (p : Rat × Rat) : Prop := (-32000 ≤ p.1.num ∧ p.1.num ≤ 32000 ∧ (p.1.den : Int) ≤ 800) ∧ (-32000 ≤ p.2.num ∧ p.2.num ≤ 32000 ∧ (p.2.den : Int) ≤ 800)
theorem sg_bd3 {p : Rat × Rat} (h : sg_bd p) : sg_b3 p := by
  obtain ⟨⟨b1, b2, b3⟩, b4, b5, b6⟩ := h
  exact ⟨⟨by omega, by omega, b3⟩, by omega, by omega, b6⟩
theorem sg_rle1 {r : Rat} {p t b : Int} (hb : 0 < b) (e : r * (b : Rat) = t) : (p : Rat) ≤ r ↔ p * b ≤ t := by
  rw [← sg_mle (Rat.intCast_pos.mpr hb), e, ← Rat.intCast_mul, Rat.intCast_le_intCast]
theorem sg_rle2 {r : Rat} {p t b : Int} (hb : 0 < b) (e : r * (b : Rat) = t) : r ≤ (p : Rat) ↔ t ≤ p * b := by
  rw [← sg_mle (Rat.intCast_pos.mpr hb), e, ← Rat.intCast_mul, Rat.intCast_le_intCast]
section
variable {P : Nat → Prop} {G H : Nat → Int × Int × Int × Int} {fo : Int32} {th en : Nat → Int32} {pt sp : Nat → Int64}
theorem y_isPoint {post : Int32 → Prop} {p : Int32} (h1 : ∀ x y : Nat, x ≤ 20 → y ≤ 20 → p = nI (x + 32 * y) → post 1) (h0 : (∀ x y : Nat, x ≤ 20 → y ≤ 20 → p ≠ nI (x + 32 * y)) → post 0) : wpY_isPoint post (fo, th, en, pt, sp) p := by
  unfold wpY_isPoint
  refine br_c (fun h => h0 ?_) (fun h => ?_)
  · intro x y hx hy e
    rw [e] at h
    exact nI_pos (by omega) h
  · obtain ⟨n, hn, rfl⟩ := nI_of h
    have e1 : nI n - nI n / 32 * 32 = nI (n % 32) := pk_rem (d := 32) hn (by decide) (by decide)
    have e2 : nI n / 32 = nI (n / 32) := pk_div (d := 32) hn (by decide) (by decide)
    rw [e1, e2]
    have key : ∀ x y : Nat, x ≤ 20 → y ≤ 20 → nI n = nI (x + 32 * y) → n = x + 32 * y := fun x y hx hy e => (nI_eq hn (by omega)).mp e
    refine ⟨by decide, pk_lt 20 (n % 32) (fun h => h0 ?_) (fun h => ⟨by decide, pk_lt 20 (n / 32) (fun h' => h0 ?_) (fun h' => ?_)⟩)⟩
    · intro x y hx hy e
      have := key x y hx hy e; omega
    · intro x y hx hy e
      have := key x y hx hy e; omega
    · exact h1 (n % 32) (n / 32) h h' (congrArg nI (by omega))
theorem sg_pm {x y : Nat} (hx : x ≤ 20) (hy : y ≤ 20) : nI (x + 32 * y) - nI (x + 32 * y) / 32 * 32 = sg_i x := by
  rw [← sg_nI]
  exact (pk_rem (d := 32) (by omega) (by decide) (by decide)).trans (congrArg nI (by omega))
theorem sg_pd {x y : Nat} (hx : x ≤ 20) (hy : y ≤ 20) : nI (x + 32 * y) / 32 = sg_i y := by
  rw [← sg_nI]
  exact (pk_div (d := 32) (by omega) (by decide) (by decide)).trans (congrArg nI (by omega))
theorem y_is {post : Int32 → Prop} (hT : sg_TH P th) {k : Nat} (hk : k < 10) (h1 : P k → post 1) (h0 : ¬ P k → post 0) : wpY_is post (fo, th, en, pt, sp) (nI k) := by
  refine br_f (nI_pos (by omega)) (br_f (sg_n10 hk) ⟨sg_in10 hk, ?_⟩)
  rw [sg_c10 hk, hT k hk]
  exact ⟨h0, fun h => h1 (Classical.not_not.mp h)⟩
theorem y_isG {post : Int32 → Prop} (hT : sg_TH P th) {p : Int32} (h1 : ∀ k, k < 10 → p = nI k → P k → post 1) (h0 : (∀ k, k < 10 → p = nI k → ¬ P k) → post 0) : wpY_is post (fo, th, en, pt, sp) p := by
  by_cases c : p < 0
  · exact br_t c (h0 (fun k hk e => by rw [e] at c; exact absurd c (nI_pos (by omega))))
  · by_cases d : (10 : Int32) ≤ p
    · exact br_f c (br_t d (h0 (fun k hk e => by rw [e] at d; exact absurd d (sg_n10 hk))))
    · obtain ⟨n, hn, rfl⟩ := nI_of c
      have hk : n < 10 := by
        rcases Nat.lt_or_ge n 10 with h | h
        · exact h
        · exact absurd (nI_le (a := 10) h hn) d
      exact y_is hT hk (h1 n hk rfl) (fun hp => h0 (fun k' hk' e => by have := (nI_eq hn (by omega)).mp e; subst this; exact hp))
theorem y_e0 {post : Int32 → Prop} (hE : sg_EN H en) {k : Nat} (hk : k < 10) : wpY_end post (fo, th, en, pt, sp) (nI k) 0 ↔ post (sg_i (sg_lx H k)) := by
  unfold wpY_end
  dsimp only
  rw [show (4 * nI k + 0 : Int32) = nI (4 * k) from sg_ix 0, nI_clamp (by omega), (hE k hk).1]
  exact ⟨fun h => h.2, fun h => ⟨sg_in40 (by omega), h⟩⟩
theorem y_e1 {post : Int32 → Prop} (hE : sg_EN H en) {k : Nat} (hk : k < 10) : wpY_end post (fo, th, en, pt, sp) (nI k) 1 ↔ post (sg_i (sg_ly H k)) := by
  unfold wpY_end
  dsimp only
  rw [show (4 * nI k + 1 : Int32) = nI (4 * k + 1) from sg_ix 1, nI_clamp (by omega), (hE k hk).2.1]
  exact ⟨fun h => h.2, fun h => ⟨sg_in40 (by omega), h⟩⟩
theorem y_e2 {post : Int32 → Prop} (hE : sg_EN H en) {k : Nat} (hk : k < 10) : wpY_end post (fo, th, en, pt, sp) (nI k) 2 ↔ post (sg_i (sg_hx H k)) := by
  unfold wpY_end
  dsimp only
  rw [show (4 * nI k + 2 : Int32) = nI (4 * k + 2) from sg_ix 2, nI_clamp (by omega), (hE k hk).2.2.1]
  exact ⟨fun h => h.2, fun h => ⟨sg_in40 (by omega), h⟩⟩
theorem y_e3 {post : Int32 → Prop} (hE : sg_EN H en) {k : Nat} (hk : k < 10) : wpY_end post (fo, th, en, pt, sp) (nI k) 3 ↔ post (sg_i (sg_hy H k)) := by
  unfold wpY_end
  dsimp only
  rw [show (4 * nI k + 3 : Int32) = nI (4 * k + 3) from sg_ix 3, nI_clamp (by omega), (hE k hk).2.2.2]
  exact ⟨fun h => h.2, fun h => ⟨sg_in40 (by omega), h⟩⟩
theorem y_between {post : Int32 → Prop} {t b p q : Int} {r : Rat} (e : r * (b : Rat) = t) (hb : 0 < b) (hb' : b ≤ 800) (ht : -32000 ≤ t) (ht' : t ≤ 32000) (hp : 0 ≤ p) (hp' : p ≤ 20) (hq : 0 ≤ q) (hq' : q ≤ 20)
    (h1 : sg_bt p q r → post 1) (h0 : ¬ sg_bt p q r → post 0) : wpY_between post (fo, th, en, pt, sp) (sg_l t) (sg_l b) (sg_i p) (sg_i q) := by
  have Rp : sg_R p := ⟨by omega, by omega⟩
  have Rq : sg_R q := ⟨by omega, by omega⟩
  have w1 := sg_mb (a := p) (b := b) 20 800 (by omega) (by omega) (by omega) (by omega)
  have w2 := sg_mb (a := q) (b := b) 20 800 (by omega) (by omega) (by omega) (by omega)
  have L1 := sg_rle1 (p := p) hb e
  have L2 := sg_rle2 (p := p) hb e
  have L3 := sg_rle1 (p := q) hb e
  have L4 := sg_rle2 (p := q) hb e
  unfold sg_bt at h1 h0
  rw [L1, L2, L3, L4] at h1 h0
  unfold wpY_between wY_between_14 wY_between_30
  dsimp only
  rw [sg_ile Rq Rp, sg_il Rp, sg_il Rq, sg_lmul, sg_lmul, sg_llt ⟨by omega, by omega⟩ ⟨by omega, by omega⟩, sg_llt ⟨by omega, by omega⟩ ⟨by omega, by omega⟩, sg_llt ⟨by omega, by omega⟩ ⟨by omega, by omega⟩, sg_llt ⟨by omega, by omega⟩ ⟨by omega, by omega⟩]
  have mono : ∀ u v : Int, u ≤ v → u * b ≤ v * b := fun u v h => Int.mul_le_mul_of_nonneg_right h (by omega)
  refine br_c (fun c => br_t c (br_c (fun d => h0 ?_) (fun d => br_c (fun f => h0 ?_) (fun f => h1 ?_)))) (fun c => br_f c (br_c (fun d => h0 ?_) (fun d => br_c (fun f => h0 ?_) (fun f => h1 ?_))))
  all_goals first
    | (have := mono q p (by omega); omega)
    | (have := mono p q (by omega); omega)
theorem y_has {post : Int32 → Prop} (g : sg_Geo P G) (hG : sg_GH G H) (hE : sg_EN H en) {p : Rat × Rat} (hS : sg_SP p sp) (hb : sg_b3 p) {k : Nat} (hk : k < 10) (pk : P k) (h1 : sg_on G k p → post 1) (h0 : ¬ sg_on G k p → post 0) : wpY_has post (fo, th, en, pt, sp) (nI k) := by
  obtain ⟨s0, s1, s2, s3⟩ := hS
  obtain ⟨⟨b1, b2, b3⟩, b4, b5, b6⟩ := hb
  obtain ⟨i1, i2, i3, i4, i5, i6, i7, i8⟩ := sg_GHi hG hk (g.1 k hk)
  have d1 := sg_dp p.1
  have d2 := sg_dp p.2
  have n1 := sg_nd p.1
  have n2 := sg_nd p.2
  rw [sg_GHo g hG hk pk] at h1 h0
  -- the tail
  have tail : ∀ z : Int32, (z = 1 ∨ z = 0) → (¬ z = 0 → sg_L (sg_lx H k) (sg_ly H k) (sg_hx H k) (sg_hy H k) p.1 p.2) → (z = 0 → ¬ sg_L (sg_lx H k) (sg_ly H k) (sg_hx H k) (sg_hy H k) p.1 p.2) →
      wY_has_109 post (nI k) (sg_l p.1.num) (sg_l (p.1.den : Int)) (sg_l p.2.num) (sg_l (p.2.den : Int)) z fo th en pt sp := by
    intro z hz a b
    unfold wY_has_109
    refine br_c (fun c => h0 (fun q => b c q.1)) (fun c => ?_)
    rw [y_e0 hE hk, y_e2 hE hk]
    refine y_between n1 d1 b3 b1 b2 i1 i2 i5 i6 (fun q => br_f (by decide) ?_) (fun q => br_t rfl (h0 (fun o => q o.2.1)))
    rw [y_e1 hE hk, y_e3 hE hk]
    exact y_between n2 d2 b6 b4 b5 i3 i4 i7 i8 (fun r => br_f (by decide) (h1 ⟨a c, q, r⟩)) (fun r => br_t rfl (h0 (fun o => r o.2.2)))
  unfold wpY_has
  dsimp only
  rw [s0, s1, s2, s3]
  refine nm_e (nm_e (nm_e (nm_e ?_)))
  rw [y_e2 hE hk, y_e0 hE hk]
  refine nm_e ?_
  rw [y_e3 hE hk, y_e1 hE hk]
  refine nm_e ?_
  rw [y_e1 hE hk, y_e0 hE hk]
  have Rx : sg_R (sg_lx H k) := ⟨by omega, by omega⟩
  have Ry : sg_R (sg_ly H k) := ⟨by omega, by omega⟩
  rw [sg_isub, sg_isub, sg_il (a := sg_hx H k - sg_lx H k) ⟨by omega, by omega⟩, sg_il (a := sg_hy H k - sg_ly H k) ⟨by omega, by omega⟩, sg_il Rx, sg_il Ry]
  simp only [sg_lmul, sg_lsub]
  have w1 := sg_mb (a := sg_ly H k) (b := (p.2.den : Int)) 20 800 (by omega) (by omega) (by omega) (by omega)
  have w2 := sg_mb (a := sg_lx H k) (b := (p.1.den : Int)) 20 800 (by omega) (by omega) (by omega) (by omega)
  have w3 := sg_mb (a := sg_hx H k - sg_lx H k) (b := p.2.num - sg_ly H k * (p.2.den : Int)) 20 48000 (by omega) (by omega) (by omega) (by omega)
  have w4 := sg_mb (a := sg_hy H k - sg_ly H k) (b := p.1.num - sg_lx H k * (p.1.den : Int)) 20 48000 (by omega) (by omega) (by omega) (by omega)
  have w5 := sg_mb (a := (sg_hx H k - sg_lx H k) * (p.2.num - sg_ly H k * (p.2.den : Int))) (b := (p.1.den : Int)) 960000 800 (by omega) (by omega) (by omega) (by omega)
  have w6 := sg_mb (a := (sg_hy H k - sg_ly H k) * (p.1.num - sg_lx H k * (p.1.den : Int))) (b := (p.2.den : Int)) 960000 800 (by omega) (by omega) (by omega) (by omega)
  rw [sg_leq ⟨by omega, by omega⟩ ⟨by omega, by omega⟩]
  have key : ((sg_hx H k - sg_lx H k) * (p.2.num - sg_ly H k * (p.2.den : Int)) * (p.1.den : Int) = (sg_hy H k - sg_ly H k) * (p.1.num - sg_lx H k * (p.1.den : Int)) * (p.2.den : Int)) ↔ sg_L (sg_lx H k) (sg_ly H k) (sg_hx H k) (sg_hy H k) p.1 p.2 := by
    have q1 : (0 : Rat) < ((p.1.den : Int) : Rat) := Rat.intCast_pos.mpr d1
    have q2 : (0 : Rat) < ((p.2.den : Int) : Rat) := Rat.intCast_pos.mpr d2
    unfold sg_L
    rw [← sg_me (Rat.mul_pos q1 q2), ← Rat.intCast_inj]
    simp only [Rat.intCast_mul, Rat.intCast_sub]
    rw [← n1, ← n2]
    constructor <;> intro h <;> grind
  rw [key]
  exact ⟨fun c => tail 1 (Or.inl rfl) (fun _ => c) (fun z => absurd z (by decide)), fun c => tail 0 (Or.inr rfl) (fun z => absurd rfl z) (fun _ => c)⟩
end
