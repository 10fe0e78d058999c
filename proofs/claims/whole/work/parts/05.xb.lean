/-! ===== X: the meeting points ===== -/
theorem sg_iz {a : Int} (ha : sg_R a) : sg_i a = 0 ↔ a = 0 := sg_ieq (b := 0) ha ⟨by decide, by decide⟩
theorem sg_iz0 {a : Int} (ha : sg_R a) : 0 ≤ sg_i a ↔ 0 ≤ a := sg_ile (a := 0) ⟨by decide, by decide⟩ ha
theorem sg_izl {a : Int} (ha : sg_R a) : sg_i a < 0 ↔ a < 0 := sg_ilt (b := 0) ha ⟨by decide, by decide⟩
theorem sg_conv {l h q w : Int} (hl : 0 ≤ l) (hl' : l ≤ 20) (hh : 0 ≤ h) (hh' : h ≤ 20) (hq : 0 ≤ q) (hq' : q ≤ w) : 0 ≤ l * w + q * (h - l) ∧ l * w + q * (h - l) ≤ 20 * w := by
  have k1 : 0 ≤ l * (w - q) := Int.mul_nonneg hl (by omega)
  have k2 : 0 ≤ h * q := Int.mul_nonneg hh hq
  have k3 : 0 ≤ (20 - l) * (w - q) := Int.mul_nonneg (by omega) (by omega)
  have k4 : 0 ≤ (20 - h) * q := Int.mul_nonneg (by omega) hq
  constructor <;> grind
theorem sg_b8 {a b c d : Int} (h1 : -20 ≤ a) (h2 : a ≤ 20) (h3 : -20 ≤ b) (h4 : b ≤ 20) (h5 : -20 ≤ c) (h6 : c ≤ 20) (h7 : -20 ≤ d) (h8 : d ≤ 20) : -800 ≤ a * b - c * d ∧ a * b - c * d ≤ 800 := by
  have b1 := sg_mb 20 20 h1 h2 h3 h4
  have b2 := sg_mb 20 20 h5 h6 h7 h8
  omega
section
variable {P : Nat → Prop} {G : Nat → Int × Int × Int × Int} {pr mc cX cY cB : Int32} {low high tX bX tY bY pa : Nat → Int32}
theorem x_194 {post : Int32 → SX → Prop} (hl : sg_LH G low high) {j : Nat} (hj : j < 10) (hi : sg_in G j) {jx jy w q r : Int} (hjx : -20 ≤ jx) (hjx' : jx ≤ 20) (hjy : -20 ≤ jy) (hjy' : jy ≤ 20) (hw : 0 < w) (hw' : w ≤ 800) (hq : -800 ≤ q) (hq' : q ≤ 800) (hr : -800 ≤ r) (hr' : r ≤ 800)
    (h1 : 0 ≤ q → q ≤ w → 0 ≤ r → r ≤ w → post 1 (pr, mc, sg_i (sg_lx G j * w + q * jx), sg_i (sg_ly G j * w + q * jy), sg_i w, low, high, tX, bX, tY, bY, pa))
    (h0 : ¬ (0 ≤ q ∧ q ≤ w ∧ 0 ≤ r ∧ r ≤ w) → post 0 (pr, mc, cX, cY, cB, low, high, tX, bX, tY, bY, pa)) : wX_findCommonPoint_194 post (nI j) (sg_i jx) (sg_i jy) (sg_i w) (sg_i q) (sg_i r) pr mc cX cY cB low high tX bX tY bY pa := by
  obtain ⟨i1, i2, i3, i4, i5, i6, i7, i8⟩ := hi
  unfold wX_findCommonPoint_194 wpX_xOf wpX_yOf
  rw [sg_izl ⟨by omega, by omega⟩, sg_ilt ⟨by omega, by omega⟩ ⟨by omega, by omega⟩, sg_izl ⟨by omega, by omega⟩, sg_ile ⟨by omega, by omega⟩ ⟨by omega, by omega⟩]
  refine br_c (fun c => h0 (by omega)) (fun c => br_c (fun d => h0 (by omega)) (fun d => br_c (fun e => h0 (by omega)) (fun e => br_c (fun f => ?_) (fun f => h0 (by omega)))))
  rw [sg_c10 hj, (hl j hj).1, sg_px i1 i2 i3 i4, sg_py i1 i2 i3 i4]
  simp only [sg_imul, sg_iadd]
  exact ⟨sg_in10 hj, nm_e ⟨sg_in10 hj, nm_e (h1 (by omega) (by omega) (by omega) (by omega))⟩⟩
theorem x_commonEnd {post : Int32 → SX → Prop} (hl : sg_LH G low high) {j k : Nat} (hj : j < 10) (hk : k < 10) (hi : sg_in G j) (hi' : sg_in G k)
    (h1 : sg_hx G j = sg_lx G k → sg_hy G j = sg_ly G k → post 1 (pr, mc, sg_i (sg_lx G k), sg_i (sg_ly G k), 1, low, high, tX, bX, tY, bY, pa))
    (h2 : sg_hx G k = sg_lx G j → sg_hy G k = sg_ly G j → post 1 (pr, mc, sg_i (sg_lx G j), sg_i (sg_ly G j), 1, low, high, tX, bX, tY, bY, pa))
    (h0 : ¬ (sg_hx G j = sg_lx G k ∧ sg_hy G j = sg_ly G k) → ¬ (sg_hx G k = sg_lx G j ∧ sg_hy G k = sg_ly G j) → post 0 (pr, mc, cX, cY, cB, low, high, tX, bX, tY, bY, pa)) : wpX_findCommonEnd post (pr, mc, cX, cY, cB, low, high, tX, bX, tY, bY, pa) (nI j) (nI k) := by
  obtain ⟨i1, i2, i3, i4, i5, i6, i7, i8⟩ := hi
  obtain ⟨j1, j2, j3, j4, j5, j6, j7, j8⟩ := hi'
  unfold wpX_findCommonEnd wX_findCommonEnd_32 wX_findCommonEnd_62 wpX_xOf wpX_yOf
  dsimp only
  rw [sg_c10 hj, sg_c10 hk, (hl j hj).1, (hl j hj).2, (hl k hk).1, (hl k hk).2, sg_ieq (sg_Rp i5 i6 i7 i8) (sg_Rp j1 j2 j3 j4), sg_ieq (sg_Rp j5 j6 j7 j8) (sg_Rp i1 i2 i3 i4), sg_px i1 i2 i3 i4, sg_py i1 i2 i3 i4, sg_px j1 j2 j3 j4, sg_py j1 j2 j3 j4]
  have a := sg_in10 hj
  have b := sg_in10 hk
  refine ⟨a, b, br_c (fun c => ⟨a, b, br_t c ⟨b, h1 (by omega) (by omega)⟩⟩) (fun c => ⟨b, a, br_c (fun d => ⟨a, b, br_f c ⟨a, h2 (by omega) (by omega)⟩⟩) (fun d => h0 (by omega) (by omega))⟩)⟩
theorem x_common {post : Int32 → SX → Prop} (g : sg_Geo P G) (hl : sg_LH G low high) {j k : Nat} (hj : j < 10) (hk : k < 10) (hne : j ≠ k) (pj : P j) (pk : P k)
    (h1 : ∀ (cx cy cb : Int) (p : Rat × Rat), 1 ≤ cb → cb ≤ 800 → 0 ≤ cx → cx ≤ 16000 → 0 ≤ cy → cy ≤ 16000 → p.1 * (cb : Rat) = cx → p.2 * (cb : Rat) = cy → sg_on G j p → sg_on G k p →
      post 1 (pr, mc, sg_i cx, sg_i cy, sg_i cb, low, high, tX, bX, tY, bY, pa))
    (h0 : (∀ p, sg_on G j p → sg_on G k p → False) → post 0 (pr, mc, cX, cY, cB, low, high, tX, bX, tY, bY, pa)) : wpX_findCommonPoint post (pr, mc, cX, cY, cB, low, high, tX, bX, tY, bY, pa) (nI j) (nI k) := by
  have lj := sg_gl g hj pj
  have lk := sg_gl g hk pk
  obtain ⟨i1, i2, i3, i4, i5, i6, i7, i8⟩ := id (g.1 j hj)
  obtain ⟨j1, j2, j3, j4, j5, j6, j7, j8⟩ := id (g.1 k hk)
  simp only [wpX_findCommonPoint, wpX_xOf, wpX_yOf, sg_c10 hj, sg_c10 hk, (hl j hj).1, (hl j hj).2, (hl k hk).1, (hl k hk).2, sg_px i1 i2 i3 i4, sg_py i1 i2 i3 i4, sg_px i5 i6 i7 i8, sg_py i5 i6 i7 i8, sg_px j1 j2 j3 j4, sg_py j1 j2 j3 j4, sg_px j5 j6 j7 j8, sg_py j5 j6 j7 j8, sg_isub, sg_imul, sg_ineg, forall_eq, sg_in10 hj, sg_in10 hk, true_and]
  generalize ew : (sg_hx G j - sg_lx G j) * (sg_hy G k - sg_ly G k) - (sg_hy G j - sg_ly G j) * (sg_hx G k - sg_lx G k) = w
  generalize eq : (sg_lx G k - sg_lx G j) * (sg_hy G k - sg_ly G k) - (sg_ly G k - sg_ly G j) * (sg_hx G k - sg_lx G k) = q
  generalize er : (sg_lx G k - sg_lx G j) * (sg_hy G j - sg_ly G j) - (sg_ly G k - sg_ly G j) * (sg_hx G j - sg_lx G j) = r
  have bw : -800 ≤ w ∧ w ≤ 800 := by rw [← ew]; exact sg_b8 (by omega) (by omega) (by omega) (by omega) (by omega) (by omega) (by omega) (by omega)
  have bq : -800 ≤ q ∧ q ≤ 800 := by rw [← eq]; exact sg_b8 (by omega) (by omega) (by omega) (by omega) (by omega) (by omega) (by omega) (by omega)
  have br : -800 ≤ r ∧ r ≤ 800 := by rw [← er]; exact sg_b8 (by omega) (by omega) (by omega) (by omega) (by omega) (by omega) (by omega) (by omega)
  have ew' : (w : Rat) = ((sg_hx G j : Rat) - sg_lx G j) * ((sg_hy G k : Rat) - sg_ly G k) - ((sg_hy G j : Rat) - sg_ly G j) * ((sg_hx G k : Rat) - sg_lx G k) := by
    rw [← ew]; simp only [Rat.intCast_mul, Rat.intCast_sub]
  have eq' : (q : Rat) = ((sg_lx G k : Rat) - sg_lx G j) * ((sg_hy G k : Rat) - sg_ly G k) - ((sg_ly G k : Rat) - sg_ly G j) * ((sg_hx G k : Rat) - sg_lx G k) := by
    rw [← eq]; simp only [Rat.intCast_mul, Rat.intCast_sub]
  have er' : (r : Rat) = ((sg_lx G k : Rat) - sg_lx G j) * ((sg_hy G j : Rat) - sg_ly G j) - ((sg_ly G k : Rat) - sg_ly G j) * ((sg_hx G j : Rat) - sg_lx G j) := by
    rw [← er]; simp only [Rat.intCast_mul, Rat.intCast_sub]
  rw [sg_iz ⟨by omega, by omega⟩, sg_iz0 ⟨by omega, by omega⟩]
  refine br_c (fun w0 => ?_) (fun w0 => ?_)
  · -- one direction
    have w0' : ((sg_hx G j : Rat) - sg_lx G j) * ((sg_hy G k : Rat) - sg_ly G k) - ((sg_hy G j : Rat) - sg_ly G j) * ((sg_hx G k : Rat) - sg_lx G k) = 0 := by
      rw [← ew', w0]; rfl
    refine x_commonEnd hl hj hk (g.1 j hj) (g.1 k hk) (fun c d => ⟨rfl, ?_⟩) (fun c d => ⟨rfl, ?_⟩) (fun c d => ⟨rfl, h0 ?_⟩)
    · refine h1 (sg_lx G k) (sg_ly G k) 1 (sg_lx G k, sg_ly G k) (by omega) (by omega) (by omega) (by omega) (by omega) (by omega) (Rat.mul_one _) (Rat.mul_one _) ?_ (sg_O_a lk)
      have := sg_O_c lj
      rw [c, d] at this
      unfold sg_on
      rw [c, d]
      exact this
    · refine h1 (sg_lx G j) (sg_ly G j) 1 (sg_lx G j, sg_ly G j) (by omega) (by omega) (by omega) (by omega) (by omega) (by omega) (Rat.mul_one _) (Rat.mul_one _) (sg_O_a lj) ?_
      have := sg_O_c lk
      rw [c, d] at this
      unfold sg_on
      rw [c, d]
      exact this
    · intro p oj ok
      rcases sg_touch lj lk w0' oj ok (fun u v a b => by
          have e := g.2.2 j k hj hk pj pk hne (u, v) p a b oj ok
          exact ⟨congrArg Prod.fst e, congrArg Prod.snd e⟩) with ⟨e, f, _⟩ | ⟨e, f, _⟩
      · exact c ⟨Rat.intCast_inj.mp e, Rat.intCast_inj.mp f⟩
      · exact d ⟨Rat.intCast_inj.mp e, Rat.intCast_inj.mp f⟩
  · -- the lines cross
    have main : ∀ w' q' r' : Int, ((w' = w ∧ q' = q ∧ r' = r) ∨ (w' = -w ∧ q' = -q ∧ r' = -r)) → 0 < w' →
        wX_findCommonPoint_194 post (nI j) (sg_i (sg_hx G j - sg_lx G j)) (sg_i (sg_hy G j - sg_ly G j)) (sg_i w') (sg_i q') (sg_i r') pr mc cX cY cB low high tX bX tY bY pa := by
      intro w' q' r' hs hw'
      have hwp : (0 : Rat) < (w' : Rat) := Rat.intCast_pos.mpr hw'
      have hwn : (w' : Rat) ≠ 0 := by rw [Ne, Rat.intCast_eq_zero_iff]; omega
      have wn : (w : Rat) ≠ 0 := by rw [Ne, Rat.intCast_eq_zero_iff]; exact w0
      have et : (q' : Rat) / (w' : Rat) * (w' : Rat) = q' := Rat.div_mul_cancel hwn
      have es : (r' : Rat) / (w' : Rat) * (w' : Rat) = r' := Rat.div_mul_cancel hwn
      have et' : (q' : Rat) / (w' : Rat) * (w : Rat) = q := by
        rcases hs with ⟨a, b, c⟩ | ⟨a, b, c⟩
        · rw [a, b] at et; rw [a, b]; exact et
        · rw [a, b, Rat.intCast_neg, Rat.intCast_neg] at et; rw [a, b, Rat.intCast_neg, Rat.intCast_neg]; grind
      have es' : (r' : Rat) / (w' : Rat) * (w : Rat) = r := by
        rcases hs with ⟨a, b, c⟩ | ⟨a, b, c⟩
        · rw [a, c] at es; rw [a, c]; exact es
        · rw [a, c, Rat.intCast_neg, Rat.intCast_neg] at es; rw [a, c, Rat.intCast_neg, Rat.intCast_neg]; grind
      have mx := sg_meetX lj lk ew' wn (et'.trans eq') (es'.trans er')
      have mu := fun x y => sg_meetU (x := x) (y := y) ew' wn (et'.trans eq')
      have c0 : ∀ z : Int, 0 ≤ (z : Rat) / (w' : Rat) ↔ 0 ≤ z := by
        intro z
        rw [← sg_mle hwp, Rat.div_mul_cancel hwn, Rat.zero_mul, Rat.intCast_nonneg]
      have c1 : ∀ z : Int, (z : Rat) / (w' : Rat) ≤ 1 ↔ z ≤ w' := by
        intro z
        rw [← sg_mle hwp, Rat.div_mul_cancel hwn, Rat.one_mul, Rat.intCast_le_intCast]
      rw [c0, c1, c0, c1] at mx
      refine x_194 hl hj (g.1 j hj) (by omega) (by omega) (by omega) (by omega) hw' (by omega) (by omega) (by omega) (by omega) (by omega) (fun a b c d => ?_) (fun hn => h0 (fun p oj ok => hn ?_))
      · obtain ⟨o1, o2⟩ := mx.mpr ⟨a, b, c, d⟩
        have v1 := sg_conv i1 i2 i5 i6 a b
        have v2 := sg_conv i3 i4 i7 i8 a b
        refine h1 _ _ w' (_, _) (by omega) (by omega) v1.1 (by omega) v2.1 (by omega) ?_ ?_ o1 o2
        · simp only [Rat.intCast_add, Rat.intCast_mul, Rat.intCast_sub]
          grind
        · simp only [Rat.intCast_add, Rat.intCast_mul, Rat.intCast_sub]
          grind
      · obtain ⟨ex, ey⟩ := mu p.1 p.2 oj.1 ok.1
        unfold sg_on at oj ok
        rw [ex, ey] at oj ok
        exact mx.mp ⟨oj, ok⟩
    refine br_c (fun c => ?_) (fun c => ?_)
    · exact main w q r (Or.inl ⟨rfl, rfl, rfl⟩) (by omega)
    · exact main (-w) (-q) (-r) (Or.inr ⟨rfl, rfl, rfl⟩) (by omega)
end
