/-! ===== on, remove, add ===== -/
theorem x_on {P : Nat → Prop} {G : Nat → Int × Int × Int × Int} {pr mc cX cY cB : Int32} {low high tX bX tY bY pa : Nat → Int32} {post : Int32 → Prop} (hP : sg_M pr P) (hl : sg_LH G low high) (hi : ∀ k, k < 10 → sg_in G k) {x y : Int} (hx : 0 ≤ x) (hx' : x ≤ 20) (hy : 0 ≤ y) (hy' : y ≤ 20)
    (h : ∀ z, sg_M z (fun k => P k ∧ sg_on G k ((x : Rat), (y : Rat))) → post z) : ∃ n, wX_on_19 post (sg_i (32 * x + y)) pr mc cX cY cB low high tX bX tY bY pa n 0 0 := by
  have key : ∀ e k, k + e = 10 → ∀ z, sg_M z (fun i => i < k ∧ P i ∧ sg_on G i ((x : Rat), (y : Rat))) → wX_on_19 post (sg_i (32 * x + y)) pr mc cX cY cB low high tX bX tY bY pa (e + 1) z (nI k) := by
    intro e
    induction e with
    | zero =>
      intro k hk z hz
      have : k = 10 := by omega
      subst this
      exact br_t sg_e10 (h z (sg_Mc hz (fun i hi => ⟨fun q => q.2, fun q => ⟨hi, q⟩⟩)))
    | succ e ih =>
      intro k hk z hz
      have hk' : k < 10 := by omega
      have no : ¬ (P k ∧ sg_on G k ((x : Rat), (y : Rat))) → ∀ w, w = nI k + 1 → wX_on_19 post (sg_i (32 * x + y)) pr mc cX cY cB low high tX bX tY bY pa (e + 1) z w := by
        intro hn
        refine nm_r (nI_1 k) (ih (k + 1) (by omega) z (sg_Mc hz (fun i hi => ⟨fun q => ⟨by omega, q.2⟩, fun q => ⟨?_, q.2⟩⟩)))
        rcases Nat.lt_succ_iff_lt_or_eq.mp q.1 with a | a
        · exact a
        · subst a; exact absurd q.2 hn
      refine br_f (sg_n10 hk') (x_isPresent hP hk' (fun pk => br_f (by decide) ?_) (fun pk => br_t rfl (no (fun a => pk a.1))))
      refine x_isOn hl hk' (hi k hk') hx hx' hy hy' (fun o => br_f (by decide) (nm_e (nm_r (nI_1 k) (ih (k + 1) (by omega) _ (sg_Mc (sg_Mor hz (sg_M1 hk')) (fun i hi => ?_)))))) (fun o => br_t rfl (no (fun a => o a.2)))
      constructor
      · rintro (a | a)
        · exact ⟨by omega, a.2⟩
        · subst a; exact ⟨by omega, pk, o⟩
      · intro a
        rcases Nat.lt_succ_iff_lt_or_eq.mp a.1 with b | b
        · exact Or.inl ⟨b, a.2⟩
        · exact Or.inr b
  exact ⟨11, key 10 0 rfl 0 (sg_Mc sg_M0 (fun i hi => ⟨fun q => q.elim, fun q => absurd q.1 (by omega)⟩))⟩
theorem sg_b3i {x y : Int} (hx : 0 ≤ x) (hx' : x ≤ 20) (hy : 0 ≤ y) (hy' : y ≤ 20) : sg_b3 ((x : Rat), (y : Rat)) := by
  unfold sg_b3
  simp only [Rat.num_intCast, Rat.den_intCast]
  omega
theorem sg_pinj {x y a b : Nat} (hx : x ≤ 20) (hy : y ≤ 20) (ha : a ≤ 20) (hb : b ≤ 20) (e : nI (x + 32 * y) = nI (a + 32 * b)) : x = a ∧ y = b := by
  have := (nI_eq (by omega) (by omega)).mp e
  omega
theorem i_vc_on {k : Nat} {u : SX} {v : SY} (I : i_Rel k u v) (hk : k + 3 ≤ 1536) (v1 : Int32) : wpX_on (fun r => wpY_on (fun r' v' => r' = r ∧ i_Rel (k + 3) u v') v v1) u v1 := by
  obtain ⟨pr, mc, cX, cY, cB, low, high, tX, bX, tY, bY, pa⟩ := u
  obtain ⟨fo, th, en, pt, sp⟩ := v
  obtain ⟨P, G, H, m, T, I⟩ := I
  obtain ⟨g, hG, hP, hl, hE, hH, rfl, hm, hX, hT, hM⟩ := id I
  unfold wpX_on wpY_on; dsimp only
  refine x_isPoint (fun x y hx hy e => br_f (by decide) ?_) (fun n => br_t rfl (y_isPoint (fun x y hx hy e => absurd e (n x y hx hy)) (fun _ => br_t rfl ⟨rfl, P, G, H, m, T, I⟩)))
  subst e
  refine x_placeOf hx hy (x_on hP hl g.1 (by omega) (by omega) (by omega) (by omega) (fun z hz => ?_))
  refine y_isPoint (fun a b ha hb e => br_f (by decide) ⟨by decide, by decide, ?_⟩) (fun n => absurd rfl (n x y hx hy))
  rw [sg_pm hx hy, sg_pd hx hy]
  refine y_goTo (by omega) (by omega) (by omega) (by omega) (fun sp' hS => y_setOn g hG hE hH hS (sg_b3i (by omega) (by omega) (by omega) (by omega)) (fun w hw => ⟨sg_Mu hw hz (fun _ _ => Iff.rfl), P, G, H, m, T, I⟩))
theorem sg_nb0 : vp_nar .boolean 0 = 0 := rfl
theorem sg_nb1 : vp_nar .boolean 1 = 1 := rfl
theorem i_vc_remove {k : Nat} {u : SX} {v : SY} (I : i_Rel k u v) (hk : k + 3 ≤ 1536) (v1 : Int32) : wpX_remove (fun r u' => wpY_remove (fun r' v' => r' = r ∧ i_Rel (k + 3) u' v') v v1) u v1 := by
  obtain ⟨pr, mc, cX, cY, cB, low, high, tX, bX, tY, bY, pa⟩ := u
  obtain ⟨fo, th, en, pt, sp⟩ := v
  obtain ⟨P, G, H, m, T, I⟩ := I
  obtain ⟨g, hG, hP, hl, hE, hH, rfl, hm, hX, hT, hM⟩ := id I
  unfold wpX_remove wpY_remove; dsimp only
  refine x_isPresentG hP (fun j hj e pj => br_f (by decide) (nm_e ?_)) (fun n => br_t rfl (y_isG hH (fun j hj e pj => absurd pj (n j hj e)) (fun _ => br_t rfl ⟨rfl, P, G, H, m, T, I⟩)))
  subst e
  have hP' := sg_Mdiff hP (sg_M1 hj)
  have g' : sg_Geo (fun i => P i ∧ ¬ i = j) G := ⟨g.1, fun a ha pa => g.2.1 a ha pa.1, fun a b ha hb pa pb => g.2.2 a b ha hb pa.1 pb.1⟩
  refine x_findMeetings g' hP' hl (fun m' T' cX cY cB tX bX tY bY pa hm' hX' hT' hM' => ?_)
  refine y_isG hH (fun i hi e pi => br_f (by decide) ⟨sg_in10 hj, ?_⟩) (fun n => absurd pj (n j hj rfl))
  rw [sg_c10 hj, sg_nb0]
  refine nm_e ⟨rfl, fun i => P i ∧ ¬ i = j, G, H, m', T', g', hG, hP', hl, hE, ?_, rfl, hm', hX', hT', hM'⟩
  intro i hi
  by_cases c : i = j
  · subst c
    rw [pk_us]
    exact ⟨fun _ q => q.2 rfl, fun _ => rfl⟩
  · rw [pk_un c, hH i hi]
    exact ⟨fun q r => q r.1, fun q r => q ⟨r, c⟩⟩
/-! refused -/
theorem sg_projI {a b c d x y u v : Int} (hj : sg_lt a b c d) (h1 : sg_L a b c d x y) (h2 : sg_L a b c d u v) :
    sg_lt x y u v ↔ (c - a) * x + (d - b) * y < (c - a) * u + (d - b) * v := by
  rw [sg_proj hj h1 h2, ← Rat.intCast_lt_intCast]
  simp only [Rat.intCast_add, Rat.intCast_mul, Rat.intCast_sub]
/-- Y's words: both ends of k in the line of the new segment, and their places on it not apart from it -/
def sg_yr (x1 y1 x2 y2 e0 e1 e2 e3 : Int) : Prop := ((x2 - x1) * (e1 - y1) = (y2 - y1) * (e0 - x1) ∧ (x2 - x1) * (e3 - y1) = (y2 - y1) * (e2 - x1)) ∧
  ((x2 - x1) * x1 + (y2 - y1) * y1 < (x2 - x1) * e0 + (y2 - y1) * e1 ∨ (x2 - x1) * x1 + (y2 - y1) * y1 < (x2 - x1) * e2 + (y2 - y1) * e3) ∧
  ((x2 - x1) * e0 + (y2 - y1) * e1 < (x2 - x1) * x2 + (y2 - y1) * y2 ∨ (x2 - x1) * e2 + (y2 - y1) * e3 < (x2 - x1) * x2 + (y2 - y1) * y2)
theorem sg_yr_sw (x1 y1 x2 y2 e0 e1 e2 e3 : Int) : sg_yr x1 y1 x2 y2 e0 e1 e2 e3 ↔ sg_yr x1 y1 x2 y2 e2 e3 e0 e1 := by
  unfold sg_yr
  constructor
  · rintro ⟨⟨a, b⟩, c, d⟩; exact ⟨⟨b, a⟩, c.symm, d.symm⟩
  · rintro ⟨⟨a, b⟩, c, d⟩; exact ⟨⟨b, a⟩, c.symm, d.symm⟩
theorem sg_yr_g {G : Nat → Int × Int × Int × Int} {k : Nat} {a b c d : Int} (hn : sg_lt a b c d) (hk : sg_lt (sg_lx G k) (sg_ly G k) (sg_hx G k) (sg_hy G k)) : sg_yr a b c d (sg_lx G k) (sg_ly G k) (sg_hx G k) (sg_hy G k) ↔ sg_ov G k a b c d := by
  unfold sg_yr sg_ov
  rw [← sg_Lc, ← sg_Lc]
  have hL := sg_lines hn hk
  constructor
  · rintro ⟨⟨l1, l2⟩, p, q⟩
    have z := (sg_projI hn l1 l2).mp hk
    refine ⟨(sg_projI hn (sg_L_a ..) l2).mpr ?_, (sg_projI hn l1 (sg_L_c ..)).mpr ?_, (hL.mpr ⟨l1, l2⟩).1, (hL.mpr ⟨l1, l2⟩).2⟩
    · omega
    · omega
  · rintro ⟨p, q, l⟩
    obtain ⟨l1, l2⟩ := hL.mp l
    exact ⟨⟨l1, l2⟩, Or.inr ((sg_projI hn (sg_L_a ..) l2).mp p), Or.inl ((sg_projI hn l1 (sg_L_c ..)).mp q)⟩
theorem sg_yr_r {G : Nat → Int × Int × Int × Int} {k : Nat} {a b c d : Int} (hn : sg_lt a b c d) (hk : sg_lt (sg_lx G k) (sg_ly G k) (sg_hx G k) (sg_hy G k)) : sg_yr c d a b (sg_lx G k) (sg_ly G k) (sg_hx G k) (sg_hy G k) ↔ sg_ov G k a b c d := by
  rw [← sg_yr_g hn hk]
  unfold sg_yr
  rw [← sg_Lc, ← sg_Lc, ← sg_Lc, ← sg_Lc]
  have n : ∀ x y : Int, (a - c) * x + (b - d) * y = -((c - a) * x + (d - b) * y) := by intro x y; grind
  simp only [n]
  constructor
  · rintro ⟨⟨l1, l2⟩, p, q⟩
    exact ⟨⟨(sg_L_sw ..).mp l1, (sg_L_sw ..).mp l2⟩, by omega, by omega⟩
  · rintro ⟨⟨l1, l2⟩, p, q⟩
    exact ⟨⟨(sg_L_sw ..).mp l1, (sg_L_sw ..).mp l2⟩, by omega, by omega⟩
section
variable {P : Nat → Prop} {G H : Nat → Int × Int × Int × Int} {fo : Int32} {th en : Nat → Int32} {pt sp : Nat → Int64}
theorem y_226 {post : Int32 → Prop} {J : Int32 → Int32 → Prop} (hH : sg_TH P th) {k : Nat} (hk : k < 10) {x1 x2 x3 x7 z0 : Int32} {L A : Prop} (h7 : ¬ x7 = 0 ↔ L) (hz : z0 = 0 ↔ A)
    (h1 : (¬ x3 = 0 ∨ (P k ∧ L ∧ A)) → J 1 (nI (k + 1))) (h0 : x3 = 0 → ¬ (P k ∧ L ∧ A) → J 0 (nI (k + 1))) : wY_refused_226 post J x1 x2 x3 (nI k) x7 z0 fo th en pt sp := by
  unfold wY_refused_226
  rw [sg_c10 hk, hH k hk, nI_1]
  refine br_c (fun a => ⟨sg_in10 hk, br_c (fun b => nm_e (h0 a (fun q => b q.1))) (fun b => br_c (fun c => nm_e (h0 a (fun q => h7.mpr q.2.1 c))) (fun c => br_c (fun d => nm_e (h1 (Or.inr ⟨Classical.not_not.mp b, h7.mp c, hz.mp d⟩))) (fun d => nm_e (h0 a (fun q => d (hz.mpr q.2.2))))))⟩) (fun a => nm_e (h1 (Or.inl a)))
theorem y_105 {post : Int32 → Prop} {J : Int32 → Int32 → Prop} (hE : sg_EN H en) (hH : sg_TH P th) {k : Nat} (hk : k < 10) (hi : sg_in H k) {x1 y1 x2 y2 : Nat} (hx1 : x1 ≤ 20) (hy1 : y1 ≤ 20) (hx2 : x2 ≤ 20) (hy2 : y2 ≤ 20) {x3 z0 : Int32} {L : Prop} (h7 : ¬ z0 = 0 ↔ L)
    (h1 : (¬ x3 = 0 ∨ (P k ∧ L ∧ ((((x2 : Int) - x1) * x1 + ((y2 : Int) - y1) * y1 < ((x2 : Int) - x1) * sg_lx H k + ((y2 : Int) - y1) * sg_ly H k ∨ ((x2 : Int) - x1) * x1 + ((y2 : Int) - y1) * y1 < ((x2 : Int) - x1) * sg_hx H k + ((y2 : Int) - y1) * sg_hy H k) ∧
      (((x2 : Int) - x1) * sg_lx H k + ((y2 : Int) - y1) * sg_ly H k < ((x2 : Int) - x1) * x2 + ((y2 : Int) - y1) * y2 ∨ ((x2 : Int) - x1) * sg_hx H k + ((y2 : Int) - y1) * sg_hy H k < ((x2 : Int) - x1) * x2 + ((y2 : Int) - y1) * y2)))) → J 1 (nI (k + 1)))
    (h0 : x3 = 0 → ¬ (P k ∧ L ∧ ((((x2 : Int) - x1) * x1 + ((y2 : Int) - y1) * y1 < ((x2 : Int) - x1) * sg_lx H k + ((y2 : Int) - y1) * sg_ly H k ∨ ((x2 : Int) - x1) * x1 + ((y2 : Int) - y1) * y1 < ((x2 : Int) - x1) * sg_hx H k + ((y2 : Int) - y1) * sg_hy H k) ∧
      (((x2 : Int) - x1) * sg_lx H k + ((y2 : Int) - y1) * sg_ly H k < ((x2 : Int) - x1) * x2 + ((y2 : Int) - y1) * y2 ∨ ((x2 : Int) - x1) * sg_hx H k + ((y2 : Int) - y1) * sg_hy H k < ((x2 : Int) - x1) * x2 + ((y2 : Int) - y1) * y2))) → J 0 (nI (k + 1))) :
    wY_refused_105 post J (nI (x1 + 32 * y1)) (nI (x2 + 32 * y2)) x3 (nI k) (sg_i ((x2 : Int) - x1)) (sg_i ((y2 : Int) - y1)) z0 fo th en pt sp := by
  obtain ⟨i1, i2, i3, i4, i5, i6, i7, i8⟩ := hi
  unfold wY_refused_105 wpY_place
  dsimp only
  rw [sg_pm hx1 hy1, sg_pd hx1 hy1, sg_pm hx2 hy2, sg_pd hx2 hy2]
  refine ⟨by decide, by decide, by decide, by decide, ?_⟩
  rw [y_e0 hE hk, y_e1 hE hk]
  refine nm_e ?_
  rw [y_e2 hE hk, y_e3 hE hk]
  refine nm_e ?_
  simp only [sg_imul, sg_iadd]
  have w1 := sg_mb (a := (x2 : Int) - x1) (b := (x1 : Int)) 20 20 (by omega) (by omega) (by omega) (by omega)
  have w2 := sg_mb (a := (y2 : Int) - y1) (b := (y1 : Int)) 20 20 (by omega) (by omega) (by omega) (by omega)
  have w3 := sg_mb (a := (x2 : Int) - x1) (b := (x2 : Int)) 20 20 (by omega) (by omega) (by omega) (by omega)
  have w4 := sg_mb (a := (y2 : Int) - y1) (b := (y2 : Int)) 20 20 (by omega) (by omega) (by omega) (by omega)
  have w5 := sg_mb (a := (x2 : Int) - x1) (b := sg_lx H k) 20 20 (by omega) (by omega) (by omega) (by omega)
  have w6 := sg_mb (a := (y2 : Int) - y1) (b := sg_ly H k) 20 20 (by omega) (by omega) (by omega) (by omega)
  have w7 := sg_mb (a := (x2 : Int) - x1) (b := sg_hx H k) 20 20 (by omega) (by omega) (by omega) (by omega)
  have w8 := sg_mb (a := (y2 : Int) - y1) (b := sg_hy H k) 20 20 (by omega) (by omega) (by omega) (by omega)
  have Rlo : sg_R (((x2 : Int) - x1) * x1 + ((y2 : Int) - y1) * y1) := ⟨by omega, by omega⟩
  have Rhi : sg_R (((x2 : Int) - x1) * x2 + ((y2 : Int) - y1) * y2) := ⟨by omega, by omega⟩
  have Rp : sg_R (((x2 : Int) - x1) * sg_lx H k + ((y2 : Int) - y1) * sg_ly H k) := ⟨by omega, by omega⟩
  have Rq : sg_R (((x2 : Int) - x1) * sg_hx H k + ((y2 : Int) - y1) * sg_hy H k) := ⟨by omega, by omega⟩
  generalize ((x2 : Int) - x1) * x1 + ((y2 : Int) - y1) * y1 = lo at *
  generalize ((x2 : Int) - x1) * x2 + ((y2 : Int) - y1) * y2 = hi at *
  generalize ((x2 : Int) - x1) * sg_lx H k + ((y2 : Int) - y1) * sg_ly H k = p at *
  generalize ((x2 : Int) - x1) * sg_hx H k + ((y2 : Int) - y1) * sg_hy H k = q at *
  unfold wY_refused_189 wY_refused_205 wY_refused_221
  rw [sg_ile Rq Rp, sg_ile Rp Rlo, sg_ile Rq Rlo, sg_ilt Rp Rhi, sg_ilt Rq Rhi]
  have A1 : (1 : Int32) = 0 ↔ False := by decide
  have A0 : (0 : Int32) = 0 ↔ True := by decide
  refine br_c (fun c => br_t c (br_c (fun d => ?_) (fun d => br_c (fun e => ?_) (fun e => ?_)))) (fun c => br_f c (br_c (fun d => ?_) (fun d => br_c (fun e => ?_) (fun e => ?_))))
  · exact y_226 hH hk h7 A1 (fun z => h1 (z.elim Or.inl (fun z => z.2.2.elim))) (fun z _ => h0 z (fun o => by have := o.2.2; omega))
  · exact y_226 hH hk h7 A0 (fun z => h1 (z.elim Or.inl (fun z => Or.inr ⟨z.1, z.2.1, by omega⟩))) (fun z n => h0 z (fun o => n ⟨o.1, o.2.1, trivial⟩))
  · exact y_226 hH hk h7 A1 (fun z => h1 (z.elim Or.inl (fun z => z.2.2.elim))) (fun z _ => h0 z (fun o => by have := o.2.2; omega))
  · exact y_226 hH hk h7 A1 (fun z => h1 (z.elim Or.inl (fun z => z.2.2.elim))) (fun z _ => h0 z (fun o => by have := o.2.2; omega))
  · exact y_226 hH hk h7 A0 (fun z => h1 (z.elim Or.inl (fun z => Or.inr ⟨z.1, z.2.1, by omega⟩))) (fun z n => h0 z (fun o => n ⟨o.1, o.2.1, trivial⟩))
  · exact y_226 hH hk h7 A1 (fun z => h1 (z.elim Or.inl (fun z => z.2.2.elim))) (fun z _ => h0 z (fun o => by have := o.2.2; omega))
theorem y_refused {post : Int32 → Prop} (g : sg_Geo P G) (hG : sg_GH G H) (hE : sg_EN H en) (hH : sg_TH P th) {x1 y1 x2 y2 : Nat} (hx1 : x1 ≤ 20) (hy1 : y1 ≤ 20) (hx2 : x2 ≤ 20) (hy2 : y2 ≤ 20)
    (h1 : ∀ k, k < 10 → P k → sg_yr x1 y1 x2 y2 (sg_lx H k) (sg_ly H k) (sg_hx H k) (sg_hy H k) → post 1) (h0 : (∀ k, k < 10 → P k → ¬ sg_yr x1 y1 x2 y2 (sg_lx H k) (sg_ly H k) (sg_hx H k) (sg_hy H k)) → post 0) :
    wpY_refused post (fo, th, en, pt, sp) (nI (x1 + 32 * y1)) (nI (x2 + 32 * y2)) := by
  have key : ∀ e k, k + e = 10 → ∀ x3 : Int32, ((x3 = 0 ∧ ∀ l, l < k → P l → ¬ sg_yr x1 y1 x2 y2 (sg_lx H l) (sg_ly H l) (sg_hx H l) (sg_hy H l)) ∨ (x3 = 1 ∧ ∃ l, l < 10 ∧ P l ∧ sg_yr x1 y1 x2 y2 (sg_lx H l) (sg_ly H l) (sg_hx H l) (sg_hy H l))) →
      wY_refused_5 post (nI (x1 + 32 * y1)) (nI (x2 + 32 * y2)) fo th en pt sp (e + 1) x3 (nI k) := by
    intro e
    induction e with
    | zero =>
      intro k hk x3 hx
      have : k = 10 := by omega
      subst this
      rcases hx with ⟨rfl, n⟩ | ⟨rfl, l, hl, pl, o⟩
      · exact br_t sg_e10 ⟨rfl, h0 n⟩
      · exact br_t sg_e10 ⟨rfl, h1 l hl pl o⟩
    | succ e ih =>
      intro k hk x3 hx
      have hk' : k < 10 := by omega
      have hi := sg_GHi hG hk' (g.1 k hk')
      obtain ⟨i1, i2, i3, i4, i5, i6, i7, i8⟩ := id hi
      have go : ∀ (z0 : Int32) (L : Prop), (¬ z0 = 0 ↔ L) → (L ↔ (((x2 : Int) - x1) * (sg_ly H k - y1) = ((y2 : Int) - y1) * (sg_lx H k - x1) ∧ ((x2 : Int) - x1) * (sg_hy H k - y1) = ((y2 : Int) - y1) * (sg_hx H k - x1))) →
          wY_refused_105 post (wY_refused_5 post (nI (x1 + 32 * y1)) (nI (x2 + 32 * y2)) fo th en pt sp (e + 1)) (nI (x1 + 32 * y1)) (nI (x2 + 32 * y2)) x3 (nI k) (sg_i ((x2 : Int) - x1)) (sg_i ((y2 : Int) - y1)) z0 fo th en pt sp := by
        intro z0 L h7 hL
        refine y_105 hE hH hk' hi hx1 hy1 hx2 hy2 h7 (fun z => ih (k + 1) (by omega) 1 (Or.inr ⟨rfl, ?_⟩)) (fun a z => ih (k + 1) (by omega) 0 (Or.inl ⟨rfl, ?_⟩))
        · rcases z with z | z
          · rcases hx with ⟨a, _⟩ | ⟨_, q⟩
            · exact absurd a z
            · exact q
          · exact ⟨k, hk', z.1, hL.mp z.2.1, z.2.2⟩
        · intro l hl
          rcases Nat.lt_succ_iff_lt_or_eq.mp hl with b | b
          · rcases hx with ⟨_, q⟩ | ⟨c, _⟩
            · exact q l b
            · exact absurd (c.symm.trans a) (by decide)
          · subst b
            exact fun pl o => z ⟨pl, hL.mpr o.1, o.2⟩
      refine br_f (sg_n10 hk') ?_
      rw [sg_pm hx1 hy1, sg_pd hx1 hy1, sg_pm hx2 hy2, sg_pd hx2 hy2, sg_isub, sg_isub]
      refine ⟨by decide, by decide, nm_e ⟨by decide, by decide, nm_e ?_⟩⟩
      rw [y_e1 hE hk']
      refine ⟨by decide, ?_⟩
      rw [y_e0 hE hk']
      refine ⟨by decide, ?_⟩
      have w1 := sg_mb (a := (x2 : Int) - x1) (b := sg_ly H k - y1) 20 20 (by omega) (by omega) (by omega) (by omega)
      have w2 := sg_mb (a := (y2 : Int) - y1) (b := sg_lx H k - x1) 20 20 (by omega) (by omega) (by omega) (by omega)
      have w3 := sg_mb (a := (x2 : Int) - x1) (b := sg_hy H k - y1) 20 20 (by omega) (by omega) (by omega) (by omega)
      have w4 := sg_mb (a := (y2 : Int) - y1) (b := sg_hx H k - x1) 20 20 (by omega) (by omega) (by omega) (by omega)
      rw [y_e3 hE hk']
      simp only [y_e2 hE hk', sg_isub, sg_imul]
      rw [sg_ieq ⟨by omega, by omega⟩ ⟨by omega, by omega⟩, sg_ieq ⟨by omega, by omega⟩ ⟨by omega, by omega⟩]
      refine br_c (fun c => ⟨by decide, by decide, br_c (fun d => ?_) (fun d => ?_)⟩) (fun c => ?_)
      · exact go 1 True ⟨fun _ => trivial, fun _ => by decide⟩ ⟨fun _ => ⟨c, d⟩, fun _ => trivial⟩
      · exact go 0 False ⟨fun z => z rfl, fun z => z.elim⟩ ⟨fun z => z.elim, fun z => d z.2⟩
      · exact go 0 False ⟨fun z => z rfl, fun z => z.elim⟩ ⟨fun z => z.elim, fun z => c z.1⟩
  exact ⟨11, key 10 0 rfl 0 (Or.inl ⟨rfl, fun l hl => absurd hl (by omega)⟩)⟩
end
