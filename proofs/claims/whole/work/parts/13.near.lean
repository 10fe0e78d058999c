/-! ===== above, below: both sides in step ===== -/
section
variable {P : Nat → Prop} {G H : Nat → Int × Int × Int × Int} {pr mc cX cY cB : Int32} {low high tX bX tY bY pa : Nat → Int32} {fo : Int32} {th en : Nat → Int32} {pt sp : Nat → Int64}
theorem x_reaches {post : Int32 → Prop} (hl : sg_LH G low high) {k : Nat} (hk : k < 10) (hi : sg_in G k) {x y : Int} (hx : 0 ≤ x) (hx' : x ≤ 20) (hy : 0 ≤ y) (hy' : y ≤ 20)
    (h1 : sg_lx G k < sg_hx G k → sg_lx G k ≤ x → x ≤ sg_hx G k → post 1) (h0 : ¬ (sg_lx G k < sg_hx G k ∧ sg_lx G k ≤ x ∧ x ≤ sg_hx G k) → post 0) : wpX_reachesColumn post (pr, mc, cX, cY, cB, low, high, tX, bX, tY, bY, pa) (sg_i (32 * x + y)) (nI k) := by
  obtain ⟨i1, i2, i3, i4, i5, i6, i7, i8⟩ := hi
  simp only [wpX_reachesColumn, wpX_xOf, sg_c10 hk, (hl k hk).1, (hl k hk).2, sg_px i1 i2 i3 i4, sg_px i5 i6 i7 i8, sg_px hx hx' hy hy', sg_in10 hk, true_and]
  rw [sg_ile ⟨by omega, by omega⟩ ⟨by omega, by omega⟩, sg_ilt ⟨by omega, by omega⟩ ⟨by omega, by omega⟩, sg_ilt ⟨by omega, by omega⟩ ⟨by omega, by omega⟩]
  exact br_c (fun a => h0 (by omega)) (fun a => br_c (fun b => h0 (by omega)) (fun b => br_c (fun c => h0 (by omega)) (fun c => h1 (by omega) (by omega) (by omega))))
def sg_ht (G : Nat → Int × Int × Int × Int) (k : Nat) (x y : Int) : Int := (sg_ly G k - y) * (sg_hx G k - sg_lx G k) + (sg_hy G k - sg_ly G k) * (x - sg_lx G k)
theorem x_height {post : Int32 → Prop} (hl : sg_LH G low high) {k : Nat} (hk : k < 10) (hi : sg_in G k) {x y : Int} (hx : 0 ≤ x) (hx' : x ≤ 20) (hy : 0 ≤ y) (hy' : y ≤ 20)
    (h : post (sg_i (sg_ht G k x y))) : wpX_scaledHeight post (pr, mc, cX, cY, cB, low, high, tX, bX, tY, bY, pa) (sg_i (32 * x + y)) (nI k) := by
  obtain ⟨i1, i2, i3, i4, i5, i6, i7, i8⟩ := hi
  simp only [wpX_scaledHeight, wpX_xOf, wpX_yOf, sg_c10 hk, (hl k hk).1, (hl k hk).2, sg_px i1 i2 i3 i4, sg_py i1 i2 i3 i4, sg_px i5 i6 i7 i8, sg_py i5 i6 i7 i8, sg_px hx hx' hy hy', sg_py hx hx' hy hy', sg_isub, sg_imul, sg_iadd, forall_eq, sg_in10 hk, true_and]
  exact h
theorem y_149 {post : Int32 → Prop} {J : Int32 → Int32 → Int32 → Int32 → Prop} (hE : sg_EN H en) {k : Nat} (hk : k < 10) {x y : Nat} (hx : x ≤ 20) (hy : y ≤ 20) {x2 x3 x4 x5 x9 x10 z0 z1 : Int32}
    (h0 : x9 = 0 → J x3 x4 x5 (nI (k + 1)))
    (h1 : ¬ x9 = 0 → (x2 * ((sg_i (sg_ly H k) - sg_i y) * x10 + z1 * z0) ≤ 0 → J x3 x4 x5 (nI (k + 1))) ∧ (¬ x2 * ((sg_i (sg_ly H k) - sg_i y) * x10 + z1 * z0) ≤ 0 →
      ((x3 < 0 → J (nI k) (x2 * ((sg_i (sg_ly H k) - sg_i y) * x10 + z1 * z0)) x10 (nI (k + 1))) ∧ (¬ x3 < 0 →
        ((x4 * x10 ≤ x2 * ((sg_i (sg_ly H k) - sg_i y) * x10 + z1 * z0) * x5 → J x3 x4 x5 (nI (k + 1))) ∧ (¬ x4 * x10 ≤ x2 * ((sg_i (sg_ly H k) - sg_i y) * x10 + z1 * z0) * x5 → J (nI k) (x2 * ((sg_i (sg_ly H k) - sg_i y) * x10 + z1 * z0)) x10 (nI (k + 1)))))))) :
    wY_nearest_149 post J (nI (x + 32 * y)) x2 x3 x4 x5 (nI k) x9 x10 z0 z1 fo th en pt sp := by
  unfold wY_nearest_149 wY_nearest_201
  refine nm_e ?_
  rw [y_e1 hE hk, sg_pd hx hy, nI_1]
  refine ⟨by decide, nm_e (br_c (fun a => nm_e (h0 a)) (fun a => ?_))⟩
  obtain ⟨p, q⟩ := h1 a
  refine ⟨fun b => nm_e (p b), fun b => ?_⟩
  obtain ⟨r, s⟩ := q b
  refine ⟨fun c => nm_e (r c), fun c => ?_⟩
  obtain ⟨t, w⟩ := s c
  exact ⟨fun d => nm_e (t d), fun d => nm_e (w d)⟩
theorem y_96z {post : Int32 → Prop} {J : Int32 → Int32 → Int32 → Int32 → Prop} (hE : sg_EN H en) {k : Nat} (hk : k < 10) {x y : Nat} (hx : x ≤ 20) (hy : y ≤ 20) {x2 x3 x4 x5 x7 x8 : Int32}
    (h0 : J x3 x4 x5 (nI (k + 1))) : wY_nearest_96 post J (nI (x + 32 * y)) x2 x3 x4 x5 (nI k) x7 x8 0 fo th en pt sp := by
  unfold wY_nearest_96 wY_nearest_111
  simp only [y_e0 hE hk, y_e1 hE hk, y_e3 hE hk]
  have z : ∀ x10 z0 z1 : Int32, wY_nearest_149 post J (nI (x + 32 * y)) x2 x3 x4 x5 (nI k) 0 x10 z0 z1 fo th en pt sp := fun _ _ _ => y_149 hE hk hx hy (fun _ => h0) (fun a => absurd rfl a)
  exact br_c (fun a => br_c (fun _ => z _ _ _) (fun _ => z _ _ _)) (fun a => br_c (fun _ => z _ _ _) (fun _ => z _ _ _))
theorem y_96o {post : Int32 → Prop} {J : Int32 → Int32 → Int32 → Int32 → Prop} (g : sg_Geo P G) (hG : sg_GH G H) (hE : sg_EN H en) {k : Nat} (hk : k < 10) {x y : Nat} (hx : x ≤ 20) (hy : y ≤ 20) (hlt : sg_lx G k < sg_hx G k) {x2 x3 x4 x5 : Int32}
    (h : (x2 * sg_i (sg_ht G k x y) ≤ 0 → J x3 x4 x5 (nI (k + 1))) ∧ (¬ x2 * sg_i (sg_ht G k x y) ≤ 0 →
      ((x3 < 0 → J (nI k) (x2 * sg_i (sg_ht G k x y)) (sg_i (sg_hx G k - sg_lx G k)) (nI (k + 1))) ∧ (¬ x3 < 0 →
        ((x4 * sg_i (sg_hx G k - sg_lx G k) ≤ x2 * sg_i (sg_ht G k x y) * x5 → J x3 x4 x5 (nI (k + 1))) ∧ (¬ x4 * sg_i (sg_hx G k - sg_lx G k) ≤ x2 * sg_i (sg_ht G k x y) * x5 → J (nI k) (x2 * sg_i (sg_ht G k x y)) (sg_i (sg_hx G k - sg_lx G k)) (nI (k + 1)))))))) :
    wY_nearest_96 post J (nI (x + 32 * y)) x2 x3 x4 x5 (nI k) (sg_i (sg_hx H k - sg_lx H k)) (sg_i x) 1 fo th en pt sp := by
  have hi := g.1 k hk
  obtain ⟨i1, i2, i3, i4, i5, i6, i7, i8⟩ := hi
  obtain ⟨j1, j2, j3, j4, j5, j6, j7, j8⟩ := sg_GHi hG hk (g.1 k hk)
  unfold wY_nearest_96 wY_nearest_111
  simp only [y_e0 hE hk, y_e1 hE hk, y_e3 hE hk, sg_isub, sg_imul, sg_ineg]
  rw [sg_iz0 ⟨by omega, by omega⟩]
  have fin : ∀ (w s : Int), w = sg_hx G k - sg_lx G k → (sg_ly H k - y) * w + (sg_hy H k - sg_ly H k) * (x - sg_lx H k) * s = sg_ht G k x y →
      wY_nearest_149 post J (nI (x + 32 * y)) x2 x3 x4 x5 (nI k) 1 (sg_i w) (sg_i s) (sg_i ((sg_hy H k - sg_ly H k) * (x - sg_lx H k))) fo th en pt sp := by
    intro w s ew es
    refine y_149 hE hk hx hy (fun a => absurd a (by decide)) (fun _ => ?_)
    rw [sg_isub, sg_imul, sg_imul, sg_iadd, es, ew]
    exact h
  rcases hG k hk with e | e
  · have e0 : sg_lx H k = sg_lx G k := by unfold sg_lx; rw [e]
    have e1 : sg_ly H k = sg_ly G k := by unfold sg_ly; rw [e]
    have e2 : sg_hx H k = sg_hx G k := by unfold sg_hx; rw [e]
    have e3 : sg_hy H k = sg_hy G k := by unfold sg_hy; rw [e]
    have c : 0 ≤ sg_hx H k - sg_lx H k := by omega
    refine br_t c (br_t c ?_)
    refine fin _ 1 (by rw [e2, e0]) ?_
    rw [e0, e1, e2, e3]
    unfold sg_ht
    rw [Int.mul_one]
  · have e0 : sg_lx H k = sg_hx G k := by unfold sg_lx; rw [e]
    have e1 : sg_ly H k = sg_hy G k := by unfold sg_ly; rw [e]
    have e2 : sg_hx H k = sg_lx G k := by unfold sg_hx; rw [e]
    have e3 : sg_hy H k = sg_ly G k := by unfold sg_hy; rw [e]
    have c : ¬ 0 ≤ sg_hx H k - sg_lx H k := by omega
    refine br_f c (br_f c ?_)
    refine fin (-(sg_hx H k - sg_lx H k)) (-1) (by rw [e2, e0]; omega) ?_
    rw [e0, e1, e2, e3]
    unfold sg_ht
    grind
theorem sg_step {x y : Nat} (hx : x ≤ 20) (hy : y ≤ 20) (g : sg_Geo P G) (hG : sg_GH G H) (hP : sg_M pr P) (hl : sg_LH G low high) (hE : sg_EN H en) (hH : sg_TH P th) (d2 : Int32) :
    ∀ e k, k + e = 10 → ∀ b w z : Int32, (b = -1 ∨ ∃ l, l < 10 ∧ b = nI l) → ∃ r : Int32, (∀ post : Int32 → Prop, post r → wX_nearest_26 post d2 (sg_i (32 * (x : Int) + y)) pr mc cX cY cB low high tX bX tY bY pa (e + 1) b w z (nI k)) ∧ (∀ post : Int32 → Prop, post r → wY_nearest_21 post (nI (x + 32 * y)) d2 fo th en pt sp (e + 1) b w z (nI k)) := by
  intro e
  induction e with
  | zero =>
    intro k hk b w z hb
    have : k = 10 := by omega
    subst this
    exact ⟨b, fun post hp => br_t sg_e10 hp, fun post hp => br_t sg_e10 hp⟩
  | succ e ih =>
    intro k hk b w z hb
    have hk' : k < 10 := by omega
    have hi := g.1 k hk'
    obtain ⟨i1, i2, i3, i4, i5, i6, i7, i8⟩ := id hi
    obtain ⟨j1, j2, j3, j4, j5, j6, j7, j8⟩ := sg_GHi hG hk' hi
    -- Y's way to the join
    have yw : ∀ post : Int32 → Prop, (¬ (P k ∧ sg_lx G k < sg_hx G k ∧ sg_lx G k ≤ x ∧ x ≤ sg_hx G k) → wY_nearest_96 post (wY_nearest_21 post (nI (x + 32 * y)) d2 fo th en pt sp (e + 1)) (nI (x + 32 * y)) d2 b w z (nI k) (sg_i (sg_hx H k - sg_lx H k)) (sg_i x) 0 fo th en pt sp) →
        (P k → sg_lx G k < sg_hx G k → sg_lx G k ≤ x → x ≤ sg_hx G k → wY_nearest_96 post (wY_nearest_21 post (nI (x + 32 * y)) d2 fo th en pt sp (e + 1)) (nI (x + 32 * y)) d2 b w z (nI k) (sg_i (sg_hx H k - sg_lx H k)) (sg_i x) 1 fo th en pt sp) →
        wY_nearest_21 post (nI (x + 32 * y)) d2 fo th en pt sp (e + 1 + 1) b w z (nI k) := by
      intro post n0 n1
      refine br_f (sg_n10 hk') ?_
      rw [y_e2 hE hk', y_e0 hE hk', sg_isub]
      refine nm_e ⟨by decide, ?_⟩
      rw [sg_pm hx hy]
      refine nm_e ⟨sg_in10 hk', ?_⟩
      rw [sg_c10 hk', hH k hk', sg_iz ⟨by omega, by omega⟩, y_e0 hE hk', y_e2 hE hk', sg_il (a := (x : Int)) ⟨by omega, by omega⟩]
      unfold wY_nearest_95
      refine br_c (fun q => n0 (fun a => q a.1)) (fun q => ?_)
      have pk := Classical.not_not.mp q
      have od := g.2.1 k hk' pk
      unfold sg_od at od
      have ex : (sg_lx H k = sg_lx G k ∧ sg_hx H k = sg_hx G k) ∨ (sg_lx H k = sg_hx G k ∧ sg_hx H k = sg_lx G k) := by
        rcases hG k hk' with e | e
        · left; unfold sg_lx sg_hx; rw [e]; exact ⟨rfl, rfl⟩
        · right; unfold sg_lx sg_hx; rw [e]; exact ⟨rfl, rfl⟩
      refine br_c (fun c => n0 (fun a => by omega)) (fun c => ?_)
      refine y_between (b := 1) (r := ((x : Int) : Rat)) (Rat.mul_one _) (by omega) (by omega) (by omega) (by omega) j1 j2 j5 j6 (fun s => br_f (by decide) ?_) (fun s => br_t rfl (n0 (fun a => s ?_)))
      · unfold sg_bt at s
        rw [Rat.intCast_le_intCast, Rat.intCast_le_intCast, Rat.intCast_le_intCast, Rat.intCast_le_intCast] at s
        exact n1 pk (by omega) (by omega) (by omega)
      · unfold sg_bt
        rw [Rat.intCast_le_intCast, Rat.intCast_le_intCast, Rat.intCast_le_intCast, Rat.intCast_le_intCast]
        omega
    by_cases act : P k ∧ sg_lx G k < sg_hx G k ∧ sg_lx G k ≤ x ∧ x ≤ sg_hx G k
    · obtain ⟨pk, a1, a2, a3⟩ := act
      have xw : ∀ post : Int32 → Prop, ((d2 * sg_i (sg_ht G k x y) ≤ 0 → (∀ q, q = nI k + 1 → wX_nearest_26 post d2 (sg_i (32 * (x : Int) + y)) pr mc cX cY cB low high tX bX tY bY pa (e + 1) b w z q)) ∧ (¬ d2 * sg_i (sg_ht G k x y) ≤ 0 →
          ((b = -1 → (∀ q, q = nI k + 1 → wX_nearest_26 post d2 (sg_i (32 * (x : Int) + y)) pr mc cX cY cB low high tX bX tY bY pa (e + 1) (nI k) (d2 * sg_i (sg_ht G k x y)) (sg_i (sg_hx G k - sg_lx G k)) q)) ∧ (¬ b = -1 →
            ((w * sg_i (sg_hx G k - sg_lx G k) ≤ d2 * sg_i (sg_ht G k x y) * z → (∀ q, q = nI k + 1 → wX_nearest_26 post d2 (sg_i (32 * (x : Int) + y)) pr mc cX cY cB low high tX bX tY bY pa (e + 1) b w z q)) ∧
             (¬ w * sg_i (sg_hx G k - sg_lx G k) ≤ d2 * sg_i (sg_ht G k x y) * z → (∀ q, q = nI k + 1 → wX_nearest_26 post d2 (sg_i (32 * (x : Int) + y)) pr mc cX cY cB low high tX bX tY bY pa (e + 1) (nI k) (d2 * sg_i (sg_ht G k x y)) (sg_i (sg_hx G k - sg_lx G k)) q))))))) →
          wX_nearest_26 post d2 (sg_i (32 * (x : Int) + y)) pr mc cX cY cB low high tX bX tY bY pa (e + 1 + 1) b w z (nI k) := by
        intro post h
        refine br_f (sg_n10 hk') (x_isPresent hP hk' (fun _ => br_f (by decide) ?_) (fun q => absurd pk q))
        refine x_reaches hl hk' hi (by omega) (by omega) (by omega) (by omega) (fun _ _ _ => br_f (by decide) ⟨sg_in10 hk', ?_⟩) (fun q => absurd ⟨a1, a2, a3⟩ q)
        unfold wpX_xOf
        rw [sg_c10 hk', (hl k hk').1, (hl k hk').2, sg_px i1 i2 i3 i4, sg_px i5 i6 i7 i8]
        dsimp only
        rw [sg_isub]
        exact ⟨sg_in10 hk', nm_e (x_height hl hk' hi (by omega) (by omega) (by omega) (by omega) (nm_e h))⟩
      have bneg : b = -1 ↔ b < 0 := by
        rcases hb with rfl | ⟨l, hl, rfl⟩
        · decide
        · constructor
          · intro q
            have : nI l < 0 := by rw [q]; decide
            exact absurd this (nI_pos (by omega))
          · intro q
            exact absurd q (nI_pos (by omega))
      by_cases c1 : d2 * sg_i (sg_ht G k x y) ≤ 0
      · obtain ⟨r, hX, hY⟩ := ih (k + 1) (by omega) b w z hb
        refine ⟨r, fun post hp => xw post (br_t c1 (nm_r (nI_1 k) (hX post hp))), fun post hp => yw post (fun q => absurd ⟨pk, a1, a2, a3⟩ q) (fun _ _ _ _ => y_96o g hG hE hk' hx hy a1 (br_t c1 (hY post hp)))⟩
      · by_cases c2 : b = -1
        · obtain ⟨r, hX, hY⟩ := ih (k + 1) (by omega) (nI k) (d2 * sg_i (sg_ht G k x y)) (sg_i (sg_hx G k - sg_lx G k)) (Or.inr ⟨k, hk', rfl⟩)
          refine ⟨r, fun post hp => xw post (br_f c1 (br_t c2 (nm_r (nI_1 k) (hX post hp)))), fun post hp => yw post (fun q => absurd ⟨pk, a1, a2, a3⟩ q) (fun _ _ _ _ => y_96o g hG hE hk' hx hy a1 (br_f c1 (br_t (bneg.mp c2) (hY post hp))))⟩
        · by_cases c3 : w * sg_i (sg_hx G k - sg_lx G k) ≤ d2 * sg_i (sg_ht G k x y) * z
          · obtain ⟨r, hX, hY⟩ := ih (k + 1) (by omega) b w z hb
            refine ⟨r, fun post hp => xw post (br_f c1 (br_f c2 (br_t c3 (nm_r (nI_1 k) (hX post hp))))), fun post hp => yw post (fun q => absurd ⟨pk, a1, a2, a3⟩ q) (fun _ _ _ _ => y_96o g hG hE hk' hx hy a1 (br_f c1 (br_f (fun q => c2 (bneg.mpr q)) (br_t c3 (hY post hp)))))⟩
          · obtain ⟨r, hX, hY⟩ := ih (k + 1) (by omega) (nI k) (d2 * sg_i (sg_ht G k x y)) (sg_i (sg_hx G k - sg_lx G k)) (Or.inr ⟨k, hk', rfl⟩)
            refine ⟨r, fun post hp => xw post (br_f c1 (br_f c2 (br_f c3 (nm_r (nI_1 k) (hX post hp))))), fun post hp => yw post (fun q => absurd ⟨pk, a1, a2, a3⟩ q) (fun _ _ _ _ => y_96o g hG hE hk' hx hy a1 (br_f c1 (br_f (fun q => c2 (bneg.mpr q)) (br_f c3 (hY post hp)))))⟩
    · obtain ⟨r, hX, hY⟩ := ih (k + 1) (by omega) b w z hb
      refine ⟨r, fun post hp => ?_, fun post hp => yw post (fun _ => y_96z hE hk' hx hy (hY post hp)) (fun a1 a2 a3 a4 => absurd ⟨a1, a2, a3, a4⟩ act)⟩
      refine br_f (sg_n10 hk') (x_isPresent hP hk' (fun pk => br_f (by decide) ?_) (fun q => br_t rfl (nm_r (nI_1 k) (hX post hp))))
      exact x_reaches hl hk' hi (by omega) (by omega) (by omega) (by omega) (fun a b c => absurd ⟨pk, a, b, c⟩ act) (fun q => br_t rfl (nm_r (nI_1 k) (hX post hp)))
theorem sg_near {m : Nat} {T : Nat → Rat × Rat} (I : sg_St P G H m T pr mc low high tX bX tY bY pa th en) (v1 d2 : Int32) {Q : Int32 → Int32 → Prop} (hQ : ∀ r, Q r r) : wpX_nearest (fun r => wpY_nearest (fun r' => Q r r') (fo, th, en, pt, sp) v1 d2) (pr, mc, cX, cY, cB, low, high, tX, bX, tY, bY, pa) v1 d2 := by
  obtain ⟨g, hG, hP, hl, hE, hH, rfl, hm, hX, hT, hM⟩ := id I
  unfold wpX_nearest wpY_nearest; dsimp only
  refine x_isPoint (fun x y hx hy e => br_f (by decide) ?_) (fun n => br_t rfl (y_isPoint (fun x y hx hy e => absurd e (n x y hx hy)) (fun _ => br_t rfl (hQ _))))
  subst e
  obtain ⟨r, hX, hY⟩ := sg_step (pr := pr) (mc := nI m) (cX := cX) (cY := cY) (cB := cB) (tX := tX) (bX := bX) (tY := tY) (bY := bY) (pa := pa) (fo := fo) (pt := pt) (sp := sp) hx hy g hG hP hl hE hH d2 10 0 rfl (-1) 0 1 (Or.inl rfl)
  refine x_placeOf hx hy ⟨11, hX _ ?_⟩
  exact y_isPoint (fun _ _ _ _ _ => br_f (by decide) ⟨11, hY _ (hQ r)⟩) (fun n => absurd rfl (n x y hx hy))
end
theorem i_vc_above {k : Nat} {u : SX} {v : SY} (I : i_Rel k u v) (hk : k + 3 ≤ 1536) (v1 : Int32) : wpX_above (fun r => wpY_above (fun r' => r' = r ∧ i_Rel (k + 3) u v) v v1) u v1 := by
  obtain ⟨pr, mc, cX, cY, cB, low, high, tX, bX, tY, bY, pa⟩ := u
  obtain ⟨fo, th, en, pt, sp⟩ := v
  obtain ⟨P, G, H, m, T, I⟩ := I
  unfold wpX_above wpY_above; dsimp only
  exact sg_near (Q := fun r r' => r' = r ∧ i_Rel (k + 3) (pr, mc, cX, cY, cB, low, high, tX, bX, tY, bY, pa) (fo, th, en, pt, sp)) I v1 1 (fun r => ⟨rfl, P, G, H, m, T, I⟩)
theorem i_vc_below {k : Nat} {u : SX} {v : SY} (I : i_Rel k u v) (hk : k + 3 ≤ 1536) (v1 : Int32) : wpX_below (fun r => wpY_below (fun r' => r' = r ∧ i_Rel (k + 3) u v) v v1) u v1 := by
  obtain ⟨pr, mc, cX, cY, cB, low, high, tX, bX, tY, bY, pa⟩ := u
  obtain ⟨fo, th, en, pt, sp⟩ := v
  obtain ⟨P, G, H, m, T, I⟩ := I
  unfold wpX_below wpY_below; dsimp only
  exact sg_near (Q := fun r r' => r' = r ∧ i_Rel (k + 3) (pr, mc, cX, cY, cB, low, high, tX, bX, tY, bY, pa) (fo, th, en, pt, sp)) I v1 (-1) (fun r => ⟨rfl, P, G, H, m, T, I⟩)
