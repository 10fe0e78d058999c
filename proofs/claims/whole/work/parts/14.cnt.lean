/-! ===== counting ===== -/
noncomputable def sg_n (A : Nat → Prop) : Nat → Nat
  | 0 => 0
  | n + 1 => sg_n A n + @ite Nat (A n) (Classical.propDecidable (A n)) 1 0
noncomputable def sg_s (A : Nat → Prop) (f : Nat → Nat) : Nat → Nat
  | 0 => 0
  | n + 1 => sg_s A f n + @ite Nat (A n) (Classical.propDecidable (A n)) (f n) 0
theorem sg_n_t {A : Nat → Prop} {n : Nat} (h : A n) : sg_n A (n + 1) = sg_n A n + 1 := congrArg (sg_n A n + ·) (if_pos h)
theorem sg_n_f {A : Nat → Prop} {n : Nat} (h : ¬ A n) : sg_n A (n + 1) = sg_n A n := congrArg (sg_n A n + ·) (if_neg h)
theorem sg_s_t {A : Nat → Prop} {f : Nat → Nat} {n : Nat} (h : A n) : sg_s A f (n + 1) = sg_s A f n + f n := congrArg (sg_s A f n + ·) (if_pos h)
theorem sg_s_f {A : Nat → Prop} {f : Nat → Nat} {n : Nat} (h : ¬ A n) : sg_s A f (n + 1) = sg_s A f n := congrArg (sg_s A f n + ·) (if_neg h)
theorem sg_n_le (A : Nat → Prop) : ∀ n, sg_n A n ≤ n := by
  intro n
  induction n with
  | zero => exact Nat.le_refl _
  | succ n ih =>
    by_cases h : A n
    · rw [sg_n_t h]; omega
    · rw [sg_n_f h]; omega
theorem sg_n_c {A B : Nat → Prop} : ∀ n, (∀ i, i < n → (A i ↔ B i)) → sg_n A n = sg_n B n := by
  intro n
  induction n with
  | zero => intro _; rfl
  | succ n ih =>
    intro h
    have e := ih (fun i hi => h i (by omega))
    by_cases c : A n
    · rw [sg_n_t c, sg_n_t ((h n (by omega)).mp c), e]
    · rw [sg_n_f c, sg_n_f (fun q => c ((h n (by omega)).mpr q)), e]
theorem sg_s_c {A : Nat → Prop} {f g : Nat → Nat} : ∀ n, (∀ i, i < n → A i → f i = g i) → sg_s A f n = sg_s A g n := by
  intro n
  induction n with
  | zero => intro _; rfl
  | succ n ih =>
    intro h
    have e := ih (fun i hi => h i (by omega))
    by_cases c : A n
    · rw [sg_s_t c, sg_s_t c, e, h n (by omega) c]
    · rw [sg_s_f c, sg_s_f c, e]
theorem sg_n_sub {A B : Nat → Prop} : ∀ n, (∀ i, i < n → B i → A i) → sg_n (fun i => A i ∧ ¬ B i) n + sg_n B n = sg_n A n := by
  intro n
  induction n with
  | zero => intro _; rfl
  | succ n ih =>
    intro h
    have e := ih (fun i hi => h i (by omega))
    by_cases b : B n
    · rw [sg_n_f (A := fun i => A i ∧ ¬ B i) (fun q => q.2 b), sg_n_t b, sg_n_t (h n (by omega) b)]; omega
    · by_cases a : A n
      · rw [sg_n_t (A := fun i => A i ∧ ¬ B i) ⟨a, b⟩, sg_n_f b, sg_n_t a]; omega
      · rw [sg_n_f (A := fun i => A i ∧ ¬ B i) (fun q => a q.1), sg_n_f b, sg_n_f a]; omega
theorem sg_n_or {A B : Nat → Prop} : ∀ n, (∀ i, i < n → A i → ¬ B i) → sg_n (fun i => A i ∨ B i) n = sg_n A n + sg_n B n := by
  intro n
  induction n with
  | zero => intro _; rfl
  | succ n ih =>
    intro h
    have e := ih (fun i hi => h i (by omega))
    by_cases a : A n
    · rw [sg_n_t (A := fun i => A i ∨ B i) (Or.inl a), sg_n_t a, sg_n_f (h n (by omega) a)]; omega
    · by_cases b : B n
      · rw [sg_n_t (A := fun i => A i ∨ B i) (Or.inr b), sg_n_f a, sg_n_t b]; omega
      · rw [sg_n_f (A := fun i => A i ∨ B i) (fun q => q.elim a b), sg_n_f a, sg_n_f b]; omega
theorem sg_n_0 {A : Nat → Prop} : ∀ n, (∀ i, i < n → ¬ A i) → sg_n A n = 0 := by
  intro n
  induction n with
  | zero => intro _; rfl
  | succ n ih => intro h; rw [sg_n_f (h n (by omega))]; exact ih (fun i hi => h i (by omega))
theorem sg_n_1 {A : Nat → Prop} : ∀ n, (∃ i, i < n ∧ A i) → (∀ i j, i < n → j < n → A i → A j → i = j) → sg_n A n = 1 := by
  intro n
  induction n with
  | zero => rintro ⟨i, hi, _⟩; omega
  | succ n ih =>
    intro h u
    by_cases a : A n
    · rw [sg_n_t a, sg_n_0 n (fun i hi q => by have := u i n (by omega) (by omega) q a; omega)]
    · rw [sg_n_f a]
      refine ih ?_ (fun i j hi hj => u i j (by omega) (by omega))
      obtain ⟨i, hi, q⟩ := h
      refine ⟨i, ?_, q⟩
      rcases Nat.lt_succ_iff_lt_or_eq.mp hi with c | c
      · exact c
      · subst c; exact absurd q a
theorem sg_n_mono {A B : Nat → Prop} : ∀ n, (∀ i, i < n → A i → B i) → sg_n A n ≤ sg_n B n := by
  intro n
  induction n with
  | zero => intro _; exact Nat.le_refl _
  | succ n ih =>
    intro h
    have e := ih (fun i hi => h i (by omega))
    by_cases a : A n
    · rw [sg_n_t a, sg_n_t (h n (by omega) a)]; omega
    · rw [sg_n_f a]
      by_cases b : B n
      · rw [sg_n_t b]; omega
      · rw [sg_n_f b]; exact e
theorem sg_n_lt {A B : Nat → Prop} : ∀ n, (∀ i, i < n → A i → B i) → (∃ i, i < n ∧ B i ∧ ¬ A i) → sg_n A n + 1 ≤ sg_n B n := by
  intro n
  induction n with
  | zero => rintro _ ⟨i, hi, _⟩; omega
  | succ n ih =>
    intro h ⟨i, hi, b, a⟩
    by_cases c : i = n
    · subst c
      have := sg_n_mono i (fun j hj => h j (by omega))
      rw [sg_n_f a, sg_n_t b]; omega
    · have e := ih (fun j hj => h j (by omega)) ⟨i, by omega, b, a⟩
      by_cases a' : A n
      · rw [sg_n_t a', sg_n_t (h n (by omega) a')]; omega
      · rw [sg_n_f a']
        by_cases b' : B n
        · rw [sg_n_t b']; omega
        · rw [sg_n_f b']; exact e
/-! ===== degree, metEnds ===== -/
theorem sg_on_20 {G : Nat → Int × Int × Int × Int} {P : Nat → Prop} (g : sg_Geo P G) {k : Nat} (hk : k < 10) (pk : P k) {p : Rat × Rat} (h : sg_on G k p) : (0 ≤ p.1.num ∧ p.1.num ≤ 20 * (p.1.den : Int)) ∧ (0 ≤ p.2.num ∧ p.2.num ≤ 20 * (p.2.den : Int)) := by
  obtain ⟨i1, i2, i3, i4, i5, i6, i7, i8⟩ := g.1 k hk
  obtain ⟨_, u, v⟩ := (sg_box (sg_gl g hk pk)).mp h
  have w : ∀ (r : Rat) (a b : Int), 0 ≤ a → a ≤ 20 → 0 ≤ b → b ≤ 20 → sg_bt a b r → 0 ≤ r.num ∧ r.num ≤ 20 * (r.den : Int) := by
    intro r a b ha ha' hb hb' hbt
    have dd := sg_dp r
    have k0 : (0 : Int) * (r.den : Int) ≤ r.num := by
      rw [← sg_rle1 dd (sg_nd r)]
      have q1 : (0 : Rat) ≤ (a : Rat) := Rat.intCast_nonneg.mpr ha
      have q2 : (0 : Rat) ≤ (b : Rat) := Rat.intCast_nonneg.mpr hb
      rcases hbt with z | z
      · exact Rat.le_trans q1 z.1
      · exact Rat.le_trans q2 z.1
    have k1 : r.num ≤ 20 * (r.den : Int) := by
      rw [← sg_rle2 dd (sg_nd r)]
      have q1 : (a : Rat) ≤ ((20 : Int) : Rat) := Rat.intCast_le_intCast.mpr ha'
      have q2 : (b : Rat) ≤ ((20 : Int) : Rat) := Rat.intCast_le_intCast.mpr hb'
      rcases hbt with z | z
      · exact Rat.le_trans z.2 q2
      · exact Rat.le_trans z.2 q1
    omega
  exact ⟨w _ _ _ i1 i2 i5 i6 u, w _ _ _ i3 i4 i7 i8 v⟩
/-- T i is an end of segment k -/
def sg_en (H : Nat → Int × Int × Int × Int) (k : Nat) (p : Rat × Rat) : Prop := p = sg_ep H k 0 ∨ p = sg_ep H k 1
theorem sg_piff {p : Rat} (a : Int) (hd : p.den = 1) : p = (a : Rat) ↔ p.num = a := by
  constructor
  · intro h; rw [h]; rfl
  · intro h; rw [← h]; exact sg_den1 hd
section
variable {P : Nat → Prop} {G H : Nat → Int × Int × Int × Int} {pr mc cX cY cB : Int32} {low high tX bX tY bY pa : Nat → Int32} {fo : Int32} {th en : Nat → Int32} {pt sp : Nat → Int64}
theorem x_degree {post : Int32 → Prop} {m : Nat} {T : Nat → Rat × Rat} (hP : sg_M pr P) (hm : m ≤ 45) (hM : ∀ i, i < m → sg_M (pa i) (fun k => P k ∧ sg_on G k (T i))) {k : Nat} (hk : k < 10) (pk : P k)
    (h : post (nI (sg_n (fun i => sg_on G k (T i)) m))) : wpX_degree post (pr, nI m, cX, cY, cB, low, high, tX, bX, tY, bY, pa) (nI k) := by
  unfold wpX_degree; dsimp only
  refine x_isPresent hP hk (fun _ => br_f (by decide) ?_) (fun q => absurd pk q)
  have key : ∀ d i, i + d = m → wX_degree_14 post (nI k) pr (nI m) cX cY cB low high tX bX tY bY pa (d + 1) (nI (sg_n (fun i => sg_on G k (T i)) i)) (nI i) := by
    intro d
    induction d with
    | zero =>
      intro i hi
      have : i = m := by omega
      subst this
      exact br_t (nI_le (Nat.le_refl _) (by omega)) h
    | succ d ih =>
      intro i hi
      have hi' : i < m := by omega
      refine br_f (nI_ge hi' (by omega)) ⟨sg_in45 (by omega), ?_⟩
      rw [sg_c45 (by omega), sg_Mbit (hM i hi') hk]
      have nx := ih (i + 1) (by omega)
      refine br_c (fun q => br_f (by decide) (nm_e (nm_r (nI_1 i) ?_))) (fun q => br_t rfl (nm_r (nI_1 i) ?_))
      · rw [sg_n_t (A := fun i => sg_on G k (T i)) q.2] at nx
        rw [nI_1]; exact nx
      · rw [sg_n_f (A := fun i => sg_on G k (T i)) (fun o => q ⟨pk, o⟩)] at nx
        exact nx
  exact ⟨m + 1, key m 0 (by omega)⟩
theorem x_isEndOf {post : Int32 → Prop} {m : Nat} {T : Nat → Rat × Rat} (g : sg_Geo P G) (hG : sg_GH G H) (hl : sg_LH G low high) (hm : m ≤ 45) (hX : sg_Ex P G m T) (hT : sg_TX m T tX bX tY bY) {k i : Nat} (hk : k < 10) (hi : i < m)
    (h1 : sg_en H k (T i) → post 1) (h0 : ¬ sg_en H k (T i) → post 0) : wpX_isEndOf post (pr, mc, cX, cY, cB, low, high, tX, bX, tY, bY, pa) (nI k) (nI i) := by
  unfold sg_en at h1 h0
  rw [sg_ep_c hG hk, sg_pext, sg_pext] at h1 h0
  dsimp only at h1 h0
  obtain ⟨t1, t2, t3, t4⟩ := hT i hi
  obtain ⟨a, b, ha, hb, hne, pa', pb, oa, ob⟩ := hX.2.2.1 i hi
  obtain ⟨⟨u1, u2⟩, u3, u4⟩ := sg_on_20 g ha pa' oa
  obtain ⟨⟨b1, b2, b3⟩, b4, b5, b6⟩ := hX.2.1 i hi
  obtain ⟨i1, i2, i3, i4, i5, i6, i7, i8⟩ := g.1 k hk
  have v := sg_in45 (show i < 45 by omega)
  unfold wpX_isEndOf; dsimp only
  rw [sg_c45 (by omega), sg_c10 hk, t1, t2, t3, t4, (hl k hk).1, (hl k hk).2]
  have D1 : sg_i ((T i).1.den : Int) = 1 ↔ (T i).1.den = 1 := by
    rw [sg_i1, sg_ieq ⟨by omega, by omega⟩ ⟨by decide, by decide⟩]; omega
  have D2 : sg_i ((T i).2.den : Int) = 1 ↔ (T i).2.den = 1 := by
    rw [sg_i1, sg_ieq ⟨by omega, by omega⟩ ⟨by decide, by decide⟩]; omega
  have N1 : ∀ (r : Rat) (z : Int), ¬ r.den = 1 → ¬ r = (z : Rat) := by
    intro r z hr e
    exact hr (by rw [e]; rfl)
  rw [D1, D2]
  refine ⟨v, br_c (fun c => ⟨v, br_c (fun d => ⟨v, v, nm_e ⟨sg_in10 hk, ?_⟩⟩) (fun d => h0 ?_)⟩) (fun c => h0 ?_)⟩
  · rw [sg_piff _ c, sg_piff _ c, sg_piff _ d, sg_piff _ d] at h1 h0
    obtain ⟨x, ex⟩ := Int.eq_ofNat_of_zero_le u1
    obtain ⟨y, ey⟩ := Int.eq_ofNat_of_zero_le u3
    rw [ex, ey] at h1 h0 ⊢
    rw [ex, c] at u2
    rw [ey, d] at u4
    have hx : x ≤ 20 := by omega
    have hy : y ≤ 20 := by omega
    have e : (sg_i (x : Int) <<< ((5 : Int32) &&& 31)) ||| sg_i (y : Int) = sg_i (32 * (x : Int) + y) := by
      rw [← sg_nI, ← sg_nI]; exact sg_pk hx hy
    rw [e, sg_ieq (sg_Rp (by omega) (by omega) (by omega) (by omega)) (sg_Rp i1 i2 i3 i4), sg_ieq (sg_Rp (by omega) (by omega) (by omega) (by omega)) (sg_Rp i5 i6 i7 i8)]
    exact br_c (fun p => h1 (by omega)) (fun p => ⟨sg_in10 hk, br_c (fun q => h1 (by omega)) (fun q => h0 (by omega))⟩)
  · rintro (z | z)
    · exact N1 _ _ d z.2
    · exact N1 _ _ d z.2
  · rintro (z | z)
    · exact N1 _ _ c z.1
    · exact N1 _ _ c z.1
theorem x_metEnds {post : Int32 → Prop} {m : Nat} {T : Nat → Rat × Rat} (g : sg_Geo P G) (hG : sg_GH G H) (hl : sg_LH G low high) (hm : m ≤ 45) (hX : sg_Ex P G m T) (hT : sg_TX m T tX bX tY bY) {k : Nat} (hk : k < 10)
    (h : post (nI (sg_n (fun i => sg_en H k (T i)) m))) : wpX_metEnds post (pr, nI m, cX, cY, cB, low, high, tX, bX, tY, bY, pa) (nI k) := by
  have key : ∀ d i, i + d = m → wX_metEnds_4 post (nI k) pr (nI m) cX cY cB low high tX bX tY bY pa (d + 1) (nI (sg_n (fun i => sg_en H k (T i)) i)) (nI i) := by
    intro d
    induction d with
    | zero =>
      intro i hi
      have : i = m := by omega
      subst this
      exact br_t (nI_le (Nat.le_refl _) (by omega)) h
    | succ d ih =>
      intro i hi
      have hi' : i < m := by omega
      have nx := ih (i + 1) (by omega)
      refine br_f (nI_ge hi' (by omega)) (x_isEndOf g hG hl hm hX hT hk hi' (fun q => br_f (by decide) (nm_e (nm_r (nI_1 i) ?_))) (fun q => br_t rfl (nm_r (nI_1 i) ?_)))
      · rw [sg_n_t (A := fun i => sg_en H k (T i)) q] at nx
        rw [nI_1]; exact nx
      · rw [sg_n_f (A := fun i => sg_en H k (T i)) q] at nx
        exact nx
  exact ⟨m + 1, key m 0 (by omega)⟩
theorem y_degree {post : Int32 → SY → Prop} (g : sg_Geo P G) (hG : sg_GH G H) (hE : sg_EN H en) (hH : sg_TH P th) {m : Nat} {T : Nat → Rat × Rat} (hm : m ≤ 45) (hX : sg_Ex P G m T) {k : Nat} (hk : k < 10) (pk : P k)
    (h : ∀ fo pt sp, post (nI (sg_n (fun i => sg_on G k (T i)) m)) (fo, th, en, pt, sp)) : wpY_degree post (fo, th, en, pt, sp) (nI k) := by
  unfold wpY_degree; dsimp only
  refine y_search g hG hE hH hX (fun pt sp hY => ?_)
  have key : ∀ d i, i + d = m → ∀ sp, wY_degree_8 post (nI k) (d + 1) (nI (sg_n (fun i => sg_on G k (T i)) i)) (nI i) (nI m) th en pt sp := by
    intro d
    induction d with
    | zero =>
      intro i hi sp
      have : i = m := by omega
      subst this
      exact br_t (nI_le (Nat.le_refl _) (by omega)) (y_is hH hk (fun _ => br_f (by decide) (h _ _ _)) (fun q => absurd pk q))
    | succ d ih =>
      intro i hi sp
      have hi' : i < m := by omega
      have nx := ih (i + 1) (by omega)
      refine br_f (nI_ge hi' (by omega)) (y_is hH hk (fun _ => br_f (by decide) ?_) (fun q => absurd pk q))
      refine y_goToMeeting hY hi' hm (fun sp' hS => y_has g hG hE hS (sg_bd3 (hX.2.1 i hi')) hk pk (fun o => br_f (by decide) (nm_e (nm_r (nI_1 i) ?_))) (fun o => br_t rfl (nm_r (nI_1 i) ?_)))
      · rw [sg_n_t (A := fun i => sg_on G k (T i)) o] at nx
        rw [nI_1]; exact nx sp'
      · rw [sg_n_f (A := fun i => sg_on G k (T i)) o] at nx
        exact nx sp'
  exact ⟨m + 1, key m 0 (by omega) sp⟩
end
theorem i_vc_degree {k : Nat} {u : SX} {v : SY} (I : i_Rel k u v) (hk : k + 3 ≤ 1536) (v1 : Int32) : wpX_degree (fun r => wpY_degree (fun r' v' => r' = r ∧ i_Rel (k + 3) u v') v v1) u v1 := by
  obtain ⟨pr, mc, cX, cY, cB, low, high, tX, bX, tY, bY, pa⟩ := u
  obtain ⟨fo, th, en, pt, sp⟩ := v
  obtain ⟨P, G, H, m, T, I⟩ := I
  obtain ⟨g, hG, hP, hl, hE, hH, rfl, hm, hX, hT, hM⟩ := id I
  by_cases c : ∃ j, j < 10 ∧ v1 = nI j ∧ P j
  · obtain ⟨j, hj, rfl, pj⟩ := c
    exact x_degree hP hm hM hj pj (y_degree g hG hE hH hm hX hj pj (fun fo pt sp => ⟨rfl, P, G, H, m, T, I⟩))
  · unfold wpX_degree wpY_degree; dsimp only
    refine x_isPresentG hP (fun j hj e pj => absurd ⟨j, hj, e, pj⟩ c) (fun n => br_t rfl ?_)
    refine y_search g hG hE hH hX (fun pt sp hY => ⟨1, ?_⟩)
    have ni : ∀ {post : Int32 → Prop}, post 0 → wpY_is post (nI m, th, en, pt, sp) v1 := fun h => y_isG hH (fun j hj e pj => absurd ⟨j, hj, e, pj⟩ c) (fun _ => h)
    have fin : wY_degree_51 (fun r' v' => r' = -1 ∧ i_Rel (k + 3) (pr, nI m, cX, cY, cB, low, high, tX, bX, tY, bY, pa) v') v1 0 (nI m) th en pt sp := ni (br_t rfl ⟨rfl, P, G, H, m, T, I⟩)
    exact br_c (fun _ => fin) (fun _ => ni (br_t rfl fin))
