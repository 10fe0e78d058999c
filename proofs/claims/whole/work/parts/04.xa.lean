/-! ===== X: the small methods ===== -/
def sg_LH (G : Nat → Int × Int × Int × Int) (low high : Nat → Int32) : Prop := ∀ k, k < 10 → low k = sg_i (32 * sg_lx G k + sg_ly G k) ∧ high k = sg_i (32 * sg_hx G k + sg_hy G k)
theorem sg_c10 {k : Nat} (hk : k < 10) : (nI k).toNatClampNeg = k := nI_clamp (by omega)
theorem sg_in10 {k : Nat} (hk : k < 10) : vp_in (nI k) 10 := vp_in_nI hk (by decide)
theorem sg_n10 {k : Nat} (hk : k < 10) : ¬ (10 : Int32) ≤ nI k := nI_ge (b := 10) hk (by decide)
theorem sg_e10 : (10 : Int32) ≤ nI 10 := by decide
theorem x_isPoint {post : Int32 → Prop} {p : Int32} (h1 : ∀ x y : Nat, x ≤ 20 → y ≤ 20 → p = nI (x + 32 * y) → post 1) (h0 : (∀ x y : Nat, x ≤ 20 → y ≤ 20 → p ≠ nI (x + 32 * y)) → post 0) : wpX_isPoint post p := by
  unfold wpX_isPoint
  refine br_c (fun h => h0 ?_) (fun h => ?_)
  · intro x y hx hy e
    rw [e] at h
    exact nI_pos (by omega) h
  · obtain ⟨n, hn, rfl⟩ := nI_of h
    rw [pk_andN (by omega) 5 (by decide), pk_shrN hn _ 5 (by decide)]
    have key : ∀ x y : Nat, x ≤ 20 → y ≤ 20 → nI n = nI (x + 32 * y) → n = x + 32 * y := fun x y hx hy e => (nI_eq hn (by omega)).mp e
    refine pk_lt 20 (n % 2 ^ 5) (fun h => h0 ?_) (fun h => pk_lt 20 (n / 2 ^ 5) (fun h' => h0 ?_) (fun h' => ?_))
    · intro x y hx hy e
      have := key x y hx hy e; omega
    · intro x y hx hy e
      have := key x y hx hy e; omega
    · exact h1 (n % 32) (n / 32) h h' (congrArg nI (by omega))
theorem x_placeOf {post : Int32 → Prop} {x y : Nat} (hx : x ≤ 20) (hy : y ≤ 20) (h : post (sg_i (32 * (x : Int) + y))) : wpX_placeOf post (nI (x + 32 * y)) := by
  unfold wpX_placeOf
  rw [pk_andN (by omega) 5 (by decide), pk_shrN (by omega) _ 5 (by decide), show (x + 32 * y) % 2 ^ 5 = x by omega, show (x + 32 * y) / 2 ^ 5 = y by omega, sg_pk hx hy]
  exact h
theorem sg_Rp {x y : Int} (hx : 0 ≤ x) (hx' : x ≤ 20) (hy : 0 ≤ y) (hy' : y ≤ 20) : sg_R (32 * x + y) := ⟨by omega, by omega⟩
section
variable {P : Nat → Prop} {G : Nat → Int × Int × Int × Int} {pr mc cX cY cB : Int32} {low high tX bX tY bY pa : Nat → Int32}
theorem x_isPresent {post : Int32 → Prop} (hP : sg_M pr P) {k : Nat} (hk : k < 10) (h1 : P k → post 1) (h0 : ¬ P k → post 0) : wpX_isPresent post (pr, mc, cX, cY, cB, low, high, tX, bX, tY, bY, pa) (nI k) := by
  refine br_f (nI_pos (by omega)) (br_f (sg_n10 hk) ?_)
  rw [sg_Mbit hP hk]
  exact ⟨h1, h0⟩
theorem x_isPresentG {post : Int32 → Prop} (hP : sg_M pr P) {p : Int32} (h1 : ∀ k, k < 10 → p = nI k → P k → post 1) (h0 : (∀ k, k < 10 → p = nI k → ¬ P k) → post 0) : wpX_isPresent post (pr, mc, cX, cY, cB, low, high, tX, bX, tY, bY, pa) p := by
  by_cases c : p < 0
  · exact br_t c (h0 (fun k hk e => by rw [e] at c; exact absurd c (nI_pos (by omega))))
  · by_cases d : (10 : Int32) ≤ p
    · exact br_f c (br_t d (h0 (fun k hk e => by rw [e] at d; exact absurd d (sg_n10 hk))))
    · obtain ⟨n, hn, rfl⟩ := nI_of c
      have hk : n < 10 := by
        rcases Nat.lt_or_ge n 10 with h | h
        · exact h
        · exact absurd (nI_le (a := 10) h hn) d
      exact x_isPresent hP hk (h1 n hk rfl) (fun hp => h0 (fun k' hk' e => by have := (nI_eq hn (by omega)).mp e; subst this; exact hp))
theorem x_isInLine {post : Int32 → Prop} (hl : sg_LH G low high) {k : Nat} (hk : k < 10) (hi : sg_in G k) {x y : Int} (hx : 0 ≤ x) (hx' : x ≤ 20) (hy : 0 ≤ y) (hy' : y ≤ 20)
    (h1 : sg_L (sg_lx G k) (sg_ly G k) (sg_hx G k) (sg_hy G k) x y → post 1) (h0 : ¬ sg_L (sg_lx G k) (sg_ly G k) (sg_hx G k) (sg_hy G k) x y → post 0) : wpX_isInLine post (pr, mc, cX, cY, cB, low, high, tX, bX, tY, bY, pa) (sg_i (32 * x + y)) (nI k) := by
  obtain ⟨i1, i2, i3, i4, i5, i6, i7, i8⟩ := hi
  simp only [wpX_isInLine, wpX_xOf, wpX_yOf, sg_c10 hk, (hl k hk).1, (hl k hk).2, sg_px i1 i2 i3 i4, sg_py i1 i2 i3 i4, sg_px i5 i6 i7 i8, sg_py i5 i6 i7 i8, sg_px hx hx' hy hy', sg_py hx hx' hy hy', sg_isub, sg_imul, forall_eq, sg_in10 hk, true_and]
  have b1 := sg_mb (a := sg_hx G k - sg_lx G k) (b := y - sg_ly G k) 20 20 (by omega) (by omega) (by omega) (by omega)
  have b2 := sg_mb (a := sg_hy G k - sg_ly G k) (b := x - sg_lx G k) 20 20 (by omega) (by omega) (by omega) (by omega)
  rw [sg_ieq ⟨by omega, by omega⟩ ⟨by omega, by omega⟩, ← sg_Lc]
  exact ⟨h1, h0⟩
theorem x_isOn {post : Int32 → Prop} (hl : sg_LH G low high) {k : Nat} (hk : k < 10) (hi : sg_in G k) {x y : Int} (hx : 0 ≤ x) (hx' : x ≤ 20) (hy : 0 ≤ y) (hy' : y ≤ 20)
    (h1 : sg_on G k ((x : Rat), (y : Rat)) → post 1) (h0 : ¬ sg_on G k ((x : Rat), (y : Rat)) → post 0) : wpX_isOn post (pr, mc, cX, cY, cB, low, high, tX, bX, tY, bY, pa) (sg_i (32 * x + y)) (nI k) := by
  obtain ⟨i1, i2, i3, i4, i5, i6, i7, i8⟩ := id hi
  refine ⟨sg_in10 hk, ?_⟩
  rw [sg_c10 hk, (hl k hk).1, (hl k hk).2, sg_ilt (sg_Rp hx hx' hy hy') (sg_Rp i1 i2 i3 i4), sg_ilt (sg_Rp i5 i6 i7 i8) (sg_Rp hx hx' hy hy')]
  refine br_c (fun c => h0 ?_) (fun c => ⟨sg_in10 hk, br_c (fun d => h0 ?_) (fun d => x_isInLine hl hk hi hx hx' hy hy' (fun e => ?_) (fun e => ?_))⟩)
  · rintro ⟨_, q, _⟩
    have := (sg_ple i3 i4 hy hy').mp q; omega
  · rintro ⟨_, _, q⟩
    have := (sg_ple hy hy' i7 i8).mp q; omega
  · exact br_f (by decide) (h1 ⟨e, (sg_ple i3 i4 hy hy').mpr (by omega), (sg_ple hy hy' i7 i8).mpr (by omega)⟩)
  · exact br_t rfl (h0 (fun q => e q.1))
/-- X's words for an overlap of the segment from (a, b) to (c, d) with segment k -/
def sg_ov (G : Nat → Int × Int × Int × Int) (k : Nat) (a b c d : Int) : Prop := sg_lt a b (sg_hx G k) (sg_hy G k) ∧ sg_lt (sg_lx G k) (sg_ly G k) c d ∧ sg_L (sg_lx G k) (sg_ly G k) (sg_hx G k) (sg_hy G k) a b ∧ sg_L (sg_lx G k) (sg_ly G k) (sg_hx G k) (sg_hy G k) c d
theorem x_overlapsAny {post : Int32 → Prop} (hP : sg_M pr P) (hl : sg_LH G low high) (hi : ∀ k, k < 10 → sg_in G k) {a b c d : Int} (ha : 0 ≤ a) (ha' : a ≤ 20) (hb : 0 ≤ b) (hb' : b ≤ 20) (hc : 0 ≤ c) (hc' : c ≤ 20) (hd : 0 ≤ d) (hd' : d ≤ 20)
    (h1 : ∀ k, k < 10 → P k → sg_ov G k a b c d → post 1) (h0 : (∀ k, k < 10 → P k → ¬ sg_ov G k a b c d) → post 0) : wpX_overlapsAny post (pr, mc, cX, cY, cB, low, high, tX, bX, tY, bY, pa) (sg_i (32 * a + b)) (sg_i (32 * c + d)) := by
  have key : ∀ e k, k + e = 10 → (∀ l, l < k → P l → ¬ sg_ov G l a b c d) → wX_overlapsAny_2 post (sg_i (32 * a + b)) (sg_i (32 * c + d)) pr mc cX cY cB low high tX bX tY bY pa (e + 1) (nI k) := by
    intro e
    induction e with
    | zero =>
      intro k hk hn
      have : k = 10 := by omega
      subst this
      exact br_t sg_e10 (h0 (fun l hl => hn l hl))
    | succ e ih =>
      intro k hk hn
      have hk' : k < 10 := by omega
      obtain ⟨i1, i2, i3, i4, i5, i6, i7, i8⟩ := hi k hk'
      have next : (P k → ¬ sg_ov G k a b c d) → ∀ z, z = nI k + 1 → wX_overlapsAny_2 post (sg_i (32 * a + b)) (sg_i (32 * c + d)) pr mc cX cY cB low high tX bX tY bY pa (e + 1) z := by
        intro hno
        refine nm_r (nI_1 k) (ih (k + 1) (by omega) ?_)
        intro l hl
        rcases Nat.lt_succ_iff_lt_or_eq.mp hl with q | q
        · exact hn l q
        · subst q; exact hno
      refine br_f (sg_n10 hk') (x_isPresent hP hk' (fun hp => br_f (by decide) ⟨sg_in10 hk', ?_⟩) (fun hp => br_t rfl (next (fun q => absurd q hp))))
      rw [sg_c10 hk', (hl k hk').1, (hl k hk').2, sg_ile (sg_Rp i5 i6 i7 i8) (sg_Rp ha ha' hb hb'), sg_ile (sg_Rp hc hc' hd hd') (sg_Rp i1 i2 i3 i4)]
      refine br_c (fun q => next (fun _ o => ?_)) (fun q => ⟨sg_in10 hk', br_c (fun r => next (fun _ o => ?_)) (fun r => ?_)⟩)
      · have := (sg_plt hb hb' i7 i8).mp o.1; omega
      · have := (sg_plt i3 i4 hd hd').mp o.2.1; omega
      · refine x_isInLine hl hk' (hi k hk') ha ha' hb hb' (fun s => br_f (by decide) ?_) (fun s => br_t rfl (next (fun _ o => s o.2.2.1)))
        refine x_isInLine hl hk' (hi k hk') hc hc' hd hd' (fun t => br_f (by decide) ?_) (fun t => br_t rfl (next (fun _ o => t o.2.2.2)))
        exact h1 k hk' hp ⟨(sg_plt hb hb' i7 i8).mpr (by omega), (sg_plt i3 i4 hd hd').mpr (by omega), s, t⟩
  exact ⟨11, key 10 0 rfl (fun l hl => absurd hl (by omega))⟩
theorem x_leastFree {post : Int32 → Prop} (hP : sg_M pr P) (h : ∀ k, k < 10 → ¬ P k → (∀ l, l < k → P l) → post (nI k)) (h10 : (∀ l, l < 10 → P l) → post 10) : wpX_leastFreeNumber post (pr, mc, cX, cY, cB, low, high, tX, bX, tY, bY, pa) := by
  have key : ∀ e k, k + e = 10 → (∀ l, l < k → P l) → wX_leastFreeNumber_2 post pr mc cX cY cB low high tX bX tY bY pa (e + 1) (nI k) := by
    intro e
    induction e with
    | zero =>
      intro k hk hn
      have : k = 10 := by omega
      subst this
      exact br_t sg_e10 (h10 (fun l hl => hn l hl))
    | succ e ih =>
      intro k hk hn
      have hk' : k < 10 := by omega
      refine br_f (sg_n10 hk') (x_isPresent hP hk' (fun hp => br_f (by decide) ?_) (fun hp => br_t rfl (h k hk' hp hn)))
      refine nm_r (nI_1 k) (ih (k + 1) (by omega) ?_)
      intro l hl
      rcases Nat.lt_succ_iff_lt_or_eq.mp hl with q | q
      · exact hn l q
      · subst q; exact hp
  exact ⟨11, key 10 0 rfl (fun l hl => absurd hl (by omega))⟩
end
