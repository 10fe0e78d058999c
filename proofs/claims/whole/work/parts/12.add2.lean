/-! ===== add ===== -/
theorem sg_upG {G : Nat → Int × Int × Int × Int} {n : Nat} {v : Int × Int × Int × Int} {i : Nat} (h : i ≠ n) : (fun i => if i = n then v else G i) i = G i := if_neg h
theorem sg_on_up {G : Nat → Int × Int × Int × Int} {n : Nat} {v : Int × Int × Int × Int} {i : Nat} (h : i ≠ n) (p : Rat × Rat) : sg_on (fun i => if i = n then v else G i) i p ↔ sg_on G i p := by
  unfold sg_on sg_lx sg_ly sg_hx sg_hy
  rw [sg_upG h]
/-- the state's numbers after a segment n has come: still in order, still no two with two points in common -/
theorem sg_Geo_add {P : Nat → Prop} {G : Nat → Int × Int × Int × Int} (g : sg_Geo P G) {n : Nat} (hn : n < 10) (pn : ¬ P n) {a b c d : Int} (ha : 0 ≤ a) (ha' : a ≤ 20) (hb : 0 ≤ b) (hb' : b ≤ 20) (hc : 0 ≤ c) (hc' : c ≤ 20) (hd : 0 ≤ d) (hd' : d ≤ 20) (hlt : 32 * a + b < 32 * c + d)
    (ho : ∀ k, k < 10 → P k → ¬ sg_ov G k a b c d) : sg_Geo (fun i => P i ∨ i = n) (fun i => if i = n then (a, b, c, d) else G i) := by
  have lt : sg_lt a b c d := (sg_plt hb hb' hd hd').mpr hlt
  have onn : ∀ p, sg_on (fun i => if i = n then (a, b, c, d) else G i) n p ↔ sg_O a b c d p.1 p.2 := by
    intro p
    unfold sg_on sg_lx sg_ly sg_hx sg_hy
    simp only [if_true]
  have ap : ∀ k, k < 10 → P k → ∀ p q, sg_O a b c d p.1 p.2 → sg_on G k p → sg_O a b c d q.1 q.2 → sg_on G k q → p = q := by
    intro k hk pk p q o1 o2 o3 o4
    have := sg_apart lt (sg_gl g hk pk) (ho k hk pk) o1 o2 o3 o4
    exact Prod.ext this.1 this.2
  refine ⟨fun k hk => ?_, fun k hk pk => ?_, fun i j hi hj pi pj hne p q => ?_⟩
  · by_cases e : k = n
    · unfold sg_in sg_lx sg_ly sg_hx sg_hy
      simp only [e, if_true]
      exact ⟨ha, ha', hb, hb', hc, hc', hd, hd'⟩
    · have := g.1 k hk
      unfold sg_in sg_lx sg_ly sg_hx sg_hy at *
      simp only [e, if_false]
      exact this
  · by_cases e : k = n
    · unfold sg_od sg_lx sg_ly sg_hx sg_hy
      simp only [e, if_true]
      exact hlt
    · have := g.2.1 k hk (pk.resolve_right e)
      unfold sg_od sg_lx sg_ly sg_hx sg_hy at *
      simp only [e, if_false]
      exact this
  · by_cases e : i = n
    · subst e
      have f : j ≠ i := fun q => hne q.symm
      rw [onn, onn, sg_on_up f, sg_on_up f]
      exact fun o1 o2 o3 o4 => ap j hj (pj.resolve_right f) p q o1 o2 o3 o4
    · by_cases f : j = n
      · subst f
        rw [onn, onn, sg_on_up e, sg_on_up e]
        exact fun o1 o2 o3 o4 => ap i hi (pi.resolve_right e) p q o2 o1 o4 o3
      · rw [sg_on_up e, sg_on_up e, sg_on_up f, sg_on_up f]
        exact fun o1 o2 o3 o4 => g.2.2 i j hi hj (pi.resolve_right e) (pj.resolve_right f) hne p q o1 o2 o3 o4
section
variable {P : Nat → Prop} {G H : Nat → Int × Int × Int × Int} {fo : Int32} {th en : Nat → Int32} {pt sp : Nat → Int64}
theorem y_free {post : Int32 → SY → Prop} (hH : sg_TH P th) {x1 y1 x2 y2 : Nat} (hx1 : x1 ≤ 20) (hy1 : y1 ≤ 20) (hx2 : x2 ≤ 20) (hy2 : y2 ≤ 20)
    (h : ∀ k, k < 10 → ¬ P k → (∀ l, l < k → P l) → post (nI k) (fo, upd th k 1, upd (upd (upd (upd en (4 * k) (sg_i x1)) (4 * k + 1) (sg_i y1)) (4 * k + 2) (sg_i x2)) (4 * k + 3) (sg_i y2), pt, sp))
    (h10 : (∀ l, l < 10 → P l) → post (-2) (fo, th, en, pt, sp)) : ∃ n, wY_add_37 post (nI (x1 + 32 * y1)) (nI (x2 + 32 * y2)) fo th en pt sp n 0 := by
  have key : ∀ e k, k + e = 10 → (∀ l, l < k → P l) → wY_add_37 post (nI (x1 + 32 * y1)) (nI (x2 + 32 * y2)) fo th en pt sp (e + 1) (nI k) := by
    intro e
    induction e with
    | zero =>
      intro k hk hn
      have : k = 10 := by omega
      subst this
      exact br_t sg_e10 (h10 hn)
    | succ e ih =>
      intro k hk hn
      have hk' : k < 10 := by omega
      refine br_f (sg_n10 hk') ⟨sg_in10 hk', ?_⟩
      rw [sg_c10 hk', hH k hk', sg_nb1]
      refine br_c (fun q => ⟨sg_in10 hk', nm_e ?_⟩) (fun q => nm_r (nI_1 k) (ih (k + 1) (by omega) ?_))
      · unfold wpY_put
        dsimp only
        rw [sg_x1, sg_x2, sg_x3, sg_i4, sg_cl (show 4 * k < 1000 by omega), sg_cl (show 4 * k + 1 < 1000 by omega), sg_cl (show 4 * k + 2 < 1000 by omega), sg_cl (show 4 * k + 3 < 1000 by omega), sg_pm hx1 hy1, sg_pd hx1 hy1, sg_pm hx2 hy2, sg_pd hx2 hy2]
        exact ⟨by decide, sg_in40 (by omega), nm_e ⟨by decide, sg_in40 (by omega), nm_e ⟨by decide, sg_in40 (by omega), nm_e ⟨by decide, sg_in40 (by omega), nm_e (h k hk' q hn)⟩⟩⟩⟩
      · intro l hl
        rcases Nat.lt_succ_iff_lt_or_eq.mp hl with a | a
        · exact hn l a
        · subst a; exact Classical.not_not.mp q
  exact ⟨11, key 10 0 rfl (fun l hl => absurd hl (by omega))⟩
theorem sg_least {k l : Nat} (h1 : ¬ P k) (h2 : ∀ i, i < k → P i) (h3 : ¬ P l) (h4 : ∀ i, i < l → P i) : k = l := by
  rcases Nat.lt_trichotomy k l with c | c | c
  · exact absurd (h4 k c) h1
  · exact c
  · exact absurd (h2 l c) h3
end
/-- the two sides of add once the new segment's numbers are known: (a, b) comes before (c, d), and Y has them so or turned about -/
theorem sg_add {P : Nat → Prop} {G H : Nat → Int × Int × Int × Int} {m : Nat} {T : Nat → Rat × Rat} {pr cX cY cB : Int32} {low high tX bX tY bY pa : Nat → Int32} {fo : Int32} {th en : Nat → Int32} {pt sp : Nat → Int64}
    (I : sg_St P G H m T pr (nI m) low high tX bX tY bY pa th en) {a b c d x1 y1 x2 y2 : Nat} (ha : a ≤ 20) (hb : b ≤ 20) (hc : c ≤ 20) (hd : d ≤ 20) (hx1 : x1 ≤ 20) (hy1 : y1 ≤ 20) (hx2 : x2 ≤ 20) (hy2 : y2 ≤ 20)
    (hlt : 32 * a + b < 32 * c + d) (ho : (x1 = a ∧ y1 = b ∧ x2 = c ∧ y2 = d) ∨ (x1 = c ∧ y1 = d ∧ x2 = a ∧ y2 = b)) {Q : Int32 → SX → Int32 → SY → Prop} (hQ : ∀ r u v, sg_Rel u v → Q r u r v) {post : Int32 → SX → Prop}
    (hp : ∀ r u, wpY_refused (fun r_16 => ((r_16 = 0 → (∃ n37 : Nat, wY_add_37 (fun r' v' => Q r u r' v') (nI (x1 + 32 * y1)) (nI (x2 + 32 * y2)) fo th en pt sp n37 0)) ∧ (¬ r_16 = 0 → Q r u (-3) (fo, th, en, pt, sp)))) (fo, th, en, pt, sp) (nI (x1 + 32 * y1)) (nI (x2 + 32 * y2)) → post r u) :
    wX_add_58 post
      (sg_i (32 * (a : Int) + b)) (sg_i (32 * (c : Int) + d)) pr (nI m) cX cY cB low high tX bX tY bY pa := by
  obtain ⟨g, hG, hP, hl, hE, hH, _, hm, hX, hT, hM⟩ := id I
  have lt : sg_lt ((a : Int) : Rat) ((b : Int) : Rat) ((c : Int) : Rat) ((d : Int) : Rat) := (sg_plt (by omega) (by omega) (by omega) (by omega)).mpr (by omega)
  have eqv : ∀ k, k < 10 → P k → (sg_yr x1 y1 x2 y2 (sg_lx H k) (sg_ly H k) (sg_hx H k) (sg_hy H k) ↔ sg_ov G k a b c d) := by
    intro k hk pk
    have hk' := sg_gl g hk pk
    have e1 : sg_yr x1 y1 x2 y2 (sg_lx H k) (sg_ly H k) (sg_hx H k) (sg_hy H k) ↔ sg_yr x1 y1 x2 y2 (sg_lx G k) (sg_ly G k) (sg_hx G k) (sg_hy G k) := by
      rcases hG k hk with e | e
      · unfold sg_lx sg_ly sg_hx sg_hy; rw [e]
      · unfold sg_lx sg_ly sg_hx sg_hy at *; rw [e]; exact sg_yr_sw ..
    rw [e1]
    rcases ho with ⟨rfl, rfl, rfl, rfl⟩ | ⟨rfl, rfl, rfl, rfl⟩
    · exact sg_yr_g lt hk'
    · exact sg_yr_r lt hk'
  unfold wX_add_58
  refine x_overlapsAny hP hl g.1 (by omega) (by omega) (by omega) (by omega) (by omega) (by omega) (by omega) (by omega) (fun k hk pk o => br_f (by decide) ?_) (fun hn => br_t rfl ?_)
  · refine hp _ _ ?_
    exact y_refused g hG hE hH hx1 hy1 hx2 hy2 (fun _ _ _ _ => br_f (by decide) (hQ _ _ _ ⟨P, G, H, m, T, I⟩)) (fun n => absurd ((eqv k hk pk).mpr o) (n k hk pk))
  · have nr : ∀ {z : Int32 → Prop}, z 0 → wpY_refused z (fo, th, en, pt, sp) (nI (x1 + 32 * y1)) (nI (x2 + 32 * y2)) := fun hz => y_refused g hG hE hH hx1 hy1 hx2 hy2 (fun k hk pk o => absurd ((eqv k hk pk).mp o) (hn k hk pk)) (fun _ => hz)
    refine x_leastFree hP (fun k hk pk hk2 => br_t (nI_lt (b := 10) hk (by decide)) ⟨sg_in10 hk, ?_⟩) (fun hall => br_f (by decide) (hp _ _ (nr (br_t rfl (y_free hH hx1 hy1 hx2 hy2 (fun k hk pk _ => absurd (hall k hk) pk) (fun _ => hQ _ _ _ ⟨P, G, H, m, T, I⟩))))))
    rw [sg_c10 hk]
    refine nm_e ⟨sg_in10 hk, nm_e (nm_e ?_)⟩
    have g' := sg_Geo_add g hk pk (show (0 : Int) ≤ a by omega) (by omega) (show (0 : Int) ≤ b by omega) (by omega) (show (0 : Int) ≤ c by omega) (by omega) (show (0 : Int) ≤ d by omega) (by omega) (by omega) hn
    have hP' := sg_Mor hP (sg_M1 hk)
    have hl' : sg_LH (fun i => if i = k then ((a : Int), (b : Int), (c : Int), (d : Int)) else G i) (upd low k (sg_i (32 * (a : Int) + b))) (upd high k (sg_i (32 * (c : Int) + d))) := by
      intro i hi
      unfold sg_lx sg_ly sg_hx sg_hy
      by_cases e : i = k
      · subst e
        rw [pk_us, pk_us]
        simp only [if_true]
        exact ⟨trivial, trivial⟩
      · rw [pk_un e, pk_un e, sg_upG e]
        exact hl i hi
    refine x_findMeetings g' hP' hl' (fun m' T' cX cY cB tX bX tY bY pa hm' hX' hT' hM' => hp _ _ (nr (br_t rfl (y_free hH hx1 hy1 hx2 hy2 (fun k' hk' pk' hk2' => ?_) (fun hall => absurd (hall k hk) pk)))))
    have := sg_least pk hk2 pk' hk2'
    subst this
    refine hQ _ _ _ ⟨_, _, fun i => if i = k then ((x1 : Int), (y1 : Int), (x2 : Int), (y2 : Int)) else H i, m', T', g', ?_, hP', hl', ?_, ?_, rfl, hm', hX', hT', hM'⟩
    · intro i hi
      by_cases e : i = k
      · subst e
        simp only [if_true, sg_lx, sg_ly, sg_hx, sg_hy]
        rcases ho with ⟨rfl, rfl, rfl, rfl⟩ | ⟨rfl, rfl, rfl, rfl⟩
        · exact Or.inl rfl
        · exact Or.inr rfl
      · have := hG i hi
        unfold sg_lx sg_ly sg_hx sg_hy at *
        simp only [e, if_false]
        exact this
    · intro i hi
      by_cases e : i = k
      · subst e
        simp only [if_true, sg_lx, sg_ly, sg_hx, sg_hy]
        rw [pk_un (by omega), pk_un (by omega), pk_un (by omega), pk_us, pk_un (by omega), pk_un (by omega), pk_us, pk_un (by omega), pk_us, pk_us]
        exact ⟨rfl, rfl, rfl, rfl⟩
      · have un : ∀ j, (j < 4 * k ∨ 4 * k + 3 < j) → (upd (upd (upd (upd en (4 * k) (sg_i x1)) (4 * k + 1) (sg_i y1)) (4 * k + 2) (sg_i x2)) (4 * k + 3) (sg_i y2)) j = en j := by
          intro j hj
          rw [pk_un (by omega), pk_un (by omega), pk_un (by omega), pk_un (by omega)]
        rw [un _ (by omega), un _ (by omega), un _ (by omega), un _ (by omega)]
        have := hE i hi
        unfold sg_lx sg_ly sg_hx sg_hy at *
        simp only [e, if_false]
        exact this
    · intro i hi
      by_cases e : i = k
      · subst e
        rw [pk_us]
        exact ⟨fun q => absurd q (by decide), fun q => absurd (Or.inr rfl) q⟩
      · rw [pk_un e, hH i hi]
        exact ⟨fun q r => r.elim q e, fun q r => q (Or.inl r)⟩
theorem i_vc_add {k : Nat} {u : SX} {v : SY} (I : i_Rel k u v) (hk : k + 3 ≤ 1536) (v1 : Int32) (v2 : Int32) : wpX_add (fun r u' => wpY_add (fun r' v' => r' = r ∧ i_Rel (k + 3) u' v') v v1 v2) u v1 v2 := by
  obtain ⟨pr, mc, cX, cY, cB, low, high, tX, bX, tY, bY, pa⟩ := u
  obtain ⟨fo, th, en, pt, sp⟩ := v
  obtain ⟨P, G, H, m, T, I⟩ := I
  obtain ⟨g, hG, hP, hl, hE, hH, rfl, hm, hX, hT, hM⟩ := id I
  unfold wpX_add wpY_add; dsimp only
  refine x_isPoint (fun x1 y1 hx1 hy1 e1 => br_f (by decide) ?_) (fun n => br_t rfl (y_isPoint (fun x y hx hy e => absurd e (n x y hx hy)) (fun _ => br_t rfl ⟨rfl, P, G, H, m, T, I⟩)))
  have yp1 : ∀ {post : Int32 → Prop}, post 1 → wpY_isPoint post (fo, th, en, pt, sp) v1 := fun h => y_isPoint (fun _ _ _ _ _ => h) (fun n => absurd e1 (n x1 y1 hx1 hy1))
  refine x_isPoint (fun x2 y2 hx2 hy2 e2 => br_f (by decide) ?_) (fun n => br_t rfl (yp1 (br_f (by decide) (y_isPoint (fun x y hx hy e => absurd e (n x y hx hy)) (fun _ => br_t rfl ⟨rfl, P, G, H, m, T, I⟩)))))
  have yp2 : ∀ {post : Int32 → Prop}, post 1 → wpY_isPoint post (fo, th, en, pt, sp) v2 := fun h => y_isPoint (fun _ _ _ _ _ => h) (fun n => absurd e2 (n x2 y2 hx2 hy2))
  refine br_c (fun e => yp1 (br_f (by decide) (yp2 (br_f (by decide) (br_t e ⟨rfl, P, G, H, m, T, I⟩))))) (fun ne => ?_)
  subst e1 e2
  have ne' : ¬ (x1 = x2 ∧ y1 = y2) := by rintro ⟨rfl, rfl⟩; exact ne rfl
  refine x_placeOf hx1 hy1 (x_placeOf hx2 hy2 ?_)
  have Ra := sg_Rp (x := (x1 : Int)) (y := (y1 : Int)) (by omega) (by omega) (by omega) (by omega)
  have Rb := sg_Rp (x := (x2 : Int)) (y := (y2 : Int)) (by omega) (by omega) (by omega) (by omega)
  unfold wX_add_44
  rw [sg_ile Rb Ra]
  refine br_c (fun q => br_t q ?_) (fun q => br_f q ?_)
  · exact sg_add (Q := fun r u' r' v' => r' = r ∧ i_Rel (k + 3) u' v') I hx2 hy2 hx1 hy1 hx1 hy1 hx2 hy2 (by omega) (Or.inr ⟨rfl, rfl, rfl, rfl⟩) (fun r u v h => ⟨rfl, h⟩)
      (fun r u h => yp1 (br_f (by decide) (yp2 (br_f (by decide) (br_f ne h)))))
  · exact sg_add (Q := fun r u' r' v' => r' = r ∧ i_Rel (k + 3) u' v') I hx1 hy1 hx2 hy2 hx1 hy1 hx2 hy2 (by omega) (Or.inl ⟨rfl, rfl, rfl, rfl⟩) (fun r u v h => ⟨rfl, h⟩)
      (fun r u h => yp1 (br_f (by decide) (yp2 (br_f (by decide) (br_f ne h)))))
