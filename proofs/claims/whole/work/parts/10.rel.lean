/-! ===== the relation ===== -/
def sg_St (P : Nat → Prop) (G H : Nat → Int × Int × Int × Int) (m : Nat) (T : Nat → Rat × Rat) (pr mc : Int32) (low high tX bX tY bY pa th en : Nat → Int32) : Prop :=
  sg_Geo P G ∧ sg_GH G H ∧ sg_M pr P ∧ sg_LH G low high ∧ sg_EN H en ∧ sg_TH P th ∧ mc = nI m ∧ m ≤ 45 ∧ sg_Ex P G m T ∧ sg_TX m T tX bX tY bY ∧ (∀ i, i < m → sg_M (pa i) (fun k => P k ∧ sg_on G k (T i)))
def sg_Rel (u : SX) (v : SY) : Prop := match u, v with
  | (pr, mc, cX, cY, cB, low, high, tX, bX, tY, bY, pa), (fo, th, en, pt, sp) => ∃ P G H m T, sg_St P G H m T pr mc low high tX bX tY bY pa th en
def i_Rel (k : Nat) (u : SX) (v : SY) : Prop := sg_Rel u v
theorem i_up {k : Nat} {u : SX} {v : SY} (h : i_Rel k u v) : i_Rel (k + 3) u v := h
theorem i_vc0 : wpX_init (fun u => wpY_init (fun v => i_Rel 0 u v)) := by
  refine ⟨fun _ => False, fun _ => (0, 0, 0, 0), fun _ => (0, 0, 0, 0), 0, fun _ => (0, 0), ⟨?_, ?_, ?_⟩, ?_, ?_, ?_, ?_, ?_, rfl, by omega, ⟨?_, ?_, ?_, ?_⟩, ?_, ?_⟩
  · intro k hk; unfold sg_in sg_lx sg_ly sg_hx sg_hy; dsimp only; omega
  · intro k _ h; exact h.elim
  · intro a b _ _ h; exact h.elim
  · intro k hk; exact Or.inl rfl
  · exact sg_M0
  · intro k hk; exact ⟨rfl, rfl⟩
  · intro k hk; exact ⟨rfl, rfl, rfl, rfl⟩
  · intro k hk; exact ⟨fun _ h => h, fun _ => rfl⟩
  · intro i j _ h; omega
  · intro i h; omega
  · intro i h; omega
  · intro a b p _ h; exact h.elim
  · intro i h; omega
  · intro i h; omega
section
variable {P : Nat → Prop} {G H : Nat → Int × Int × Int × Int} {pr mc cX cY cB : Int32} {low high tX bX tY bY pa : Nat → Int32} {fo : Int32} {th en : Nat → Int32} {pt sp : Nat → Int64}
theorem y_segments {post : Int32 → Prop} (hH : sg_TH P th) (h : ∀ x, sg_M x P → post x) : wpY_segments post (fo, th, en, pt, sp) := by
  have key : ∀ e k, k + e = 10 → ∀ x, sg_M x (fun i => i < k ∧ P i) → wY_segments_4 post fo th en pt sp (e + 1) x (nI k) := by
    intro e
    induction e with
    | zero =>
      intro k hk x hx
      have : k = 10 := by omega
      subst this
      exact br_t sg_e10 (h x (sg_Mc hx (fun i hi => ⟨fun q => q.2, fun q => ⟨hi, q⟩⟩)))
    | succ e ih =>
      intro k hk x hx
      have hk' : k < 10 := by omega
      refine br_f (sg_n10 hk') ⟨sg_in10 hk', ?_⟩
      rw [sg_c10 hk', hH k hk']
      refine br_c (fun q => nm_r (nI_1 k) (ih (k + 1) (by omega) x (sg_Mc hx (fun i hi => ⟨fun q => ⟨by omega, q.2⟩, fun r => ⟨?_, r.2⟩⟩)))) (fun q => nm_e (nm_r (nI_1 k) (ih (k + 1) (by omega) _ (sg_Mc (sg_Mor hx (sg_M1 hk')) (fun i hi => ?_)))))
      · rcases Nat.lt_succ_iff_lt_or_eq.mp r.1 with a | a
        · exact a
        · subst a; exact absurd r.2 q
      · constructor
        · rintro (a | a)
          · exact ⟨by omega, a.2⟩
          · subst a; exact ⟨by omega, Classical.not_not.mp q⟩
        · intro a
          rcases Nat.lt_succ_iff_lt_or_eq.mp a.1 with b | b
          · exact Or.inl ⟨b, a.2⟩
          · exact Or.inr b
  exact ⟨11, key 10 0 rfl 0 (sg_Mc sg_M0 (fun i hi => ⟨fun q => q.elim, fun q => absurd q.1 (by omega)⟩))⟩
theorem sg_Msub {a x : Int32} {Q R : Nat → Prop} (ha : sg_M a Q) (hx : sg_M x R) : (a &&& x) = x ↔ ∀ i, i < 10 → R i → Q i := by
  constructor
  · intro e i hi r
    have := (hx i (by omega)).mpr ⟨hi, r⟩
    rw [← e] at this
    exact (((sg_Mand ha hx) i (by omega)).mp this).2.1
  · intro h
    exact sg_Mu (sg_Mand ha hx) hx (fun i hi => ⟨fun q => q.2, fun q => ⟨h i hi q, q⟩⟩)
def sg_mt (G : Nat → Int × Int × Int × Int) (j k : Nat) : Prop := j = k ∨ ∃ p, sg_on G j p ∧ sg_on G k p
theorem x_meet {post : Int32 → Prop} {m : Nat} {T : Nat → Rat × Rat} (hP : sg_M pr P) (hm : m ≤ 45) (hX : sg_Ex P G m T) (hM : ∀ i, i < m → sg_M (pa i) (fun k => P k ∧ sg_on G k (T i))) {j k : Nat} (hj : j < 10) (hk : k < 10)
    (h1 : P j → P k → sg_mt G j k → post 1) (h0 : ¬ (P j ∧ P k ∧ sg_mt G j k) → post 0) : wpX_meet post (pr, nI m, cX, cY, cB, low, high, tX, bX, tY, bY, pa) (nI j) (nI k) := by
  unfold wpX_meet; dsimp only
  refine x_isPresent hP hj (fun pj => br_f (by decide) (x_isPresent hP hk (fun pk => br_f (by decide) (br_c (fun e => h1 pj pk (Or.inl ((nI_eq (by omega) (by omega)).mp e))) (fun e => nm_e ?_))) (fun pk => br_t rfl (h0 (fun q => pk q.2.1))))) (fun pj => br_t rfl (h0 (fun q => pj q.1)))
  have hne : j ≠ k := fun q => e (congrArg nI q)
  have hx := sg_Mor (sg_M1 hj) (sg_M1 hk)
  have key : ∀ d i, i + d = m → (∀ l, l < i → ¬ (sg_on G j (T l) ∧ sg_on G k (T l))) → wX_meet_36 post (((1 : Int32) <<< (nI j &&& 31)) ||| ((1 : Int32) <<< (nI k &&& 31))) pr (nI m) cX cY cB low high tX bX tY bY pa (d + 1) (nI i) := by
    intro d
    induction d with
    | zero =>
      intro i hi hn
      refine br_t (nI_le (by omega) (by omega)) (h0 ?_)
      rintro ⟨_, _, a | ⟨p, oj, ok⟩⟩
      · exact hne a
      · obtain ⟨l, hl, el⟩ := hX.2.2.2 j k p ⟨hj, hk, hne⟩ pj pk oj ok
        exact hn l (by omega) (by rw [el]; exact ⟨oj, ok⟩)
    | succ d ih =>
      intro i hi hn
      have hi' : i < m := by omega
      refine br_f (nI_ge hi' (by omega)) ⟨sg_in45 (by omega), ?_⟩
      rw [sg_c45 (by omega), sg_Msub (hM i hi') hx]
      refine br_c (fun q => h1 pj pk (Or.inr ⟨T i, (q j hj (Or.inl rfl)).2, (q k hk (Or.inr rfl)).2⟩)) (fun q => nm_r (nI_1 i) (ih (i + 1) (by omega) ?_))
      intro l hl
      rcases Nat.lt_succ_iff_lt_or_eq.mp hl with a | a
      · exact hn l a
      · subst a
        intro o
        apply q
        rintro z hz (rfl | rfl)
        · exact ⟨pj, o.1⟩
        · exact ⟨pk, o.2⟩
  exact ⟨m + 1, key m 0 (by omega) (fun l hl => absurd hl (by omega))⟩
theorem y_meet {post : Int32 → SY → Prop} (g : sg_Geo P G) (hG : sg_GH G H) (hE : sg_EN H en) (hH : sg_TH P th) {j k : Nat} (hj : j < 10) (hk : k < 10)
    (h1 : P j → P k → sg_mt G j k → ∀ sp, post 1 (fo, th, en, pt, sp)) (h0 : ¬ (P j ∧ P k ∧ sg_mt G j k) → ∀ sp, post 0 (fo, th, en, pt, sp)) : wpY_meet post (fo, th, en, pt, sp) (nI j) (nI k) := by
  unfold wpY_meet; dsimp only
  refine y_is hH hj (fun pj => br_f (by decide) (y_is hH hk (fun pk => br_f (by decide) (br_c (fun e => h1 pj pk (Or.inl ((nI_eq (by omega) (by omega)).mp e)) sp) (fun e => ?_))) (fun pk => br_t rfl (h0 (fun q => pk q.2.1) sp)))) (fun pj => br_t rfl (h0 (fun q => pj q.1) sp))
  have hne : j ≠ k := fun q => e (congrArg nI q)
  refine y_common g hG hE hj hk hne pj pk (fun p sp' _ _ oj ok => br_f (by decide) (h1 pj pk (Or.inr ⟨p, oj, ok⟩) sp')) (fun sp' hn => br_t rfl (h0 ?_ sp'))
  rintro ⟨_, _, a | ⟨p, oj, ok⟩⟩
  · exact hne a
  · exact hn p oj ok
theorem x_isMeeting {post : Int32 → Prop} {m : Nat} (hm : m ≤ 45) {p : Int32} (h1 : ∀ i, i < m → p = nI i → post 1) (h0 : (∀ i, i < m → p ≠ nI i) → post 0) : wpX_isMeeting post (pr, nI m, cX, cY, cB, low, high, tX, bX, tY, bY, pa) p := by
  by_cases c : p < 0
  · exact br_t c (h0 (fun i hi e => by rw [e] at c; exact absurd c (nI_pos (by omega))))
  · obtain ⟨n, hn, rfl⟩ := nI_of c
    refine br_f c (pk_le m n (fun q => h0 (fun i hi e => ?_)) (fun q => h1 n q rfl) rfl rfl (by omega) hn)
    have := (nI_eq hn (by omega)).mp e
    omega
end
theorem i_vc_segments {k : Nat} {u : SX} {v : SY} (I : i_Rel k u v) (hk : k + 3 ≤ 1536) : wpX_segments (fun r => wpY_segments (fun r' => r' = r ∧ i_Rel (k + 3) u v) v) u := by
  obtain ⟨pr, mc, cX, cY, cB, low, high, tX, bX, tY, bY, pa⟩ := u
  obtain ⟨fo, th, en, pt, sp⟩ := v
  obtain ⟨P, G, H, m, T, g, hG, hP, hl, hE, hH, em, hm, hX, hT, hM⟩ := id I
  exact y_segments hH (fun x hx => ⟨sg_Mu hx hP (fun i _ => Iff.rfl), I⟩)
theorem i_vc_meet {k : Nat} {u : SX} {v : SY} (I : i_Rel k u v) (hk : k + 3 ≤ 1536) (v1 : Int32) (v2 : Int32) : wpX_meet (fun r => wpY_meet (fun r' v' => r' = r ∧ i_Rel (k + 3) u v') v v1 v2) u v1 v2 := by
  obtain ⟨pr, mc, cX, cY, cB, low, high, tX, bX, tY, bY, pa⟩ := u
  obtain ⟨fo, th, en, pt, sp⟩ := v
  obtain ⟨P, G, H, m, T, I⟩ := I
  obtain ⟨g, hG, hP, hl, hE, hH, rfl, hm, hX, hT, hM⟩ := id I
  by_cases c1 : ∃ j, j < 10 ∧ v1 = nI j
  · by_cases c2 : ∃ j, j < 10 ∧ v2 = nI j
    · obtain ⟨a, ha, rfl⟩ := c1
      obtain ⟨b, hb, rfl⟩ := c2
      refine x_meet hP hm hX hM ha hb (fun pa pb q => ?_) (fun q => ?_)
      · exact y_meet g hG hE hH ha hb (fun _ _ _ sp => ⟨rfl, P, G, H, m, T, I⟩) (fun q' sp => absurd ⟨pa, pb, q⟩ q')
      · exact y_meet g hG hE hH ha hb (fun pa pb q' sp => absurd ⟨pa, pb, q'⟩ q) (fun _ sp => ⟨rfl, P, G, H, m, T, I⟩)
    · unfold wpX_meet wpY_meet; dsimp only
      refine x_isPresentG hP (fun a ha ea pa' => br_f (by decide) (x_isPresentG hP (fun b hb eb _ => absurd ⟨b, hb, eb⟩ c2) (fun n2 => br_t rfl ?_))) (fun n1 => br_t rfl ?_)
      · exact y_isG hH (fun _ _ _ _ => br_f (by decide) (y_isG hH (fun b hb eb _ => absurd ⟨b, hb, eb⟩ c2) (fun _ => br_t rfl ⟨rfl, P, G, H, m, T, I⟩))) (fun _ => br_t rfl ⟨rfl, P, G, H, m, T, I⟩)
      · exact y_isG hH (fun a ha ea pa' => absurd pa' (n1 a ha ea)) (fun _ => br_t rfl ⟨rfl, P, G, H, m, T, I⟩)
  · unfold wpX_meet wpY_meet; dsimp only
    refine x_isPresentG hP (fun b hb eb _ => absurd ⟨b, hb, eb⟩ c1) (fun n1 => br_t rfl ?_)
    exact y_isG hH (fun b hb eb _ => absurd ⟨b, hb, eb⟩ c1) (fun _ => br_t rfl ⟨rfl, P, G, H, m, T, I⟩)
theorem i_vc_meetings {k : Nat} {u : SX} {v : SY} (I : i_Rel k u v) (hk : k + 3 ≤ 1536) : wpX_meetings (fun r => wpY_meetings (fun r' v' => r' = r ∧ i_Rel (k + 3) u v') v) u := by
  obtain ⟨pr, mc, cX, cY, cB, low, high, tX, bX, tY, bY, pa⟩ := u
  obtain ⟨fo, th, en, pt, sp⟩ := v
  obtain ⟨P, G, H, m, T, I⟩ := I
  obtain ⟨g, hG, hP, hl, hE, hH, rfl, hm, hX, hT, hM⟩ := id I
  unfold wpX_meetings wpY_meetings; dsimp only
  exact y_search g hG hE hH hX (fun pt sp _ => ⟨rfl, P, G, H, m, T, I⟩)
/-- Y's coordinate: c is 0 .. 3 -/
theorem y_coord {P : Nat → Prop} {G H : Nat → Int × Int × Int × Int} {fo : Int32} {th en : Nat → Int32} {pt sp : Nat → Int64} {post : Int32 → SY → Prop} (g : sg_Geo P G) (hG : sg_GH G H) (hE : sg_EN H en) (hH : sg_TH P th) {m : Nat} {T : Nat → Rat × Rat} (hm : m ≤ 45) (hX : sg_Ex P G m T) {p : Int32} {c : Nat} (hc : c < 4)
    (h1 : ∀ i, i < m → p = nI i → ∀ fo pt sp, sg_TY m T pt → post (pt (4 * i + c)).toInt32 (fo, th, en, pt, sp)) (h0 : (∀ i, i < m → p ≠ nI i) → ∀ fo pt sp, post (-1) (fo, th, en, pt, sp)) : wpY_coordinate post (fo, th, en, pt, sp) p (nI c) := by
  unfold wpY_coordinate; dsimp only
  refine y_search g hG hE hH hX (fun pt sp hT => ?_)
  by_cases q : p < 0
  · exact br_t q (h0 (fun i hi e => by rw [e] at q; exact absurd q (nI_pos (by omega))) _ _ _)
  · obtain ⟨n, hn, rfl⟩ := nI_of q
    refine br_f q (pk_le m n (fun r => h0 (fun i hi e => ?_) _ _ _) (fun r => ?_) rfl rfl (by omega) hn)
    · have := (nI_eq hn (by omega)).mp e
      omega
    · rw [sg_ix c, sg_cl (show 4 * n + c < 1000 by omega)]
      exact ⟨sg_in180 (by omega), h1 n r rfl _ pt sp hT⟩
theorem i_vc_top {k : Nat} {u : SX} {v : SY} (I : i_Rel k u v) (hk : k + 3 ≤ 1536) (v1 : Int32) (v2 : Int32) : wpX_top (fun r => wpY_top (fun r' v' => r' = r ∧ i_Rel (k + 3) u v') v v1 v2) u v1 v2 := by
  obtain ⟨pr, mc, cX, cY, cB, low, high, tX, bX, tY, bY, pa⟩ := u
  obtain ⟨fo, th, en, pt, sp⟩ := v
  obtain ⟨P, G, H, m, T, I⟩ := I
  obtain ⟨g, hG, hP, hl, hE, hH, rfl, hm, hX, hT, hM⟩ := id I
  unfold wpX_top wpX_isAxis wpY_top wY_top_9; dsimp only
  have inj : ∀ i j, i < m → j < m → nI i = nI j → i = j := fun i j hi hj e => (nI_eq (by omega) (by omega)).mp e
  by_cases a0 : v2 = 0
  · subst a0
    rw [show (2 * 0 : Int32) = nI 0 by decide]
    refine x_isMeeting hm (fun i hi e => br_f (by decide) (br_t rfl (br_f (by decide) (br_t rfl ?_)))) (fun n => br_t rfl ?_)
    · subst e
      rw [sg_c45 (by omega)]
      refine ⟨sg_in45 (by omega), br_t rfl (y_coord (c := 0) g hG hE hH hm hX (by omega) (fun j hj e fo pt sp hY => ⟨?_, P, G, H, m, T, I⟩) (fun n => absurd rfl (n i hi)))⟩
      have := inj i j hi hj e; subst this
      show (pt (4 * i)).toInt32 = _
      rw [(hY i hi).1, sg_li, (hT i hi).1]
    · exact br_t rfl (y_coord (c := 0) g hG hE hH hm hX (by omega) (fun j hj e => absurd e (n j hj)) (fun _ fo pt sp => ⟨rfl, P, G, H, m, T, I⟩))
  · by_cases a1 : v2 = 1
    · subst a1
      rw [show (2 * 1 : Int32) = nI 2 by decide]
      refine x_isMeeting hm (fun i hi e => br_f (by decide) (br_f (by decide) (br_t rfl (br_f (by decide) (br_f (by decide) ?_))))) (fun n => br_t rfl ?_)
      · subst e
        rw [sg_c45 (by omega)]
        refine ⟨sg_in45 (by omega), br_f (by decide) (br_t rfl (y_coord (c := 2) g hG hE hH hm hX (by omega) (fun j hj e fo pt sp hY => ⟨?_, P, G, H, m, T, I⟩) (fun n => absurd rfl (n i hi))))⟩
        have := inj i j hi hj e; subst this
        show (pt (4 * i + 2)).toInt32 = _
        rw [(hY i hi).2.2.1, sg_li, (hT i hi).2.2.1]
      · exact br_f (by decide) (br_t rfl (y_coord (c := 2) g hG hE hH hm hX (by omega) (fun j hj e => absurd e (n j hj)) (fun _ fo pt sp => ⟨rfl, P, G, H, m, T, I⟩)))
    · refine x_isMeeting hm (fun i hi e => br_f (by decide) (br_f a0 (br_f a1 (br_t rfl ?_)))) (fun n => br_t rfl ?_)
      · exact br_f a0 (br_f a1 ⟨rfl, P, G, H, m, T, I⟩)
      · exact br_f a0 (br_f a1 ⟨rfl, P, G, H, m, T, I⟩)
theorem i_vc_bottom {k : Nat} {u : SX} {v : SY} (I : i_Rel k u v) (hk : k + 3 ≤ 1536) (v1 : Int32) (v2 : Int32) : wpX_bottom (fun r => wpY_bottom (fun r' v' => r' = r ∧ i_Rel (k + 3) u v') v v1 v2) u v1 v2 := by
  obtain ⟨pr, mc, cX, cY, cB, low, high, tX, bX, tY, bY, pa⟩ := u
  obtain ⟨fo, th, en, pt, sp⟩ := v
  obtain ⟨P, G, H, m, T, I⟩ := I
  obtain ⟨g, hG, hP, hl, hE, hH, rfl, hm, hX, hT, hM⟩ := id I
  unfold wpX_bottom wpX_isAxis wpY_bottom wY_bottom_9; dsimp only
  have inj : ∀ i j, i < m → j < m → nI i = nI j → i = j := fun i j hi hj e => (nI_eq (by omega) (by omega)).mp e
  by_cases a0 : v2 = 0
  · subst a0
    rw [show (2 * 0 + 1 : Int32) = nI 1 by decide]
    refine x_isMeeting hm (fun i hi e => br_f (by decide) (br_t rfl (br_f (by decide) (br_t rfl ?_)))) (fun n => br_t rfl ?_)
    · subst e
      rw [sg_c45 (by omega)]
      refine ⟨sg_in45 (by omega), br_t rfl (y_coord (c := 1) g hG hE hH hm hX (by omega) (fun j hj e fo pt sp hY => ⟨?_, P, G, H, m, T, I⟩) (fun n => absurd rfl (n i hi)))⟩
      have := inj i j hi hj e; subst this
      show (pt (4 * i + 1)).toInt32 = _
      rw [(hY i hi).2.1, sg_li, (hT i hi).2.1]
    · exact br_t rfl (y_coord (c := 1) g hG hE hH hm hX (by omega) (fun j hj e => absurd e (n j hj)) (fun _ fo pt sp => ⟨rfl, P, G, H, m, T, I⟩))
  · by_cases a1 : v2 = 1
    · subst a1
      rw [show (2 * 1 + 1 : Int32) = nI 3 by decide]
      refine x_isMeeting hm (fun i hi e => br_f (by decide) (br_f (by decide) (br_t rfl (br_f (by decide) (br_f (by decide) ?_))))) (fun n => br_t rfl ?_)
      · subst e
        rw [sg_c45 (by omega)]
        refine ⟨sg_in45 (by omega), br_f (by decide) (br_t rfl (y_coord (c := 3) g hG hE hH hm hX (by omega) (fun j hj e fo pt sp hY => ⟨?_, P, G, H, m, T, I⟩) (fun n => absurd rfl (n i hi))))⟩
        have := inj i j hi hj e; subst this
        show (pt (4 * i + 3)).toInt32 = _
        rw [(hY i hi).2.2.2, sg_li, (hT i hi).2.2.2]
      · exact br_f (by decide) (br_t rfl (y_coord (c := 3) g hG hE hH hm hX (by omega) (fun j hj e => absurd e (n j hj)) (fun _ fo pt sp => ⟨rfl, P, G, H, m, T, I⟩)))
    · refine x_isMeeting hm (fun i hi e => br_f (by decide) (br_f a0 (br_f a1 (br_t rfl ?_)))) (fun n => br_t rfl ?_)
      · exact br_f a0 (br_f a1 ⟨rfl, P, G, H, m, T, I⟩)
      · exact br_f a0 (br_f a1 ⟨rfl, P, G, H, m, T, I⟩)
theorem i_vc_through {k : Nat} {u : SX} {v : SY} (I : i_Rel k u v) (hk : k + 3 ≤ 1536) (v1 : Int32) : wpX_through (fun r => wpY_through (fun r' v' => r' = r ∧ i_Rel (k + 3) u v') v v1) u v1 := by
  obtain ⟨pr, mc, cX, cY, cB, low, high, tX, bX, tY, bY, pa⟩ := u
  obtain ⟨fo, th, en, pt, sp⟩ := v
  obtain ⟨P, G, H, m, T, I⟩ := I
  obtain ⟨g, hG, hP, hl, hE, hH, rfl, hm, hX, hT, hM⟩ := id I
  unfold wpX_through wpY_through; dsimp only
  refine x_isMeeting hm (fun i hi e => br_f (by decide) ?_) (fun n => br_t rfl ?_)
  · subst e
    rw [sg_c45 (by omega)]
    refine ⟨sg_in45 (by omega), y_search g hG hE hH hX (fun pt sp hY => br_f (nI_pos (by omega)) (br_t (nI_lt hi (by omega)) ?_))⟩
    refine y_goToMeeting hY hi hm (fun sp' hS => y_setOn g hG hE hH hS (sg_bd3 (hX.2.1 i hi)) (fun x hx => ⟨sg_Mu hx (hM i hi) (fun _ _ => Iff.rfl), P, G, H, m, T, I⟩))
  · refine y_search g hG hE hH hX (fun pt sp hY => ?_)
    by_cases c : v1 < 0
    · exact br_t c ⟨rfl, P, G, H, m, T, I⟩
    · obtain ⟨i, hi, rfl⟩ := nI_of c
      refine br_f c (br_f (fun q => ?_) ⟨rfl, P, G, H, m, T, I⟩)
      exact n i ((nI_ltI hi (by omega)).mp q) rfl
