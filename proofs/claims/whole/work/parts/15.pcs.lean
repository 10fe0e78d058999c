/-! ===== pieces; corners and places ===== -/
section
variable {P : Nat → Prop} {G H : Nat → Int × Int × Int × Int} {pr mc cX cY cB : Int32} {low high tX bX tY bY pa : Nat → Int32} {fo : Int32} {th en : Nat → Int32} {pt sp : Nat → Int64}
theorem sg_en_on (g : sg_Geo P G) (hG : sg_GH G H) {k : Nat} (hk : k < 10) (pk : P k) {p : Rat × Rat} (h : sg_en H k p) : sg_on G k p := by
  rcases h with e | e
  · rw [e]; exact sg_ep_on g hG hk pk 0
  · rw [e]; exact sg_ep_on g hG hk pk 1
/-- the pieces of segment k -/
noncomputable def sg_pc (G H : Nat → Int × Int × Int × Int) (m : Nat) (T : Nat → Rat × Rat) (k : Nat) : Nat := 1 + sg_n (fun i => sg_on G k (T i) ∧ ¬ sg_en H k (T i)) m
theorem x_pieces {post : Int32 → Prop} {m : Nat} {T : Nat → Rat × Rat} (g : sg_Geo P G) (hG : sg_GH G H) (hP : sg_M pr P) (hl : sg_LH G low high) (hm : m ≤ 45) (hX : sg_Ex P G m T) (hT : sg_TX m T tX bX tY bY) (hM : ∀ i, i < m → sg_M (pa i) (fun k => P k ∧ sg_on G k (T i)))
    (h : post (nI (sg_s P (sg_pc G H m T) 10))) : wpX_pieces post (pr, nI m, cX, cY, cB, low, high, tX, bX, tY, bY, pa) := by
  have key : ∀ e k, k + e = 10 → wX_pieces_4 post pr (nI m) cX cY cB low high tX bX tY bY pa (e + 1) (nI (sg_s P (sg_pc G H m T) k)) (nI k) := by
    intro e
    induction e with
    | zero =>
      intro k hk
      have : k = 10 := by omega
      subst this
      exact br_t sg_e10 h
    | succ e ih =>
      intro k hk
      have hk' : k < 10 := by omega
      have nx := ih (k + 1) (by omega)
      refine br_f (sg_n10 hk') (x_isPresent hP hk' (fun pk => br_f (by decide) ?_) (fun pk => br_t rfl (nm_r (nI_1 k) ?_)))
      · refine x_degree hP hm hM hk' pk (x_metEnds g hG hl hm hX hT hk' (nm_r ?_ (nm_r (nI_1 k) nx)))
        rw [sg_s_t pk]
        have e := sg_n_sub (A := fun i => sg_on G k (T i)) (B := fun i => sg_en H k (T i)) m (fun i _ q => sg_en_on g hG hk' pk q)
        have e1 : (1 : Int32) + nI (sg_n (fun i => sg_on G k (T i)) m) - nI (sg_n (fun i => sg_en H k (T i)) m) = nI (sg_pc G H m T k) := by
          show nI 1 + nI _ - nI _ = _
          rw [nI_add, pk_sub (by omega)]
          unfold sg_pc
          exact congrArg nI (by omega)
        rw [e1, nI_add]
      · rw [sg_s_f pk] at nx
        exact nx
  exact ⟨11, key 10 0 rfl⟩
theorem y_pieces {post : Int32 → SY → Prop} (g : sg_Geo P G) (hG : sg_GH G H) (hE : sg_EN H en) (hH : sg_TH P th) {m : Nat} {T : Nat → Rat × Rat} (hm : m ≤ 45) (hX : sg_Ex P G m T)
    (h : ∀ fo pt sp, post (nI (sg_s P (sg_pc G H m T) 10)) (fo, th, en, pt, sp)) : wpY_pieces post (fo, th, en, pt, sp) := by
  unfold wpY_pieces; dsimp only
  refine y_search g hG hE hH hX (fun pt sp hY => ?_)
  have inner : ∀ {J : Int32 → Int32 → Int32 → (Nat → Int32) → (Nat → Int32) → (Nat → Int64) → (Nat → Int64) → Prop} {k : Nat}, k < 10 → P k → ∀ c, (∀ sp, J (nI (c + sg_n (fun i => sg_on G k (T i) ∧ ¬ sg_en H k (T i)) m)) (nI (k + 1)) (nI m) th en pt sp) →
      ∀ d i, i + d = m → ∀ sp, wY_pieces_33 post J (nI k) (d + 1) (nI (c + sg_n (fun i => sg_on G k (T i) ∧ ¬ sg_en H k (T i)) i)) (nI i) (nI m) th en pt sp := by
    intro J k hk pk c hJ d
    induction d with
    | zero =>
      intro i hi sp
      have : i = m := by omega
      subst this
      exact br_t (nI_le (Nat.le_refl _) (by omega)) (nm_r (nI_1 k) (hJ sp))
    | succ d ih =>
      intro i hi sp
      have hi' : i < m := by omega
      have nx := ih (i + 1) (by omega)
      refine br_f (nI_ge hi' (by omega)) ⟨sg_in10 hk, ?_⟩
      rw [sg_c10 hk, hH k hk]
      refine br_f (fun q => q pk) (y_goToMeeting hY hi' hm (fun sp' hS => ?_))
      have b3 := sg_bd3 (hX.2.1 i hi')
      refine y_has g hG hE hS b3 hk pk (fun o => br_f (by decide) (y_isEnd hE hk (sg_GHi hG hk (g.1 k hk)) hS b3 (fun q => br_f (by decide) (nm_r (nI_1 i) ?_)) (fun q => br_t rfl (nm_e (nm_r (nI_1 i) ?_))))) (fun o => br_t rfl (nm_r (nI_1 i) ?_))
      · rw [sg_n_f (A := fun i => sg_on G k (T i) ∧ ¬ sg_en H k (T i)) (fun z => z.2 q)] at nx
        exact nx sp'
      · rw [sg_n_t (A := fun i => sg_on G k (T i) ∧ ¬ sg_en H k (T i)) ⟨o, q⟩] at nx
        rw [nI_1]; exact nx sp'
      · rw [sg_n_f (A := fun i => sg_on G k (T i) ∧ ¬ sg_en H k (T i)) (fun z => o z.1)] at nx
        exact nx sp'
  have key : ∀ e k, k + e = 10 → ∀ sp, wY_pieces_8 post (e + 1) (nI (sg_s P (sg_pc G H m T) k)) (nI k) (nI m) th en pt sp := by
    intro e
    induction e with
    | zero =>
      intro k hk sp
      have : k = 10 := by omega
      subst this
      exact br_t sg_e10 (h _ _ _)
    | succ e ih =>
      intro k hk sp
      have hk' : k < 10 := by omega
      have nx := ih (k + 1) (by omega)
      refine br_f (sg_n10 hk') ⟨sg_in10 hk', ?_⟩
      rw [sg_c10 hk', hH k hk']
      refine br_c (fun q => ⟨1, ?_⟩) (fun q => nm_r (nI_1 _) ⟨m + 1, ?_⟩)
      · rw [sg_s_f q] at nx
        refine br_c (fun _ => nm_r (nI_1 k) (nx sp)) (fun _ => ⟨sg_in10 hk', ?_⟩)
        rw [sg_c10 hk']
        exact br_t ((hH k hk').mpr q) (nm_r (nI_1 k) (nx sp))
      · have pk := Classical.not_not.mp q
        rw [sg_s_t pk] at nx
        refine inner hk' pk (sg_s P (sg_pc G H m T) k + 1) (fun sp => ?_) m 0 (by omega) sp
        have := nx sp
        unfold sg_pc at this
        rw [← Nat.add_assoc] at this
        exact this
  exact ⟨11, key 10 0 rfl sp⟩
/-- no other segment is on end c of segment k -/
def sg_al (P : Nat → Prop) (G H : Nat → Int × Int × Int × Int) (k c : Nat) : Prop := ∀ i j, i < 10 → j < 10 → (P i ∧ sg_on G i (sg_ep H k c)) → (P j ∧ sg_on G j (sg_ep H k c)) → i = j
theorem sg_al_c (g : sg_Geo P G) (hG : sg_GH G H) {m : Nat} {T : Nat → Rat × Rat} (hX : sg_Ex P G m T) {k : Nat} (hk : k < 10) (pk : P k) (c : Nat) : sg_al P G H k c ↔ ¬ ∃ i, i < m ∧ T i = sg_ep H k c := by
  constructor
  · rintro h ⟨i, hi, e⟩
    obtain ⟨a, b, ha, hb, hne, pa, pb, oa, ob⟩ := hX.2.2.1 i hi
    rw [e] at oa ob
    exact hne (h a b ha hb ⟨pa, oa⟩ ⟨pb, ob⟩)
  · intro h i j hi hj a b
    apply Classical.byContradiction
    intro hne
    exact h (hX.2.2.2 i j _ ⟨hi, hj, hne⟩ a.1 b.1 a.2 b.2)
theorem sg_ep_ne (g : sg_Geo P G) (hG : sg_GH G H) {k : Nat} (hk : k < 10) (pk : P k) : sg_ep H k 0 ≠ sg_ep H k 1 := by
  have l := sg_gl g hk pk
  unfold sg_ep
  intro e
  have e1 := congrArg Prod.fst e
  have e2 := congrArg Prod.snd e
  rcases hG k hk with f | f <;> simp only [sg_lx, sg_ly, sg_hx, sg_hy, f, if_true] at e1 e2 l <;> (rw [if_neg (by omega)] at e1 e2; dsimp only at e1 e2; rw [e1, e2] at l; exact sg_lt_irr l)
theorem sg_met (g : sg_Geo P G) (hG : sg_GH G H) {m : Nat} {T : Nat → Rat × Rat} (hX : sg_Ex P G m T) {k : Nat} (hk : k < 10) (pk : P k) : sg_n (fun i => sg_en H k (T i)) m + sg_n (fun c => sg_al P G H k c) 2 = 2 := by
  have e1 : sg_n (fun i => sg_en H k (T i)) m = sg_n (fun i => T i = sg_ep H k 0) m + sg_n (fun i => T i = sg_ep H k 1) m :=
    sg_n_or m (fun i _ a b => sg_ep_ne g hG hk pk (a.symm.trans b))
  have one : ∀ c, sg_n (fun i => T i = sg_ep H k c) m + sg_n (fun _ => sg_al P G H k c) 1 = 1 := by
    intro c
    by_cases q : ∃ i, i < m ∧ T i = sg_ep H k c
    · rw [sg_n_1 m q (fun i j hi hj a b => sg_srt_inj hX.1 hi hj (a.trans b.symm)), sg_n_0 1 (fun _ _ z => (sg_al_c g hG hX hk pk c).mp z q)]
    · rw [sg_n_0 m (fun i hi z => q ⟨i, hi, z⟩), sg_n_1 1 ⟨0, by omega, (sg_al_c g hG hX hk pk c).mpr q⟩ (fun i j hi hj _ _ => by omega)]
  have e2 : sg_n (fun c => sg_al P G H k c) 2 = sg_n (fun _ => sg_al P G H k 0) 1 + sg_n (fun _ => sg_al P G H k 1) 1 := by
    by_cases a : sg_al P G H k 0 <;> by_cases b : sg_al P G H k 1
    · rw [sg_n_t (A := fun c => sg_al P G H k c) (n := 1) b, sg_n_t (A := fun c => sg_al P G H k c) (n := 0) a, sg_n_t (A := fun _ => sg_al P G H k 0) (n := 0) a, sg_n_t (A := fun _ => sg_al P G H k 1) (n := 0) b]; rfl
    · rw [sg_n_f (A := fun c => sg_al P G H k c) (n := 1) b, sg_n_t (A := fun c => sg_al P G H k c) (n := 0) a, sg_n_t (A := fun _ => sg_al P G H k 0) (n := 0) a, sg_n_f (A := fun _ => sg_al P G H k 1) (n := 0) b]; rfl
    · rw [sg_n_t (A := fun c => sg_al P G H k c) (n := 1) b, sg_n_f (A := fun c => sg_al P G H k c) (n := 0) a, sg_n_f (A := fun _ => sg_al P G H k 0) (n := 0) a, sg_n_t (A := fun _ => sg_al P G H k 1) (n := 0) b]; rfl
    · rw [sg_n_f (A := fun c => sg_al P G H k c) (n := 1) b, sg_n_f (A := fun c => sg_al P G H k c) (n := 0) a, sg_n_f (A := fun _ => sg_al P G H k 0) (n := 0) a, sg_n_f (A := fun _ => sg_al P G H k 1) (n := 0) b]; rfl
  have o0 := one 0
  have o1 := one 1
  omega
theorem x_corners {post : Int32 → Prop} {m : Nat} {T : Nat → Rat × Rat} (g : sg_Geo P G) (hG : sg_GH G H) (hP : sg_M pr P) (hl : sg_LH G low high) (hm : m ≤ 45) (hX : sg_Ex P G m T) (hT : sg_TX m T tX bX tY bY)
    (h : post (nI (m + sg_s P (fun k => sg_n (fun c => sg_al P G H k c) 2) 10))) : wpX_corners post (pr, nI m, cX, cY, cB, low, high, tX, bX, tY, bY, pa) := by
  have key : ∀ e k, k + e = 10 → wX_corners_7 post pr (nI m) cX cY cB low high tX bX tY bY pa (e + 1) (nI (m + sg_s P (fun k => sg_n (fun c => sg_al P G H k c) 2) k)) (nI k) := by
    intro e
    induction e with
    | zero =>
      intro k hk
      have : k = 10 := by omega
      subst this
      exact br_t sg_e10 h
    | succ e ih =>
      intro k hk
      have hk' : k < 10 := by omega
      have nx := ih (k + 1) (by omega)
      refine br_f (sg_n10 hk') (x_isPresent hP hk' (fun pk => br_f (by decide) ?_) (fun pk => br_t rfl (nm_r (nI_1 k) ?_)))
      · refine x_metEnds g hG hl hm hX hT hk' (nm_r ?_ (nm_r (nI_1 k) nx))
        rw [sg_s_t pk]
        have e := sg_met g hG hX hk' pk
        have e1 : (2 : Int32) - nI (sg_n (fun i => sg_en H k (T i)) m) = nI (sg_n (fun c => sg_al P G H k c) 2) := by
          show nI 2 - nI _ = _
          rw [pk_sub (by omega)]
          exact congrArg nI (by omega)
        rw [e1, nI_add, Nat.add_assoc]
      · rw [sg_s_f pk] at nx
        exact nx
  exact ⟨11, key 10 0 rfl⟩
theorem sg_two : ∀ k, sg_n (fun c => P (c / 2) ∧ sg_al P G H (c / 2) (c % 2)) (2 * k) = sg_s P (fun k => sg_n (fun c => sg_al P G H k c) 2) k := by
  intro k
  induction k with
  | zero => rfl
  | succ k ih =>
    show sg_n (fun c => P (c / 2) ∧ sg_al P G H (c / 2) (c % 2)) (2 * k + 1 + 1) = _
    have d0 : (2 * k) / 2 = k := by omega
    have d1 : (2 * k + 1) / 2 = k := by omega
    have m0 : (2 * k) % 2 = 0 := by omega
    have m1 : (2 * k + 1) % 2 = 1 := by omega
    by_cases pk : P k
    · rw [sg_s_t pk, ← ih]
      by_cases a : sg_al P G H k 0 <;> by_cases b : sg_al P G H k 1
      · rw [sg_n_t (A := fun c => P (c / 2) ∧ sg_al P G H (c / 2) (c % 2)) (n := 2 * k + 1) (by rw [d1, m1]; exact ⟨pk, b⟩), sg_n_t (A := fun c => P (c / 2) ∧ sg_al P G H (c / 2) (c % 2)) (n := 2 * k) (by rw [d0, m0]; exact ⟨pk, a⟩),
          sg_n_t (A := fun c => sg_al P G H k c) (n := 1) b, sg_n_t (A := fun c => sg_al P G H k c) (n := 0) a]; rfl
      · rw [sg_n_f (A := fun c => P (c / 2) ∧ sg_al P G H (c / 2) (c % 2)) (n := 2 * k + 1) (by rw [d1, m1]; exact fun q => b q.2), sg_n_t (A := fun c => P (c / 2) ∧ sg_al P G H (c / 2) (c % 2)) (n := 2 * k) (by rw [d0, m0]; exact ⟨pk, a⟩),
          sg_n_f (A := fun c => sg_al P G H k c) (n := 1) b, sg_n_t (A := fun c => sg_al P G H k c) (n := 0) a]; rfl
      · rw [sg_n_t (A := fun c => P (c / 2) ∧ sg_al P G H (c / 2) (c % 2)) (n := 2 * k + 1) (by rw [d1, m1]; exact ⟨pk, b⟩), sg_n_f (A := fun c => P (c / 2) ∧ sg_al P G H (c / 2) (c % 2)) (n := 2 * k) (by rw [d0, m0]; exact fun q => a q.2),
          sg_n_t (A := fun c => sg_al P G H k c) (n := 1) b, sg_n_f (A := fun c => sg_al P G H k c) (n := 0) a]; rfl
      · rw [sg_n_f (A := fun c => P (c / 2) ∧ sg_al P G H (c / 2) (c % 2)) (n := 2 * k + 1) (by rw [d1, m1]; exact fun q => b q.2), sg_n_f (A := fun c => P (c / 2) ∧ sg_al P G H (c / 2) (c % 2)) (n := 2 * k) (by rw [d0, m0]; exact fun q => a q.2),
          sg_n_f (A := fun c => sg_al P G H k c) (n := 1) b, sg_n_f (A := fun c => sg_al P G H k c) (n := 0) a]; rfl
    · rw [sg_s_f pk, ← ih]
      rw [sg_n_f (A := fun c => P (c / 2) ∧ sg_al P G H (c / 2) (c % 2)) (n := 2 * k + 1) (by rw [d1]; exact fun q => pk q.1), sg_n_f (A := fun c => P (c / 2) ∧ sg_al P G H (c / 2) (c % 2)) (n := 2 * k) (by rw [d0]; exact fun q => pk q.1)]
theorem y_places {post : Int32 → SY → Prop} (g : sg_Geo P G) (hG : sg_GH G H) (hE : sg_EN H en) (hH : sg_TH P th) {m : Nat} {T : Nat → Rat × Rat} (hX : sg_Ex P G m T)
    (h : ∀ fo pt sp, post (nI (m + sg_s P (fun k => sg_n (fun c => sg_al P G H k c) 2) 10)) (fo, th, en, pt, sp)) : wpY_places post (fo, th, en, pt, sp) := by
  unfold wpY_places; dsimp only
  refine y_search g hG hE hH hX (fun pt sp hY => ?_)
  have key : ∀ e c, c + e = 20 → ∀ sp, wY_places_11 post (e + 1) (nI (m + sg_n (fun c => P (c / 2) ∧ sg_al P G H (c / 2) (c % 2)) c)) (nI c) (nI m) th en pt sp := by
    intro e
    induction e with
    | zero =>
      intro c hc sp
      have : c = 20 := by omega
      subst this
      rw [sg_two 10]
      exact br_t (by decide) (h _ _ _)
    | succ e ih =>
      intro c hc sp
      have nx := ih (c + 1) (by omega)
      have hk : c / 2 < 10 := by omega
      have hi := sg_GHi hG hk (g.1 (c / 2) hk)
      refine br_f (nI_ge (b := 20) (by omega) (by decide)) ⟨by decide, ?_⟩
      rw [show nI c - nI c / 2 * 2 = nI (c % 2) from pk_rem (d := 2) (by omega) (by decide) (by decide)]
      refine nm_r (pk_div (d := 2) (by omega) (by decide) (by decide)) ⟨sg_in10 hk, ?_⟩
      rw [sg_c10 hk, hH (c / 2) hk]
      refine br_c (fun q => nm_r (nI_1 c) ?_) (fun q => ⟨by decide, ?_⟩)
      · rw [sg_n_f (A := fun c => P (c / 2) ∧ sg_al P G H (c / 2) (c % 2)) (fun z => q z.1)] at nx
        exact nx sp
      · have pk := Classical.not_not.mp q
        refine y_goToEnd hE hk hi (by omega) (fun sp' hS => y_setOn g hG hE hH hS (sg_bd3 (sg_ep_b hi _)) (fun x hx => ?_))
        rw [sg_Mone hx]
        refine br_c (fun a => nm_e (nm_r (nI_1 c) ?_)) (fun a => nm_r (nI_1 c) ?_)
        · rw [sg_n_t (A := fun c => P (c / 2) ∧ sg_al P G H (c / 2) (c % 2)) ⟨pk, a⟩, ← Nat.add_assoc] at nx
          rw [nI_1]; exact nx sp'
        · rw [sg_n_f (A := fun c => P (c / 2) ∧ sg_al P G H (c / 2) (c % 2)) (fun z => a z.2)] at nx
          exact nx sp'
  exact ⟨21, key 20 0 rfl sp⟩
end
theorem i_vc_pieces {k : Nat} {u : SX} {v : SY} (I : i_Rel k u v) (hk : k + 3 ≤ 1536) : wpX_pieces (fun r => wpY_pieces (fun r' v' => r' = r ∧ i_Rel (k + 3) u v') v) u := by
  obtain ⟨pr, mc, cX, cY, cB, low, high, tX, bX, tY, bY, pa⟩ := u
  obtain ⟨fo, th, en, pt, sp⟩ := v
  obtain ⟨P, G, H, m, T, I⟩ := I
  obtain ⟨g, hG, hP, hl, hE, hH, rfl, hm, hX, hT, hM⟩ := id I
  exact x_pieces g hG hP hl hm hX hT hM (y_pieces g hG hE hH hm hX (fun fo pt sp => ⟨rfl, P, G, H, m, T, I⟩))
