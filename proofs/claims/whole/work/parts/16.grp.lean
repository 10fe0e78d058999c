/-! ===== groups: each side reaches the least closed set ===== -/
def sg_cd (P : Nat → Prop) (G : Nat → Int × Int × Int × Int) (S : Nat → Prop) : Prop := ∀ a b, a < 10 → b < 10 → P a → P b → S a → sg_mt G a b → S b
def sg_Cl (P : Nat → Prop) (G : Nat → Int × Int × Int × Int) (k l : Nat) : Prop := ∀ S : Nat → Prop, S k → sg_cd P G S → S l
theorem sg_Cl_0 {P : Nat → Prop} {G : Nat → Int × Int × Int × Int} (k : Nat) : sg_Cl P G k k := fun _ h _ => h
theorem sg_Cl_s {P : Nat → Prop} {G : Nat → Int × Int × Int × Int} {k a b : Nat} (h : sg_Cl P G k a) (ha : a < 10) (hb : b < 10) (pa : P a) (pb : P b) (m : sg_mt G a b) : sg_Cl P G k b :=
  fun S h0 hc => hc a b ha hb pa pb (h S h0 hc) m
/-- after r rounds -/
def sg_In (P : Nat → Prop) (G : Nat → Int × Int × Int × Int) (k r : Nat) (S : Nat → Prop) : Prop := S k ∧ (∀ l, l < 10 → S l → sg_Cl P G k l) ∧ (sg_cd P G S ∨ r + 1 ≤ sg_n S 10)
theorem sg_In_0 {P : Nat → Prop} {G : Nat → Int × Int × Int × Int} {k : Nat} (hk : k < 10) : sg_In P G k 0 (fun i => i = k) := by
  refine ⟨rfl, ?_, Or.inr ?_⟩
  · intro l _ e; rw [e]; exact sg_Cl_0 k
  · rw [sg_n_1 (A := fun i => i = k) 10 ⟨k, hk, rfl⟩ (fun i j _ _ a b => Eq.trans a (Eq.symm b))]; exact Nat.le_refl _
theorem sg_In_s {P : Nat → Prop} {G : Nat → Int × Int × Int × Int} {k r : Nat} (hk : k < 10) {S S' : Nat → Prop} (h : sg_In P G k r S) (mono : ∀ l, l < 10 → S l → S' l) (sound : ∀ l, l < 10 → S' l → sg_Cl P G k l) (prog : (∀ l, l < 10 → S' l → S l) → sg_cd P G S) : sg_In P G k (r + 1) S' := by
  obtain ⟨h0, h1, h2⟩ := h
  refine ⟨mono k hk h0, sound, ?_⟩
  by_cases c : ∀ l, l < 10 → S' l → S l
  · left
    have q := prog c
    intro a b ha hb pa pb sa m
    exact mono b hb (q a b ha hb pa pb (c a ha sa) m)
  · right
    have c' : ∃ l, l < 10 ∧ S' l ∧ ¬ S l := by
      apply Classical.byContradiction
      intro n
      apply c
      intro l hl sl
      apply Classical.byContradiction
      intro q
      exact n ⟨l, hl, sl, q⟩
    rcases h2 with q | q
    · obtain ⟨l, hl, sl, nl⟩ := c'
      exact absurd (sound l hl sl S h0 q) nl
    · have := sg_n_lt 10 mono c'
      omega
theorem sg_In_10 {P : Nat → Prop} {G : Nat → Int × Int × Int × Int} {k : Nat} {S : Nat → Prop} (h : sg_In P G k 10 S) : ∀ l, l < 10 → (S l ↔ sg_Cl P G k l) := by
  obtain ⟨h0, h1, h2⟩ := h
  have hc : sg_cd P G S := by
    rcases h2 with q | q
    · exact q
    · have := sg_n_le S 10; omega
  exact fun l hl => ⟨h1 l hl, fun q => q S h0 hc⟩
section
variable {P : Nat → Prop} {G H : Nat → Int × Int × Int × Int} {pr mc cX cY cB : Int32} {low high tX bX tY bY pa : Nat → Int32} {fo : Int32} {th en : Nat → Int32} {pt sp : Nat → Int64}
theorem x_groupOf {post : Int32 → Prop} {m : Nat} {T : Nat → Rat × Rat} (hm : m ≤ 45) (hX : sg_Ex P G m T) (hM : ∀ i, i < m → sg_M (pa i) (fun k => P k ∧ sg_on G k (T i))) {k : Nat} (hk : k < 10)
    (h : ∀ x, sg_M x (sg_Cl P G k) → post x) : wpX_groupOf post (pr, nI m, cX, cY, cB, low, high, tX, bX, tY, bY, pa) (nI k) := by
  have inner : ∀ {J : Int32 → Int32 → Prop} {r : Nat} {S0 : Nat → Prop}, sg_In P G k r S0 → (∀ x S, sg_M x S → sg_In P G k (r + 1) S → J x (nI (r + 1))) →
      ∀ d i, i + d = m → ∀ x S, sg_M x S → (∀ l, l < 10 → S0 l → S l) → (∀ l, l < 10 → S l → sg_Cl P G k l) →
        ((∀ l, l < 10 → S l → S0 l) → ∀ i', i' < i → ∀ a b, a < 10 → b < 10 → P a → P b → sg_on G a (T i') → sg_on G b (T i') → S0 a → S0 b) →
        wX_groupOf_15 post J (nI r) pr (nI m) cX cY cB low high tX bX tY bY pa (d + 1) x (nI i) := by
    intro J r S0 h0 hJ d
    induction d with
    | zero =>
      intro i hi x S hx mono sound prog
      refine br_t (nI_le (by omega) (by omega)) (nm_r (nI_1 r) (hJ x S hx (sg_In_s hk h0 mono sound (fun q => ?_))))
      intro a b ha hb pa pb sa mt
      rcases mt with e | ⟨p, oa, ob⟩
      · rw [← e]; exact sa
      · by_cases e : a = b
        · rw [← e]; exact sa
        · obtain ⟨i', hi', ei⟩ := hX.2.2.2 a b p ⟨ha, hb, e⟩ pa pb oa ob
          rw [← ei] at oa ob
          exact prog q i' (by omega) a b ha hb pa pb oa ob sa
    | succ d ih =>
      intro i hi x S hx mono sound prog
      have hi' : i < m := by omega
      refine br_f (nI_ge hi' (by omega)) ⟨sg_in45 (by omega), ?_⟩
      rw [sg_c45 (by omega), sg_Mz (sg_Mand (hM i hi') hx)]
      refine br_c (fun q => nm_r (nI_1 i) (ih (i + 1) (by omega) x S hx mono sound (fun c i' h' => ?_))) (fun q => ⟨sg_in45 (by omega), nm_e (nm_r (nI_1 i) (ih (i + 1) (by omega) _ _ (sg_Mor hx (hM i hi')) (fun l hl s => Or.inl (mono l hl s)) (fun l hl s => ?_) (fun c i' h' => ?_)))⟩)
      · rcases Nat.lt_succ_iff_lt_or_eq.mp h' with z | z
        · exact prog c i' z
        · subst z
          intro a b ha hb pa pb oa ob sa
          exact absurd ⟨⟨pa, oa⟩, mono a ha sa⟩ (q a ha)
      · rcases s with s | s
        · exact sound l hl s
        · apply Classical.byContradiction
          intro nl
          apply q
          intro a ha z
          exact nl (sg_Cl_s (sound a ha z.2) ha hl z.1.1 s.1 (Or.inr ⟨T i, z.1.2, s.2⟩))
      · rcases Nat.lt_succ_iff_lt_or_eq.mp h' with z | z
        · exact prog (fun l hl s => c l hl (Or.inl s)) i' z
        · subst z
          intro a b ha hb pa pb oa ob sa
          exact c b hb (Or.inr ⟨pb, ob⟩)
  have key : ∀ e r, r + e = 10 → ∀ x S, sg_M x S → sg_In P G k r S → wX_groupOf_6 post pr (nI m) cX cY cB low high tX bX tY bY pa (e + 1) x (nI r) := by
    intro e
    induction e with
    | zero =>
      intro r hr x S hx hS
      have : r = 10 := by omega
      subst this
      exact br_t sg_e10 (h x (sg_Mc hx (sg_In_10 hS)))
    | succ e ih =>
      intro r hr x S hx hS
      refine br_f (sg_n10 (by omega)) ⟨m + 1, inner hS (fun x' S' hx' hS' => ih (r + 1) (by omega) x' S' hx' hS') m 0 (by omega) x S hx (fun _ _ s => s) hS.2.1 (fun _ i' h' => absurd h' (by omega))⟩
  unfold wpX_groupOf; dsimp only
  exact nm_e ⟨11, key 10 0 rfl _ _ (sg_M1 hk) (sg_In_0 hk)⟩
theorem y_group {post : Int32 → SY → Prop} (g : sg_Geo P G) (hG : sg_GH G H) (hE : sg_EN H en) (hH : sg_TH P th) {k : Nat} (hk : k < 10)
    (h : ∀ x sp, sg_M x (sg_Cl P G k) → post x (fo, th, en, pt, sp)) : wpY_group post (fo, th, en, pt, sp) (nI k) := by
  have inner : ∀ {J : Int32 → Int32 → Int32 → (Nat → Int32) → (Nat → Int32) → (Nat → Int64) → (Nat → Int64) → Prop} {r : Nat} {S0 : Nat → Prop}, sg_In P G k r S0 → (∀ x S sp, sg_M x S → sg_In P G k (r + 1) S → J x (nI (r + 1)) fo th en pt sp) →
      ∀ d c, c + d = 100 → ∀ x S sp, sg_M x S → (∀ l, l < 10 → S0 l → S l) → (∀ l, l < 10 → S l → sg_Cl P G k l) →
        ((∀ l, l < 10 → S l → S0 l) → ∀ c', c' < c → P (c' / 10) → P (c' % 10) → S0 (c' / 10) → sg_mt G (c' / 10) (c' % 10) → S0 (c' % 10)) →
        wY_group_15 post J (nI r) (d + 1) x (nI c) fo th en pt sp := by
    intro J r S0 h0 hJ d
    induction d with
    | zero =>
      intro c hc x S sp hx mono sound prog
      have : c = 100 := by omega
      subst this
      refine br_t (by decide) (nm_r (nI_1 r) (hJ x S sp hx (sg_In_s hk h0 mono sound (fun q => ?_))))
      intro a b ha hb pa pb sa mt
      have := prog q (10 * a + b) (by omega)
      rw [show (10 * a + b) / 10 = a by omega, show (10 * a + b) % 10 = b by omega] at this
      exact this pa pb sa mt
    | succ d ih =>
      intro c hc x S sp hx mono sound prog
      have ha : c / 10 < 10 := by omega
      have hb : c % 10 < 10 := by omega
      refine br_f (nI_ge (b := 100) (by omega) (by decide)) ⟨by decide, ?_⟩
      rw [show nI c - nI c / 10 * 10 = nI (c % 10) from pk_rem (d := 10) (by omega) (by decide) (by decide), show nI c / 10 = nI (c / 10) from pk_div (d := 10) (by omega) (by decide) (by decide), sg_Mbit hx ha]
      have no : ∀ sp, ¬ (S (c / 10) ∧ P (c / 10) ∧ P (c % 10) ∧ sg_mt G (c / 10) (c % 10)) → ∀ z, z = nI c + 1 → wY_group_15 post J (nI r) (d + 1) x z fo th en pt sp := by
        intro sp hn
        refine nm_r (nI_1 c) (ih (c + 1) (by omega) x S sp hx mono sound (fun q c' h' => ?_))
        rcases Nat.lt_succ_iff_lt_or_eq.mp h' with z | z
        · exact prog q c' z
        · subst z
          intro pa pb sa mt
          exact absurd ⟨mono _ ha sa, pa, pb, mt⟩ hn
      refine br_c (fun sa => ⟨by decide, by decide, y_meet g hG hE hH ha hb (fun pa pb mt sp => br_f (by decide) ⟨by decide, nm_e (nm_r (nI_1 c) (ih (c + 1) (by omega) _ _ sp (sg_Mor hx (sg_M1 hb)) (fun l hl s => Or.inl (mono l hl s)) (fun l hl s => ?_) (fun q c' h' => ?_)))⟩) (fun q sp => br_t rfl (no sp (fun z => q z.2)))⟩) (fun sa => no sp (fun z => sa z.1))
      · rcases s with s | s
        · exact sound l hl s
        · rw [s]; exact sg_Cl_s (sound _ ha sa) ha hb pa pb mt
      · rcases Nat.lt_succ_iff_lt_or_eq.mp h' with z | z
        · exact prog (fun l hl s => q l hl (Or.inl s)) c' z
        · subst z
          intro _ _ _ _
          exact q _ hb (Or.inr rfl)
  have key : ∀ e r, r + e = 10 → ∀ x S sp, sg_M x S → sg_In P G k r S → wY_group_6 post (e + 1) x (nI r) fo th en pt sp := by
    intro e
    induction e with
    | zero =>
      intro r hr x S sp hx hS
      have : r = 10 := by omega
      subst this
      exact br_t sg_e10 (h x sp (sg_Mc hx (sg_In_10 hS)))
    | succ e ih =>
      intro r hr x S sp hx hS
      refine br_f (sg_n10 (by omega)) ⟨101, inner hS (fun x' S' sp' hx' hS' => ih (r + 1) (by omega) x' S' sp' hx' hS') 100 0 (by omega) x S sp hx (fun _ _ s => s) hS.2.1 (fun _ i' h' => absurd h' (by omega))⟩
  unfold wpY_group; dsimp only
  exact nm_e ⟨11, key 10 0 rfl _ _ sp (sg_M1 hk) (sg_In_0 hk)⟩
theorem sg_Mex (Q : Nat → Prop) : ∃ x, sg_M x Q := by
  have key : ∀ n, n ≤ 10 → ∃ x, sg_M x (fun i => i < n ∧ Q i) := by
    intro n
    induction n with
    | zero => intro _; exact ⟨0, sg_Mc sg_M0 (fun i hi => ⟨fun q => q.elim, fun q => absurd q.1 (by omega)⟩)⟩
    | succ n ih =>
      intro hn
      obtain ⟨x, hx⟩ := ih (by omega)
      by_cases c : Q n
      · refine ⟨_, sg_Mc (sg_Mor hx (sg_M1 (show n < 10 by omega))) (fun i hi => ⟨?_, ?_⟩)⟩
        · rintro (a | a)
          · exact ⟨by omega, a.2⟩
          · subst a; exact ⟨by omega, c⟩
        · intro a
          rcases Nat.lt_succ_iff_lt_or_eq.mp a.1 with b | b
          · exact Or.inl ⟨b, a.2⟩
          · exact Or.inr b
      · refine ⟨x, sg_Mc hx (fun i hi => ⟨fun a => ⟨by omega, a.2⟩, fun a => ⟨?_, a.2⟩⟩)⟩
        rcases Nat.lt_succ_iff_lt_or_eq.mp a.1 with b | b
        · exact b
        · subst b; exact absurd a.2 c
  obtain ⟨x, hx⟩ := key 10 (Nat.le_refl _)
  exact ⟨x, sg_Mc hx (fun i hi => ⟨fun a => a.2, fun a => ⟨hi, a⟩⟩)⟩
theorem sg_grp {m : Nat} {T : Nat → Rat × Rat} (I : sg_St P G H m T pr mc low high tX bX tY bY pa th en) :
    ∀ e k, k + e = 10 → ∀ x c L, sg_M x L → ∃ r : Int32, (∀ (post : Int32 → Prop) cX cY cB, post r → wX_groups_9 post pr mc cX cY cB low high tX bX tY bY pa (e + 1) x c (nI k)) ∧ (∀ (post : Int32 → SY → Prop) fo pt sp, (∀ sp, post r (fo, th, en, pt, sp)) → wY_groups_9 post (e + 1) x c (nI k) fo th en pt sp) := by
  obtain ⟨g, hG, hP, hl, hE, hH, rfl, hm, hX, hT, hM⟩ := id I
  intro e
  induction e with
  | zero =>
    intro k hk x c L hx
    have : k = 10 := by omega
    subst this
    exact ⟨c, fun post _ _ _ hp => br_t sg_e10 hp, fun post fo pt sp hp => br_t sg_e10 (hp sp)⟩
  | succ e ih =>
    intro k hk x c L hx
    have hk' : k < 10 := by omega
    by_cases q : L k
    · obtain ⟨z, hz⟩ := sg_Mex (sg_Cl P G k)
      obtain ⟨r, hX', hY'⟩ := ih (k + 1) (by omega) (x &&& (z ^^^ (-1))) (c + 1) _ (sg_Mdiff hx hz)
      refine ⟨r, fun post cX cY cB hp => ?_, fun post fo pt sp hp => ?_⟩
      · refine br_f (sg_n10 hk') (br_t ((sg_Mbit hx hk').mpr q) (x_groupOf hm hX hM hk' (fun w hw => ?_)))
        rw [sg_Mu hw hz (fun _ _ => Iff.rfl)]
        exact nm_e (nm_e (nm_r (nI_1 k) (hX' post cX cY cB hp)))
      · refine br_f (sg_n10 hk') (br_t ((sg_Mbit hx hk').mpr q) (y_group g hG hE hH hk' (fun w sp' hw => ?_)))
        rw [sg_Mu hw hz (fun _ _ => Iff.rfl)]
        exact nm_e (nm_e (nm_r (nI_1 k) (hY' post fo pt sp' hp)))
    · obtain ⟨r, hX', hY'⟩ := ih (k + 1) (by omega) x c L hx
      refine ⟨r, fun post cX cY cB hp => ?_, fun post fo pt sp hp => ?_⟩
      · exact br_f (sg_n10 hk') (br_f (fun b => q ((sg_Mbit hx hk').mp b)) (nm_r (nI_1 k) (hX' post cX cY cB hp)))
      · exact br_f (sg_n10 hk') (br_f (fun b => q ((sg_Mbit hx hk').mp b)) (nm_r (nI_1 k) (hY' post fo pt sp hp)))
theorem sg_groups {m : Nat} {T : Nat → Rat × Rat} (I : sg_St P G H m T pr mc low high tX bX tY bY pa th en) : ∃ r : Int32, (∀ (post : Int32 → Prop) cX cY cB, post r → wpX_groups post (pr, mc, cX, cY, cB, low, high, tX, bX, tY, bY, pa)) ∧ (∀ (post : Int32 → SY → Prop) fo pt sp, (∀ sp, post r (fo, th, en, pt, sp)) → wpY_groups post (fo, th, en, pt, sp)) := by
  obtain ⟨g, hG, hP, hl, hE, hH, em, hm, hX, hT, hM⟩ := id I
  obtain ⟨r, a, b⟩ := sg_grp I 10 0 rfl pr 0 P hP
  refine ⟨r, fun post cX cY cB hp => ⟨11, a post cX cY cB hp⟩, fun post fo pt sp hp => ?_⟩
  unfold wpY_groups; dsimp only
  refine y_segments hH (fun x hx => ⟨11, ?_⟩)
  rw [sg_Mu hx hP (fun _ _ => Iff.rfl)]
  exact b post fo pt sp hp
end
theorem i_vc_groups {k : Nat} {u : SX} {v : SY} (I : i_Rel k u v) (hk : k + 3 ≤ 1536) : wpX_groups (fun r => wpY_groups (fun r' v' => r' = r ∧ i_Rel (k + 3) u v') v) u := by
  obtain ⟨pr, mc, cX, cY, cB, low, high, tX, bX, tY, bY, pa⟩ := u
  obtain ⟨fo, th, en, pt, sp⟩ := v
  obtain ⟨P, G, H, m, T, I⟩ := I
  obtain ⟨r, a, b⟩ := sg_groups I
  exact a _ cX cY cB (b _ fo pt sp (fun sp => ⟨rfl, P, G, H, m, T, I⟩))
theorem i_vc_faces {k : Nat} {u : SX} {v : SY} (I : i_Rel k u v) (hk : k + 3 ≤ 1536) : wpX_faces (fun r => wpY_faces (fun r' v' => r' = r ∧ i_Rel (k + 3) u v') v) u := by
  obtain ⟨pr, mc, cX, cY, cB, low, high, tX, bX, tY, bY, pa⟩ := u
  obtain ⟨fo, th, en, pt, sp⟩ := v
  obtain ⟨P, G, H, m, T, I⟩ := I
  obtain ⟨g, hG, hP, hl, hE, hH, rfl, hm, hX, hT, hM⟩ := id I
  obtain ⟨r, a, b⟩ := sg_groups I
  unfold wpX_faces wpY_faces; dsimp only
  refine x_pieces g hG hP hl hm hX hT hM (x_corners g hG hP hl hm hX hT (a _ cX cY cB ?_))
  refine y_places g hG hE hH hX (fun fo pt sp => y_pieces g hG hE hH hm hX (fun fo pt sp => b _ fo pt sp (fun sp => ⟨rfl, P, G, H, m, T, I⟩)))
