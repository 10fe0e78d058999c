/-! ===== Y: the table of meeting points, anew at each question ===== -/
def sg_TY (m : Nat) (T : Nat → Rat × Rat) (pt : Nat → Int64) : Prop := ∀ i, i < m → pt (4 * i) = sg_l (T i).1.num ∧ pt (4 * i + 1) = sg_l ((T i).1.den : Int) ∧ pt (4 * i + 2) = sg_l (T i).2.num ∧ pt (4 * i + 3) = sg_l ((T i).2.den : Int)
theorem sg_in180 {i : Nat} (h : i < 180) : vp_in (nI i) 180 := vp_in_nI h (by decide)
theorem sg_in4 {i : Nat} (h : i < 4) : vp_in (nI i) 4 := vp_in_nI h (by decide)
theorem sg_cl {i : Nat} (h : i < 1000) : (nI i).toNatClampNeg = i := nI_clamp (by omega)
theorem sg_x1 (k : Nat) : (4 * nI k + 1 : Int32) = nI (4 * k + 1) := sg_ix 1
theorem sg_x2 (k : Nat) : (4 * nI k + 2 : Int32) = nI (4 * k + 2) := sg_ix 2
theorem sg_x3 (k : Nat) : (4 * nI k + 3 : Int32) = nI (4 * k + 3) := sg_ix 3
theorem sg_x4 (k : Nat) : (4 * nI k + 4 : Int32) = nI (4 * k + 4) := sg_ix 4
def sg_s4 (f : Nat → Int64) (c e : Nat) : Nat → Int64 := fun k => if c < k ∧ k ≤ e then f (k - 4) else f k
theorem sg_s4_m (f : Nat → Int64) (e : Nat) : sg_s4 f e e = f := by funext k; exact if_neg (by omega)
theorem sg_s4_s (f : Nat → Int64) (c e : Nat) (h : c + 1 ≤ e) : vp_updL (sg_s4 f (c + 1) e) (c + 1) (sg_s4 f (c + 1) e (c + 1 - 4)) = sg_s4 f c e := by
  funext k
  unfold vp_updL sg_s4
  by_cases q : k = c + 1
  · subst q
    rw [if_pos rfl, if_neg (by omega), if_pos (by omega)]
  · rw [if_neg q]
    by_cases d : c + 1 < k ∧ k ≤ e
    · rw [if_pos d, if_pos (by omega)]
    · rw [if_neg d, if_neg (by omega)]
section
variable {P : Nat → Prop} {G H : Nat → Int × Int × Int × Int} {fo : Int32} {th en : Nat → Int32} {pt sp : Nat → Int64}
theorem y_order {post : Int64 → Prop} {m : Nat} {T : Nat → Rat × Rat} (hT : sg_TY m T pt) {i : Nat} (hi : i < m) (hm : m ≤ 45) (bd : sg_bd (T i)) {p : Rat × Rat} (hS : sg_SP p sp) (hb : sg_bd p)
    (h : ∀ r : Int, sg_RL r → (0 < r ↔ sg_ltp (T i) p) → (r = 0 ↔ T i = p) → post (sg_l r)) : wpY_order post (fo, th, en, pt, sp) (nI i) := by
  obtain ⟨⟨b1, b2, b3⟩, b4, b5, b6⟩ := bd
  obtain ⟨⟨a1, a2, a3⟩, a4, a5, a6⟩ := hb
  obtain ⟨t1, t2, t3, t4⟩ := hT i hi
  obtain ⟨s0, s1, s2, s3⟩ := hS
  have d1 := sg_dp (T i).1
  have d2 := sg_dp (T i).2
  have d3 := sg_dp p.1
  have d4 := sg_dp p.2
  unfold wpY_order
  dsimp only
  rw [sg_x1, sg_x2, sg_x3, sg_i4, sg_cl (show 4 * i < 1000 by omega), sg_cl (show 4 * i + 1 < 1000 by omega), sg_cl (show 4 * i + 2 < 1000 by omega), sg_cl (show 4 * i + 3 < 1000 by omega), t1, t2, t3, t4, s0, s1, s2, s3]
  simp only [sg_lmul, sg_lsub]
  have w1 := sg_mb (a := p.1.num) (b := (T i).1.den) 16000 800 (by omega) (by omega) (by omega) (by omega)
  have w2 := sg_mb (a := (T i).1.num) (b := p.1.den) 16000 800 (by omega) (by omega) (by omega) (by omega)
  have w3 := sg_mb (a := p.2.num) (b := (T i).2.den) 16000 800 (by omega) (by omega) (by omega) (by omega)
  have w4 := sg_mb (a := (T i).2.num) (b := p.2.den) 16000 800 (by omega) (by omega) (by omega) (by omega)
  have l1 := sg_rlt d1 d3 (sg_nd (T i).1) (sg_nd p.1)
  have l2 := sg_rlt d2 d4 (sg_nd (T i).2) (sg_nd p.2)
  have q1 := sg_req d1 d3 (sg_nd (T i).1) (sg_nd p.1)
  have q2 := sg_req d2 d4 (sg_nd (T i).2) (sg_nd p.2)
  refine ⟨sg_in180 (by omega), sg_in180 (by omega), nm_e ?_⟩
  rw [sg_lz ⟨by omega, by omega⟩]
  refine br_c (fun c => ⟨sg_in180 (by omega), sg_in180 (by omega), h _ ⟨by omega, by omega⟩ ?_ ?_⟩) (fun c => h _ ⟨by omega, by omega⟩ ?_ ?_)
  · rw [sg_ltpx, l1, q1, l2]; omega
  · rw [sg_pext, q1, q2]; omega
  · rw [sg_ltpx, l1, q1, l2]; omega
  · rw [sg_pext, q1, q2]; omega
theorem y_85 {post : SY → Prop} {m n : Nat} (hn : n < 45)
    (h : post (nI (m + 1), th, en, vp_updL (vp_updL (vp_updL (vp_updL pt (4 * n) (sp 0)) (4 * n + 1) (sp 1)) (4 * n + 2) (sp 2)) (4 * n + 3) (sp 3), sp)) : ∃ k, wY_insert_85 post (nI n) (nI m) k 0 th en pt sp := by
  have step : ∀ c, c < 4 → ∀ k pt, wY_insert_85 post (nI n) (nI m) k (nI (c + 1)) th en (vp_updL pt (4 * n + c) (sp c)) sp → wY_insert_85 post (nI n) (nI m) (k + 1) (nI c) th en pt sp := by
    intro c hc k pt hp
    refine br_f (nI_ge (b := 4) hc (by decide)) ?_
    rw [sg_ix c, sg_cl (show 4 * n + c < 1000 by omega), sg_cl (show c < 1000 by omega)]
    exact ⟨sg_in4 hc, sg_in180 (by omega), nm_e (nm_r (nI_1 c) hp)⟩
  refine ⟨5, step 0 (by omega) 4 pt (step 1 (by omega) 3 _ (step 2 (by omega) 2 _ (step 3 (by omega) 1 _ ?_)))⟩
  exact br_t (by decide) (nm_r (nI_1 m) h)
theorem y_54 {post : SY → Prop} {m n : Nat} (hn : n ≤ m) (hm : m < 45)
    (h : post (nI (m + 1), th, en, vp_updL (vp_updL (vp_updL (vp_updL (sg_s4 pt (4 * n + 3) (4 * m + 3)) (4 * n) (sp 0)) (4 * n + 1) (sp 1)) (4 * n + 2) (sp 2)) (4 * n + 3) (sp 3), sp)) : ∃ k, wY_insert_54 post (nI n) (nI m) k (4 * nI m + 3) th en pt sp := by
  have key : ∀ d c, 4 * n + 3 + d = c → c ≤ 4 * m + 3 → wY_insert_54 post (nI n) (nI m) (d + 1) (nI c) th en (sg_s4 pt c (4 * m + 3)) sp := by
    intro d
    induction d with
    | zero =>
      intro c hc hm'
      have : c = 4 * n + 3 := by omega
      subst this
      refine br_t ?_ (y_85 (by omega) h)
      rw [sg_x4]; exact nI_lt (by omega) (by omega)
    | succ d ih =>
      intro c hc hm'
      obtain ⟨e, rfl⟩ : ∃ e, c = e + 1 := ⟨c - 1, by omega⟩
      refine br_f ?_ ?_
      · rw [sg_x4]; exact nI_nlt (by omega) (by omega)
      · rw [show nI (e + 1) - 4 = nI (e + 1 - 4) from pk_sub (b := 4) (by omega), sg_cl (show e + 1 < 1000 by omega), sg_cl (show e + 1 - 4 < 1000 by omega)]
        exact ⟨sg_in180 (by omega), sg_in180 (by omega), nm_r (sg_s4_s pt e (4 * m + 3) hm') (nm_r (pk_m1 e) (ih e (by omega) (by omega)))⟩
  have := key (4 * m - 4 * n) (4 * m + 3) (by omega) (Nat.le_refl _)
  rw [sg_s4_m] at this
  rw [sg_x3]
  exact ⟨_, this⟩
theorem sg_TYn {m n : Nat} {T : Nat → Rat × Rat} {p : Rat × Rat} (hT : sg_TY m T pt) (hS : sg_SP p sp) (hn : n ≤ m) : sg_TY (m + 1) (sg_ins T n p) (vp_updL (vp_updL (vp_updL (vp_updL (sg_s4 pt (4 * n + 3) (4 * m + 3)) (4 * n) (sp 0)) (4 * n + 1) (sp 1)) (4 * n + 2) (sp 2)) (4 * n + 3) (sp 3)) := by
  obtain ⟨s0, s1, s2, s3⟩ := hS
  have un : ∀ k, (k < 4 * n ∨ 4 * n + 3 < k) → (vp_updL (vp_updL (vp_updL (vp_updL (sg_s4 pt (4 * n + 3) (4 * m + 3)) (4 * n) (sp 0)) (4 * n + 1) (sp 1)) (4 * n + 2) (sp 2)) (4 * n + 3) (sp 3)) k = sg_s4 pt (4 * n + 3) (4 * m + 3) k := by
    intro k hk
    rw [pk_uLn (by omega), pk_uLn (by omega), pk_uLn (by omega), pk_uLn (by omega)]
  intro i hi
  rcases Nat.lt_trichotomy i n with c | c | c
  · rw [un _ (by omega), un _ (by omega), un _ (by omega), un _ (by omega), sg_ins_l c]
    have lo : ∀ k, k < 4 * n → sg_s4 pt (4 * n + 3) (4 * m + 3) k = pt k := fun k hk => if_neg (by omega)
    rw [lo _ (by omega), lo _ (by omega), lo _ (by omega), lo _ (by omega)]
    exact hT i (by omega)
  · subst c
    rw [sg_ins_e, pk_uLs, pk_uLn (by omega), pk_uLn (by omega), pk_uLn (by omega), pk_uLs, pk_uLn (by omega), pk_uLn (by omega), pk_uLs, pk_uLn (by omega), pk_uLs]
    exact ⟨s0, s1, s2, s3⟩
  · rw [un _ (by omega), un _ (by omega), un _ (by omega), un _ (by omega), sg_ins_g c]
    have hi' : ∀ k, 4 * n + 3 < k → k ≤ 4 * m + 3 → sg_s4 pt (4 * n + 3) (4 * m + 3) k = pt (k - 4) := fun k h1 h2 => if_pos ⟨h1, h2⟩
    rw [hi' _ (by omega) (by omega), hi' _ (by omega) (by omega), hi' _ (by omega) (by omega), hi' _ (by omega) (by omega)]
    have := hT (i - 1) (by omega)
    rw [show 4 * i - 4 = 4 * (i - 1) by omega, show 4 * i + 1 - 4 = 4 * (i - 1) + 1 by omega, show 4 * i + 2 - 4 = 4 * (i - 1) + 2 by omega, show 4 * i + 3 - 4 = 4 * (i - 1) + 3 by omega]
    exact this
theorem y_insert {post : SY → Prop} {R : Nat → Nat → Prop} {m : Nat} {T : Nat → Rat × Rat} (hC : sg_Cov P G R m T) (hT : sg_TY m T pt) (g : sg_Geo P G) {j k : Nat} (hj : j < 10) (hk : k < 10) (hne : j ≠ k) (pj : P j) (pk : P k) (hm : m < 45)
    {p : Rat × Rat} (hS : sg_SP p sp) (hb : sg_bd p) (oj : sg_on G j p) (ok : sg_on G k p)
    (h : ∀ m' T' pt', m' ≤ m + 1 → sg_Cov P G (sg_R1 R j k) m' T' → sg_TY m' T' pt' → post (nI m', th, en, pt', sp)) :
    wpY_insert post (nI m, th, en, pt, sp) := by
  have hU : ∀ q, sg_on G j q → sg_on G k q → q = p := fun q a b => g.2.2 j k hj hk pj pk hne q p a b oj ok
  have fresh : ∀ n, n ≤ m → (∀ i, i < n → sg_ltp (T i) p) → (∀ i, n ≤ i → i < m → sg_ltp p (T i)) → ∃ e, wY_insert_54 post (nI n) (nI m) e (4 * nI m + 3) th en pt sp := by
    intro n hn lo hi
    exact y_54 hn hm (h (m + 1) (sg_ins T n p) _ (Nat.le_refl _) (sg_Cov_new hC hj hk hne pj pk oj ok hb hU hn lo hi) (sg_TYn hT hS hn))
  have stop : ∀ n, n ≤ m → (∀ i, i < n → sg_ltp (T i) p) → (n < m → ¬ sg_ltp (T n) p) → wY_insert_26 post (nI n) (nI m) th en pt sp := by
    intro n hn lo hs
    rcases Nat.lt_or_ge n m with c | c
    · refine br_f (nI_ge c (by omega)) (y_order hT c (by omega) (hC.2.1 n c) hS hb (fun r hr l e => ?_))
      rw [sg_lz hr, e]
      refine br_c (fun q => ?_) (fun q => nm_e ?_)
      · exact h m T pt (by omega) (sg_Cov_old hC hU c q) hT
      · refine fresh n hn lo (fun i hi him => ?_)
        have z : sg_ltp p (T n) := by
          rcases sg_ltp_tri (T n) p with a | a | a
          · exact absurd a (hs c)
          · exact absurd a q
          · exact a
        rcases sg_srt_le hC.1 hi him with a | a
        · exact sg_ltp_tr z a
        · rw [← a]; exact z
    · exact br_t (nI_le c (by omega)) (nm_e (fresh n hn lo (fun i hi him => absurd him (by omega))))
  have key : ∀ d n, n + d = m → (∀ i, i < n → sg_ltp (T i) p) → wY_insert_2 post (nI m) th en pt sp (d + 1) (nI n) := by
    intro d
    induction d with
    | zero =>
      intro n hn lo
      exact br_t (nI_le (by omega) (by omega)) (stop n (by omega) lo (fun c => absurd c (by omega)))
    | succ d ih =>
      intro n hn lo
      have c : n < m := by omega
      refine br_f (nI_ge c (by omega)) (y_order hT c (by omega) (hC.2.1 n c) hS hb (fun r hr l e => ?_))
      rw [sg_lzl hr]
      refine br_c (fun q => stop n (by omega) lo (fun _ a => ?_)) (fun q => ?_)
      · have := l.mpr a; omega
      · refine nm_r (nI_1 n) (ih (n + 1) (by omega) ?_)
        intro i hi
        rcases Nat.lt_succ_iff_lt_or_eq.mp hi with a | a
        · exact lo i a
        · subst a; exact l.mp (by omega)
  exact ⟨m + 1, key m 0 (by omega) (fun i hi => absurd hi (by omega))⟩
/-- the pairs that Y has looked at, at (j, k) -/
def sg_RY (j k : Nat) : Nat → Nat → Prop := fun a b => b < a ∧ a < 10 ∧ (a < j ∨ (a = j ∧ b < k))
def sg_cY (j : Nat) : Nat := j * (j - 1) / 2
theorem sg_cYs : ∀ j, j < 10 → sg_cY j + j = sg_cY (j + 1) ∧ sg_cY (j + 1) ≤ 45 := by decide
theorem y_inner {post : SY → Prop} {J : Int32 → Int32 → (Nat → Int32) → (Nat → Int32) → (Nat → Int64) → (Nat → Int64) → Prop}
    (g : sg_Geo P G) (hG : sg_GH G H) (hE : sg_EN H en) (hH : sg_TH P th) {j : Nat} (hj : j < 10)
    (h : ∀ m T pt sp, m ≤ sg_cY (j + 1) → sg_Cov P G (sg_RY (j + 1) 0) m T → sg_TY m T pt → J (nI (j + 1)) (nI m) th en pt sp) :
    ∀ d k, k + d = j → ∀ m T pt sp, m ≤ sg_cY j + k → sg_Cov P G (sg_RY j k) m T → sg_TY m T pt → wY_search_15 post J (nI j) (d + 1) (nI k) (nI m) th en pt sp := by
  intro d
  induction d with
  | zero =>
    intro k hk m T pt sp hm hC hT
    have : k = j := by omega
    subst this
    have := sg_cYs k hj
    refine br_t (nI_le (Nat.le_refl _) (by omega)) (nm_r (nI_1 k) (h m T pt sp (by omega) (sg_Cov_c hC ?_) hT))
    intro a b; unfold sg_RY; omega
  | succ d ih =>
    intro k hk m T pt sp hm hC hT
    have hk' : k < j := by omega
    have cx := sg_cYs j hj
    have eR : ∀ a b, sg_RY j (k + 1) a b → sg_R1 (sg_RY j k) j k a b := by
      intro a b; unfold sg_RY sg_R1; omega
    have skip : (∀ p, P j → P k → sg_on G j p → sg_on G k p → False) → ∀ sp, ∀ z, z = nI k + 1 → wY_search_15 post J (nI j) (d + 1) z (nI m) th en pt sp := by
      intro hn sp
      exact nm_r (nI_1 k) (ih (k + 1) (by omega) m T pt sp (by omega) (sg_Cov_c (sg_Cov_none hC hn) eR) hT)
    refine br_f (nI_ge hk' (by omega)) ⟨sg_in10 hj, ?_⟩
    rw [sg_c10 hj, sg_c10 (show k < 10 by omega), hH j hj, hH k (by omega)]
    refine br_c (fun q => skip (fun _ a _ _ _ => q a) sp) (fun pj => ⟨sg_in10 (by omega), br_c (fun q => skip (fun _ _ a _ _ => q a) sp) (fun pk => ?_)⟩)
    have pj' := Classical.not_not.mp pj
    have pk' := Classical.not_not.mp pk
    refine y_common g hG hE hj (by omega) (by omega) pj' pk' (fun p sp' hS hb oj ok => br_f (by decide) ?_) (fun sp' hn => br_t rfl (skip (fun p _ _ => hn p) sp'))
    refine y_insert hC hT g hj (by omega) (by omega) pj' pk' (by omega) hS hb oj ok (fun m' T' pt' hm' C' T'' => ?_)
    exact nm_r (nI_1 k) (ih (k + 1) (by omega) m' T' pt' sp' (by omega) (sg_Cov_c C' eR) T'')
theorem y_outer {post : SY → Prop} (g : sg_Geo P G) (hG : sg_GH G H) (hE : sg_EN H en) (hH : sg_TH P th)
    (h : ∀ m T pt sp, m ≤ 45 → sg_Cov P G (sg_RY 10 0) m T → sg_TY m T pt → post (nI m, th, en, pt, sp)) :
    ∀ d j, j + d = 10 → ∀ m T pt sp, m ≤ sg_cY j → sg_Cov P G (sg_RY j 0) m T → sg_TY m T pt → wY_search_7 post (d + 1) (nI j) (nI m) th en pt sp := by
  intro d
  induction d with
  | zero =>
    intro j hj m T pt sp hm hC hT
    have : j = 10 := by omega
    subst this
    exact br_t sg_e10 (h m T pt sp hm hC hT)
  | succ d ih =>
    intro j hj m T pt sp hm hC hT
    have hj' : j < 10 := by omega
    refine br_f (sg_n10 hj') ⟨_, y_inner g hG hE hH hj' (fun m T pt sp hm hC hT => ?_) j 0 (by omega) m T pt sp (by omega) hC hT⟩
    exact ih (j + 1) (by omega) m T pt sp hm hC hT
theorem y_search {post : SY → Prop} (g : sg_Geo P G) (hG : sg_GH G H) (hE : sg_EN H en) (hH : sg_TH P th) {m : Nat} {T : Nat → Rat × Rat} (hX : sg_Ex P G m T)
    (h : ∀ pt sp, sg_TY m T pt → post (nI m, th, en, pt, sp)) : wpY_search post (fo, th, en, pt, sp) := by
  have eR : ∀ a b, a < 10 → b < 10 → a ≠ b → sg_RY 10 0 a b ∨ sg_RY 10 0 b a := by intro a b ha hb hne; unfold sg_RY; omega
  refine ⟨11, y_outer g hG hE hH (fun m' T' pt sp hm' hC' hT' => ?_) 10 0 rfl 0 (fun _ => (0, 0)) pt sp (by decide) ⟨?_, ?_, ?_, ?_⟩ ?_⟩
  · obtain ⟨e, f⟩ := sg_Ex_u hX (sg_Ex_of hC' eR)
    subst e
    refine h pt sp (fun i hi => ?_)
    rw [f i hi]; exact hT' i hi
  · intro i j _ hj; omega
  · intro i hi; omega
  · intro i hi; omega
  · intro a b p hr; unfold sg_RY at hr; omega
  · intro i hi; omega
theorem y_goToMeeting {post : SY → Prop} {m : Nat} {T : Nat → Rat × Rat} (hT : sg_TY m T pt) {i : Nat} (hi : i < m) (hm : m ≤ 45) (h : ∀ sp', sg_SP (T i) sp' → post (fo, th, en, pt, sp')) : wpY_goToMeeting post (fo, th, en, pt, sp) (nI i) := by
  have step : ∀ c, c < 4 → ∀ k sp, wY_goToMeeting_2 post (nI i) fo k (nI (c + 1)) th en pt (vp_updL sp c (pt (4 * i + c))) → wY_goToMeeting_2 post (nI i) fo (k + 1) (nI c) th en pt sp := by
    intro c hc k sp hp
    refine br_f (nI_ge (b := 4) hc (by decide)) ?_
    rw [sg_ix c, sg_cl (show 4 * i + c < 1000 by omega), sg_cl (show c < 1000 by omega)]
    exact ⟨sg_in180 (by omega), sg_in4 hc, nm_e (nm_r (nI_1 c) hp)⟩
  refine ⟨5, step 0 (by omega) 4 sp (step 1 (by omega) 3 _ (step 2 (by omega) 2 _ (step 3 (by omega) 1 _ ?_)))⟩
  refine br_t (by decide) (h _ ?_)
  exact hT i hi
theorem y_setOn {post : Int32 → Prop} (g : sg_Geo P G) (hG : sg_GH G H) (hE : sg_EN H en) (hH : sg_TH P th) {p : Rat × Rat} (hS : sg_SP p sp) (hb : sg_b3 p) (h : ∀ x, sg_M x (fun k => P k ∧ sg_on G k p) → post x) : wpY_setOn post (fo, th, en, pt, sp) := by
  have key : ∀ e k, k + e = 10 → ∀ x, sg_M x (fun i => i < k ∧ P i ∧ sg_on G i p) → wY_setOn_4 post fo th en pt sp (e + 1) x (nI k) := by
    intro e
    induction e with
    | zero =>
      intro k hk x hx
      have : k = 10 := by omega
      subst this
      exact br_t sg_e10 (h x (sg_Mc hx (fun i hi => ⟨fun q => q.2, fun q => ⟨hi, q⟩⟩)))
    | succ e ih =>
      intro k hk x hx
      have hk' : k < 10 := by omega
      have no : ¬ (P k ∧ sg_on G k p) → ∀ z, z = nI k + 1 → wY_setOn_4 post fo th en pt sp (e + 1) x z := by
        intro hn
        refine nm_r (nI_1 k) (ih (k + 1) (by omega) x (sg_Mc hx (fun i hi => ⟨fun q => ⟨by omega, q.2⟩, fun q => ⟨?_, q.2⟩⟩)))
        rcases Nat.lt_succ_iff_lt_or_eq.mp q.1 with a | a
        · exact a
        · subst a; exact absurd q.2 hn
      refine br_f (sg_n10 hk') ⟨sg_in10 hk', ?_⟩
      rw [sg_c10 hk', hH k hk']
      refine br_c (fun q => no (fun a => q a.1)) (fun q => ?_)
      have pk := Classical.not_not.mp q
      refine y_has g hG hE hS hb hk' pk (fun o => br_f (by decide) (nm_e (nm_r (nI_1 k) (ih (k + 1) (by omega) _ (sg_Mc (sg_Mor hx (sg_M1 hk')) (fun i hi => ?_)))))) (fun o => br_t rfl (no (fun a => o a.2)))
      constructor
      · rintro (a | a)
        · exact ⟨by omega, a.2⟩
        · subst a; exact ⟨by omega, pk, o⟩
      · intro a
        rcases Nat.lt_succ_iff_lt_or_eq.mp a.1 with b | b
        · exact Or.inl ⟨b, a.2⟩
        · exact Or.inr b
  exact ⟨11, key 10 0 rfl 0 (sg_Mc sg_M0 (fun i hi => ⟨fun q => q.elim, fun q => absurd q.1 (by omega)⟩))⟩
theorem sg_peq {p : Rat} {n : Int} (hp : sg_RL p.num) (hd : sg_RL (p.den : Int)) (hn : sg_RL n) : (sg_l (p.den : Int) = 1 ∧ sg_l p.num = sg_l n) ↔ p = (n : Rat) := by
  rw [sg_l1, sg_leq hd ⟨by decide, by decide⟩, sg_leq hp hn]
  constructor
  · rintro ⟨a, b⟩
    rw [← b]; exact sg_den1 (by omega)
  · intro h
    rw [h]; exact ⟨rfl, rfl⟩
theorem y_isEnd {post : Int32 → Prop} (hE : sg_EN H en) {k : Nat} (hk : k < 10) (hi : sg_in H k) {p : Rat × Rat} (hS : sg_SP p sp) (hb : sg_b3 p) (h1 : (p = sg_ep H k 0 ∨ p = sg_ep H k 1) → post 1) (h0 : ¬ (p = sg_ep H k 0 ∨ p = sg_ep H k 1) → post 0) : wpY_isEnd post (fo, th, en, pt, sp) (nI k) := by
  obtain ⟨s0, s1, s2, s3⟩ := hS
  obtain ⟨⟨b1, b2, b3⟩, b4, b5, b6⟩ := hb
  obtain ⟨i1, i2, i3, i4, i5, i6, i7, i8⟩ := hi
  have R1 : sg_RL p.1.num := ⟨by omega, by omega⟩
  have R2 : sg_RL p.2.num := ⟨by omega, by omega⟩
  have R3 : sg_RL (p.1.den : Int) := ⟨by omega, by omega⟩
  have R4 : sg_RL (p.2.den : Int) := ⟨by omega, by omega⟩
  have E0 : p = sg_ep H k 0 ↔ ((sg_l (p.1.den : Int) = 1 ∧ sg_l p.1.num = sg_l (sg_lx H k)) ∧ (sg_l (p.2.den : Int) = 1 ∧ sg_l p.2.num = sg_l (sg_ly H k))) := by
    rw [sg_peq R1 R3 ⟨by omega, by omega⟩, sg_peq R2 R4 ⟨by omega, by omega⟩, sg_pext]
    rfl
  have E1 : p = sg_ep H k 1 ↔ ((sg_l (p.1.den : Int) = 1 ∧ sg_l p.1.num = sg_l (sg_hx H k)) ∧ (sg_l (p.2.den : Int) = 1 ∧ sg_l p.2.num = sg_l (sg_hy H k))) := by
    rw [sg_peq R1 R3 ⟨by omega, by omega⟩, sg_peq R2 R4 ⟨by omega, by omega⟩, sg_pext]
    rfl
  rw [E0, E1] at h1 h0
  have tail : ¬ ((sg_l (p.1.den : Int) = 1 ∧ sg_l p.1.num = sg_l (sg_lx H k)) ∧ (sg_l (p.2.den : Int) = 1 ∧ sg_l p.2.num = sg_l (sg_ly H k))) → wY_isEnd_61 post (nI k) 0 fo th en pt sp := by
    intro hn
    unfold wY_isEnd_61
    refine br_t rfl ?_
    rw [s0, s1, s2, s3, y_e2 hE hk, y_e3 hE hk, sg_il (a := sg_hx H k) ⟨by omega, by omega⟩, sg_il (a := sg_hy H k) ⟨by omega, by omega⟩]
    refine br_c (fun a => br_c (fun b => br_c (fun c => br_c (fun d => h1 (Or.inr ⟨⟨a, c⟩, b, d⟩)) (fun d => h0 ?_)) (fun c => h0 ?_)) (fun b => h0 ?_)) (fun a => h0 ?_)
    · rintro (z | z)
      · exact hn z
      · exact d z.2.2
    · rintro (z | z)
      · exact hn z
      · exact c z.1.2
    · rintro (z | z)
      · exact hn z
      · exact b z.2.1
    · rintro (z | z)
      · exact hn z
      · exact a z.1.1
  unfold wpY_isEnd wY_isEnd_60
  dsimp only
  rw [s0, s1, s2, s3, y_e0 hE hk, y_e1 hE hk, sg_il (a := sg_lx H k) ⟨by omega, by omega⟩, sg_il (a := sg_ly H k) ⟨by omega, by omega⟩]
  refine br_c (fun a => br_c (fun b => br_c (fun c => br_c (fun d => ?_) (fun d => tail (fun z => d z.2.2))) (fun c => tail (fun z => c z.1.2))) (fun b => tail (fun z => b z.2.1))) (fun a => tail (fun z => a z.1.1))
  exact br_f (by decide) (h1 (Or.inl ⟨⟨a, c⟩, b, d⟩))
end
