/-! ===== X: the table of meeting points ===== -/
def sg_TX (m : Nat) (T : Nat → Rat × Rat) (tX bX tY bY : Nat → Int32) : Prop := ∀ i, i < m → tX i = sg_i (T i).1.num ∧ bX i = sg_i ((T i).1.den : Int) ∧ tY i = sg_i (T i).2.num ∧ bY i = sg_i ((T i).2.den : Int)
theorem sg_c45 {i : Nat} (h : i < 45) : (nI i).toNatClampNeg = i := nI_clamp (by omega)
theorem sg_in45 {i : Nat} (h : i < 45) : vp_in (nI i) 45 := vp_in_nI h (by decide)
theorem sg_ltpx {p q : Rat × Rat} : sg_ltp p q ↔ (p.1 < q.1 ∨ (p.1 = q.1 ∧ p.2 < q.2)) := Iff.rfl
theorem sg_pext {p q : Rat × Rat} : p = q ↔ (p.1 = q.1 ∧ p.2 = q.2) := Prod.ext_iff
section
variable {P : Nat → Prop} {G : Nat → Int × Int × Int × Int} {pr mc cX cY cB : Int32} {low high tX bX tY bY pa : Nat → Int32}
theorem x_order {post : Int32 → Prop} {m : Nat} {T : Nat → Rat × Rat} (hT : sg_TX m T tX bX tY bY) {i : Nat} (hi : i < m) (hm : m ≤ 45) (bd : sg_bd (T i)) {cx cy cb : Int} {p : Rat × Rat} (h1 : 1 ≤ cb) (h2 : cb ≤ 800) (h3 : 0 ≤ cx) (h4 : cx ≤ 16000) (h5 : 0 ≤ cy) (h6 : cy ≤ 16000) (e1 : p.1 * (cb : Rat) = cx) (e2 : p.2 * (cb : Rat) = cy)
    (h : ∀ r : Int, sg_R r → (r < 0 ↔ sg_ltp (T i) p) → (r = 0 ↔ T i = p) → post (sg_i r)) : wpX_orderAgainstCommon post (pr, mc, sg_i cx, sg_i cy, sg_i cb, low, high, tX, bX, tY, bY, pa) (nI i) := by
  obtain ⟨⟨b1, b2, b3⟩, b4, b5, b6⟩ := bd
  obtain ⟨t1, t2, t3, t4⟩ := hT i hi
  have d1 := sg_dp (T i).1
  have d2 := sg_dp (T i).2
  have v := sg_in45 (show i < 45 by omega)
  unfold wpX_orderAgainstCommon
  dsimp only
  rw [sg_c45 (by omega), t1, t2, t3, t4]
  simp only [sg_imul, sg_isub]
  have w1 := sg_mb (a := (T i).1.num) (b := cb) 16000 800 (by omega) (by omega) (by omega) (by omega)
  have w2 := sg_mb (a := cx) (b := (T i).1.den) 16000 800 (by omega) (by omega) (by omega) (by omega)
  have w3 := sg_mb (a := (T i).2.num) (b := cb) 16000 800 (by omega) (by omega) (by omega) (by omega)
  have w4 := sg_mb (a := cy) (b := (T i).2.den) 16000 800 (by omega) (by omega) (by omega) (by omega)
  have l1 := sg_rlt d1 (show 0 < cb by omega) (sg_nd (T i).1) e1
  have l2 := sg_rlt d2 (show 0 < cb by omega) (sg_nd (T i).2) e2
  have q1 := sg_req d1 (show 0 < cb by omega) (sg_nd (T i).1) e1
  have q2 := sg_req d2 (show 0 < cb by omega) (sg_nd (T i).2) e2
  refine ⟨v, v, nm_e ⟨v, v, nm_e ?_⟩⟩
  rw [sg_iz ⟨by omega, by omega⟩]
  refine br_c (fun c => h _ ⟨by omega, by omega⟩ ?_ ?_) (fun c => h _ ⟨by omega, by omega⟩ ?_ ?_)
  · rw [sg_ltpx, l1, q1, l2]; omega
  · rw [sg_pext, q1, q2]; omega
  · rw [sg_ltpx, l1, q1, l2]; omega
  · rw [sg_pext, q1, q2]; omega
end
theorem x_gcd1 {post : Int32 → Prop} : ∀ (b a s n : Nat), b < n → b + s < 1000000 → a < 2147483648 → 0 < Nat.gcd a b → post (nI (Nat.gcd a b)) → wX_commonDivisor_7 post n (nI a) (nI b) (nI s) := by
  intro b
  induction b using Nat.strongRecOn with
  | _ b ih =>
    intro a s n hn hs ha hg hp
    obtain ⟨n', rfl⟩ : ∃ n', n = n' + 1 := ⟨n - 1, by omega⟩
    refine br_f (nI_ge (b := 1000000) (by omega) (by decide)) ?_
    by_cases hb : b = 0
    · subst hb
      rw [Nat.gcd_zero_right] at hg hp
      exact br_t rfl (br_t (nI_le (a := 1) (by omega) (by omega)) hp)
    · have hne : ¬ nI b = 0 := nI_ne0 (by omega) (by omega)
      refine br_f hne ⟨hne, nm_r (pk_rem ha (by omega) (by omega)) (nm_r (nI_1 s) ?_)⟩
      have hlt : a % b < b := Nat.mod_lt _ (by omega)
      have eg : Nat.gcd b (a % b) = Nat.gcd a b := by rw [Nat.gcd_comm b, ← Nat.gcd_rec, Nat.gcd_comm]
      refine ih (a % b) hlt b (s + 1) n' (by omega) (by omega) (by omega) (by rw [eg]; exact hg) (by rw [eg]; exact hp)
theorem x_gcd {post : Int32 → Prop} {a b : Int} (ha : 0 ≤ a) (ha' : a ≤ 16000) (hb : 1 ≤ b) (hb' : b ≤ 800) (h : post (sg_i (Int.gcd a b : Int))) : wpX_commonDivisor post (sg_i a) (sg_i b) := by
  obtain ⟨n, rfl⟩ := Int.eq_ofNat_of_zero_le ha
  obtain ⟨m, rfl⟩ := Int.eq_ofNat_of_zero_le (show 0 ≤ b by omega)
  rw [Int.gcd_natCast_natCast, ← sg_nI] at h
  rw [← sg_nI, ← sg_nI]
  exact ⟨m + 1, x_gcd1 m n 0 (m + 1) (by omega) (by omega) (by omega) (Nat.gcd_pos_of_pos_right n (by omega)) h⟩
/-! the shift to make room -/
def sg_sh {α : Type} (f : Nat → α) (i m : Nat) : Nat → α := fun k => if i < k ∧ k ≤ m then f (k - 1) else f k
theorem sg_sh_m {α : Type} (f : Nat → α) (m : Nat) : sg_sh f m m = f := by funext k; exact if_neg (by omega)
theorem sg_sh_s (f : Nat → Int32) (i m : Nat) (h : i + 1 ≤ m) : upd (sg_sh f (i + 1) m) (i + 1) (sg_sh f (i + 1) m i) = sg_sh f i m := by
  funext k
  unfold upd sg_sh
  by_cases c : k = i + 1
  · subst c
    rw [if_pos rfl, if_neg (by omega), if_pos (by omega)]
    rfl
  · rw [if_neg c]
    by_cases d : i + 1 < k ∧ k ≤ m
    · rw [if_pos d, if_pos (by omega)]
    · rw [if_neg d, if_neg (by omega)]
theorem sg_sh_ins {α : Type} (f : Nat → α) (n m : Nat) (v : α) (g : Nat → α) (hg : ∀ k, k ≠ n → g k = sg_sh f n m k) (hv : g n = v) : ∀ k, k < m + 1 → g k = sg_ins f n v k := by
  intro k hk
  rcases Nat.lt_trichotomy k n with c | c | c
  · rw [hg k (by omega), sg_ins_l c]; exact if_neg (by omega)
  · subst c; rw [hv, sg_ins_e]
  · rw [hg k (by omega), sg_ins_g c]; exact if_pos (by omega)
section
variable {P : Nat → Prop} {G : Nat → Int × Int × Int × Int} {pr mc cX cY cB : Int32} {low high tX bX tY bY pa : Nat → Int32}
theorem x_makeRoom {post : SX → Prop} {m n : Nat} (hn : n ≤ m) (hm : m < 45)
    (h : post (pr, nI (m + 1), cX, cY, cB, low, high, sg_sh tX n m, sg_sh bX n m, sg_sh tY n m, sg_sh bY n m, sg_sh pa n m)) : wpX_makeRoom post (pr, nI m, cX, cY, cB, low, high, tX, bX, tY, bY, pa) (nI n) := by
  have key : ∀ d i, n + d = i → i ≤ m → wX_makeRoom_5 post (nI n) pr (nI m) cX cY cB (d + 1) (nI i) low high (sg_sh tX i m) (sg_sh bX i m) (sg_sh tY i m) (sg_sh bY i m) (sg_sh pa i m) := by
    intro d
    induction d with
    | zero =>
      intro i hi hm'
      have : i = n := by omega
      subst this
      exact br_t (nI_le (Nat.le_refl _) (by omega)) (nm_r (nI_1 m) h)
    | succ d ih =>
      intro i hi hm'
      obtain ⟨e, rfl⟩ : ∃ e, i = e + 1 := ⟨i - 1, by omega⟩
      have v := sg_in45 (show e < 45 by omega)
      have v' := sg_in45 (show e + 1 < 45 by omega)
      have c := sg_c45 (show e < 45 by omega)
      have c' := sg_c45 (show e + 1 < 45 by omega)
      refine br_f (nI_ge (by omega) (by omega)) ?_
      rw [nI_pred, c, c']
      refine ⟨v, v', nm_r (sg_sh_s tX e m hm') ⟨v, v', nm_r (sg_sh_s bX e m hm') ⟨v, v', nm_r (sg_sh_s tY e m hm') ⟨v, v', nm_r (sg_sh_s bY e m hm') ⟨v, v', nm_r (sg_sh_s pa e m hm') (nm_r (pk_m1 e) ?_)⟩⟩⟩⟩⟩
      exact ih e (by omega) (by omega)
  have := key (m - n) m (by omega) (Nat.le_refl _)
  simp only [sg_sh_m] at this
  exact ⟨_, this⟩
theorem x_store {post : SX → Prop} {n : Nat} (hn : n < 45) {cx cy cb : Int} (h1 : 1 ≤ cb) (h2 : cb ≤ 800) (h3 : 0 ≤ cx) (h4 : cx ≤ 16000) (h5 : 0 ≤ cy) (h6 : cy ≤ 16000) {p : Rat × Rat} (e1 : p.1 * (cb : Rat) = cx) (e2 : p.2 * (cb : Rat) = cy)
    (h : post (pr, mc, sg_i cx, sg_i cy, sg_i cb, low, high, upd tX n (sg_i p.1.num), upd bX n (sg_i (p.1.den : Int)), upd tY n (sg_i p.2.num), upd bY n (sg_i (p.2.den : Int)), pa)) : wpX_storeCommonPoint post (pr, mc, sg_i cx, sg_i cy, sg_i cb, low, high, tX, bX, tY, bY, pa) (nI n) := by
  have v := sg_in45 hn
  obtain ⟨r1, r2⟩ := sg_red (show 0 < cb by omega) h3 e1
  obtain ⟨r3, r4⟩ := sg_red (show 0 < cb by omega) h5 e2
  have g1 : 0 < (Int.gcd cx cb : Int) := by have := Int.gcd_pos_of_ne_zero_right cx (show cb ≠ 0 by omega); omega
  have g2 : 0 < (Int.gcd cy cb : Int) := by have := Int.gcd_pos_of_ne_zero_right cy (show cb ≠ 0 by omega); omega
  have u1 : (Int.gcd cx cb : Int) ≤ cb := Int.le_of_dvd (by omega) (Int.gcd_dvd_right ..)
  have u2 : (Int.gcd cy cb : Int) ≤ cb := Int.le_of_dvd (by omega) (Int.gcd_dvd_right ..)
  have z1 : ¬ sg_i (Int.gcd cx cb : Int) = 0 := by rw [sg_iz ⟨by omega, by omega⟩]; omega
  have z2 : ¬ sg_i (Int.gcd cy cb : Int) = 0 := by rw [sg_iz ⟨by omega, by omega⟩]; omega
  unfold wpX_storeCommonPoint
  dsimp only
  refine x_gcd h3 h4 h1 h2 (x_gcd h5 h6 h1 h2 ?_)
  rw [sg_c45 hn, sg_idiv h3 (by omega) g1 (by omega), sg_idiv (show 0 ≤ cb by omega) (by omega) g1 (by omega), sg_idiv h5 (by omega) g2 (by omega), sg_idiv (show 0 ≤ cb by omega) (by omega) g2 (by omega), ← r1, ← r2, ← r3, ← r4]
  exact ⟨z1, v, nm_e ⟨z1, v, nm_e ⟨z2, v, nm_e ⟨z2, v, nm_e h⟩⟩⟩⟩
def sg_IX (P : Nat → Prop) (G : Nat → Int × Int × Int × Int) (R : Nat → Nat → Prop) (m : Nat) (T : Nat → Rat × Rat) (tX bX tY bY pa : Nat → Int32) : Prop := sg_Cov P G R m T ∧ sg_Msk P G R m T pa ∧ sg_TX m T tX bX tY bY
theorem x_record {post : SX → Prop} {R : Nat → Nat → Prop} {m : Nat} {T : Nat → Rat × Rat} (I : sg_IX P G R m T tX bX tY bY pa) (g : sg_Geo P G) {j k : Nat} (hj : j < 10) (hk : k < 10) (hne : j ≠ k) (pj : P j) (pk : P k) (hm : m < 45)
    {cx cy cb : Int} {p : Rat × Rat} (h1 : 1 ≤ cb) (h2 : cb ≤ 800) (h3 : 0 ≤ cx) (h4 : cx ≤ 16000) (h5 : 0 ≤ cy) (h6 : cy ≤ 16000) (e1 : p.1 * (cb : Rat) = cx) (e2 : p.2 * (cb : Rat) = cy) (oj : sg_on G j p) (ok : sg_on G k p) {x : Int32} (hx : sg_M x (fun i => i = j ∨ i = k))
    (h : ∀ m' T' tX' bX' tY' bY' pa', m' ≤ m + 1 → sg_IX P G (sg_R1 R j k) m' T' tX' bX' tY' bY' pa' → post (pr, nI m', sg_i cx, sg_i cy, sg_i cb, low, high, tX', bX', tY', bY', pa')) :
    wpX_recordCommonPoint post (pr, nI m, sg_i cx, sg_i cy, sg_i cb, low, high, tX, bX, tY, bY, pa) x := by
  obtain ⟨hC, hM, hT⟩ := I
  have hU : ∀ q, sg_on G j q → sg_on G k q → q = p := fun q a b => g.2.2 j k hj hk pj pk hne q p a b oj ok
  have hb : sg_bd p := by
    have a := sg_redb (show 0 < cb by omega) h3 e1
    have b := sg_redb (show 0 < cb by omega) h5 e2
    exact ⟨⟨by omega, by omega, by omega⟩, by omega, by omega, by omega⟩
  -- the point is new, and belongs at n
  have fresh : ∀ n, n ≤ m → (∀ i, i < n → sg_ltp (T i) p) → (∀ i, n ≤ i → i < m → sg_ltp p (T i)) →
      wX_recordCommonPoint_53 post x (nI n) pr (nI m) (sg_i cx) (sg_i cy) (sg_i cb) low high tX bX tY bY pa := by
    intro n hn lo hi
    have hn45 : n < 45 := by omega
    have hnot : ∀ i, i < m → T i ≠ p := by
      intro i him e
      rcases Nat.lt_or_ge i n with q | q
      · have := lo i q; rw [e] at this; exact sg_ltp_irr _ this
      · have := hi i q him; rw [e] at this; exact sg_ltp_irr _ this
    refine br_f (nI_ge (b := 45) hm (by decide)) (x_makeRoom hn hm (x_store hn45 h1 h2 h3 h4 h5 h6 e1 e2 ⟨sg_in45 hn45, ?_⟩))
    rw [sg_c45 hn45]
    refine nm_e (h (m + 1) (sg_ins T n p) _ _ _ _ _ (Nat.le_refl _) ⟨sg_Cov_new hC hj hk hne pj pk oj ok hb hU hn lo hi, ?_, ?_⟩)
    · have := sg_Msk_new hC hM hj hk pj pk oj ok hx hU hn hnot
      intro i hi
      rw [sg_sh_ins pa n m x (upd (sg_sh pa n m) n x) (fun k hk => pk_un hk) pk_us i hi]
      exact this i hi
    · intro i hi
      rw [sg_sh_ins tX n m _ (upd (sg_sh tX n m) n _) (fun k hk => pk_un hk) pk_us i hi, sg_sh_ins bX n m _ (upd (sg_sh bX n m) n _) (fun k hk => pk_un hk) pk_us i hi,
        sg_sh_ins tY n m _ (upd (sg_sh tY n m) n _) (fun k hk => pk_un hk) pk_us i hi, sg_sh_ins bY n m _ (upd (sg_sh bY n m) n _) (fun k hk => pk_un hk) pk_us i hi]
      rcases Nat.lt_trichotomy i n with c | c | c
      · simp only [sg_ins_l c]; exact hT i (by omega)
      · subst c; simp only [sg_ins_e]; exact ⟨trivial, trivial, trivial, trivial⟩
      · simp only [sg_ins_g c]; exact hT (i - 1) (by omega)
  -- the loop has stopped at n
  have stop : ∀ n, n ≤ m → (∀ i, i < n → sg_ltp (T i) p) → (n < m → ¬ sg_ltp (T n) p) →
      wX_recordCommonPoint_24 post x (nI n) pr (nI m) (sg_i cx) (sg_i cy) (sg_i cb) low high tX bX tY bY pa := by
    intro n hn lo hs
    rcases Nat.lt_or_ge n m with c | c
    · refine br_f (nI_ge c (by omega)) (x_order hT c (by omega) (hC.2.1 n c) h1 h2 h3 h4 h5 h6 e1 e2 (fun r hr l e => ?_))
      rw [sg_iz hr, e]
      refine br_c (fun q => ?_) (fun q => ?_)
      · have v := sg_in45 (show n < 45 by omega)
        rw [sg_c45 (show n < 45 by omega)]
        exact ⟨v, v, nm_e (h m T _ _ _ _ _ (by omega) ⟨sg_Cov_old hC hU c q, sg_Msk_old hC hM hj hk pj pk oj ok hx hU c q, hT⟩)⟩
      · refine fresh n hn lo (fun i hi him => ?_)
        have z : sg_ltp p (T n) := by
          rcases sg_ltp_tri (T n) p with a | a | a
          · exact absurd a (hs c)
          · exact absurd a q
          · exact a
        rcases sg_srt_le hC.1 hi him with a | a
        · exact sg_ltp_tr z a
        · rw [← a]; exact z
    · exact br_t (nI_le c (by omega)) (fresh n hn lo (fun i hi him => absurd him (by omega)))
  have key : ∀ d n, n + d = m → (∀ i, i < n → sg_ltp (T i) p) → wX_recordCommonPoint_2 post x pr (nI m) (sg_i cx) (sg_i cy) (sg_i cb) low high tX bX tY bY pa (d + 1) (nI n) := by
    intro d
    induction d with
    | zero =>
      intro n hn lo
      exact br_t (nI_le (by omega) (by omega)) (stop n (by omega) lo (fun c => absurd c (by omega)))
    | succ d ih =>
      intro n hn lo
      have c : n < m := by omega
      refine br_f (nI_ge c (by omega)) (x_order hT c (by omega) (hC.2.1 n c) h1 h2 h3 h4 h5 h6 e1 e2 (fun r hr l e => ?_))
      rw [sg_iz0 hr]
      refine br_c (fun q => stop n (by omega) lo (fun _ a => ?_)) (fun q => ?_)
      · have := l.mpr a; omega
      · refine nm_r (nI_1 n) (ih (n + 1) (by omega) ?_)
        intro i hi
        rcases Nat.lt_succ_iff_lt_or_eq.mp hi with a | a
        · exact lo i a
        · subst a; exact l.mp (by omega)
  exact ⟨m + 1, key m 0 (by omega) (fun i hi => absurd hi (by omega))⟩
/-- the pairs that X has looked at, at (j, k) -/
def sg_RX (j k : Nat) : Nat → Nat → Prop := fun a b => a < b ∧ b < 10 ∧ (a < j ∨ (a = j ∧ b < k))
def sg_cX (j : Nat) : Nat := j * (19 - j) / 2
theorem sg_cXs : ∀ j, j < 10 → sg_cX j + (9 - j) = sg_cX (j + 1) ∧ sg_cX (j + 1) ≤ 45 := by decide
theorem sg_IXc {R S : Nat → Nat → Prop} {m : Nat} {T : Nat → Rat × Rat} (I : sg_IX P G R m T tX bX tY bY pa) (e : ∀ a b, S a b ↔ R a b) : sg_IX P G S m T tX bX tY bY pa :=
  ⟨sg_Cov_c I.1 (fun a b => (e a b).mp), sg_Msk_c I.2.1 e, I.2.2⟩
theorem sg_IXn {R : Nat → Nat → Prop} {m : Nat} {T : Nat → Rat × Rat} (I : sg_IX P G R m T tX bX tY bY pa) {j k : Nat} (hn : ∀ p, P j → P k → sg_on G j p → sg_on G k p → False) : sg_IX P G (sg_R1 R j k) m T tX bX tY bY pa :=
  ⟨sg_Cov_none I.1 hn, sg_Msk_none I.2.1 hn, I.2.2⟩
theorem x_inner {post : SX → Prop} {J : Int32 → Int32 → Int32 → Int32 → Int32 → Int32 → (Nat → Int32) → (Nat → Int32) → (Nat → Int32) → (Nat → Int32) → (Nat → Int32) → (Nat → Int32) → (Nat → Int32) → Prop}
    (g : sg_Geo P G) (hP : sg_M pr P) (hl : sg_LH G low high) {j : Nat} (hj : j < 10)
    (h : ∀ m T cX cY cB tX bX tY bY pa, m ≤ sg_cX (j + 1) → sg_IX P G (sg_RX (j + 1) (j + 2)) m T tX bX tY bY pa → J (nI (j + 1)) pr (nI m) cX cY cB low high tX bX tY bY pa) :
    ∀ d k, k + d = 10 → j < k → ∀ m T cX cY cB tX bX tY bY pa, m ≤ sg_cX j + (k - j - 1) → sg_IX P G (sg_RX j k) m T tX bX tY bY pa → wX_findMeetings_17 post J (nI j) (d + 1) (nI k) pr (nI m) cX cY cB low high tX bX tY bY pa := by
  intro d
  induction d with
  | zero =>
    intro k hk hjk m T cX cY cB tX bX tY bY pa hm I
    have : k = 10 := by omega
    subst this
    have := sg_cXs j hj
    refine br_t sg_e10 (nm_r (nI_1 j) (h m T cX cY cB tX bX tY bY pa (by omega) (sg_IXc I ?_)))
    intro a b; unfold sg_RX; omega
  | succ d ih =>
    intro k hk hjk m T cX cY cB tX bX tY bY pa hm I
    have hk' : k < 10 := by omega
    have cx := sg_cXs j hj
    have eR : ∀ a b, sg_RX j (k + 1) a b ↔ sg_R1 (sg_RX j k) j k a b := by
      intro a b; unfold sg_RX sg_R1; omega
    have skip : (∀ p, P j → P k → sg_on G j p → sg_on G k p → False) → ∀ z, z = nI k + 1 → wX_findMeetings_17 post J (nI j) (d + 1) z pr (nI m) cX cY cB low high tX bX tY bY pa := by
      intro hn
      exact nm_r (nI_1 k) (ih (k + 1) (by omega) (by omega) m T cX cY cB tX bX tY bY pa (by omega) (sg_IXc (sg_IXn I hn) eR))
    refine br_f (sg_n10 hk') (x_isPresent hP hj (fun pj => br_f (by decide) (x_isPresent hP hk' (fun pk => br_f (by decide) ?_) (fun pk => br_t rfl (skip (fun _ _ q _ _ => pk q))))) (fun pj => br_t rfl (skip (fun _ q _ _ _ => pj q))))
    refine x_common g hl hj hk' (by omega) pj pk (fun cx cy cb p h1 h2 h3 h4 h5 h6 e1 e2 oj ok => br_f (by decide) ?_) (fun hn => br_t rfl (skip (fun p _ _ => hn p)))
    refine x_record I g hj hk' (by omega) pj pk (by omega) h1 h2 h3 h4 h5 h6 e1 e2 oj ok (sg_Mor (sg_M1 hj) (sg_M1 hk')) (fun m' T' tX' bX' tY' bY' pa' hm' I' => ?_)
    exact nm_r (nI_1 k) (ih (k + 1) (by omega) (by omega) m' T' _ _ _ tX' bX' tY' bY' pa' (by omega) (sg_IXc I' eR))
theorem x_outer {post : SX → Prop} (g : sg_Geo P G) (hP : sg_M pr P) (hl : sg_LH G low high)
    (h : ∀ m T cX cY cB tX bX tY bY pa, m ≤ 45 → sg_IX P G (sg_RX 10 11) m T tX bX tY bY pa → post (pr, nI m, cX, cY, cB, low, high, tX, bX, tY, bY, pa)) :
    ∀ d j, j + d = 10 → ∀ m T cX cY cB tX bX tY bY pa, m ≤ sg_cX j → sg_IX P G (sg_RX j (j + 1)) m T tX bX tY bY pa → wX_findMeetings_7 post (d + 1) (nI j) pr (nI m) cX cY cB low high tX bX tY bY pa := by
  intro d
  induction d with
  | zero =>
    intro j hj m T cX cY cB tX bX tY bY pa hm I
    have : j = 10 := by omega
    subst this
    exact br_t sg_e10 (h m T cX cY cB tX bX tY bY pa hm I)
  | succ d ih =>
    intro j hj m T cX cY cB tX bX tY bY pa hm I
    have hj' : j < 10 := by omega
    refine br_f (sg_n10 hj') (nm_r (nI_1 j) ⟨_, x_inner g hP hl hj' (fun m T cX cY cB tX bX tY bY pa hm I => ?_) (9 - j) (j + 1) (by omega) (by omega) m T cX cY cB tX bX tY bY pa (by omega) I⟩)
    exact ih (j + 1) (by omega) m T cX cY cB tX bX tY bY pa hm I
theorem x_findMeetings {post : SX → Prop} (g : sg_Geo P G) (hP : sg_M pr P) (hl : sg_LH G low high)
    (h : ∀ m T cX cY cB tX bX tY bY pa, m ≤ 45 → sg_Ex P G m T → sg_TX m T tX bX tY bY → (∀ i, i < m → sg_M (pa i) (fun k => P k ∧ sg_on G k (T i))) → post (pr, nI m, cX, cY, cB, low, high, tX, bX, tY, bY, pa)) : wpX_findMeetings post (pr, mc, cX, cY, cB, low, high, tX, bX, tY, bY, pa) := by
  have eR : ∀ a b, a < 10 → b < 10 → a ≠ b → sg_RX 10 11 a b ∨ sg_RX 10 11 b a := by intro a b ha hb hne; unfold sg_RX; omega
  refine ⟨11, x_outer g hP hl (fun m T cX cY cB tX bX tY bY pa hm I => ?_) 10 0 rfl 0 (fun _ => (0, 0)) cX cY cB tX bX tY bY pa (by decide) ⟨⟨?_, ?_, ?_, ?_⟩, ?_, ?_⟩⟩
  · exact h m T cX cY cB tX bX tY bY pa hm (sg_Ex_of I.1 eR) I.2.2 (sg_Msk_of I.1 I.2.1 eR)
  · intro i j _ hj; omega
  · intro i hi; omega
  · intro i hi; omega
  · intro a b p hr; unfold sg_RX at hr; omega
  · intro i hi; omega
  · intro i hi; omega
end
