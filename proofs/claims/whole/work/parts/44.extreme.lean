/-! ===== LEAST TERMS; THE CLASS's ANSWERS ===== -/
theorem lN_of {x : Int64} {p : Nat} (h : x.toInt = (p : Int)) (hp : p < 2 ^ 63) : x = lN p := Int64.toInt_inj.mp (by rw [h, pk_lT hp])
theorem gcd_l (σ : mS) (τ : mT) : ∀ (t a c k n : Nat), c < 2 ^ t → k + 2 * t < 200 → 2 * t < n → 0 < a ∨ 0 < c → a < 2 ^ 62 → c < 2 ^ 62 → B_commonDivisor_l15 n (lN a) (lN c) (nI k) σ τ = some (lN (Nat.gcd a c), σ, τ) := by
  have fin : ∀ (a : Nat), 0 < a → a < 2 ^ 62 → B_commonDivisor_b51 (lN a) σ τ = some (lN a, σ, τ) := fun a h1 h2 => by
    unfold B_commonDivisor_b51
    rw [if_neg (fun z => by have := (lc_eq0 _).mp z; rw [pk_lT (by omega)] at this; omega)]
  have c0 : ∀ (a n k : Nat), k < 200 → 0 < n → 0 < a → a < 2 ^ 62 → B_commonDivisor_l15 n (lN a) (lN 0) (nI k) σ τ = some (lN a, σ, τ) := fun a n k hk hn h1 h2 => by
    obtain ⟨n, rfl⟩ : ∃ n', n = n' + 1 := ⟨n - 1, by omega⟩
    unfold B_commonDivisor_l15
    rw [show (200 : Int32) = nI 200 from rfl, if_neg (nI_ge hk (by omega)), if_pos ((lc_eq0 _).mpr (by rw [pk_lT (by omega)]; rfl))]
    exact fin a h1 h2
  have one : ∀ (a c n k : Nat), k < 200 → 0 < c → a < 2 ^ 62 → c < 2 ^ 62 → B_commonDivisor_l15 (n + 1) (lN a) (lN c) (nI k) σ τ = B_commonDivisor_l15 n (lN c) (lN (a % c)) (nI (k + 1)) σ τ := fun a c n k hk hc h1 h2 => by
    rw [B_commonDivisor_l15, show (200 : Int32) = nI 200 from rfl, if_neg (nI_ge hk (by omega)), if_neg (fun z => by have := (lc_eq0 _).mp z; rw [pk_lT (by omega)] at this; omega), if_neg (fun z => by
      have : (lN c).toInt = 0 := by rw [z]; rfl
      rw [pk_lT (by omega)] at this
      omega), pk_lRem (by omega) hc (by omega), nI_1]
  intro t
  induction t with
  | zero =>
    intro a c k n hc hk hn hp ha _
    have : c = 0 := by simpa using hc
    subst this
    rw [Nat.gcd_zero_right]
    exact c0 a n k (by omega) (by omega) (by omega) ha
  | succ t ih =>
    intro a c k n hc hk hn hp ha hc2
    by_cases h0 : c = 0
    · subst h0
      rw [Nat.gcd_zero_right]
      exact c0 a n k (by omega) (by omega) (by omega) ha
    · obtain ⟨n, rfl⟩ : ∃ n', n = n' + 2 := ⟨n - 2, by omega⟩
      have hlt := Nat.mod_lt a (show 0 < c by omega)
      rw [one a c (n + 1) k (by omega) (by omega) ha hc2]
      have g1 : Nat.gcd a c = Nat.gcd c (a % c) := by rw [Nat.gcd_comm a c, Nat.gcd_rec, Nat.gcd_comm]
      rw [g1]
      by_cases h1 : a % c = 0
      · rw [h1, Nat.gcd_zero_right]
        exact c0 c (n + 1) (k + 1) (by omega) (by omega) (by omega) hc2
      · rw [one c (a % c) n (k + 1) (by omega) (by omega) hc2 (by omega)]
        have g2 : Nat.gcd c (a % c) = Nat.gcd (a % c) (c % (a % c)) := by rw [Nat.gcd_comm c, Nat.gcd_rec, Nat.gcd_comm]
        rw [g2]
        have b1 := Nat.mod_lt c (show 0 < a % c by omega)
        have b2 : c % (a % c) + (a % c) ≤ c := by
          have e := Nat.div_add_mod c (a % c)
          have : 1 ≤ c / (a % c) := (Nat.one_le_div_iff (by omega)).mpr (by omega)
          have := Nat.mul_le_mul_left (a % c) this
          omega
        have b3 : c % (a % c) < 2 ^ t := by
          rw [Nat.pow_succ] at hc
          omega
        exact ih (a % c) (c % (a % c)) (k + 1 + 1) n b3 (by omega) (by omega) (by omega) (by omega) (by omega)
theorem gcd_ok (σ : mS) (τ : mT) {x y : Int64} {p q : Nat} (hx : x.toInt = (p : Int)) (hy : y.toInt = (q : Int)) (hq : 0 < q) (hp1 : p ≤ 4600000000) (hq1 : q ≤ 84934656) : B_commonDivisor x y σ τ = some (lN (Nat.gcd p q), σ, τ) := by
  have ex : x = lN p := lN_of hx (by omega)
  have ey : y = lN q := lN_of hy (by omega)
  have ja : ∀ (k : Nat), k < 2 ^ 62 → jabs (lN k) = lN k := fun k hk => by
    unfold jabs
    by_cases h : 0 < k
    · rw [if_pos (show (0 : Int64) < lN k from by
        rw [Int64.lt_iff_toInt_lt, pk_lT (by omega)]
        show (0 : Int) < _
        omega)]
    · have : k = 0 := by omega
      subst this
      rfl
  unfold B_commonDivisor
  rw [ex, ey, ja p (by omega), ja q (by omega)]
  exact gcd_l σ τ 34 p q 0 mc_F (by have : (2 : Nat) ^ 34 = 17179869184 := rfl; omega) (by omega) (by unfold mc_F; omega) (Or.inr hq) (by omega) (by omega)
section EX
variable {m N : Nat} {A : Nat → Nat → Int} {b : Nat → Int}
/-- a corner: a tableau of real variables -/
def lp_cn (m N : Nat) (A : Nat → Nat → Int) (b : Nat → Int) (T : tb_T) : Prop := tb_I m N A b T ∧ ∀ i, i < m → T.2.2.2 i < N
theorem lp_cn.sol {T : tb_T} (hN : N ≤ 13) (h : lp_cn m N A b T) : lp_sol N A b (tb_pt m T) T.1 := tb_sol hN h.1 (fun i hi hn => absurd (h.2 i hi) hn)
/-- a fraction of a corner's number, in least terms -/
def lp_num (m : Nat) (T : tb_T) (u : Nat) : Nat := (tb_pt m T u).toNat / Nat.gcd (tb_pt m T u).toNat T.1.toNat
def lp_den (m : Nat) (T : tb_T) (u : Nat) : Nat := T.1.toNat / Nat.gcd (tb_pt m T u).toNat T.1.toNat
theorem bp_numden (K : lp_ok m N A b) {T : tb_T} {σ : mS} {τ : mT} (R : bp_R m N T σ τ) (h : lp_cn m N A b T) {u : Nat} (hu : u < N) : B_numerator (nI u) σ τ = some (lN (lp_num m T u), σ, τ) ∧ B_denominator (nI u) σ τ = some (lN (lp_den m T u), σ, τ) := by
  have B := K.B h.1.1
  have hN := R.2.1
  have hm := R.1
  obtain ⟨hJ, hD, hs⟩ := h.1
  have hDn : T.1 = ((T.1.toNat : Nat) : Int) := by omega
  unfold B_numerator B_denominator
  rw [bp_gives R (by omega), ob_some, ob_some]
  cases hg : tb_row m T.2.2.2 u with
  | none =>
    have h0 : tb_pt m T u = 0 := tb_pt_0 (tb_row_none hg)
    rw [if_neg opt_neg, if_neg opt_neg]
    unfold lp_num lp_den
    rw [h0]
    have e1 : Nat.gcd (0 : Int).toNat T.1.toNat = T.1.toNat := Nat.gcd_zero_left _
    rw [e1, Nat.div_self (by omega)]
    have e2 : (0 : Int).toNat / T.1.toNat = 0 := Nat.zero_div _
    rw [e2]
    exact ⟨rfl, rfl⟩
  | some k =>
    obtain ⟨g1, g2⟩ := tb_row_some hg
    have h0 : tb_pt m T u = T.2.2.1 k := by rw [← g2]; exact tb_pt_at hJ g1
    rw [if_pos (opt_pos (by omega)), if_pos (opt_pos (by omega))]
    show (if nI k < 0 ∨ 8 ≤ (nI k).toNatClampNeg then none else _) = _ ∧ (if nI k < 0 ∨ 8 ≤ (nI k).toNatClampNeg then none else _) = _
    rw [if_neg (nin (show k < 8 by omega) (by omega)), if_neg (nin (show k < 8 by omega) (by omega))]
    show ob (B_commonDivisor (τ (17 + (nI k).toNatClampNeg) 13) _ _ _) _ = _ ∧ ob (B_commonDivisor (τ (17 + (nI k).toNatClampNeg) 13) _ _ _) _ = _
    rw [ncl (show k < 2 ^ 31 by omega)]
    have hsk := hs k g1
    have b3 := B.2.2 k g1
    have b1 := B.1
    have ex : (τ (17 + k) 13).toInt = ((T.2.2.1 k).toNat : Int) := by rw [R.2.2.2.2.2.2.1 k g1]; omega
    have ey : (τ 15 5).toInt = (T.1.toNat : Int) := by rw [R.2.2.2.2.1]; exact hDn
    rw [gcd_ok σ τ ex ey (by omega) (by omega) (by omega), ob_some, ob_some]
    have hgp : 0 < Nat.gcd (T.2.2.1 k).toNat T.1.toNat := Nat.gcd_pos_of_pos_right _ (by omega)
    have hgl : Nat.gcd (T.2.2.1 k).toNat T.1.toNat ≤ T.1.toNat := Nat.gcd_le_right _ (by omega)
    have gne : ¬ lN (Nat.gcd (T.2.2.1 k).toNat T.1.toNat) = 0 := fun z => by
      have : (lN (Nat.gcd (T.2.2.1 k).toNat T.1.toNat)).toInt = 0 := by rw [z]; rfl
      rw [pk_lT (by omega)] at this
      omega
    rw [if_neg gne, if_neg gne, show (opt32 (some k)).toNatClampNeg = k from ncl (by omega), lN_of ex (by omega), lN_of ey (by omega), pk_lDiv (by omega) hgp (by omega), pk_lDiv (by omega) hgp (by omega)]
    unfold lp_num lp_den
    rw [h0]
    exact ⟨rfl, rfl⟩
/-- EXTREME: what the class answers -/
theorem bp_extreme (K : lp_ok m N A b) {σ : mS} {τ : mT} (R : bp_R m N (tb_0 A b) σ τ) {u : Nat} (hu : u < N) {wh : Nat} (hw : wh < 4) :
    ∃ r σ' τ', R_extreme (nI u) (nI wh) σ τ = some (r, σ', τ') ∧ bp_F σ τ σ' τ' ∧
      ((¬ lp_fe N A b ∧ r = -9) ∨ (lp_fe N A b ∧ wh < 2 ∧ ∃ T, lp_cn m N A b T ∧ (∀ y t, lp_sol N A b y t → t * tb_pt m T u ≤ T.1 * y u) ∧ r = lN (if wh % 2 = 0 then lp_num m T u else lp_den m T u)) ∨
       (lp_fe N A b ∧ 2 ≤ wh ∧ r = -5 ∧ ∃ y : Nat → Int, (∀ x, x < N → 0 ≤ y x) ∧ 0 < y u ∧ ∀ q, sm N (fun x => y x * A x q) = 0) ∨
       (lp_fe N A b ∧ 2 ≤ wh ∧ ∃ T, lp_cn m N A b T ∧ (∀ y t, lp_sol N A b y t → T.1 * y u ≤ t * tb_pt m T u) ∧ r = lN (if wh % 2 = 0 then lp_num m T u else lp_den m T u))) := by
  have fin : ∀ {T : tb_T} {σ : mS} {τ : mT}, bp_R m N T σ τ → lp_cn m N A b T → R_extreme_b45 (nI u) (nI wh) σ τ = some (lN (if wh % 2 = 0 then lp_num m T u else lp_den m T u), σ, τ) := by
    intro T σ τ R h
    obtain ⟨n1, n2⟩ := bp_numden K R h hu
    unfold R_extreme_b45
    rw [show (2 : Int32) = nI 2 from rfl, pk_rem (by omega) (by omega) (by omega), n1, n2, ob_some, ob_some]
    by_cases q : wh % 2 = 0
    · rw [q, if_pos nI_0, if_pos rfl]
    · rw [if_neg (nI_ne0 (by omega) (by omega)), if_neg q]
  unfold R_extreme
  obtain ⟨σ1, τ1, f1, hs⟩ := bp_solve K R
  rcases hs with ⟨hfe, s1, T, t1, t2, t3⟩ | ⟨hfe, s1⟩
  · rw [s1, ob_some, if_neg (by decide), show (2 : Int32) = nI 2 from rfl]
    by_cases h2 : 2 ≤ wh
    · rw [if_pos (nI_le h2 (by omega))]
      -- the greatest
      have more : ∀ (T : tb_T) (σ1 : mS) (τ1 : mT), bp_R m N T σ1 τ1 → tb_I m N A b T → (∀ i, i < m → T.2.2.2 i < N) → (∃ row, row < m ∧ T.2.2.2 row = u) →
          ∃ T' σ' τ', B_makeGreatest_l28 mc_F (nI u) 0 σ1 τ1 = some (if tb_en (tb_r m (tb_wn u) T') N = none then 1 else 0, σ', τ') ∧ bp_R m N T' σ' τ' ∧ lp_cn m N A b T' ∧ tb_step m N (tb_wn u) T' = none ∧ bp_F σ1 τ1 σ' τ' := by
        intro T σ1 τ1 t1 t2 t3 hb
        obtain ⟨σ', τ', T', q1, q2, q3, q4, q5⟩ := bp_most_l K hu 100000 0 mc_F T σ1 τ1 (by omega) (by unfold mc_F; omega) t1 t2 hb (tb_fin_ok K.1 K.2.1 _ t2 (by omega))
        have hc : lp_cn m N A b T' := by
          rw [q2]
          exact tb_run_keep (fun T => lp_cn m N A b T) (fun T T1 h hs => ⟨tb_step_I K.1 h.1 hs, tb_real_step h.2 hs⟩) _ _ ⟨t2, t3⟩
        exact ⟨T', σ', τ', q1, q4, hc, q3, q5⟩
      have done : ∀ (T' : tb_T) (σ0 : mS) (τ0 : mT) (σ' : mS) (τ' : mT), bp_R m N T' σ' τ' → lp_cn m N A b T' → tb_step m N (tb_wn u) T' = none → bp_F σ τ σ' τ' →
          ∃ r σ'' τ'', (if (if tb_en (tb_r m (tb_wn u) T') N = none then (1 : Int32) else 0) = 0 then some ((-5 : Int64), σ', τ') else R_extreme_b45 (nI u) (nI wh) σ' τ') = some (r, σ'', τ'') ∧ bp_F σ τ σ'' τ'' ∧
          ((¬ lp_fe N A b ∧ r = -9) ∨ (lp_fe N A b ∧ wh < 2 ∧ ∃ T, lp_cn m N A b T ∧ (∀ y t, lp_sol N A b y t → t * tb_pt m T u ≤ T.1 * y u) ∧ r = lN (if wh % 2 = 0 then lp_num m T u else lp_den m T u)) ∨
           (lp_fe N A b ∧ 2 ≤ wh ∧ r = -5 ∧ ∃ y : Nat → Int, (∀ x, x < N → 0 ≤ y x) ∧ 0 < y u ∧ ∀ q, sm N (fun x => y x * A x q) = 0) ∨
           (lp_fe N A b ∧ 2 ≤ wh ∧ ∃ T, lp_cn m N A b T ∧ (∀ y t, lp_sol N A b y t → T.1 * y u ≤ t * tb_pt m T u) ∧ r = lN (if wh % 2 = 0 then lp_num m T u else lp_den m T u))) := by
        intro T' σ0 τ0 σ' τ' d1 d2 d3 d4
        rcases tb_most K.1 d2.1 d2.2 hu d3 with ⟨e1, e2⟩ | ⟨e1, e2⟩
        · rw [if_pos e1, if_neg (by decide), fin d1 d2]
          exact ⟨_, _, _, rfl, d4, Or.inr (Or.inr (Or.inr ⟨hfe, h2, T', d2, e2, rfl⟩))⟩
        · rw [if_neg e1, if_pos rfl]
          exact ⟨_, _, _, rfl, d4, Or.inr (Or.inr (Or.inl ⟨hfe, h2, rfl, e2⟩))⟩
      have hN := t1.2.1
      unfold B_makeGreatest
      rw [bp_gives t1 (by omega), ob_some]
      cases hg : tb_row m T.2.2.2 u with
      | some row =>
        obtain ⟨g1, g2⟩ := tb_row_some hg
        rw [if_pos (opt_pos (by have := t1.1; omega))]
        obtain ⟨T', σ', τ', m1, m2, m3, m4, m5⟩ := more T σ1 τ1 t1 t2 t3 ⟨row, g1, g2⟩
        rw [m1, ob_some]
        exact done T' σ1 τ1 σ' τ' m2 m3 m4 (f1.tr m5)
      | none =>
        rw [if_neg opt_neg, bp_leaving t1 (K.B t2.1) hu, ob_some]
        -- u isn't in: it enters first
        have hen : tb_en (tb_r m (tb_wn u) T) N = some u := tb_en_from (k := 0) (fun x hx => absurd hx (by omega)) (Nat.zero_le _) hu (by
            rw [tb_r_wn, tb_r_none (tb_row_none hg), show tb_wu u u = 1 from if_pos rfl]
            have := t2.2.1
            omega) (fun x _ hx => by
            rw [tb_r_wn, tb_r_none (tb_row_none hg), show tb_wu u x = 0 from if_neg (by omega)]
            omega)
        cases hl : tb_lv T u m with
        | none =>
          rw [if_neg opt_neg, ob_some, if_pos rfl]
          have hst : tb_step m N (tb_wn u) T = none := by
            unfold tb_step
            rw [hen]
            show (match tb_lv T u m with | none => none | some l => some (tb_pv T l u)) = none
            rw [hl]
          rcases tb_most K.1 t2 t3 hu hst with ⟨e1, _⟩ | ⟨_, e2⟩
          · rw [hen] at e1; cases e1
          · exact ⟨_, _, _, rfl, f1, Or.inr (Or.inr (Or.inl ⟨hfe, h2, rfl, e2⟩))⟩
        | some l =>
          obtain ⟨l1, l2, _⟩ := tb_lv_some hl
          rw [if_pos (opt_pos (by have := t1.1; omega))]
          obtain ⟨σ2, τ2, p1, p2, p3⟩ := bp_pivot t1 (K.B t2.1) t2.1 l1 hu (by omega)
          show ∃ r σ' τ', ob (ov (B_pivot (nI l) (nI u) σ1 τ1) _) _ = _ ∧ _
          rw [p1, ov_some]
          rw [tb_pvs_pos l2] at p2
          have i2 := tb_I_pv K.1 t2 hu hl
          obtain ⟨T', σ', τ', m1, m2, m3, m4, m5⟩ := more (tb_pv T l u) σ2 τ2 p2 i2 (fun i hi => by
            show (if i = l then u else T.2.2.2 i) < N
            by_cases q : i = l
            · rw [if_pos q]; exact hu
            · rw [if_neg q]; exact t3 i hi) ⟨l, l1, if_pos rfl⟩
          rw [m1, ob_some]
          exact done T' σ1 τ1 σ' τ' m2 m3 m4 ((f1.tr p3).tr m5)
    · rw [if_neg (nI_ge (by omega) (by omega))]
      have hN := t1.2.1
      obtain ⟨σ', τ', q1, q2, q3⟩ := bp_least_l K (u := u) (by omega) 100000 0 mc_F T σ1 τ1 (by omega) (by unfold mc_F; omega) t1 t2
      have q1 : B_makeLeast (nI u) σ1 τ1 = some (σ', τ') := q1
      rw [q1, ov_some]
      have hst := tb_run_stops K.1 K.2.1 (tb_wu u) t2 (show 73728 ≤ 100000 by omega)
      have hc : lp_cn m N A b (tb_run m N (tb_wu u) 100000 T) := tb_run_keep (fun T => lp_cn m N A b T) (fun T T1 h hs => ⟨tb_step_I K.1 h.1 hs, tb_real_step h.2 hs⟩) _ _ ⟨t2, t3⟩
      rw [fin q2 hc]
      exact ⟨_, _, _, rfl, f1.tr q3, Or.inr (Or.inl ⟨hfe, by omega, _, hc, fun y t hy => tb_least K.1 hc.1 hu hst hy, rfl⟩)⟩
  · rw [s1, ob_some, if_pos rfl]
    exact ⟨_, _, _, rfl, f1, Or.inl ⟨hfe, rfl⟩⟩
end EX
