/-! ===== THE CLASS's RUNS ===== -/
/-- what is asked of a system of equations -/
def lp_ok (m N : Nat) (A : Nat → Nat → Int) (b : Nat → Int) : Prop := N ≤ 13 ∧ m ≤ 8 ∧ lp_ev m ∧ lp_nb m N A b ∧ (∀ x q, x < N → m ≤ q → A x q = 0) ∧ (∀ q, m ≤ q → b q = 0) ∧ (∀ q, q < m → 0 ≤ b q) ∧ lp_fr m N A
theorem lp_ok.B {m N : Nat} {A : Nat → Nat → Int} {b : Nat → Int} {T : tb_T} (h : lp_ok m N A b) (hJ : tb_J m N A b T) : bp_B m N T := tb_bd h.1 h.2.2.1 h.2.2.2.1 hJ
/-- it stops within d looks -/
def tb_fin (m N : Nat) (w : Nat → Int) : Nat → tb_T → Prop
  | 0, _ => False
  | d + 1, T => match tb_step m N w T with
    | none => True
    | some T1 => tb_fin m N w d T1
section SV
variable {m N : Nat} {A : Nat → Nat → Int} {b : Nat → Int}
theorem tb_fin_seq {w : Nat → Int} : ∀ (d : Nat) (T : tb_T), ¬ tb_fin m N w d T → ∀ k, k < d → tb_step m N w (tb_seq m N w T k) ≠ none
  | 0, T, _, k, hk => absurd hk (by omega)
  | d + 1, T, h, k, hk => by
    unfold tb_fin at h
    cases hs : tb_step m N w T with
    | none => rw [hs] at h; exact absurd trivial h
    | some T1 =>
      rw [hs] at h
      match k with
      | 0 => show tb_step m N w T ≠ none; rw [hs]; simp
      | k + 1 => rw [tb_seq_succ hs k]; exact tb_fin_seq d T1 h k (by omega)
theorem tb_fin_ok (hN : N ≤ 13) (hm : m ≤ 8) (w : Nat → Int) {T : tb_T} (h : tb_I m N A b T) {d : Nat} (hd : 73728 ≤ d) : tb_fin m N w d T := by
  apply Classical.byContradiction
  intro hn
  have := tb_fin_seq d T hn
  refine tb_ends hN hm w (tb_seq m N w T) h (fun k hk => ?_)
  show _ = some ((tb_step m N w (tb_seq m N w T k)).getD (tb_seq m N w T k))
  cases hs : tb_step m N w (tb_seq m N w T k) with
  | none => exact absurd hs (this k (by omega))
  | some z => rfl
theorem opt_neg : ¬ (0 : Int32) ≤ opt32 none := by decide
theorem opt_pos {k : Nat} (h : k < 2 ^ 31) : (0 : Int32) ≤ opt32 (some k) := nI_pos' h
theorem tb_pvs_pos {T : tb_T} {l e : Nat} (h : 0 < T.2.1 l e) : tb_pvs T l e = tb_pv T l e := by unfold tb_pvs; rw [if_neg (by omega)]
theorem tb_pvs_J {T : tb_T} (hN : N ≤ 13) (h : tb_J m N A b T) {l e : Nat} (hl : l < m) (he : e < N) (hp : T.2.1 l e ≠ 0) : tb_J m N A b (tb_pvs T l e) := by
  unfold tb_pvs
  split
  · exact tb_J_neg (tb_J_pv hN h hl he hp).1
  · exact (tb_J_pv hN h hl he hp).1
theorem bp_solve_l (K : lp_ok m N A b) : ∀ (d k n : Nat) (T : tb_T) (σ : mS) (τ : mT), k + d = 100000 → d < n → bp_R m N T σ τ → tb_I m N A b T → ∃ σ' τ', B_solve_l2 n (nI k) σ τ = B_solve_b38 σ' τ' ∧ bp_R m N (tb_run m N tb_w1 d T) σ' τ' ∧ bp_F σ τ σ' τ' := by
  intro d
  induction d with
  | zero =>
    intro k n T σ τ hk hn R hI
    obtain ⟨n, rfl⟩ : ∃ n', n = n' + 1 := ⟨n - 1, by omega⟩
    have : k = 100000 := by omega
    subst this
    refine ⟨σ, τ, ?_, R, bp_F.rf⟩
    unfold B_solve_l2
    rw [if_pos (by decide)]
  | succ d ih =>
    intro k n T σ τ hk hn R hI
    obtain ⟨n, rfl⟩ : ∃ n', n = n' + 1 := ⟨n - 1, by omega⟩
    have B := K.B hI.1
    unfold B_solve_l2
    rw [nl_K, if_neg (nI_ge (show k < 100000 by omega) (by omega)), bp_first R B, ob_some]
    have hrun : tb_run m N tb_w1 (d + 1) T = match tb_step m N tb_w1 T with
      | none => T
      | some T1 => tb_run m N tb_w1 d T1 := rfl
    cases he : tb_en (tb_r m tb_w1 T) N with
    | none =>
      have hs : tb_step m N tb_w1 T = none := by unfold tb_step; rw [he]
      rw [hrun, hs]
      show ∃ σ' τ', ob (B_leavingRow (-1) σ τ) _ = _ ∧ _
      rw [bp_leaving_no, ob_some, if_neg (by decide)]
      exact ⟨σ, τ, rfl, R, bp_F.rf⟩
    | some e =>
      have e1 := (tb_en_some he).1
      show ∃ σ' τ', ob (B_leavingRow (nI e) σ τ) _ = _ ∧ _
      rw [bp_leaving R B e1, ob_some]
      cases hl : tb_lv T e m with
      | none =>
        have hs : tb_step m N tb_w1 T = none := by
          unfold tb_step
          rw [he]
          show (match tb_lv T e m with | none => none | some l => some (tb_pv T l e)) = none
          rw [hl]
        rw [hrun, hs, if_neg opt_neg]
        exact ⟨σ, τ, rfl, R, bp_F.rf⟩
      | some l =>
        have hs : tb_step m N tb_w1 T = some (tb_pv T l e) := by
          unfold tb_step
          rw [he]
          show (match tb_lv T e m with | none => none | some l => some (tb_pv T l e)) = _
          rw [hl]
        obtain ⟨l1, l2, _⟩ := tb_lv_some hl
        rw [hrun, hs, if_pos (opt_pos (by have := R.1; omega))]
        obtain ⟨σ1, τ1, p1, p2, p3⟩ := bp_pivot R B hI.1 l1 e1 (by omega)
        show ∃ σ' τ', ov (B_pivot (nI l) (nI e) σ τ) _ = _ ∧ _
        rw [p1, ov_some, nI_1]
        rw [tb_pvs_pos l2] at p2
        obtain ⟨σ', τ', q1, q2, q3⟩ := ih (k + 1) n (tb_pv T l e) σ1 τ1 (by omega) (by omega) p2 (tb_I_pv K.1 hI e1 hl)
        exact ⟨σ', τ', q1, q2, p3.tr q3⟩
/-! the makeshift ones driven out -/
theorem bp_drive_in (K : lp_ok m N A b) {row : Nat} (hr : row < m) (k2 : Int32 → mS → mT → Option (mS × mT)) : ∀ (d j n : Nat) (T : tb_T) (σ : mS) (τ : mT), j + d = N → d < n → bp_R m N T σ τ → tb_J m N A b T →
    ∃ σ' τ', B_driveOutMakeshift_l12 k2 n (nI row) (nI j) σ τ = k2 (nI (row + 1)) σ' τ' ∧ bp_R m N (tb_din row d j T) σ' τ' ∧ tb_J m N A b (tb_din row d j T) ∧ bp_F σ τ σ' τ' := by
  intro d
  induction d with
  | zero =>
    intro j n T σ τ hj hn R hJ
    obtain ⟨n, rfl⟩ : ∃ n', n = n' + 1 := ⟨n - 1, by omega⟩
    have : j = N := by omega
    subst this
    refine ⟨σ, τ, ?_, R, hJ, bp_F.rf⟩
    unfold B_driveOutMakeshift_l12
    have := R.2.1
    rw [R.2.2.2.1, if_pos (nI_le (Nat.le_refl _) (by omega)), nI_1]
  | succ d ih =>
    intro j n T σ τ hj hn R hJ
    obtain ⟨n, rfl⟩ : ∃ n', n = n' + 1 := ⟨n - 1, by omega⟩
    have R0 := R
    obtain ⟨hm, hN, r1, r2, r3, r4, r5, r6⟩ := R
    have hjN : j < N := by omega
    unfold B_driveOutMakeshift_l12 tb_din
    rw [r2, if_neg (nI_ge hjN (by omega)), if_neg (nin (show row < 8 by omega) (by omega)), ncl (show row < 2 ^ 31 by omega), (r6 row hr).1, nl_13]
    have hg22 := (r6 row hr).2
    by_cases hg : T.2.2.2 row < 13
    · rw [if_pos ((nI_ltI (by omega) (by omega)).mpr hg), if_pos hg, nI_1]
      exact ⟨σ, τ, rfl, R0, hJ, bp_F.rf⟩
    · rw [if_neg (fun z => hg ((nI_ltI (by omega) (by omega)).mp z)), if_neg hg, if_neg (nin (show j < 14 by omega) (by omega)), ncl (show j < 2 ^ 31 by omega), nI_1]
      by_cases hc : T.2.1 row j = 0
      · rw [if_pos ((lc_eq0 _).mpr (by rw [r4 row hr j hjN]; exact hc)), if_pos hc]
        exact ih (j + 1) n T σ τ (by omega) (by omega) R0 hJ
      · rw [if_neg (fun z => hc (by have := (lc_eq0 _).mp z; rw [r4 row hr j hjN] at this; exact this)), if_neg hc]
        obtain ⟨σ1, τ1, p1, p2, p3⟩ := bp_pivot R0 (K.B hJ) hJ hr hjN hc
        rw [p1, ov_some]
        obtain ⟨σ', τ', q1, q2, q3, q4⟩ := ih (j + 1) n (tb_pvs T row j) σ1 τ1 (by omega) (by omega) p2 (tb_pvs_J hN hJ hr hjN hc)
        exact ⟨σ', τ', q1, q2, q3, p3.tr q4⟩
theorem bp_drive_l (K : lp_ok m N A b) : ∀ (d row n : Nat) (T : tb_T) (σ : mS) (τ : mT), row + d = m → d < n → bp_R m N T σ τ → tb_J m N A b T →
    ∃ σ' τ', B_driveOutMakeshift_l2 n (nI row) σ τ = some (σ', τ') ∧ bp_R m N (tb_dout N d row T) σ' τ' ∧ bp_F σ τ σ' τ' := by
  intro d
  induction d with
  | zero =>
    intro row n T σ τ hr hn R hJ
    obtain ⟨n, rfl⟩ : ∃ n', n = n' + 1 := ⟨n - 1, by omega⟩
    have : row = m := by omega
    subst this
    refine ⟨σ, τ, ?_, R, bp_F.rf⟩
    unfold B_driveOutMakeshift_l2
    have := R.1
    rw [R.2.2.1, if_pos (nI_le (Nat.le_refl _) (by omega))]
  | succ d ih =>
    intro row n T σ τ hr hn R hJ
    obtain ⟨n, rfl⟩ : ∃ n', n = n' + 1 := ⟨n - 1, by omega⟩
    have hm := R.1
    have hN := R.2.1
    unfold B_driveOutMakeshift_l2 tb_dout
    rw [R.2.2.1, if_neg (nI_ge (show row < m by omega) (by omega))]
    obtain ⟨σ1, τ1, p1, p2, p3, p4⟩ := bp_drive_in K (show row < m by omega) (B_driveOutMakeshift_l2 n) N 0 mc_F T σ τ (by omega) (by unfold mc_F; omega) R hJ
    have p1 : B_driveOutMakeshift_l12 (B_driveOutMakeshift_l2 n) mc_F (nI row) 0 σ τ = B_driveOutMakeshift_l2 n (nI (row + 1)) σ1 τ1 := p1
    rw [p1]
    obtain ⟨σ', τ', q1, q2, q3⟩ := ih (row + 1) n _ σ1 τ1 (by omega) (by omega) p2 p3
    exact ⟨σ', τ', q1, q2, p4.tr q3⟩
/-- SOLVE: 1 and a tableau of real variables, if there are pushes; else 0 -/
theorem bp_solve (K : lp_ok m N A b) {σ : mS} {τ : mT} (R : bp_R m N (tb_0 A b) σ τ) :
    ∃ σ' τ', bp_F σ τ σ' τ' ∧ ((lp_fe N A b ∧ B_solve σ τ = some (1, σ', τ') ∧ ∃ T, bp_R m N T σ' τ' ∧ tb_I m N A b T ∧ ∀ i, i < m → T.2.2.2 i < N) ∨ (¬ lp_fe N A b ∧ B_solve σ τ = some (0, σ', τ'))) := by
  obtain ⟨hI0, hU0⟩ := tb_0_I K.1 K.2.2.2.2.1 K.2.2.2.2.2.1 K.2.2.2.2.2.2.1
  obtain ⟨σ1, τ1, s1, s2, s3⟩ := bp_solve_l K 100000 0 mc_F (tb_0 A b) σ τ (by omega) (by unfold mc_F; omega) R hI0
  have s1 : B_solve σ τ = B_solve_b38 σ1 τ1 := s1
  have hI : tb_I m N A b (tb_run m N tb_w1 100000 (tb_0 A b)) := tb_run_keep _ (fun T T1 h hs => tb_step_I K.1 h hs) _ _ hI0
  have hU : tb_I m N A b (tb_run m N tb_w1 100000 (tb_0 A b)) ∧ tb_U m A (tb_run m N tb_w1 100000 (tb_0 A b)) := tb_run_keep (fun T => tb_I m N A b T ∧ tb_U m A T) (fun T T1 h hs => ⟨tb_step_I K.1 h.1 hs, tb_step_U K.1 h.1 h.2 hs⟩) _ _ ⟨hI0, hU0⟩
  have hst := tb_run_stops K.1 K.2.1 tb_w1 hI0 (show 73728 ≤ 100000 by omega)
  generalize tb_run m N tb_w1 100000 (tb_0 A b) = T at s2 hI hU hst
  obtain ⟨f1, f2⟩ := tb_p1 K.1 hI hst
  obtain ⟨z, z1, z2⟩ := bp_makeshiftS s2 (K.B hI.1)
  unfold B_solve_b38 at s1
  rw [z1, ob_some] at s1
  by_cases hv : tb_v m tb_w1 T = 0
  · rw [if_pos ((lc_eq0 z).mpr (by rw [z2]; exact hv))] at s1
    obtain ⟨σ', τ', d1, d2, d3⟩ := bp_drive_l K m 0 mc_F T σ1 τ1 (by omega) (by have := K.2.1; unfold mc_F; omega) s2 hI.1
    have d1 : B_driveOutMakeshift σ1 τ1 = some (σ', τ') := d1
    rw [d1, ov_some] at s1
    obtain ⟨o1, o2, o3⟩ := tb_dout_ok K.1 K.2.2.2.2.2.2.2 K.2.2.2.2.1 m 0 T (by omega) hI hU.2 (f2 hv) (fun i hi => absurd hi (by omega))
    exact ⟨σ', τ', s3.tr d3, Or.inl ⟨f1.mpr hv, s1, _, d2, o1, o3⟩⟩
  · rw [if_neg (fun q => hv (by rw [← z2]; exact (lc_eq0 z).mp q))] at s1
    exact ⟨σ1, τ1, s3, Or.inr ⟨fun q => hv (f1.mp q), s1⟩⟩
/-! least, greatest -/
theorem bp_sign_l {T : tb_T} {σ : mS} {τ : mT} (R : bp_R m N T σ τ) (B : bp_B m N T) {row u : Nat} (hr : row < m) (hu : u < 22) (sg : Int32) (sgi : Int) (hsg : sg.toInt64.toInt = sgi) (hsb : (sgi.natAbs : Int) ≤ 1) (r : Nat → Int) (hrr : ∀ x, x < N → r x = if x = u then 0 else sgi * T.2.1 row x) :
    ∀ (d k n : Nat), k + d = N → d < n → (∀ x, x < k → r x ≤ 0) → B_firstOfSign_l17 n (nI row) (nI u) sg (nI k) σ τ = some (opt32 (tb_en r N), σ, τ) := by
  obtain ⟨hm, hN, r1, r2, r3, r4, r5, r6⟩ := R
  intro d
  induction d with
  | zero =>
    intro k n hk hn h
    obtain ⟨n, rfl⟩ : ∃ n', n = n' + 1 := ⟨n - 1, by omega⟩
    have : k = N := by omega
    subst this
    unfold B_firstOfSign_l17
    rw [r2, if_pos (nI_le (Nat.le_refl _) (by omega)), tb_en_all h]
    rfl
  | succ d ih =>
    intro k n hk hn h
    obtain ⟨n, rfl⟩ : ∃ n', n = n' + 1 := ⟨n - 1, by omega⟩
    have hkN : k < N := by omega
    have next : r k ≤ 0 → ∀ x, x < k + 1 → r x ≤ 0 := fun h0 x hx => by
      by_cases q : x = k
      · rw [q]; exact h0
      · exact h x (by omega)
    unfold B_firstOfSign_l17
    rw [r2, if_neg (nI_ge hkN (by omega)), nI_1]
    by_cases q : k = u
    · rw [if_pos (by rw [q])]
      exact ih (k + 1) n (by omega) (by omega) (next (by rw [hrr k hkN, if_pos q]; exact Int.le_refl _))
    · rw [if_neg (fun z => q ((nI_eq (by omega) (by omega)).mp z)), if_neg (nin (show row < 8 by omega) (by omega)), if_neg (nin (show k < 14 by omega) (by omega)), ncl (show row < 2 ^ 31 by omega), ncl (show k < 2 ^ 31 by omega)]
      have hv : (sg.toInt64 * τ (17 + row) k).toInt = r k := by
        rw [l_mul (a := 1) (b := 84934656) (by rw [hsg]; exact hsb) (by rw [r4 row hr k hkN]; exact B.2.1 row k hr hkN) (by decide), hsg, r4 row hr k hkN, hrr k hkN, if_neg q]
      by_cases h0 : r k ≤ 0
      · rw [if_pos ((lc_le0 _).mpr (by rw [hv]; exact h0))]
        exact ih (k + 1) n (by omega) (by omega) (next h0)
      · rw [if_neg (fun z => h0 (by rw [← hv]; exact (lc_le0 _).mp z)), tb_en_from (k := k) h (Nat.le_refl _) hkN (by omega) (fun x a b => by omega)]
        rfl
theorem bp_sign {T : tb_T} {σ : mS} {τ : mT} (R : bp_R m N T σ τ) (B : bp_B m N T) {row u : Nat} (hr : row < m) (hu : u < 22) (sg : Int32) (sgi : Int) (hsg : sg.toInt64.toInt = sgi) (hsb : (sgi.natAbs : Int) ≤ 1) (r : Nat → Int) (hrr : ∀ x, x < N → r x = if x = u then 0 else sgi * T.2.1 row x) : B_firstOfSign (nI row) (nI u) sg σ τ = some (opt32 (tb_en r N), σ, τ) := by
  unfold B_firstOfSign
  have hm := R.1
  have hN := R.2.1
  rw [if_neg (nI_pos (by omega)), R.2.2.1, if_pos (nI_lt hr (by omega))]
  exact bp_sign_l R B hr hu sg sgi hsg hsb r hrr N 0 mc_F (by omega) (by unfold mc_F; omega) (fun x hx => by omega)
theorem bp_sign_no (σ : mS) (τ : mT) (u sg : Int32) : B_firstOfSign (-1) u sg σ τ = some (-1, σ, τ) := by
  unfold B_firstOfSign
  rw [if_pos (by decide)]
theorem tb_r_row {T : tb_T} (hN : N ≤ 13) (hJ : tb_J m N A b T) {u k : Nat} (hk : k < m) (hu : T.2.2.2 k = u) : ∀ x, x < N → tb_r m (tb_wu u) T x = if x = u then 0 else 1 * T.2.1 k x := by
  intro x hx
  by_cases q : x = u
  · rw [if_pos q, q]; exact tb_r_self hN hJ hk hu
  · rw [if_neg q, tb_r_wu hJ hk hu q]
    have : tb_ce T k x = T.2.1 k x := if_pos (by omega)
    rw [this]
    omega
theorem tb_r_rown {T : tb_T} (hN : N ≤ 13) (hJ : tb_J m N A b T) {u k : Nat} (hk : k < m) (hu : T.2.2.2 k = u) : ∀ x, x < N → tb_r m (tb_wn u) T x = if x = u then 0 else (-1) * T.2.1 k x := by
  intro x hx
  rw [tb_r_wn, tb_r_row hN hJ hk hu x hx]
  split <;> omega
theorem bp_least_l (K : lp_ok m N A b) {u : Nat} (hu : u < 13) : ∀ (d k n : Nat) (T : tb_T) (σ : mS) (τ : mT), k + d = 100000 → d < n → bp_R m N T σ τ → tb_I m N A b T → ∃ σ' τ', B_makeLeast_l2 n (nI u) (nI k) σ τ = some (σ', τ') ∧ bp_R m N (tb_run m N (tb_wu u) d T) σ' τ' ∧ bp_F σ τ σ' τ' := by
  intro d
  induction d with
  | zero =>
    intro k n T σ τ hk hn R hI
    obtain ⟨n, rfl⟩ : ∃ n', n = n' + 1 := ⟨n - 1, by omega⟩
    have : k = 100000 := by omega
    subst this
    refine ⟨σ, τ, ?_, R, bp_F.rf⟩
    unfold B_makeLeast_l2
    rw [if_pos (by decide)]
  | succ d ih =>
    intro k n T σ τ hk hn R hI
    obtain ⟨n, rfl⟩ : ∃ n', n = n' + 1 := ⟨n - 1, by omega⟩
    have B := K.B hI.1
    unfold B_makeLeast_l2
    rw [nl_K, if_neg (nI_ge (show k < 100000 by omega) (by omega)), bp_gives R (by omega), ob_some]
    have hrun : tb_run m N (tb_wu u) (d + 1) T = match tb_step m N (tb_wu u) T with
      | none => T
      | some T1 => tb_run m N (tb_wu u) d T1 := rfl
    have stop : tb_en (tb_r m (tb_wu u) T) N = none → tb_step m N (tb_wu u) T = none := fun he => by unfold tb_step; rw [he]
    cases hg : tb_row m T.2.2.2 u with
    | none =>
      have he : tb_en (tb_r m (tb_wu u) T) N = none := tb_en_all fun x hx => by
        rw [tb_r_none (tb_row_none hg)]
        have : 0 ≤ T.1 * tb_wu u x := Int.mul_nonneg (Int.le_of_lt hI.2.1) (by unfold tb_wu; split <;> omega)
        omega
      rw [hrun, stop he]
      show ∃ σ' τ', ob (B_firstOfSign (-1) (nI u) 1 σ τ) _ = _ ∧ _
      rw [bp_sign_no, ob_some, bp_leaving_no, ob_some, if_neg (by decide)]
      exact ⟨σ, τ, rfl, R, bp_F.rf⟩
    | some row =>
      obtain ⟨g1, g2⟩ := tb_row_some hg
      show ∃ σ' τ', ob (B_firstOfSign (nI row) (nI u) 1 σ τ) _ = _ ∧ _
      rw [bp_sign R B g1 (by omega) 1 1 rfl (by decide) (tb_r m (tb_wu u) T) (tb_r_row K.1 hI.1 g1 g2), ob_some]
      cases he : tb_en (tb_r m (tb_wu u) T) N with
      | none =>
        rw [hrun, stop he]
        show ∃ σ' τ', ob (B_leavingRow (-1) σ τ) _ = _ ∧ _
        rw [bp_leaving_no, ob_some, if_neg (by decide)]
        exact ⟨σ, τ, rfl, R, bp_F.rf⟩
      | some e =>
        have e1 := (tb_en_some he).1
        show ∃ σ' τ', ob (B_leavingRow (nI e) σ τ) _ = _ ∧ _
        rw [bp_leaving R B e1, ob_some]
        cases hl : tb_lv T e m with
        | none =>
          have hs : tb_step m N (tb_wu u) T = none := by
            unfold tb_step
            rw [he]
            show (match tb_lv T e m with | none => none | some l => some (tb_pv T l e)) = none
            rw [hl]
          rw [hrun, hs, if_neg opt_neg]
          exact ⟨σ, τ, rfl, R, bp_F.rf⟩
        | some l =>
          have hs : tb_step m N (tb_wu u) T = some (tb_pv T l e) := by
            unfold tb_step
            rw [he]
            show (match tb_lv T e m with | none => none | some l => some (tb_pv T l e)) = _
            rw [hl]
          obtain ⟨l1, l2, _⟩ := tb_lv_some hl
          rw [hrun, hs, if_pos (opt_pos (by have := R.1; omega))]
          obtain ⟨σ1, τ1, p1, p2, p3⟩ := bp_pivot R B hI.1 l1 e1 (by omega)
          show ∃ σ' τ', ov (B_pivot (nI l) (nI e) σ τ) _ = _ ∧ _
          rw [p1, ov_some, nI_1]
          rw [tb_pvs_pos l2] at p2
          obtain ⟨σ', τ', q1, q2, q3⟩ := ih (k + 1) n (tb_pv T l e) σ1 τ1 (by omega) (by omega) p2 (tb_I_pv K.1 hI e1 hl)
          exact ⟨σ', τ', q1, q2, p3.tr q3⟩
theorem bp_most_l (K : lp_ok m N A b) {u : Nat} (hu : u < N) : ∀ (d k n : Nat) (T : tb_T) (σ : mS) (τ : mT), k + d = 100000 → d < n → bp_R m N T σ τ → tb_I m N A b T → (∃ row, row < m ∧ T.2.2.2 row = u) → tb_fin m N (tb_wn u) d T →
    ∃ σ' τ' T', B_makeGreatest_l28 n (nI u) (nI k) σ τ = some (if tb_en (tb_r m (tb_wn u) T') N = none then 1 else 0, σ', τ') ∧ T' = tb_run m N (tb_wn u) d T ∧ tb_step m N (tb_wn u) T' = none ∧ bp_R m N T' σ' τ' ∧ bp_F σ τ σ' τ' := by
  intro d
  induction d with
  | zero => intro k n T σ τ hk hn R hI hb hf; exact hf.elim
  | succ d ih =>
    intro k n T σ τ hk hn R hI hb hf
    obtain ⟨n, rfl⟩ : ∃ n', n = n' + 1 := ⟨n - 1, by omega⟩
    have B := K.B hI.1
    have hN := R.2.1
    unfold B_makeGreatest_l28
    rw [nl_K, if_neg (nI_ge (show k < 100000 by omega) (by omega)), bp_gives R (by omega), ob_some]
    have hrun : tb_run m N (tb_wn u) (d + 1) T = match tb_step m N (tb_wn u) T with
      | none => T
      | some T1 => tb_run m N (tb_wn u) d T1 := rfl
    cases hg : tb_row m T.2.2.2 u with
    | none =>
      obtain ⟨row, a1, a2⟩ := hb
      exact absurd a2 (tb_row_none hg row a1)
    | some row =>
      obtain ⟨g1, g2⟩ := tb_row_some hg
      show ∃ σ' τ' T', ob (B_firstOfSign (nI row) (nI u) (-1) σ τ) _ = _ ∧ _
      rw [bp_sign R B g1 (by omega) (-1) (-1) rfl (by decide) (tb_r m (tb_wn u) T) (tb_r_rown K.1 hI.1 g1 g2), ob_some]
      cases he : tb_en (tb_r m (tb_wn u) T) N with
      | none =>
        have hs : tb_step m N (tb_wn u) T = none := by unfold tb_step; rw [he]
        rw [if_neg opt_neg, hrun, hs]
        exact ⟨σ, τ, T, by rw [if_pos he], rfl, hs, R, bp_F.rf⟩
      | some e =>
        have e1 := (tb_en_some he).1
        rw [if_pos (opt_pos (by omega))]
        show ∃ σ' τ' T', ob (B_leavingRow (nI e) σ τ) _ = _ ∧ _
        rw [bp_leaving R B e1, ob_some]
        cases hl : tb_lv T e m with
        | none =>
          have hs : tb_step m N (tb_wn u) T = none := by
            unfold tb_step
            rw [he]
            show (match tb_lv T e m with | none => none | some l => some (tb_pv T l e)) = none
            rw [hl]
          rw [hrun, hs, if_neg opt_neg]
          exact ⟨σ, τ, T, by rw [if_neg (by rw [he]; simp)], rfl, hs, R, bp_F.rf⟩
        | some l =>
          have hs : tb_step m N (tb_wn u) T = some (tb_pv T l e) := by
            unfold tb_step
            rw [he]
            show (match tb_lv T e m with | none => none | some l => some (tb_pv T l e)) = _
            rw [hl]
          obtain ⟨l1, l2, _⟩ := tb_lv_some hl
          rw [hrun, hs, if_pos (opt_pos (by have := R.1; omega))]
          obtain ⟨σ1, τ1, p1, p2, p3⟩ := bp_pivot R B hI.1 l1 e1 (by omega)
          show ∃ σ' τ' T', ov (B_pivot (nI l) (nI e) σ τ) _ = _ ∧ _
          rw [p1, ov_some, nI_1]
          rw [tb_pvs_pos l2] at p2
          have hf' : tb_fin m N (tb_wn u) d (tb_pv T l e) := by
            have hf : (match tb_step m N (tb_wn u) T with | none => True | some T1 => tb_fin m N (tb_wn u) d T1) := hf
            rw [hs] at hf
            exact hf
          -- the row that gives u stays
          have hne : row ≠ l := by
            intro z
            have h1 := (tb_en_some he).2.1
            rw [tb_r_rown K.1 hI.1 g1 g2 e e1] at h1
            rw [z] at h1
            split at h1 <;> omega
          obtain ⟨σ', τ', T', q1, q2, q3, q4, q5⟩ := ih (k + 1) n (tb_pv T l e) σ1 τ1 (by omega) (by omega) p2 (tb_I_pv K.1 hI e1 hl) ⟨row, g1, by show (if row = l then e else T.2.2.2 row) = u; rw [if_neg hne]; exact g2⟩ hf'
          exact ⟨σ', τ', T', q1, q2, q3, q4, p3.tr q5⟩
end SV
