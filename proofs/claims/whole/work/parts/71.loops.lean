/-! ===== WHERE, WEIGHTS, KEY, HOLD: ALIKE ===== -/
theorem dec_ex (p : Nat → Prop) : ∃ P : Nat → Bool, ∀ x, P x = true ↔ p x := ⟨fun x => @decide (p x) (Classical.propDecidable (p x)), fun x => @decide_eq_true_iff (p x) (Classical.propDecidable (p x))⟩
theorem bsum (P : Nat → Bool) (k : Nat) : ct_m P (k + 1) = ct_m P k + (if P k then 2 ^ k else 0) := rfl
section LO
variable {n : Nat} {f : Nat → Nat}
theorem copy_42 {σ : mS} {τ : mT} (hn : n ≤ 4) (C : pl_C n f (σ 3) 0) : ∃ σ', P_copy_4_2 σ τ = some (σ', τ) ∧ pl_C n f (σ' 5) 0 ∧ ∀ a, a ≠ 5 → σ' a = σ a :=
  ⟨u1 σ 5 (va_cpy (σ 3) (σ 5) 0 0 21), by unfold P_copy_4_2; rw [mw_eq], by rw [u1_same]; exact pl_C.cpy hn C, fun a ha => u1_ne _ _ ha⟩
theorem where_C (V : pl_V n f) (hn4 : n < 4) {h v : Nat} (h1 : 1 ≤ h) (h2 : h ≤ 3) (h3 : 1 ≤ v) (h4 : v ≤ 9) {P : Nat → Bool} (hP : ∀ x, P x = true ↔ rest (pl_add n f x h v) (n + 1) (Hh 0)) : ∀ (d k m : Nat) (σ : mS) (τ : mT), k + d = 10 → d < m → pl_C n f (σ 3) 0 → ∃ σ' τ', R_where_l29 m (nI h) (nI v) (nI (ct_m P k)) (nI k) σ τ = some (nI (ct_m P 10), σ', τ') ∧ cl_G σ σ' := by
  have hn := V.1
  intro d
  induction d with
  | zero =>
    intro k m σ τ hk hm C
    obtain ⟨m, rfl⟩ : ∃ m', m = m' + 1 := ⟨m - 1, by omega⟩
    have : k = 10 := by omega
    subst this
    refine ⟨σ, τ, ?_, cl_G.rf⟩
    unfold R_where_l29
    rw [if_pos (by decide)]
  | succ d ih =>
    intro k m σ τ hk hm C
    obtain ⟨m, rfl⟩ : ∃ m', m = m' + 1 := ⟨m - 1, by omega⟩
    obtain ⟨s1, a1, a2, a3⟩ := copy_42 (τ := τ) hn C
    obtain ⟨s2, b1, b2, b3⟩ := P_add_4_ok (σ := s1) (τ := τ) hn4 a2 k h v
    obtain ⟨r, s3, t3, c1, c2, c3⟩ := bal_4 (σ := s2) (τ := τ) (held := 0) (pl_add_V V hn4 (show k ≤ 9 by omega) h1 h2 h3 h4) b2 (by decide)
    have c1 : R_isBalanced_4 0 s2 τ = some (r, s3, t3) := c1
    have F3 : cl_G σ s3 := fun a ha => by rw [c2 a (by omega), b3 a (by omega), a3 a (by omega)]
    have C3 : pl_C n f (s3 3) 0 := by rw [F3 3 (by omega)]; exact C
    obtain ⟨σ', τ', e1, e2⟩ := ih (k + 1) m s3 t3 (by omega) (by omega) C3
    refine ⟨σ', τ', ?_, F3.tr e2⟩
    unfold R_where_l29
    rw [show (9 : Int32) = nI 9 from rfl, if_neg (nI_nlt (by omega) (by decide)), a1, ov_some, b1, ov_some, c1, ob_some, nI_1]
    have x := ct_m_lt P k
    rcases c3 with ⟨c3, c4⟩ | ⟨c3, c4⟩
    · rw [c3, if_neg (by decide), i_orbit (by omega) x]
      rw [bsum, (hP k).mpr c4] at e1
      exact e1
    · have hp : P k = false := by
        cases q : P k
        · rfl
        · exact absurd ((hP k).mp q) c4
      rw [c3, if_pos rfl]
      rw [bsum, hp] at e1
      exact e1
theorem where_Q (V : pl_V n f) (hn4 : n < 4) {h v : Nat} (h1 : 1 ≤ h) (h2 : h ≤ 3) (h3 : 1 ≤ v) (h4 : v ≤ 9) {P : Nat → Bool} (hP : ∀ x, P x = true ↔ rest (pl_add n f x h v) (n + 1) (Hh 0)) : ∀ (d k m : Nat) (σ : mS) (τ : mT), k + d = 10 → d < m → pl_Q n f (σ 35) 0 → ∃ σ' τ', Q_where_l29 m (nI h) (nI v) (nI (ct_m P k)) (nI k) σ τ = some (nI (ct_m P 10), σ', τ') ∧ qf_G σ σ' ∧ pl_Q n f (σ' 35) 0 := by
  have hn := V.1
  intro d
  induction d with
  | zero =>
    intro k m σ τ hk hm Q
    obtain ⟨m, rfl⟩ : ∃ m', m = m' + 1 := ⟨m - 1, by omega⟩
    have : k = 10 := by omega
    subst this
    refine ⟨σ, τ, ?_, qf_G.rf, Q⟩
    unfold Q_where_l29
    rw [if_pos (by decide)]
  | succ d ih =>
    intro k m σ τ hk hm Q
    obtain ⟨m, rfl⟩ : ∃ m', m = m' + 1 := ⟨m - 1, by omega⟩
    obtain ⟨s2, b1, b2, b3⟩ := Q_appends_ok (σ := σ) (τ := τ) hn4 Q k h v
    obtain ⟨r, s3, t3, c1, c2, c3⟩ := qrest (σ := s2) (τ := τ) (pl_add_V V hn4 (show k ≤ 9 by omega) h1 h2 h3 h4) b2
    have p3 : pl_Q (n + 1) (pl_add n f k h v) (s3 35) 0 := by rw [c2.1 35 (by omega)]; exact b2
    have Q4 : pl_Q n f (u2 s3 35 0 (nI n) 35) 0 := pl_Q.of (u2_at _ _ _ _) fun i hi => by
      rw [u2_off _ _ (Or.inr (by omega)), p3.at (by omega), pl_add_lo hi]
    have F4 : qf_G σ (u2 s3 35 0 (nI n)) := ⟨fun a ha => by rw [u2_ne _ _ _ (by omega), c2.1 a (by omega), b3 a (by omega)], by rw [u2_ne _ _ _ (by decide), c2.2.1, b3 34 (by decide)], by rw [u2_ne _ _ _ (by decide), c2.2.2, b3 34 (by decide)]⟩
    obtain ⟨σ', τ', e1, e2, e3⟩ := ih (k + 1) m (u2 s3 35 0 (nI n)) t3 (by omega) (by omega) Q4
    refine ⟨σ', τ', ?_, F4.tr e2, e3⟩
    unfold Q_where_l29 Q_where_b60
    rw [show (10 : Int32) = nI 10 from rfl, if_neg (nI_ge (show k < 10 by omega) (by decide)), b1, ov_some, c1, ob_some, p3.1, nI_pred, mw_eq, mw_eq, nI_1]
    have x := ct_m_lt P k
    rcases c3 with ⟨c3, c4⟩ | ⟨c3, c4⟩
    · rw [c3, if_neg (by decide), i_orbit (by omega) x]
      rw [bsum, (hP k).mpr c4] at e1
      exact e1
    · have hp : P k = false := by
        cases q : P k
        · rfl
        · exact absurd ((hP k).mp q) c4
      rw [c3, if_pos rfl, show (0 : Int32) = nI 0 from rfl, i_or, Nat.or_zero]
      rw [bsum, hp] at e1
      exact e1
theorem weigh_C (V : pl_V n f) {b : Nat} (hb : b < n) {P : Nat → Bool} (hP : ∀ x, P x = true ↔ 1 ≤ x ∧ rest (pl_set f (5 * b + 2) x) n (Hh 0)) : ∀ (d k m : Nat) (σ : mS) (τ : mT), k + d = 10 → d < m → 1 ≤ k → σ 5 20 = nI n → (∀ i, i < 5 * n → i ≠ 5 * b + 2 → σ 5 i = nI (f i)) → ∃ σ' τ', R_weights_l28 m (nI b) (nI (ct_m P k)) (nI k) σ τ = some (nI (ct_m P 10), σ', τ') ∧ cl_G σ σ' := by
  have hn := V.1
  intro d
  induction d with
  | zero =>
    intro k m σ τ hk hm _ _ _
    obtain ⟨m, rfl⟩ : ∃ m', m = m' + 1 := ⟨m - 1, by omega⟩
    have : k = 10 := by omega
    subst this
    refine ⟨σ, τ, ?_, cl_G.rf⟩
    unfold R_weights_l28
    rw [if_pos (by decide)]
  | succ d ih =>
    intro k m σ τ hk hm k1 g1 g2
    obtain ⟨m, rfl⟩ : ∃ m', m = m' + 1 := ⟨m - 1, by omega⟩
    have a1 : P_set_4 (nI b) 2 (nI k) σ τ = some (u2 σ 5 (5 * b + 2) (nI k), τ) := P_set_4_ok (k := 2) hn g1 hb (by omega) _
    have C2 : pl_C n (pl_set f (5 * b + 2) k) (u2 σ 5 (5 * b + 2) (nI k) 5) 0 := pl_C.of (by rw [u2_off _ _ (Or.inr (by omega))]; exact g1) fun i hi => by
      unfold pl_set
      by_cases z : i = 5 * b + 2
      · rw [if_pos z, z, u2_at]
      · rw [if_neg z, u2_off _ _ (Or.inr z)]; exact g2 i hi z
    obtain ⟨r, s3, t3, c1, c2, c3⟩ := bal_4 (τ := τ) (held := 0) (pl_w_V V hb k1 (show k ≤ 9 by omega)) C2 (by decide)
    have c1 : R_isBalanced_4 0 (u2 σ 5 (5 * b + 2) (nI k)) τ = some (r, s3, t3) := c1
    have F3 : cl_G σ s3 := fun a ha => by rw [c2 a (by omega), u2_ne _ _ _ (by omega)]
    have C3 : pl_C n (pl_set f (5 * b + 2) k) (s3 5) 0 := by rw [c2 5 (by omega)]; exact C2
    obtain ⟨σ', τ', e1, e2⟩ := ih (k + 1) m s3 t3 (by omega) (by omega) (by omega) C3.n (fun i hi z => by rw [C3.at hi]; unfold pl_set; rw [if_neg z])
    refine ⟨σ', τ', ?_, F3.tr e2⟩
    unfold R_weights_l28
    rw [show (9 : Int32) = nI 9 from rfl, if_neg (nI_nlt (by omega) (by decide)), a1, ov_some, c1, ob_some, nI_1]
    have x := ct_m_lt P k
    rcases c3 with ⟨c3, c4⟩ | ⟨c3, c4⟩
    · rw [c3, if_neg (by decide), i_orbit (by omega) x]
      rw [bsum, (hP k).mpr ⟨k1, c4⟩] at e1
      exact e1
    · have hp : P k = false := by
        cases q : P k
        · rfl
        · exact absurd ((hP k).mp q).2 c4
      rw [c3, if_pos rfl]
      rw [bsum, hp] at e1
      exact e1
theorem weigh_Q (V : pl_V n f) {b : Nat} (hb : b < n) {P : Nat → Bool} (hP : ∀ x, P x = true ↔ 1 ≤ x ∧ rest (pl_set f (5 * b + 2) x) n (Hh 0)) : ∀ (d k m : Nat) (σ : mS) (τ : mT), k + d = 10 → d < m → 1 ≤ k → σ 35 0 = nI n → (∀ i, i < 5 * n → i ≠ 5 * b + 2 → σ 35 (i + 1) = nI (f i)) → ∃ σ' τ', Q_weights_l22 m (nI b) (nI (f (5 * b + 2))) (nI (ct_m P k)) (nI k) σ τ = some (nI (ct_m P 10), σ', τ') ∧ qf_G σ σ' ∧ pl_Q n f (σ' 35) 0 := by
  have hn := V.1
  have i3 : (5 : Int32) * nI b + 3 = nI (5 * b + 3) := m5 b 3
  intro d
  induction d with
  | zero =>
    intro k m σ τ hk hm _ g1 g2
    obtain ⟨m, rfl⟩ : ∃ m', m = m' + 1 := ⟨m - 1, by omega⟩
    have : k = 10 := by omega
    subst this
    refine ⟨u2 σ 35 (5 * b + 3) (nI (f (5 * b + 2))), τ, ?_, ⟨fun a ha => u2_ne _ _ _ (by omega), by rw [u2_ne _ _ _ (by decide)], by rw [u2_ne _ _ _ (by decide)]⟩, pl_Q.of (by rw [u2_off _ _ (Or.inr (by omega))]; exact g1) fun i hi => ?_⟩
    · unfold Q_weights_l22
      rw [if_pos (by decide), i3, if_neg (nin (show 5 * b + 3 < 21 by omega) (by decide)), ncl (show 5 * b + 3 < 2 ^ 31 by omega), mw_eq]
    · by_cases z : i = 5 * b + 2
      · rw [z, u2_at]
      · rw [u2_off _ _ (Or.inr (by omega))]; exact g2 i hi z
  | succ d ih =>
    intro k m σ τ hk hm k1 g1 g2
    obtain ⟨m, rfl⟩ : ∃ m', m = m' + 1 := ⟨m - 1, by omega⟩
    have C2 : pl_Q n (pl_set f (5 * b + 2) k) (u2 σ 35 (5 * b + 3) (nI k) 35) 0 := pl_Q.of (by rw [u2_off _ _ (Or.inr (by omega))]; exact g1) fun i hi => by
      unfold pl_set
      by_cases z : i = 5 * b + 2
      · rw [if_pos z, z, u2_at]
      · rw [if_neg z, u2_off _ _ (Or.inr (by omega))]; exact g2 i hi z
    obtain ⟨r, s3, t3, c1, c2, c3⟩ := qrest (τ := τ) (pl_w_V V hb k1 (show k ≤ 9 by omega)) C2
    have F3 : qf_G σ s3 := ⟨fun a ha => by rw [c2.1 a (by omega), u2_ne _ _ _ (by omega)], by rw [c2.2.1, u2_ne _ _ _ (by decide)], by rw [c2.2.2, u2_ne _ _ _ (by decide)]⟩
    have C3 : pl_Q n (pl_set f (5 * b + 2) k) (s3 35) 0 := by rw [c2.1 35 (by omega)]; exact C2
    obtain ⟨σ', τ', e1, e2, e3⟩ := ih (k + 1) m s3 t3 (by omega) (by omega) (by omega) C3.1 (fun i hi z => by rw [C3.at hi]; unfold pl_set; rw [if_neg z])
    refine ⟨σ', τ', ?_, F3.tr e2, e3⟩
    unfold Q_weights_l22
    rw [show (10 : Int32) = nI 10 from rfl, if_neg (nI_ge (show k < 10 by omega) (by decide)), i3, if_neg (nin (show 5 * b + 3 < 21 by omega) (by decide)), ncl (show 5 * b + 3 < 2 ^ 31 by omega), mw_eq, c1, ob_some, nI_1]
    have x := ct_m_lt P k
    rcases c3 with ⟨c3, c4⟩ | ⟨c3, c4⟩
    · rw [c3, if_neg (by decide), i_orbit (by omega) x]
      rw [bsum, (hP k).mpr ⟨k1, c4⟩] at e1
      exact e1
    · have hp : P k = false := by
        cases q : P k
        · rfl
        · exact absurd ((hP k).mp q).2 c4
      rw [c3, if_pos rfl, show (0 : Int32) = nI 0 from rfl, i_or, Nat.or_zero]
      rw [bsum, hp] at e1
      exact e1
/-! key -/
def kf (P : Nat → Bool) : Nat → Nat → Int32
  | 0, _ => -9
  | d + 1, k => if P k then nI k else kf P d (k + 1)
theorem key_C (V : pl_V n f) {P : Nat → Bool} (hP : ∀ b, P b = true ↔ ab f n b = 0 ∧ ¬ rest (pl_del f b) (n - 1) (Hh 0)) : ∀ (d k m : Nat) (σ : mS) (τ : mT), k + d = n → d < m → pl_C n f (σ 3) 0 → ∃ σ' τ', R_key_l17 m (nI k) σ τ = some (kf P d k, σ', τ') ∧ cl_G σ σ' := by
  have hn := V.1
  intro d
  induction d with
  | zero =>
    intro k m σ τ hk hm C
    obtain ⟨m, rfl⟩ : ∃ m', m = m' + 1 := ⟨m - 1, by omega⟩
    refine ⟨σ, τ, ?_, cl_G.rf⟩
    unfold R_key_l17 P_size_2
    rw [ob_some, C.n, if_pos (nI_le (by omega) (by omega))]
    rfl
  | succ d ih =>
    intro k m σ τ hk hm C
    obtain ⟨m, rfl⟩ : ∃ m', m = m' + 1 := ⟨m - 1, by omega⟩
    have hkn : k < n := by omega
    obtain ⟨s1, f1, f2, f3, f4⟩ := find_2_ok (σ := σ) (τ := τ) V C
    have F1 : cl_G σ s1 := fun a ha => f4.1 a (by omega)
    have C1 : pl_C n f (s1 3) 0 := by rw [F1 3 (by omega)]; exact C
    have ov1 : Y_over (nI k) s1 τ = some (nI (ab f n k), s1, τ) := by
      unfold Y_over
      rw [f3, wi_pin hkn (by omega), ob_some, if_neg (by decide), if_neg (nin (show k < 4 by omega) (by decide)), ncl (show k < 2 ^ 31 by omega), (f2.2.1 k hkn).2.2]
    unfold R_key_l17 P_size_2
    rw [ob_some, C.n, if_neg (nI_ge hkn (by omega)), f1, ov_some, ov1, ob_some, nI_1]
    unfold kf
    by_cases z : ab f n k = 0
    · obtain ⟨s2, a1, a2, a3⟩ := copy_42 (τ := τ) hn C1
      obtain ⟨s3, b1, b2, b3⟩ := P_takeOut_4_ok (σ := s2) (τ := τ) hn a2 hkn
      obtain ⟨r, s4, t4, c1, c2, c3⟩ := bal_4 (σ := s3) (τ := τ) (held := 0) (pl_del_V V hkn) b2 (by decide)
      have c1 : R_isBalanced_4 0 s3 τ = some (r, s4, t4) := c1
      have F4 : cl_G σ s4 := fun a ha => by rw [c2 a (by omega), b3 a (by omega), a3 a (by omega), F1 a ha]
      have C4 : pl_C n f (s4 3) 0 := by rw [F4 3 (by omega)]; exact C
      have rw1 : R_restsWithout (nI k) s1 τ = some (r, s4, t4) := by
        unfold R_restsWithout
        rw [a1, ov_some, b1, ov_some, c1, ob_some, if_neg]
        rcases c3 with ⟨q, _⟩ | ⟨q, _⟩ <;> rw [q] <;> decide
      rw [z, if_pos (by rfl), rw1, ob_some]
      rcases c3 with ⟨c3, c4⟩ | ⟨c3, c4⟩
      · have hp : P k = false := by
          cases q : P k
          · rfl
          · exact absurd c4 ((hP k).mp q).2
        obtain ⟨σ', τ', e1, e2⟩ := ih (k + 1) m s4 t4 (by omega) (by omega) C4
        rw [c3, if_neg (by decide), hp]
        exact ⟨σ', τ', e1, F4.tr e2⟩
      · rw [c3, if_pos rfl, (hP k).mpr ⟨z, c4⟩]
        exact ⟨s4, t4, rfl, F4⟩
    · have hp : P k = false := by
        cases q : P k
        · rfl
        · exact absurd ((hP k).mp q).1 z
      obtain ⟨σ', τ', e1, e2⟩ := ih (k + 1) m s1 τ (by omega) (by omega) C1
      rw [if_neg (nI_ne0 (by omega) (ab_small hn)), hp]
      exact ⟨σ', τ', e1, F1.tr e2⟩
theorem key_Q (V : pl_V n f) {P : Nat → Bool} (hP : ∀ b, P b = true ↔ ab f n b = 0 ∧ ¬ rest (pl_del f b) (n - 1) (Hh 0)) : ∀ (d k m : Nat) (σ : mS) (τ : mT), k + d = n → d < m → pl_Q n f (σ 35) 0 → ∃ σ' τ', Q_key_l12 m (nI k) σ τ = some (kf P d k, σ', τ') ∧ qf_G σ σ' ∧ pl_Q n f (σ' 35) 0 := by
  have hn := V.1
  intro d
  induction d with
  | zero =>
    intro k m σ τ hk hm Q
    obtain ⟨m, rfl⟩ : ∃ m', m = m' + 1 := ⟨m - 1, by omega⟩
    refine ⟨σ, τ, ?_, qf_G.rf, Q⟩
    unfold Q_key_l12 Q_many
    rw [ob_some, Q.1, if_pos (nI_le (by omega) (by omega))]
    rfl
  | succ d ih =>
    intro k m σ τ hk hm Q
    obtain ⟨m, rfl⟩ : ∃ m', m = m' + 1 := ⟨m - 1, by omega⟩
    have hkn : k < n := by omega
    obtain ⟨s1, f1, f2, f3⟩ := layAll_ok (σ := σ) (τ := τ) V Q
    have Q1 : pl_Q n f (s1 35) 0 := by rw [f3.1 35 (by omega)]; exact Q
    have F1 : qf_G σ s1 := f3.qf.g
    unfold Q_key_l12 Q_many
    rw [ob_some, Q.1, if_neg (nI_ge hkn (by omega)), f1, ov_some, above_ok V Q1.1 f2 hkn, ob_some, nI_1]
    unfold kf
    by_cases z : ab f n k = 0
    · obtain ⟨s2, a1, a2, a3, a4⟩ := lays_48_ok (τ := τ) (o := 0) (by decide) s1 hn Q1
      have a1 : Q_lays_48 0 s1 τ = some (s2, τ) := a1
      obtain ⟨s3, b1, b2, b3⟩ := Q_removes_ok (σ := s2) (τ := τ) hn (by rw [a4 35 (by decide)]; exact Q1) hkn
      obtain ⟨r, s4, t4, c1, c2, c3⟩ := qrest (σ := s3) (τ := τ) (pl_del_V V hkn) b2
      obtain ⟨s5, d1, d2, d3⟩ := takes_48_ok (τ := t4) (o := 0) (by decide) s4 hn (by rw [c2.1 48 (by omega), b3 48 (by decide)]; exact a2)
      have d1 : Q_takes_48 0 s4 t4 = some (s5, t4) := d1
      have F5 : qf_G σ s5 := ⟨fun a ha => by rw [d3 a (by omega), c2.1 a (by omega), b3 a (by omega), a4 a (by omega), F1.1 a ha], by rw [d3 34 (by decide), c2.2.1, b3 34 (by decide), a4 34 (by decide), F1.2.1], by rw [d3 34 (by decide), c2.2.2, b3 34 (by decide), a4 34 (by decide), F1.2.2]⟩
      have rw1 : Q_restsWithout (nI k) s1 τ = some (r, s5, t4) := by
        unfold Q_restsWithout
        rw [a1, ov_some, b1, ov_some, c1, ob_some, d1, ov_some, if_neg]
        rcases c3 with ⟨q, _⟩ | ⟨q, _⟩ <;> rw [q] <;> decide
      rw [z, if_pos (by rfl), rw1, ob_some]
      rcases c3 with ⟨c3, c4⟩ | ⟨c3, c4⟩
      · have hp : P k = false := by
          cases q : P k
          · rfl
          · exact absurd c4 ((hP k).mp q).2
        obtain ⟨σ', τ', e1, e2, e3⟩ := ih (k + 1) m s5 t4 (by omega) (by omega) d2
        rw [c3, if_neg (by decide), hp]
        exact ⟨σ', τ', e1, F5.tr e2, e3⟩
      · rw [c3, if_pos rfl, (hP k).mpr ⟨z, c4⟩]
        exact ⟨s5, t4, rfl, F5, d2⟩
    · have hp : P k = false := by
        cases q : P k
        · rfl
        · exact absurd ((hP k).mp q).1 z
      obtain ⟨σ', τ', e1, e2, e3⟩ := ih (k + 1) m s1 τ (by omega) (by omega) Q1
      rw [if_neg (nI_ne0 (by omega) (ab_small hn)), hp]
      exact ⟨σ', τ', e1, F1.tr e2, e3⟩
end LO
section LA2
variable {σ : mS} {τ : mT}
theorem al_where (h : Rel σ) (x w : Int32) : alike (R_where x w) (Q_where x w) σ τ := by
  refine ask h fun n f V C Q => ?_
  have hn := V.1
  have w0 : ∀ s t, R_within 0 0 9 s t = some (1, s, t) := fun s t => wi_in (j := 0) (a := 0) (b := 9) (by decide) (by decide) (by decide) s t
  rcases isb_case x w with ⟨hh, v, y1, y2, y3, y4, rfl, rfl, b1, b2⟩ | ⟨b1, b2⟩
  · by_cases z : n = 4
    · refine ⟨-3, σ, τ, σ, τ, ?_, ?_, cl_G.rf, qf_G.rf, Q⟩
      · unfold R_where P_size_2
        rw [b1, ob_some, if_neg (by decide), ob_some, C.n, show (4 : Int32) = nI 4 from rfl, if_neg (nI_nlt (by omega) (by omega))]
      · unfold Q_where
        rw [b2 0 σ τ (w0 σ τ), ob_some, if_neg (by decide), Q.1, show (4 : Int32) = nI 4 from rfl, if_pos (by rw [z])]
    · obtain ⟨P, hP⟩ := dec_ex (fun l => rest (pl_add n f l hh v) (n + 1) (Hh 0))
      obtain ⟨s1, t1, e1, e2⟩ := where_C V (by omega) y1 y2 y3 y4 hP 10 0 mc_F σ τ (by omega) (by unfold mc_F; omega) C
      have Q1 : pl_Q n f (s1 35) 0 := by rw [e2 35 (by omega)]; exact Q
      obtain ⟨s2, t2, g1, g2, g3⟩ := where_Q V (by omega) y1 y2 y3 y4 hP 10 0 mc_F s1 t1 (by omega) (by unfold mc_F; omega) Q1
      have e1 : R_where_l29 mc_F (nI hh) (nI v) 0 0 σ τ = some (nI (ct_m P 10), s1, t1) := e1
      have g1 : Q_where_l29 mc_F (nI hh) (nI v) 0 0 s1 t1 = some (nI (ct_m P 10), s2, t2) := g1
      refine ⟨nI (ct_m P 10), s1, t1, s2, t2, ?_, ?_, e2, g2, g3⟩
      · unfold R_where P_size_2
        rw [b1, ob_some, if_neg (by decide), ob_some, C.n, show (4 : Int32) = nI 4 from rfl, if_pos (nI_lt (by omega) (by decide))]
        exact e1
      · unfold Q_where
        rw [b2 0 s1 t1 (w0 s1 t1), ob_some, if_neg (by decide), Q1.1, show (4 : Int32) = nI 4 from rfl, if_neg (fun q => z ((nI_eq (by omega) (by decide)).mp q))]
        exact g1
  · refine ⟨-1, σ, τ, σ, τ, ?_, ?_, cl_G.rf, qf_G.rf, Q⟩
    · unfold R_where
      rw [b1, ob_some, if_pos rfl]
    · unfold Q_where
      rw [b2 0 σ τ (w0 σ τ), ob_some, if_pos rfl]
theorem al_weights (h : Rel σ) (x : Int32) : alike (R_weights x) (Q_weights x) σ τ := by
  refine ask h fun n f V C Q => ?_
  have hn := V.1
  rcases has_case x hn with ⟨b, hb, rfl, h1, h2⟩ | ⟨h1, h2⟩
  · obtain ⟨P, hP⟩ := dec_ex (fun w => 1 ≤ w ∧ rest (pl_set f (5 * b + 2) w) n (Hh 0))
    have p1 : ct_m P 1 = 0 := by
      have : P 0 = false := by
        cases q : P 0
        · rfl
        · exact absurd ((hP 0).mp q).1 (by decide)
      rw [bsum, this]; rfl
    obtain ⟨s0, a1, a2, a3⟩ := copy_42 (τ := τ) hn C
    obtain ⟨s1, t1, e1, e2⟩ := weigh_C V hb hP 9 1 mc_F s0 τ (by omega) (by unfold mc_F; omega) (by decide) a2.n (fun i hi _ => a2.at hi)
    have F1 : cl_G σ s1 := fun a ha => by rw [e2 a ha, a3 a (by omega)]
    have Q1 : pl_Q n f (s1 35) 0 := by rw [F1 35 (by omega)]; exact Q
    obtain ⟨s2, t2, g1, g2, g3⟩ := weigh_Q V hb hP 9 1 mc_F s1 t1 (by omega) (by unfold mc_F; omega) (by decide) Q1.1 (fun i hi _ => Q1.at hi)
    rw [p1] at e1 g1
    have e1 : R_weights_l28 mc_F (nI b) 0 1 s0 τ = some (nI (ct_m P 10), s1, t1) := e1
    have g1 : Q_weights_l22 mc_F (nI b) (nI (f (5 * b + 2))) 0 1 s1 t1 = some (nI (ct_m P 10), s2, t2) := g1
    have gt : Q_get (nI b) 3 s1 t1 = some (nI (f (5 * b + 2)), s1, t1) := Q_get_ok (k := 2) hn Q1 hb (by omega)
    refine ⟨nI (ct_m P 10), s1, t1, s2, t2, ?_, ?_, F1, g2, g3⟩
    · unfold R_weights
      rw [h1 σ τ C.n, ob_some, if_neg (by decide), a1, ov_some]
      exact e1
    · unfold Q_weights
      rw [h2 s1 t1 Q1.1, ob_some, if_neg (by decide), gt, ob_some]
      exact g1
  · refine ⟨-1, σ, τ, σ, τ, ?_, ?_, cl_G.rf, qf_G.rf, Q⟩
    · unfold R_weights
      rw [h1 σ τ C.n, ob_some, if_pos rfl]
    · unfold Q_weights
      rw [h2 σ τ Q.1, ob_some, if_pos rfl]
theorem al_key (h : Rel σ) : alike R_key Q_key σ τ := by
  refine ask h fun n f V C Q => ?_
  have hn := V.1
  obtain ⟨P, hP⟩ := dec_ex (fun b => ab f n b = 0 ∧ ¬ rest (pl_del f b) (n - 1) (Hh 0))
  obtain ⟨r, s1, t1, a1, a2, a3⟩ := bal_2 (τ := τ) (held := 0) V C (by decide)
  have a1 : R_isBalanced_2 0 σ τ = some (r, s1, t1) := a1
  unfold R_key Q_key
  rcases a3 with ⟨a3, a4⟩ | ⟨a3, a4⟩
  · obtain ⟨s2, t2, e1, e2⟩ := key_C V hP n 0 mc_F s1 t1 (by omega) (by unfold mc_F; omega) (by rw [a2 3 (by omega)]; exact C)
    have e1 : R_key_l17 mc_F 0 s1 t1 = some (kf P n 0, s2, t2) := e1
    have F2 := a2.g.tr e2
    have Q2 : pl_Q n f (s2 35) 0 := by rw [F2 35 (by omega)]; exact Q
    obtain ⟨r', s3, t3, b1, b2, b3⟩ := qrest (τ := t2) V Q2
    rcases b3 with ⟨b3, _⟩ | ⟨_, b4⟩
    · obtain ⟨s4, t4, g1, g2, g3⟩ := key_Q V hP n 0 mc_F s3 t3 (by omega) (by unfold mc_F; omega) (by rw [b2.1 35 (by omega)]; exact Q2)
      have g1 : Q_key_l12 mc_F 0 s3 t3 = some (kf P n 0, s4, t4) := g1
      refine ⟨kf P n 0, s2, t2, s4, t4, ?_, ?_, F2, b2.g.tr g2, g3⟩
      · rw [a1, ob_some, a3, if_neg (by decide)]; exact e1
      · rw [b1, ob_some, b3, if_neg (by decide)]; exact g1
    · exact absurd a4 b4
  · have Q1 : pl_Q n f (s1 35) 0 := by rw [a2 35 (by omega)]; exact Q
    obtain ⟨r', s3, t3, b1, b2, b3⟩ := qrest (τ := t1) V Q1
    rcases b3 with ⟨_, b4⟩ | ⟨b3, _⟩
    · exact absurd b4 a4
    · refine ⟨-9, s1, t1, s3, t3, ?_, ?_, a2.g, b2.g, by rw [b2.1 35 (by omega)]; exact Q1⟩
      · rw [a1, ob_some, a3, if_pos rfl]
      · rw [b1, ob_some, b3, if_pos rfl]
end LA2
