/-! ===== QUESTIONS: ALIKE ===== -/
section AS
variable {σ : mS} {τ : mT}
theorem al_rests (h : Rel σ) : alike R_rests Q_rests σ τ := by
  refine ask h fun n f V C Q => ?_
  obtain ⟨r, s1, t1, a1, a2, a3⟩ := bal_2 (τ := τ) (held := 0) V C (by decide)
  have a1 : R_isBalanced_2 0 σ τ = some (r, s1, t1) := a1
  have Q1 : pl_Q n f (s1 35) 0 := by rw [a2 35 (by omega)]; exact Q
  obtain ⟨r', s2, t2, b1, b2, b3⟩ := qrest (τ := t1) V Q1
  have Q2 : pl_Q n f (s2 35) 0 := by rw [b2.1 35 (by omega)]; exact Q1
  unfold R_rests Q_rests
  rw [a1, ob_some]
  rcases a3 with ⟨a3, a4⟩ | ⟨a3, a4⟩
  · rcases b3 with ⟨b3, _⟩ | ⟨_, b4⟩
    · refine ⟨1, s1, t1, s2, t2, by rw [a3, if_neg (by decide)], by rw [b1, ob_some, b3, if_neg (by decide)], a2.g, b2.g, Q2⟩
    · exact absurd a4 b4
  · rcases b3 with ⟨_, b4⟩ | ⟨b3, _⟩
    · exact absurd b4 a4
    · refine ⟨0, s1, t1, s2, t2, by rw [a3, if_pos rfl], by rw [b1, ob_some, b3, if_pos rfl], a2.g, b2.g, Q2⟩
theorem al_bounds (h : Rel σ) (x w : Int32) : alike (R_bounds x w) (Q_bounds x w) σ τ := by
  refine ask h fun n f V C Q => ?_
  obtain ⟨r, s1, t1, s2, t2, a1, a2, a3, a4⟩ := bounds_ok (τ := τ) V C Q x w
  exact ⟨r, s1, t1, s2, t2, a1, a2, a3.g, a4.g, by rw [a4.1 35 (by omega), a3 35 (by omega)]; exact Q⟩
theorem al_bears (h : Rel σ) (x s w : Int32) : alike (R_bears x s w) (Q_bears x s w) σ τ := by
  refine ask h fun n f V C Q => ?_
  obtain ⟨r, s1, t1, s2, t2, a1, a2, a3, a4⟩ := bears_ok (τ := τ) V C Q x s w
  exact ⟨r, s1, t1, s2, t2, a1, a2, a3.g, a4.g, by rw [a4.1 35 (by omega), a3 35 (by omega)]; exact Q⟩
theorem al_block (h : Rel σ) (x w : Int32) : alike (R_block x w) (Q_block x w) σ τ := by
  refine ask h fun n f V C Q => ?_
  have hn := V.1
  rcases has_case x hn with ⟨b, hb, rfl, h1, h2⟩ | ⟨h1, h2⟩
  · rcases wi_ok w 0 (b := 7) (by decide) (by decide) with ⟨wh, _, hw, rfl, w1⟩ | w1
    · have w1 : ∀ s t, R_within (nI wh) 0 7 s t = some (1, s, t) := w1
      by_cases z : wh < 5
      · refine ⟨nI (f (5 * b + wh)), σ, τ, σ, τ, ?_, ?_, cl_G.rf, qf_G.rf, Q⟩
        · unfold R_block
          rw [h1 σ τ C.n, ob_some, if_neg (by decide), w1, ob_some, if_neg (by decide), show (5 : Int32) = nI 5 from rfl, if_neg (nI_ge z (by decide)), P_get_2_ok hn C hb z, ob_some]
        · unfold Q_block Q_tellBlock
          rw [h2 σ τ Q.1, ob_some, if_neg (by decide), qw_eq, w1, ob_some, if_neg (by decide), show (5 : Int32) = nI 5 from rfl, if_neg (nI_ge z (by decide)), nI_1, Q_get_ok hn Q hb z, ob_some, ob_some]
      · obtain ⟨s1, f1, f2, f3, f4⟩ := find_2_ok (σ := σ) (τ := τ) V C
        have F1 : cl_G σ s1 := fun a ha => f4.1 a (by omega)
        have Q1 : pl_Q n f (s1 35) 0 := by rw [f4.1 35 (by omega)]; exact Q
        obtain ⟨q1, d1, d2, d3⟩ := layAll_ok (σ := s1) (τ := τ) V Q1
        have Q4 : pl_Q n f (q1 35) 0 := by rw [d3.1 35 (by omega)]; exact Q1
        have wb := wi_pin (j := b) (n := n) hb (by omega) s1 τ
        have ib := nin (show b < 4 by omega) (by decide)
        have cb : (nI b).toNatClampNeg = b := ncl (by omega)
        obtain ⟨v1, v2, v3⟩ := f2.2.1 b hb
        obtain ⟨u1, u2⟩ := d2.1 b hb
        have gt : (5 : Int32) ≤ nI wh := by rw [show (5 : Int32) = nI 5 from rfl]; exact nI_le (by omega) (by omega)
        have fin : ∀ r, (if nI wh = 5 then (ob (Y_level (nI b) s1 τ) fun r8 σ8 τ8 => some (r8, σ8, τ8)) else if nI wh = 6 then (ob (Y_under (nI b) s1 τ) fun r10 σ10 τ10 => some (r10, σ10, τ10)) else (ob (Y_over (nI b) s1 τ) fun r11 σ11 τ11 => some (r11, σ11, τ11))) = some (r, s1, τ) → (if nI wh = (5 : Int32) then (if nI b < 0 ∨ 4 ≤ (nI b).toNatClampNeg then none else some (q1 40 (nI b).toNatClampNeg, q1, τ)) else (if nI wh = (6 : Int32) then (if nI b < 0 ∨ 4 ≤ (nI b).toNatClampNeg then none else some (q1 41 (nI b).toNatClampNeg, q1, τ)) else (ob (Q_above (nI b) q1 τ) fun r5 σ5 τ5 => some (r5, σ5, τ5)))) = some (r, q1, τ) → ∃ r σ1 τ1 σ2 τ2, R_block (nI b) (nI wh) σ τ = some (r, σ1, τ1) ∧ Q_block (nI b) (nI wh) σ1 τ1 = some (r, σ2, τ2) ∧ cl_G σ σ1 ∧ qf_G σ1 σ2 ∧ pl_Q n f (σ2 35) 0 := fun r e1 e2 => by
          refine ⟨r, s1, τ, q1, τ, ?_, ?_, F1, d3.qf.g, Q4⟩
          · unfold R_block
            rw [h1 σ τ C.n, ob_some, if_neg (by decide), w1, ob_some, if_neg (by decide), if_pos gt, f1, ov_some]
            exact e1
          · unfold Q_block Q_tellBlock
            rw [h2 s1 τ Q1.1, ob_some, if_neg (by decide), qw_eq, w1, ob_some, if_neg (by decide), if_pos gt, d1, ov_some, e2, ob_some]
        have : wh = 5 ∨ wh = 6 ∨ wh = 7 := by omega
        rcases this with e | e | e <;> subst e
        · refine fin (nI (lv f b)) ?_ ?_
          · unfold Y_level
            rw [if_pos (by rfl), f3, wb, ob_some, if_neg (by decide), if_neg ib, cb, v1, ob_some]
          · rw [if_pos (by rfl), if_neg ib, cb, u1]
        · refine fin (nI (un f b)) ?_ ?_
          · unfold Y_under
            rw [if_neg (by decide), if_pos (by rfl), f3, wb, ob_some, if_neg (by decide), if_neg ib, cb, v2, ob_some]
          · rw [if_neg (by decide), if_pos (by rfl), if_neg ib, cb, u2]
        · refine fin (nI (ab f n b)) ?_ ?_
          · unfold Y_over
            rw [if_neg (by decide), if_neg (by decide), f3, wb, ob_some, if_neg (by decide), if_neg ib, cb, v3, ob_some]
          · rw [if_neg (by decide), if_neg (by decide), above_ok V Q4.1 d2 hb, ob_some]
    · have w1 : ∀ s t, R_within w 0 7 s t = some (0, s, t) := w1
      refine ⟨-1, σ, τ, σ, τ, ?_, ?_, cl_G.rf, qf_G.rf, Q⟩
      · unfold R_block
        rw [h1 σ τ C.n, ob_some, if_neg (by decide), w1, ob_some, if_pos rfl]
      · unfold Q_block
        rw [h2 σ τ Q.1, ob_some, if_neg (by decide), qw_eq, w1, ob_some, if_pos rfl]
  · refine ⟨-1, σ, τ, σ, τ, ?_, ?_, cl_G.rf, qf_G.rf, Q⟩
    · unfold R_block
      rw [h1 σ τ C.n, ob_some, if_pos rfl]
    · unfold Q_block
      rw [h2 σ τ Q.1, ob_some, if_pos rfl]
theorem al_contact (h : Rel σ) (x w : Int32) : alike (R_contact x w) (Q_contact x w) σ τ := by
  refine ask h fun n f V C Q => ?_
  have hn := V.1
  have h12 := ct_al12 f hn
  obtain ⟨s1, f1, f2, f3, f4⟩ := find_2_ok (σ := σ) (τ := τ) V C
  have F1 : cl_G σ s1 := fun a ha => f4.1 a (by omega)
  have Q1 : pl_Q n f (s1 35) 0 := by rw [f4.1 35 (by omega)]; exact Q
  obtain ⟨q1, d1, d2, d3⟩ := layAll_ok (σ := s1) (τ := τ) V Q1
  have Q4 : pl_Q n f (q1 35) 0 := by rw [d3.1 35 (by omega)]; exact Q1
  rcases wi_pred x (n := (ct_al f n).length) (by omega) with ⟨u, hu, rfl, w1⟩ | w1
  · obtain ⟨c1, c2, c3⟩ := fd_ct (τ := τ) V f2 hu
    obtain ⟨g1, g2, g3⟩ := d2.2.2 u _ (ctc_mem hu)
    have ib := nin (show u < 16 by omega) (by decide)
    have cb : (nI u).toNatClampNeg = u := ncl (by omega)
    rcases wi_ok w 0 (b := 2) (by decide) (by decide) with ⟨wh, _, hw, rfl, w2⟩ | w2
    · have w2 : ∀ s t, R_within (nI wh) 0 2 s t = some (1, s, t) := w2
      have fin : ∀ r, (if nI wh = 0 then (ob (Y_upper (nI u) s1 τ) fun r6 σ6 τ6 => some (r6, σ6, τ6)) else if nI wh = 1 then (ob (Y_lower (nI u) s1 τ) fun r8 σ8 τ8 => some (r8, σ8, τ8)) else if nI wh = 2 then (ob (Y_x (nI u) s1 τ) fun r10 σ10 τ10 => some (r10, σ10, τ10)) else (some ((-1 : Int32), s1, τ))) = some (r, s1, τ) → (if nI wh = 0 then (if nI u < 0 ∨ 16 ≤ (nI u).toNatClampNeg then none else some (q1 42 (nI u).toNatClampNeg, q1, τ)) else (if nI wh = (1 : Int32) then (if nI u < 0 ∨ 16 ≤ (nI u).toNatClampNeg then none else some (q1 43 (nI u).toNatClampNeg, q1, τ)) else (if nI u < 0 ∨ 16 ≤ (nI u).toNatClampNeg then none else some (q1 44 (nI u).toNatClampNeg, q1, τ)))) = some (r, q1, τ) → ∃ r σ1 τ1 σ2 τ2, R_contact (nI u) (nI wh) σ τ = some (r, σ1, τ1) ∧ Q_contact (nI u) (nI wh) σ1 τ1 = some (r, σ2, τ2) ∧ cl_G σ σ1 ∧ qf_G σ1 σ2 ∧ pl_Q n f (σ2 35) 0 := fun r e1 e2 => by
        refine ⟨r, s1, τ, q1, τ, ?_, ?_, F1, d3.qf.g, Q4⟩
        · unfold R_contact Y_contacts
          rw [f1, ov_some, ob_some, f2.2.2.1, w1, ob_some, if_neg (by decide)]
          exact e1
        · unfold Q_contact Q_isContact
          rw [d1, ov_some, d2.2.1, qw_eq, w1, ob_some, if_neg (by decide), ob_some, if_neg (by decide), w2, ob_some, if_neg (by decide)]
          exact e2
      have : wh = 0 ∨ wh = 1 ∨ wh = 2 := by omega
      rcases this with e | e | e <;> subst e
      · refine fin (nI (ctc (ct_al f n) u).1) ?_ ?_
        · rw [if_pos (by rfl), c1, ob_some]
        · rw [if_pos (by rfl), if_neg ib, cb, g1]
      · refine fin (opt9 (ctc (ct_al f n) u).2.1) ?_ ?_
        · rw [if_neg (by decide), if_pos (by rfl), c2, ob_some]
        · rw [if_neg (by decide), if_pos (by rfl), if_neg ib, cb, g2]
      · refine fin (nI (ctc (ct_al f n) u).2.2) ?_ ?_
        · rw [if_neg (by decide), if_neg (by decide), if_pos (by rfl), c3, ob_some]
        · rw [if_neg (by decide), if_neg (by decide), if_neg ib, cb, g3]
    · have w2 : ∀ s t, R_within w 0 2 s t = some (0, s, t) := w2
      have no : ∀ j : Nat, j ≤ 2 → w ≠ nI j := fun j hj e => by
        have a := w2 σ τ
        have b := wi_in (j := j) (a := 0) (b := 2) (by omega) hj (by decide) σ τ
        rw [e] at a
        have := b.symm.trans a
        injection this with this
        injection this with this
        exact absurd this (by decide)
      have n0 : ¬ w = 0 := no 0 (by decide)
      have n1 : ¬ w = 1 := no 1 (by decide)
      have n2 : ¬ w = 2 := no 2 (by decide)
      refine ⟨-1, s1, τ, q1, τ, ?_, ?_, F1, d3.qf.g, Q4⟩
      · unfold R_contact Y_contacts
        rw [f1, ov_some, ob_some, f2.2.2.1, w1, ob_some, if_neg (by decide), if_neg n0, if_neg n1, if_neg n2]
      · unfold Q_contact Q_isContact
        rw [d1, ov_some, d2.2.1, qw_eq, w1, ob_some, if_neg (by decide), ob_some, if_neg (by decide), w2, ob_some, if_pos rfl]
  · refine ⟨-1, s1, τ, q1, τ, ?_, ?_, F1, d3.qf.g, Q4⟩
    · unfold R_contact Y_contacts
      rw [f1, ov_some, ob_some, f2.2.2.1, w1, ob_some, if_pos rfl]
    · unfold Q_contact Q_isContact
      rw [d1, ov_some, d2.2.1, qw_eq, w1, ob_some, if_neg (by decide), ob_some, if_pos rfl]
/-! count -/
def hvy (f : Nat → Nat) : Nat → Nat
  | 0 => 0
  | k + 1 => hvy f k + (f (5 * k + 2) + f (5 * k + 3))
def gml (f : Nat → Nat) : Nat → Int32
  | 0 => -9
  | k + 1 => jmax (gml f k) (nI (lv f k))
theorem heavy_C {n : Nat} {f : Nat → Nat} (V : pl_V n f) (C : pl_C n f (σ 3) 0) : ∀ (d k m : Nat), k + d = n → d < m → P_heaviness_2_l4 m (nI (hvy f k)) (nI k) σ τ = some (nI (hvy f n), σ, τ) := by
  have hn := V.1
  intro d
  induction d with
  | zero =>
    intro k m hk hm
    obtain ⟨m, rfl⟩ : ∃ m', m = m' + 1 := ⟨m - 1, by omega⟩
    have : k = n := by omega
    subst this
    unfold P_heaviness_2_l4 P_size_2
    rw [ob_some, C.n, if_pos (nI_le (Nat.le_refl _) (by omega))]
  | succ d ih =>
    intro k m hk hm
    obtain ⟨m, rfl⟩ : ∃ m', m = m' + 1 := ⟨m - 1, by omega⟩
    have hkn : k < n := by omega
    have g1 : P_get_2 (nI k) 2 σ τ = some (nI (f (5 * k + 2)), σ, τ) := P_get_2_ok (k := 2) hn C hkn (by omega)
    have g2 : P_get_2 (nI k) 3 σ τ = some (nI (f (5 * k + 3)), σ, τ) := P_get_2_ok (k := 3) hn C hkn (by omega)
    unfold P_heaviness_2_l4 P_size_2
    rw [ob_some, C.n, if_neg (nI_ge hkn (by omega)), g1, ob_some, g2, ob_some, nI_add, nI_add, nI_1]
    exact ih (k + 1) m (by omega) (by omega)
theorem heavy_Q {n : Nat} {f : Nat → Nat} (V : pl_V n f) (Q : pl_Q n f (σ 35) 0) : ∀ (d k m : Nat), k + d = n → d < m → Q_heavy_l4 m (nI (hvy f k)) (nI k) σ τ = some (nI (hvy f n), σ, τ) := by
  have hn := V.1
  intro d
  induction d with
  | zero =>
    intro k m hk hm
    obtain ⟨m, rfl⟩ : ∃ m', m = m' + 1 := ⟨m - 1, by omega⟩
    have : k = n := by omega
    subst this
    unfold Q_heavy_l4 Q_many
    rw [ob_some, Q.1, if_pos (nI_le (Nat.le_refl _) (by omega))]
  | succ d ih =>
    intro k m hk hm
    obtain ⟨m, rfl⟩ : ∃ m', m = m' + 1 := ⟨m - 1, by omega⟩
    have hkn : k < n := by omega
    have g1 : Q_get (nI k) 3 σ τ = some (nI (f (5 * k + 2)), σ, τ) := Q_get_ok (k := 2) hn Q hkn (by omega)
    have g2 : Q_get (nI k) 4 σ τ = some (nI (f (5 * k + 3)), σ, τ) := Q_get_ok (k := 3) hn Q hkn (by omega)
    unfold Q_heavy_l4 Q_many
    rw [ob_some, Q.1, if_neg (nI_ge hkn (by omega)), g1, ob_some, g2, ob_some, nI_add, nI_add, nI_1]
    exact ih (k + 1) m (by omega) (by omega)
theorem great_C {n : Nat} {f : Nat → Nat} (hn : n ≤ 4) (A : fd_A f n σ) (h8 : σ 6 8 = nI n) : ∀ (d k m : Nat), k + d = n → d < m → Y_greatestLevel_l5 m (gml f k) (nI k) σ τ = some (gml f n, σ, τ) := by
  intro d
  induction d with
  | zero =>
    intro k m hk hm
    obtain ⟨m, rfl⟩ : ∃ m', m = m' + 1 := ⟨m - 1, by omega⟩
    have : k = n := by omega
    subst this
    unfold Y_greatestLevel_l5
    rw [h8, if_pos (nI_le (Nat.le_refl _) (by omega))]
  | succ d ih =>
    intro k m hk hm
    obtain ⟨m, rfl⟩ : ∃ m', m = m' + 1 := ⟨m - 1, by omega⟩
    have hkn : k < n := by omega
    unfold Y_greatestLevel_l5
    rw [h8, if_neg (nI_ge hkn (by omega)), if_neg (nin (show k < 4 by omega) (by decide)), ncl (show k < 2 ^ 31 by omega), (A.2.1 k hkn).1, nI_1]
    exact ih (k + 1) m (by omega) (by omega)
theorem great_Q {n : Nat} {f : Nat → Nat} (hn : n ≤ 4) (A : qd_A f n σ) (h8 : σ 35 0 = nI n) : ∀ (d k m : Nat), k + d = n → d < m → Q_highest_l9 m (gml f k) (nI k) σ τ = some (gml f n, σ, τ) := by
  intro d
  induction d with
  | zero =>
    intro k m hk hm
    obtain ⟨m, rfl⟩ : ∃ m', m = m' + 1 := ⟨m - 1, by omega⟩
    have : k = n := by omega
    subst this
    unfold Q_highest_l9 Q_many
    rw [ob_some, h8, if_pos (nI_le (Nat.le_refl _) (by omega))]
  | succ d ih =>
    intro k m hk hm
    obtain ⟨m, rfl⟩ : ∃ m', m = m' + 1 := ⟨m - 1, by omega⟩
    have hkn : k < n := by omega
    have ihk := ih (k + 1) m (by omega) (by omega)
    unfold Q_highest_l9 Q_many
    rw [ob_some, h8, if_neg (nI_ge hkn (by omega)), if_neg (nin (show k < 4 by omega) (by decide)), ncl (show k < 2 ^ 31 by omega), (A.1 k hkn).1, nI_1]
    have e : gml f (k + 1) = jmax (gml f k) (nI (lv f k)) := rfl
    by_cases z : nI (lv f k) ≤ gml f k
    · rw [if_pos z]
      have : jmax (gml f k) (nI (lv f k)) = gml f k := if_neg (by rw [Int32.lt_iff_toInt_lt]; rw [Int32.le_iff_toInt_le] at z; omega)
      rw [e, this] at ihk
      exact ihk
    · rw [if_neg z]
      have : jmax (gml f k) (nI (lv f k)) = nI (lv f k) := if_pos (by rw [Int32.lt_iff_toInt_lt]; rw [Int32.le_iff_toInt_le] at z; omega)
      rw [e, this] at ihk
      exact ihk
theorem al_count (h : Rel σ) (x : Int32) : alike (R_count x) (Q_count x) σ τ := by
  obtain ⟨L, tx, hx, hT, hqT⟩ := h.2.1
  obtain ⟨kk, P, hV, hC, hQ⟩ := h.2.2.1
  refine ask h fun n f V C Q => ?_
  have hn := V.1
  unfold R_count Q_count
  obtain ⟨s1, f1, f2, f3, f4⟩ := find_2_ok (σ := σ) (τ := τ) V C
  have F1 : cl_G σ s1 := fun a ha => f4.1 a (by omega)
  have Q1 : pl_Q n f (s1 35) 0 := by rw [f4.1 35 (by omega)]; exact Q
  obtain ⟨q1, d1, d2, d3⟩ := layAll_ok (σ := s1) (τ := τ) V Q1
  have Q4 : pl_Q n f (q1 35) 0 := by rw [d3.1 35 (by omega)]; exact Q1
  by_cases e0 : x = 0
  · refine ⟨nI n, σ, τ, σ, τ, ?_, ?_, cl_G.rf, qf_G.rf, Q⟩
    · rw [if_pos e0]; unfold P_size_2; rw [ob_some, C.n]
    · rw [if_pos e0, Q.1]
  by_cases e1 : x = 1
  · refine ⟨nI (ct_al f n).length, s1, τ, q1, τ, ?_, ?_, F1, d3.qf.g, Q4⟩
    · rw [if_neg e0, if_pos e1]; unfold Y_contacts; rw [f1, ov_some, ob_some, f2.2.2.1]
    · rw [if_neg e0, if_pos e1]; unfold Q_contactsNow; rw [d1, ov_some, ob_some, d2.2.1]
  by_cases e2 : x = 2
  · refine ⟨nI (hvy f n), σ, τ, σ, τ, ?_, ?_, cl_G.rf, qf_G.rf, Q⟩
    · have := heavy_C (τ := τ) V C n 0 mc_F (by omega) (by unfold mc_F; omega)
      have : P_heaviness_2 σ τ = some (nI (hvy f n), σ, τ) := this
      rw [if_neg e0, if_neg e1, if_pos e2, this, ob_some]
    · have := heavy_Q (τ := τ) V Q n 0 mc_F (by omega) (by unfold mc_F; omega)
      have : Q_heavy σ τ = some (nI (hvy f n), σ, τ) := this
      rw [if_neg e0, if_neg e1, if_pos e2, this, ob_some]
  by_cases e3 : x = 3
  · refine ⟨gml f n, s1, τ, q1, τ, ?_, ?_, F1, d3.qf.g, Q4⟩
    · have := great_C (τ := τ) hn f2 f3 n 0 mc_F (by omega) (by unfold mc_F; omega)
      have : Y_greatestLevel s1 τ = some (gml f n, s1, τ) := this
      rw [if_neg e0, if_neg e1, if_neg e2, if_pos e3, f1, ov_some, this, ob_some]
    · have := great_Q (τ := τ) hn d2 Q4.1 n 0 mc_F (by omega) (by unfold mc_F; omega)
      have : Q_highest_l9 mc_F (-9) 0 q1 τ = some (gml f n, q1, τ) := this
      unfold Q_highest
      rw [if_neg e0, if_neg e1, if_neg e2, if_pos e3, d1, ov_some, this, ob_some]
  by_cases e4 : x = 4
  · refine ⟨nI L, σ, τ, σ, τ, ?_, ?_, cl_G.rf, qf_G.rf, Q⟩
    · unfold T_length
      rw [if_neg e0, if_neg e1, if_neg e2, if_neg e3, if_pos e4, ob_some, hT.1]
    · rw [if_neg e0, if_neg e1, if_neg e2, if_neg e3, if_pos e4, hqT.1]
  by_cases e5 : x = 5
  · refine ⟨nI kk, σ, τ, σ, τ, ?_, ?_, cl_G.rf, qf_G.rf, Q⟩
    · rw [if_neg e0, if_neg e1, if_neg e2, if_neg e3, if_neg e4, if_pos e5, hC.1]
    · rw [if_neg e0, if_neg e1, if_neg e2, if_neg e3, if_neg e4, if_pos e5, hQ.1]
  refine ⟨-1, σ, τ, σ, τ, ?_, ?_, cl_G.rf, qf_G.rf, Q⟩
  · rw [if_neg e0, if_neg e1, if_neg e2, if_neg e3, if_neg e4, if_neg e5]
  · rw [if_neg e0, if_neg e1, if_neg e2, if_neg e3, if_neg e4, if_neg e5]
end AS
