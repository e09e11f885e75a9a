/-! ===== THE CLASS's QUESTIONS OF BALANCE ===== -/
section CB
variable {n : Nat} {f : Nat → Nat}
theorem load_l {σ : mS} {m N eb spot row : Nat} (h3 : σ 15 3 = nI m) (hm : m ≤ 8) (hN : N < 13) (he : eb < 4) (hrow : row + 1 < m) (h26 : σ 26 eb = nI row) (hs : spot ≤ 6) : ∀ (d k l : Nat) (τ : mT), k + d = m → d < l →
    ∃ τ', B_poseLoad_l25 l (nI eb) (nI spot) (nI N) (nI k) σ τ = B_poseLoad_b100 (nI N) σ τ' ∧ (∀ i, k ≤ i → i < m → (τ' (17 + i) N).toInt = if i = row then -1 else if i = row + 1 then -(spot : Int) else 0) ∧ (∀ i, i < k → i ≠ row → i ≠ row + 1 → τ' (17 + i) N = τ (17 + i) N) ∧ (∀ i, i = row ∨ i = row + 1 → (τ' (17 + i) N).toInt = if i = row then -1 else -(spot : Int)) ∧ (∀ a j, j ≠ N → τ' a j = τ a j) ∧ ∀ a, a < 17 ∨ 17 + m ≤ a → τ' a = τ a := by
  intro d
  induction d with
  | zero =>
    intro k l τ hk hl
    obtain ⟨l, rfl⟩ : ∃ l', l = l' + 1 := ⟨l - 1, by omega⟩
    have : k = m := by omega
    subst this
    have hneg : ((-nI spot).toInt64).toInt = -(spot : Int) := by rw [Int32.toInt_toInt64, sb_negT (by omega)]
    refine ⟨u2L (u2L τ (17 + row) N (-1)) (17 + (row + 1)) N ((-nI spot).toInt64), ?_, fun i a b => by omega, fun i a b c => ?_, fun i hi => ?_, fun a j hj => ?_, fun a ha => ?_⟩
    · unfold B_poseLoad_l25
      rw [h3, if_pos (nI_le (Nat.le_refl _) (by omega)), if_neg (nin he (by decide)), ncl (show eb < 2 ^ 31 by omega), h26, if_neg (nI_pos (by omega)), nI_1, if_neg (nI_ge hrow (by omega)), if_neg (nin (show row < 8 by omega) (by decide)), if_neg (nin (show N < 14 by omega) (by decide)), ncl (show row < 2 ^ 31 by omega), ncl (show N < 2 ^ 31 by omega), mw_eq, if_neg (nin (show row + 1 < 8 by omega) (by decide)), ncl (show row + 1 < 2 ^ 31 by omega), mw_eq]
    · rw [u2L_off _ _ (Or.inl (by omega)), u2L_off _ _ (Or.inl (by omega))]
    · rcases hi with e | e <;> subst e
      · rw [if_pos rfl, u2L_off _ _ (Or.inl (by omega)), u2L_at]; rfl
      · rw [if_neg (by omega), u2L_at]; exact hneg
    · rw [u2L_off _ _ (Or.inr hj), u2L_off _ _ (Or.inr hj)]
    · rw [u2L_ne _ _ _ (by omega), u2L_ne _ _ _ (by omega)]
  | succ d ih =>
    intro k l τ hk hl
    obtain ⟨l, rfl⟩ : ∃ l', l = l' + 1 := ⟨l - 1, by omega⟩
    unfold B_poseLoad_l25
    rw [h3, if_neg (nI_ge (show k < m by omega) (by omega)), if_neg (nin (show k < 8 by omega) (by decide)), if_neg (nin (show N < 14 by omega) (by decide)), ncl (show k < 2 ^ 31 by omega), ncl (show N < 2 ^ 31 by omega), mw_eq, nI_1]
    obtain ⟨τ', e1, e2, e3, e4, e5, e6⟩ := ih (k + 1) l (u2L τ (17 + k) N 0) (by omega) (by omega)
    refine ⟨τ', e1, fun i a b => ?_, fun i a b c => ?_, e4, fun a j hj => by rw [e5 a j hj, u2L_off _ _ (Or.inr hj)], fun a ha => by rw [e6 a ha, u2L_ne _ _ _ (by omega)]⟩
    · by_cases z : i = k
      · subst z
        by_cases q1 : i = row
        · rw [if_pos q1]; have := e4 i (Or.inl q1); rw [if_pos q1] at this; exact this
        · rw [if_neg q1]
          by_cases q2 : i = row + 1
          · rw [if_pos q2]; have := e4 i (Or.inr q2); rw [if_neg q1] at this; exact this
          · rw [if_neg q2, e3 i (by omega) q1 q2, u2L_at]; rfl
      · exact e2 i (by omega) b
    · rw [e3 i (by omega) b c, u2L_off _ _ (Or.inl (by omega))]
theorem load_ok {σ : mS} {τ : mT} {H : Nat → Bool} (V : pl_V n f) (I : ps_I f n H n σ τ) {eb spot : Nat} (he : eb < n) (hH : H eb = true) (hs : spot ≤ 6) :
    ∃ σ' τ', B_poseLoad (nI eb) (nI spot) σ τ = some (nI (ct_al f n).length, σ', τ') ∧ bp_R (2 * ct_c H n) ((ct_al f n).length + 1) (tb_0 (eqL f n H eb spot) (rowv H n (eq_w f))) σ' τ' ∧ ∀ a, a ≠ 15 → σ' a = σ a := by
  have R := ps_R V I
  obtain ⟨I1, I2, I3, I4⟩ := I
  have h12 := ct_al12 f V.1
  have hn := V.1
  have hcl := ct_c_le H n
  have hce := (sl_ct (P := H) he hH).1
  obtain ⟨τ', e1, e2, e3, e4, e5, e6⟩ := load_l (σ := σ) (m := 2 * ct_c H n) (N := (ct_al f n).length) (eb := eb) (spot := spot) (row := 2 * ct_c H eb) I1 (by omega) (by omega) (by omega) (by omega) (I4 eb he hH).2 hs (2 * ct_c H n) 0 mc_F τ (by omega) (by unfold mc_F; omega)
  refine ⟨u2 σ 15 4 (nI ((ct_al f n).length + 1)), τ', ?_, ?_, fun a ha => u2_ne _ _ _ ha⟩
  · unfold B_poseLoad
    have w : R_within (nI eb) 0 3 σ τ = some (1, σ, τ) := wi_in (a := 0) (b := 3) (by omega) (by omega) (by decide) σ τ
    rw [I2, show (13 : Int32) = nI 13 from rfl, if_neg (nI_ge (by omega) (by decide)), w, ob_some, if_neg (by decide)]
    have e1 : B_poseLoad_l25 mc_F (nI eb) (nI spot) (nI (ct_al f n).length) 0 σ τ = B_poseLoad_b100 (nI (ct_al f n).length) σ τ' := e1
    rw [e1]
    unfold B_poseLoad_b100
    rw [I2, nI_1, mw_eq]
  · obtain ⟨r1, r2, r3, r4, r5, r6, r7, r8⟩ := R
    have cs : ∀ x, x < (ct_al f n).length + 1 → x < (ct_al f n).length ∨ x = (ct_al f n).length := fun x h => by omega
    refine ⟨r1, by omega, by rw [u2_off _ _ (Or.inr (by decide))]; exact r3, u2_at _ _ _ _, by rw [e6 15 (by omega)]; exact r5, fun i hi j hj => ?_, fun i hi => by rw [e5 _ _ (by omega)]; exact r7 i hi, fun i hi => by rw [u2_ne _ _ _ (by decide)]; exact r8 i hi⟩
    show _ = eqL f n H eb spot j i
    rcases cs j hj with z | z
    · rw [eqL_lo z, e5 _ _ (by omega)]
      exact r6 i hi j z
    · subst z
      rw [eqL_hi, e2 i (Nat.zero_le _) hi]
      obtain ⟨s1, s2, s3⟩ := sl_ok (P := H) (N := n) (j := i / 2) (by omega)
      by_cases q1 : i = 2 * ct_c H eb
      · rw [if_pos q1, q1]
        have := rowv_at (H := H) (n := n) (fun b p => - eq_d eb spot b p) he hH (p := 0) (by decide)
        rw [Nat.add_zero] at this
        rw [this, eq_d_0, if_pos rfl]
      · rw [if_neg q1]
        by_cases q2 : i = 2 * ct_c H eb + 1
        · rw [if_pos q2, q2, rowv_at (H := H) (n := n) (fun b p => - eq_d eb spot b p) he hH (p := 1) (by decide), eq_d_1, if_pos rfl]
        · rw [if_neg q2]
          unfold rowv
          rw [if_pos hi]
          have hne : ¬ sl H n (i / 2) = eb := fun z => by rw [z] at s3; omega
          show (0 : Int) = - eq_d eb spot (sl H n (i / 2)) (i % 2)
          unfold eq_d
          rw [if_neg hne]
          rfl
/-- what the class leaves as it was -/
def cl_F (σ σ' : mS) : Prop := ∀ a, a < 6 ∨ 26 < a → σ' a = σ a
theorem cl_F.rf {σ : mS} : cl_F σ σ := fun _ _ => rfl
theorem cl_F.tr {σ σ1 σ2 : mS} (h : cl_F σ σ1) (h' : cl_F σ1 σ2) : cl_F σ σ2 := fun a ha => (h' a ha).trans (h a ha)
/-- the pile rests, with some blocks held -/
def rest (f : Nat → Nat) (n : Nat) (H : Nat → Bool) : Prop := lp_fe (ct_al f n).length (eqA f n H) (rowv H n (eq_w f))
theorem bal_2 {σ : mS} {τ : mT} (V : pl_V n f) (C : pl_C n f (σ 3) 0) {held : Nat} (hh : held < 16) : ∃ r σ' τ', R_isBalanced_2 (nI held) σ τ = some (r, σ', τ') ∧ cl_F σ σ' ∧ ((r = 1 ∧ rest f n (Hh held)) ∨ (r = 0 ∧ ¬ rest f n (Hh held))) := by
  obtain ⟨σ1, f1, f2, f3, f4⟩ := find_2_ok (τ := τ) V C
  obtain ⟨σ2, τ2, p1, p2, p3⟩ := pose_2_ok (σ := σ1) (τ := τ) V hh (by rw [f4.1 3 (by omega)]; exact C) f2
  obtain ⟨σ3, τ3, F, s⟩ := bp_solve (eqA_ok V (eq_w_ok V)) (ps_R V p2)
  have fr : cl_F σ σ3 := fun a ha => by rw [F.1 a (by omega), p3.1 a (by omega) (by omega) (by omega), f4.1 a (by omega)]
  unfold R_isBalanced_2
  rw [f1, ov_some, p1, ov_some]
  rcases s with ⟨s1, s2, _⟩ | ⟨s1, s2⟩
  · rw [s2, ob_some, if_neg (by decide)]
    exact ⟨1, σ3, τ3, rfl, fr, Or.inl ⟨rfl, s1⟩⟩
  · rw [s2, ob_some, if_neg (by decide)]
    exact ⟨0, σ3, τ3, rfl, fr, Or.inr ⟨rfl, s1⟩⟩
theorem bal_4 {σ : mS} {τ : mT} (V : pl_V n f) (C : pl_C n f (σ 5) 0) {held : Nat} (hh : held < 16) : ∃ r σ' τ', R_isBalanced_4 (nI held) σ τ = some (r, σ', τ') ∧ cl_F σ σ' ∧ ((r = 1 ∧ rest f n (Hh held)) ∨ (r = 0 ∧ ¬ rest f n (Hh held))) := by
  obtain ⟨σ1, f1, f2, f3, f4⟩ := find_4_ok (τ := τ) V C
  obtain ⟨σ2, τ2, p1, p2, p3⟩ := pose_4_ok (σ := σ1) (τ := τ) V hh (by rw [f4.1 5 (by omega)]; exact C) f2
  obtain ⟨σ3, τ3, F, s⟩ := bp_solve (eqA_ok V (eq_w_ok V)) (ps_R V p2)
  have fr : cl_F σ σ3 := fun a ha => by rw [F.1 a (by omega), p3.1 a (by omega) (by omega) (by omega), f4.1 a (by omega)]
  unfold R_isBalanced_4
  rw [f1, ov_some, p1, ov_some]
  rcases s with ⟨s1, s2, _⟩ | ⟨s1, s2⟩
  · rw [s2, ob_some, if_neg (by decide)]
    exact ⟨1, σ3, τ3, rfl, fr, Or.inl ⟨rfl, s1⟩⟩
  · rw [s2, ob_some, if_neg (by decide)]
    exact ⟨0, σ3, τ3, rfl, fr, Or.inr ⟨rfl, s1⟩⟩
end CB
