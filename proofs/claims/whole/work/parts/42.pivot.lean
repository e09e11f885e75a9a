/-! ===== THE CLASS's STEP ===== -/
theorem clearBy_l {N i r : Nat} {σ : mS} (hN : N ≤ 13) (hi : i < 8) (hr : r < 8) (hir : i ≠ r) (hσ : σ 15 4 = nI N) (p f : Int64) : ∀ (d k n : Nat) (τ : mT), k + d = N → d < n → τ 15 5 ≠ 0 →
    ∃ τ', B_clearBy_l23 n (nI i) (nI r) p f (nI k) σ τ = some (σ, τ') ∧ (∀ j, (k ≤ j ∧ j < N) ∨ j = 13 → τ' (17 + i) j = (τ (17 + i) j * p - f * τ (17 + r) j) / τ 15 5) ∧ (∀ j, j < k → τ' (17 + i) j = τ (17 + i) j) ∧ ∀ a, a ≠ 17 + i → τ' a = τ a := by
  intro d
  induction d with
  | zero =>
    intro k n τ hk hn h0
    obtain ⟨n, rfl⟩ : ∃ n', n = n' + 1 := ⟨n - 1, by omega⟩
    have : k = N := by omega
    subst this
    refine ⟨u2L τ (17 + i) 13 ((τ (17 + i) 13 * p - f * τ (17 + r) 13) / τ 15 5), ?_, ?_, ?_, ?_⟩
    · unfold B_clearBy_l23
      rw [hσ, if_pos (nI_le (Nat.le_refl _) (by omega)), if_neg (nin hi (by omega)), if_neg (nin hr (by omega)), if_neg h0, ncl (show i < 2 ^ 31 by omega), ncl (show r < 2 ^ 31 by omega), mw_eq]
    · intro j hj
      rcases hj with hj | hj
      · omega
      · rw [hj, u2L_at]
    · intro j hj
      rw [u2L_off _ _ (Or.inr (by omega))]
    · intro a ha
      rw [u2L_ne _ _ _ ha]
  | succ d ih =>
    intro k n τ hk hn h0
    obtain ⟨n, rfl⟩ : ∃ n', n = n' + 1 := ⟨n - 1, by omega⟩
    have hkN : k < N := by omega
    unfold B_clearBy_l23
    rw [hσ, if_neg (nI_ge hkN (by omega)), if_neg (nin hi (by omega)), if_neg (nin (show k < 14 by omega) (by omega)), if_neg (nin hr (by omega)), if_neg h0, ncl (show i < 2 ^ 31 by omega), ncl (show r < 2 ^ 31 by omega), ncl (show k < 2 ^ 31 by omega), mw_eq, nI_1]
    have h15 : u2L τ (17 + i) k ((τ (17 + i) k * p - f * τ (17 + r) k) / τ 15 5) 15 = τ 15 := u2L_ne _ _ _ (by omega)
    have hrr : u2L τ (17 + i) k ((τ (17 + i) k * p - f * τ (17 + r) k) / τ 15 5) (17 + r) = τ (17 + r) := u2L_ne _ _ _ (by omega)
    obtain ⟨τ', e1, e2, e3, e4⟩ := ih (k + 1) n (u2L τ (17 + i) k ((τ (17 + i) k * p - f * τ (17 + r) k) / τ 15 5)) (by omega) (by omega) (by rw [h15]; exact h0)
    refine ⟨τ', e1, fun j hj => ?_, fun j hj => ?_, fun a ha => ?_⟩
    · by_cases q : j = k
      · rw [q, e3 k (by omega), u2L_at]
      · have := e2 j (by omega)
        rw [this, hrr, h15, u2L_off _ _ (Or.inr q)]
    · rw [e3 j (by omega), u2L_off _ _ (Or.inr (by omega))]
    · rw [e4 a ha, u2L_ne _ _ _ ha]
theorem clearBy_ok {N i r e : Nat} {σ : mS} {τ : mT} (hN : N ≤ 13) (hi : i < 8) (hr : r < 8) (hir : i ≠ r) (he : e < 14) (hσ : σ 15 4 = nI N) (h0 : τ 15 5 ≠ 0) :
    ∃ τ', B_clearBy (nI i) (nI r) (nI e) σ τ = some (σ, τ') ∧ (∀ j, j < N ∨ j = 13 → τ' (17 + i) j = (τ (17 + i) j * τ (17 + r) e - τ (17 + i) e * τ (17 + r) j) / τ 15 5) ∧ ∀ a, a ≠ 17 + i → τ' a = τ a := by
  unfold B_clearBy
  rw [if_neg (nin hr (by omega)), if_neg (nin he (by omega)), if_neg (nin hi (by omega)), ncl (show i < 2 ^ 31 by omega), ncl (show r < 2 ^ 31 by omega), ncl (show e < 2 ^ 31 by omega)]
  obtain ⟨τ', e1, e2, _, e4⟩ := clearBy_l hN hi hr hir hσ (τ (17 + r) e) (τ (17 + i) e) N 0 mc_F τ (by omega) (by unfold mc_F; omega) h0
  exact ⟨τ', e1, fun j hj => e2 j (by omega), e4⟩
theorem pivot_l {m N r e : Nat} {σ : mS} (hm : m ≤ 8) (hN : N ≤ 13) (hr : r < m) (he : e < N) (h3 : σ 15 3 = nI m) (h4 : σ 15 4 = nI N) (pv : Int64) : ∀ (d k n : Nat) (τ : mT), k + d = m → d < n → τ 15 5 ≠ 0 →
    ∃ τ', B_pivot_l46 n (nI r) (nI e) pv (nI k) σ τ = some (u2 σ 25 r (nI e), τ') ∧ τ' 15 5 = pv ∧
      (∀ i, k ≤ i → i < m → i ≠ r → ∀ j, j < N ∨ j = 13 → τ' (17 + i) j = (τ (17 + i) j * τ (17 + r) e - τ (17 + i) e * τ (17 + r) j) / τ 15 5) ∧ (∀ i, i < k ∨ i = r → τ' (17 + i) = τ (17 + i)) ∧ ∀ a, a < 15 ∨ 24 < a ∨ a = 16 → τ' a = τ a := by
  intro d
  induction d with
  | zero =>
    intro k n τ hk hn h0
    obtain ⟨n, rfl⟩ : ∃ n', n = n' + 1 := ⟨n - 1, by omega⟩
    have : k = m := by omega
    subst this
    refine ⟨u2L τ 15 5 pv, ?_, u2L_at _ _ _ _, fun i a b => absurd a (by omega), fun i hi => u2L_ne _ _ _ (by omega), fun a ha => u2L_ne _ _ _ (by omega)⟩
    unfold B_pivot_l46
    rw [h3, if_pos (nI_le (Nat.le_refl _) (by omega)), mw_eq, if_neg (nin (show r < 8 by omega) (by omega)), ncl (show r < 2 ^ 31 by omega), mw_eq]
  | succ d ih =>
    intro k n τ hk hn h0
    obtain ⟨n, rfl⟩ : ∃ n', n = n' + 1 := ⟨n - 1, by omega⟩
    have hkm : k < m := by omega
    unfold B_pivot_l46
    rw [h3, if_neg (nI_ge hkm (by omega)), nI_1]
    by_cases q : k = r
    · rw [if_pos (by rw [q])]
      obtain ⟨τ', e1, e2, e3, e4, e5⟩ := ih (k + 1) n τ (by omega) (by omega) h0
      exact ⟨τ', e1, e2, fun i a b c => e3 i (by omega) b c, fun i hi => e4 i (by omega), e5⟩
    · rw [if_neg (fun z => q ((nI_eq (by omega) (by omega)).mp z))]
      obtain ⟨τ1, c1, c2, c3⟩ := clearBy_ok (τ := τ) hN (show k < 8 by omega) (show r < 8 by omega) q (show e < 14 by omega) h4 h0
      rw [c1, ov_some]
      have k15 : τ1 15 = τ 15 := c3 15 (by omega)
      have kr : τ1 (17 + r) = τ (17 + r) := c3 (17 + r) (by omega)
      obtain ⟨τ', e1, e2, e3, e4, e5⟩ := ih (k + 1) n τ1 (by omega) (by omega) (by rw [k15]; exact h0)
      refine ⟨τ', e1, e2, fun i a b c j hj => ?_, fun i hi => ?_, fun a ha => ?_⟩
      · by_cases z : i = k
        · rw [z, e4 k (by omega)]; exact c2 j hj
        · rw [e3 i (by omega) b c j hj, k15, kr, c3 (17 + i) (by omega)]
      · rw [e4 i (by omega), c3 (17 + i) (by omega)]
      · rw [e5 a ha, c3 a (by omega)]
theorem turn_l {N r : Nat} {σ : mS} (hN : N ≤ 13) (hr : r < 8) (hσ : σ 15 4 = nI N) : ∀ (d k n : Nat) (τ : mT), k + d = N → d < n →
    ∃ τ', B_turnSigns_l2 n (nI r) (nI k) σ τ = some (σ, τ') ∧ (∀ j, (k ≤ j ∧ j < N) ∨ j = 13 → τ' (17 + r) j = - τ (17 + r) j) ∧ (∀ j, j < k → τ' (17 + r) j = τ (17 + r) j) ∧ ∀ a, a ≠ 17 + r → τ' a = τ a := by
  intro d
  induction d with
  | zero =>
    intro k n τ hk hn
    obtain ⟨n, rfl⟩ : ∃ n', n = n' + 1 := ⟨n - 1, by omega⟩
    have : k = N := by omega
    subst this
    refine ⟨u2L τ (17 + r) 13 (- τ (17 + r) 13), ?_, ?_, ?_, ?_⟩
    · unfold B_turnSigns_l2
      rw [hσ, if_pos (nI_le (Nat.le_refl _) (by omega)), if_neg (nin hr (by omega)), ncl (show r < 2 ^ 31 by omega), mw_eq]
    · intro j hj
      rcases hj with hj | hj
      · omega
      · rw [hj, u2L_at]
    · intro j hj
      rw [u2L_off _ _ (Or.inr (by omega))]
    · intro a ha
      rw [u2L_ne _ _ _ ha]
  | succ d ih =>
    intro k n τ hk hn
    obtain ⟨n, rfl⟩ : ∃ n', n = n' + 1 := ⟨n - 1, by omega⟩
    have hkN : k < N := by omega
    unfold B_turnSigns_l2
    rw [hσ, if_neg (nI_ge hkN (by omega)), if_neg (nin hr (by omega)), if_neg (nin (show k < 14 by omega) (by omega)), ncl (show r < 2 ^ 31 by omega), ncl (show k < 2 ^ 31 by omega), mw_eq, nI_1]
    obtain ⟨τ', e1, e2, e3, e4⟩ := ih (k + 1) n (u2L τ (17 + r) k (- τ (17 + r) k)) (by omega) (by omega)
    refine ⟨τ', e1, fun j hj => ?_, fun j hj => ?_, fun a ha => ?_⟩
    · by_cases q : j = k
      · rw [q, e3 k (by omega), u2L_at]
      · rw [e2 j (by omega), u2L_off _ _ (Or.inr q)]
    · rw [e3 j (by omega), u2L_off _ _ (Or.inr (by omega))]
    · rw [e4 a ha, u2L_ne _ _ _ ha]
/-- what a step leaves as it was -/
def bp_F (σ : mS) (τ : mT) (σ' : mS) (τ' : mT) : Prop := (∀ a, a ≠ 25 → σ' a = σ a) ∧ ∀ a, a < 15 ∨ 24 < a ∨ a = 16 → τ' a = τ a
theorem bp_F.rf {σ : mS} {τ : mT} : bp_F σ τ σ τ := ⟨fun _ _ => rfl, fun _ _ => rfl⟩
theorem bp_F.tr {σ σ1 σ2 : mS} {τ τ1 τ2 : mT} (h : bp_F σ τ σ1 τ1) (h' : bp_F σ1 τ1 σ2 τ2) : bp_F σ τ σ2 τ2 := ⟨fun a ha => (h'.1 a ha).trans (h.1 a ha), fun a ha => (h'.2 a ha).trans (h.2 a ha)⟩
theorem bp_pivot {m N r e : Nat} {A : Nat → Nat → Int} {b : Nat → Int} {T : tb_T} {σ : mS} {τ : mT} (R : bp_R m N T σ τ) (B : bp_B m N T) (hJ : tb_J m N A b T) (hr : r < m) (he : e < N) (hp : T.2.1 r e ≠ 0) :
    ∃ σ' τ', B_pivot (nI r) (nI e) σ τ = some (σ', τ') ∧ bp_R m N (tb_pvs T r e) σ' τ' ∧ bp_F σ τ σ' τ' := by
  have R0 := R
  obtain ⟨hm, hN, r1, r2, r3, r4, r5, r6⟩ := R
  obtain ⟨b1, b2, b3⟩ := B
  obtain ⟨-, j2, j3⟩ := tb_J_pv hN hJ hr he hp
  have hD0 : T.1 ≠ 0 := hJ.2.1.1
  have h15 : ∀ τ1 : mT, τ1 15 = τ 15 → τ1 15 5 ≠ 0 := fun τ1 h z => hD0 (by rw [← r3, ← congrFun h 5, z]; rfl)
  have fin : ∀ σ1 : mS, (∀ i, i < m → σ1 25 i = nI (if i = r then e else T.2.2.2 i)) → ∀ i, i < m → σ1 25 i = nI ((tb_pvs T r e).2.2.2 i) ∧ (tb_pvs T r e).2.2.2 i < 22 := by
    intro σ1 h i hi
    have e1 : (tb_pvs T r e).2.2.2 i = if i = r then e else T.2.2.2 i := by unfold tb_pvs; split <;> rfl
    rw [e1]
    refine ⟨h i hi, ?_⟩
    have := (r6 i hi).2
    split <;> omega
  have fs : ∀ i, i < m → u2 σ 25 r (nI e) 25 i = nI (if i = r then e else T.2.2.2 i) := fun i hi => by
    by_cases q : i = r
    · rw [q, u2_at, if_pos rfl]
    · rw [u2_off _ _ (Or.inr q), if_neg q]; exact (r6 i hi).1
  unfold B_pivot
  rw [if_neg (nin (show r < 8 by omega) (by omega)), if_neg (nin (show e < 14 by omega) (by omega)), ncl (show r < 2 ^ 31 by omega), ncl (show e < 2 ^ 31 by omega)]
  by_cases hs : T.2.1 r e < 0
  · -- the row's signs are turned first
    rw [if_neg (fun z => by have := (lc_ge0 _).mp z; rw [r4 r hr e he] at this; omega)]
    obtain ⟨τ1, t1, t2, -, t4⟩ := turn_l (σ := σ) hN (show r < 8 by omega) r2 N 0 mc_F τ (by omega) (by unfold mc_F; omega)
    have t1 : B_turnSigns (nI r) σ τ = some (σ, τ1) := t1
    rw [t1, ov_some]
    have trow : ∀ j, j < N → (τ1 (17 + r) j).toInt = - T.2.1 r j := fun j hj => by
      rw [t2 j (by omega), l_neg (a := 84934656) (by rw [r4 r hr j hj]; exact b2 r j hr hj) (by decide), r4 r hr j hj]
    have tsum : (τ1 (17 + r) 13).toInt = - T.2.2.1 r := by
      rw [t2 13 (by omega), l_neg (a := 4600000000) (by rw [r5 r hr]; exact b3 r hr) (by decide), r5 r hr]
    have k15 : τ1 15 = τ 15 := t4 15 (by omega)
    unfold B_pivot_b18
    rw [if_neg (nin (show r < 8 by omega) (by omega)), if_neg (nin (show e < 14 by omega) (by omega)), ncl (show r < 2 ^ 31 by omega), ncl (show e < 2 ^ 31 by omega), if_neg (fun z => by have := (lc_eq0 _).mp z; rw [trow e he] at this; omega), if_neg (fun z => by have := (lc_eq0 _).mp z; rw [k15, r3] at this; exact hD0 this)]
    obtain ⟨τ2, p1, p2, p3, p4, p5⟩ := pivot_l (σ := σ) hm hN hr he r1 r2 (τ1 (17 + r) e) m 0 mc_F τ1 (by omega) (by unfold mc_F; omega) (h15 τ1 k15)
    have et : tb_pvs T r e = tb_neg (tb_pv T r e) := by unfold tb_pvs; rw [if_pos hs]
    refine ⟨_, τ2, p1, ⟨hm, hN, ?_, ?_, ?_, fun i hi j hj => ?_, fun i hi => ?_, fin _ fs⟩, ⟨fun a ha => u2_ne _ _ _ ha, fun a ha => by rw [p5 a ha, t4 a (by omega)]⟩⟩
    · rw [u2_ne _ _ _ (by omega)]; exact r1
    · rw [u2_ne _ _ _ (by omega)]; exact r2
    · rw [p2, trow e he, et]; rfl
    · rw [et]
      show _ = - (if i = r then T.2.1 r j else (T.2.1 i j * T.2.1 r e - T.2.1 i e * T.2.1 r j) / T.1)
      by_cases q : i = r
      · rw [q, p4 r (Or.inr rfl), if_pos rfl]; exact trow j hj
      · rw [if_neg q, p3 i (Nat.zero_le _) hi q j (Or.inl hj), t4 (17 + i) (by omega)]
        have dv := j2 i j hi q hj
        have hx := r4 i hi j hj
        have hf := r4 i hi e he
        rw [l_step (S := 84934656) (C := 84934656) (by rw [hx]; exact b2 i j hi hj) (by rw [trow e he]; have := b2 r e hr he; omega) (by rw [hf]; exact b2 i e hi he) (by rw [trow j hj]; have := b2 r j hr hj; omega) (by decide) (by decide) (by decide) (by
          rw [hx, hf, trow e he, trow j hj, k15, r3]
          have : T.2.1 i j * - T.2.1 r e - T.2.1 i e * - T.2.1 r j = - (T.2.1 i j * T.2.1 r e - T.2.1 i e * T.2.1 r j) := by grind
          rw [this]
          exact Int.dvd_neg.mpr dv), hx, hf, trow e he, trow j hj, k15, r3]
        have : T.2.1 i j * - T.2.1 r e - T.2.1 i e * - T.2.1 r j = - (T.2.1 i j * T.2.1 r e - T.2.1 i e * T.2.1 r j) := by grind
        rw [this, Int.neg_ediv_of_dvd dv]
    · rw [et]
      show _ = - (if i = r then T.2.2.1 r else (T.2.2.1 i * T.2.1 r e - T.2.1 i e * T.2.2.1 r) / T.1)
      by_cases q : i = r
      · rw [q, p4 r (Or.inr rfl), if_pos rfl]; exact tsum
      · rw [if_neg q, p3 i (Nat.zero_le _) hi q 13 (Or.inr rfl), t4 (17 + i) (by omega)]
        have dv := j3 i hi q
        have hx := r5 i hi
        have hf := r4 i hi e he
        rw [l_step (S := 4600000000) (C := 84934656) (by rw [hx]; exact b3 i hi) (by rw [trow e he]; have := b2 r e hr he; omega) (by rw [hf]; exact b2 i e hi he) (by rw [tsum]; have := b3 r hr; omega) (by decide) (by decide) (by decide) (by
          rw [hx, hf, trow e he, tsum, k15, r3]
          have : T.2.2.1 i * - T.2.1 r e - T.2.1 i e * - T.2.2.1 r = - (T.2.2.1 i * T.2.1 r e - T.2.1 i e * T.2.2.1 r) := by grind
          rw [this]
          exact Int.dvd_neg.mpr dv), hx, hf, trow e he, tsum, k15, r3]
        have : T.2.2.1 i * - T.2.1 r e - T.2.1 i e * - T.2.2.1 r = - (T.2.2.1 i * T.2.1 r e - T.2.1 i e * T.2.2.1 r) := by grind
        rw [this, Int.neg_ediv_of_dvd dv]
  · rw [if_pos ((lc_ge0 _).mpr (by rw [r4 r hr e he]; omega))]
    unfold B_pivot_b18
    rw [if_neg (nin (show r < 8 by omega) (by omega)), if_neg (nin (show e < 14 by omega) (by omega)), ncl (show r < 2 ^ 31 by omega), ncl (show e < 2 ^ 31 by omega), if_neg (fun z => by have := (lc_eq0 _).mp z; rw [r4 r hr e he] at this; exact hp this), if_neg (fun z => by have := (lc_eq0 _).mp z; rw [r3] at this; exact hD0 this)]
    obtain ⟨τ2, p1, p2, p3, p4, p5⟩ := pivot_l (σ := σ) hm hN hr he r1 r2 (τ (17 + r) e) m 0 mc_F τ (by omega) (by unfold mc_F; omega) (h15 τ rfl)
    have et : tb_pvs T r e = tb_pv T r e := by unfold tb_pvs; rw [if_neg hs]
    refine ⟨_, τ2, p1, ⟨hm, hN, ?_, ?_, ?_, fun i hi j hj => ?_, fun i hi => ?_, fin _ fs⟩, ⟨fun a ha => u2_ne _ _ _ ha, fun a ha => p5 a ha⟩⟩
    · rw [u2_ne _ _ _ (by omega)]; exact r1
    · rw [u2_ne _ _ _ (by omega)]; exact r2
    · rw [p2, r4 r hr e he, et]; rfl
    · rw [et]
      show _ = (if i = r then T.2.1 r j else (T.2.1 i j * T.2.1 r e - T.2.1 i e * T.2.1 r j) / T.1)
      by_cases q : i = r
      · rw [q, p4 r (Or.inr rfl), if_pos rfl]; exact r4 r hr j hj
      · rw [if_neg q, p3 i (Nat.zero_le _) hi q j (Or.inl hj)]
        have dv := j2 i j hi q hj
        have hx := r4 i hi j hj
        have hf := r4 i hi e he
        rw [l_step (S := 84934656) (C := 84934656) (by rw [hx]; exact b2 i j hi hj) (by rw [r4 r hr e he]; exact b2 r e hr he) (by rw [hf]; exact b2 i e hi he) (by rw [r4 r hr j hj]; exact b2 r j hr hj) (by decide) (by decide) (by decide) (by rw [hx, hf, r4 r hr e he, r4 r hr j hj, r3]; exact dv), hx, hf, r4 r hr e he, r4 r hr j hj, r3]
    · rw [et]
      show _ = (if i = r then T.2.2.1 r else (T.2.2.1 i * T.2.1 r e - T.2.1 i e * T.2.2.1 r) / T.1)
      by_cases q : i = r
      · rw [q, p4 r (Or.inr rfl), if_pos rfl]; exact r5 r hr
      · rw [if_neg q, p3 i (Nat.zero_le _) hi q 13 (Or.inr rfl)]
        have dv := j3 i hi q
        have hx := r5 i hi
        have hf := r4 i hi e he
        rw [l_step (S := 4600000000) (C := 84934656) (by rw [hx]; exact b3 i hi) (by rw [r4 r hr e he]; exact b2 r e hr he) (by rw [hf]; exact b2 i e hi he) (by rw [r5 r hr]; exact b3 r hr) (by decide) (by decide) (by decide) (by rw [hx, hf, r4 r hr e he, r5 r hr, r3]; exact dv), hx, hf, r4 r hr e he, r5 r hr, r3]
