/-! ===== THE REFERENCE FINDS WHERE THE BLOCKS LIE ===== -/
section LA
variable {n : Nat} {f : Nat → Nat} {σ : mS} {τ : mT}
theorem Q_end_ok (V : pl_V n f) (h : pl_Q n f (σ 35) 0) {b : Nat} (hb : b < n) : Q_end (nI b) σ τ = some (nI (ly_r f b), σ, τ) := by
  have g1 : Q_get (nI b) 1 σ τ = some (nI (f (5 * b)), σ, τ) := Q_get_ok (k := 0) V.1 h hb (by omega)
  have g2 : Q_get (nI b) 2 σ τ = some (nI (f (5 * b + 1)), σ, τ) := Q_get_ok (k := 1) V.1 h hb (by omega)
  unfold Q_end
  rw [g1, ob_some, g2, ob_some, show (2 : Int32) = nI 2 from rfl, pk_mul, nI_add]
  rfl
theorem Q_left_ok (V : pl_V n f) (h : pl_Q n f (σ 35) 0) {b : Nat} (hb : b < n) : Q_get (nI b) 1 σ τ = some (nI (ly_l f b), σ, τ) := Q_get_ok (k := 0) V.1 h hb (by omega)
theorem Q_from_ok (V : pl_V n f) (h : pl_Q n f (σ 35) 0) {a b : Nat} (ha : a < n) (hb : b < n) : Q_from (nI a) (nI b) σ τ = some (nI (max (ly_l f a) (ly_l f b)), σ, τ) := by
  obtain ⟨p1, p2, p3⟩ := ly_bd V ha
  obtain ⟨q1, q2, q3⟩ := ly_bd V hb
  unfold Q_from
  rw [Q_left_ok V h ha, ob_some, Q_left_ok V h hb, ob_some]
  by_cases z : ly_l f a ≤ ly_l f b
  · rw [if_pos (nI_le z (by omega)), Q_left_ok V h hb, ob_some, Nat.max_eq_right z]
  · rw [if_neg (nI_ge (by omega) (by omega)), Q_left_ok V h ha, ob_some, Nat.max_eq_left (by omega)]
theorem Q_to_ok (V : pl_V n f) (h : pl_Q n f (σ 35) 0) {a b : Nat} (ha : a < n) (hb : b < n) : Q_to (nI a) (nI b) σ τ = some (nI (min (ly_r f a) (ly_r f b)), σ, τ) := by
  obtain ⟨p1, p2, p3⟩ := ly_bd V ha
  obtain ⟨q1, q2, q3⟩ := ly_bd V hb
  unfold Q_to
  rw [Q_end_ok V h ha, ob_some, Q_end_ok V h hb, ob_some]
  by_cases z : ly_r f b ≤ ly_r f a
  · rw [if_pos (nI_le z (by omega)), Q_end_ok V h hb, ob_some, Nat.min_eq_right z]
  · rw [if_neg (nI_ge (by omega) (by omega)), Q_end_ok V h ha, ob_some, Nat.min_eq_left (by omega)]
theorem Q_over_ok (V : pl_V n f) (h : pl_Q n f (σ 35) 0) {a b : Nat} (ha : a < n) (hb : b < n) : Q_doOverlap (nI a) (nI b) σ τ = some (if ly_ov f a b then 1 else 0, σ, τ) := by
  obtain ⟨p1, p2, p3⟩ := ly_bd V ha
  obtain ⟨q1, q2, q3⟩ := ly_bd V hb
  unfold Q_doOverlap
  rw [Q_from_ok V h ha hb, ob_some, Q_to_ok V h ha hb, ob_some]
  unfold ly_ov
  by_cases h1 : ly_l f a < ly_r f b
  · by_cases h2 : ly_l f b < ly_r f a
    · rw [if_neg (nI_ge (by omega) (by omega)), decide_eq_true h1, decide_eq_true h2]; rfl
    · rw [if_pos (nI_le (by omega) (by omega)), decide_eq_false h2, Bool.and_false]; rfl
  · rw [if_pos (nI_le (by omega) (by omega)), decide_eq_false h1]; rfl
def qd_K (l : List ctT) (σ : mS) : Prop := σ 34 9 = nI l.length ∧ ct_M l (σ 42) (σ 43) (σ 44)
def qd_F (σ σ' : mS) : Prop := (∀ a, a ≠ 34 → a ≠ 42 → a ≠ 43 → a ≠ 44 → σ' a = σ a) ∧ ∀ j, j ≠ 9 → σ' 34 j = σ 34 j
theorem qd_F.rf : qd_F σ σ := ⟨fun _ _ _ _ _ => rfl, fun _ _ => rfl⟩
theorem qd_F.tr {σ1 σ2 : mS} (h : qd_F σ σ1) (h' : qd_F σ1 σ2) : qd_F σ σ2 := ⟨fun a h1 h2 h3 h4 => (h'.1 a h1 h2 h3 h4).trans (h.1 a h1 h2 h3 h4), fun j hj => (h'.2 j hj).trans (h.2 j hj)⟩
theorem touch_ok {l : List ctT} (h : qd_K l σ) (hl : l.length < 12) (u : Nat) (lo : Option Nat) (x : Nat) : ∃ σ', Q_touches (nI u) (opt9 lo) (nI x) σ τ = some (σ', τ) ∧ qd_K (l ++ [(u, lo, x)]) σ' ∧ qd_F σ σ' := by
  obtain ⟨h1, h2⟩ := h
  have hl : l.length < 16 := by omega
  refine ⟨u2 (u2 (u2 (u2 σ 42 l.length (nI u)) 43 l.length (opt9 lo)) 44 l.length (nI x)) 34 9 (nI (l.length + 1)), ?_, ⟨?_, ?_⟩, ⟨fun a a1 a2 a3 a4 => ?_, fun j hj => ?_⟩⟩
  · unfold Q_touches
    rw [h1, if_neg (nin hl (by decide)), ncl (by omega), mw_eq, u2_ne _ _ _ (by decide), h1, if_neg (nin hl (by decide)), ncl (by omega), mw_eq, u2_ne _ _ _ (by decide), u2_ne _ _ _ (by decide), h1, if_neg (nin hl (by decide)), ncl (by omega), mw_eq, u2_ne _ _ _ (by decide), u2_ne _ _ _ (by decide), u2_ne _ _ _ (by decide), h1, nI_1, mw_eq]
  · rw [u2_at, List.length_append]; rfl
  · rw [u2_ne _ _ _ (by decide), u2_ne _ _ _ (by decide), u2_ne _ _ _ (by decide), u2_same, u2_ne _ _ _ (by decide), u2_ne _ _ _ (by decide), u2_same, u2_ne _ _ _ (by decide), u2_ne _ _ _ (by decide), u2_same, u2_ne _ _ _ (by decide), u2_ne _ _ _ (by decide)]
    exact ct_M_snoc h2 (u, lo, x)
  · rw [u2_ne _ _ _ a1, u2_ne _ _ _ a4, u2_ne _ _ _ a3, u2_ne _ _ _ a2]
  · rw [u2_off _ _ (Or.inr hj), u2_ne _ _ _ (by decide), u2_ne _ _ _ (by decide), u2_ne _ _ _ (by decide)]
/-- what layBlock leaves as it was -/
def lb_F (b : Nat) (σ σ' : mS) : Prop := (∀ a, a < 34 ∨ 44 < a ∨ (34 < a ∧ a < 40) → σ' a = σ a) ∧ (∀ j, j ≠ 9 → σ' 34 j = σ 34 j) ∧ (∀ j, j ≠ b → σ' 40 j = σ 40 j ∧ σ' 41 j = σ 41 j)
theorem lb_F.rf {b : Nat} : lb_F b σ σ := ⟨fun _ _ => rfl, fun _ _ => rfl, fun _ _ => ⟨rfl, rfl⟩⟩
theorem lb_F.tr {b : Nat} {σ1 σ2 : mS} (h : lb_F b σ σ1) (h' : lb_F b σ1 σ2) : lb_F b σ σ2 := ⟨fun a h1 => (h'.1 a h1).trans (h.1 a h1), fun j hj => (h'.2.1 j hj).trans (h.2.1 j hj), fun j hj => ⟨((h'.2.2 j hj).1).trans (h.2.2 j hj).1, ((h'.2.2 j hj).2).trans (h.2.2 j hj).2⟩⟩
theorem qd_F.lb {b : Nat} {σ' : mS} (h : qd_F σ σ') : lb_F b σ σ' := ⟨fun a ha => h.1 a (by omega) (by omega) (by omega) (by omega), h.2, fun j _ => ⟨by rw [h.1 40 (by decide) (by decide) (by decide) (by decide)], by rw [h.1 41 (by decide) (by decide) (by decide) (by decide)]⟩⟩
theorem lay76 {b : Nat} {τ : mT} (V : pl_V n f) (hb : b < n) : ∀ (d k m : Nat) (σ : mS), k + d = b → d < m → pl_Q n f (σ 35) 0 → (∀ a, a ≤ b → σ 40 a = nI (lv f a)) → σ 41 b = nI (ct_m (ly_U f b) k) → qd_K (ct_al f b ++ ct_in f b k) σ →
    ∃ σ', Q_layBlock_l76 m (nI b) (nI k) σ τ = some (σ', τ) ∧ σ' 41 b = nI (un f b) ∧ σ' 40 b = nI (lv f b) ∧ qd_K (ct_al f (b + 1)) σ' ∧ lb_F b σ σ' := by
  have hn := V.1
  intro d
  induction d with
  | zero =>
    intro k m σ hk hm hQ h40 h41 hK
    obtain ⟨m, rfl⟩ : ∃ m', m = m' + 1 := ⟨m - 1, by omega⟩
    have : k = b := by omega
    subst this
    have eA : ct_al f (k + 1) = ct_al f k ++ ct_bl f k := rfl
    have h12 := ct_al12 f (n := k + 1) (by omega)
    have hun : un f k < 2 ^ k := ct_m_lt _ k
    have hun31 : un f k < 2 ^ 31 := Nat.lt_of_lt_of_le hun (Nat.pow_le_pow_right (by decide) (by omega))
    unfold Q_layBlock_l76
    rw [if_pos (nI_le (Nat.le_refl _) (by omega)), if_neg (nin (show k < 4 by omega) (by decide)), ncl (show k < 2 ^ 31 by omega), show σ 41 k = nI (un f k) from h41]
    by_cases h0 : un f k = 0
    · have eB : ct_bl f k = [(k, none, ly_l f k), (k, none, ly_r f k)] := if_pos h0
      rw [eA, eB, List.length_append] at h12
      have h12 : (ct_al f k).length + 2 ≤ 12 := h12
      rw [ct_in_nil h0 (Nat.le_refl _), List.append_nil] at hK
      rw [h0, if_pos (by rfl), Q_left_ok V hQ hb, ob_some]
      obtain ⟨σ1, s1, s2, s3⟩ := touch_ok (τ := τ) hK (by omega) k none (ly_l f k)
      have s1 : Q_touches (nI k) (-9) (nI (ly_l f k)) σ τ = some (σ1, τ) := s1
      rw [s1, ov_some, Q_end_ok V (by rw [s3.1 35 (by decide) (by decide) (by decide) (by decide)]; exact hQ) hb, ob_some]
      obtain ⟨σ2, t1, t2, t3⟩ := touch_ok (τ := τ) s2 (by rw [List.length_append]; show _ + 1 < 12; omega) k none (ly_r f k)
      have t1 : Q_touches (nI k) (-9) (nI (ly_r f k)) σ1 τ = some (σ2, τ) := t1
      rw [t1, ov_some]
      have F2 := s3.tr t3
      refine ⟨σ2, rfl, ?_, ?_, ?_, F2.lb⟩
      · rw [F2.1 41 (by decide) (by decide) (by decide) (by decide)]; exact h41.trans (by rw [show ct_m (ly_U f k) k = un f k from rfl, h0])
      · rw [F2.1 40 (by decide) (by decide) (by decide) (by decide)]; exact h40 k (Nat.le_refl _)
      · rw [eA, eB]
        have e : ct_al f k ++ [(k, none, ly_l f k), (k, none, ly_r f k)] = ct_al f k ++ [(k, none, ly_l f k)] ++ [(k, none, ly_r f k)] := by simp
        rw [e]; exact t2
    · rw [if_neg (nI_ne0 (by omega) hun31), eA, show ct_bl f k = ct_in f k k from if_neg h0]
      exact ⟨σ, rfl, h41, h40 k (Nat.le_refl _), hK, lb_F.rf⟩
  | succ d ih =>
    intro k m σ hk hm hQ h40 h41 hK
    obtain ⟨m, rfl⟩ : ∃ m', m = m' + 1 := ⟨m - 1, by omega⟩
    have hkb : k < b := by omega
    have l1 := lv_le f k
    have l2 := lv_le f b
    have eI : ct_in f b (k + 1) = ct_in f b k ++ (if ly_U f b k then [(b, some k, max (ly_l f k) (ly_l f b)), (b, some k, min (ly_r f k) (ly_r f b))] else []) := rfl
    have eU : ct_m (ly_U f b) (k + 1) = ct_m (ly_U f b) k + (if ly_U f b k then 2 ^ k else 0) := rfl
    unfold Q_layBlock_l76
    rw [if_neg (nI_ge hkb (by omega)), Q_over_ok V hQ (by omega) hb, ob_some]
    have no : ly_U f b k = false → ∃ σ', Q_layBlock_l76 m (nI b) (nI (k + 1)) σ τ = some (σ', τ) ∧ σ' 41 b = nI (un f b) ∧ σ' 40 b = nI (lv f b) ∧ qd_K (ct_al f (b + 1)) σ' ∧ lb_F b σ σ' := fun hu => by
      rw [hu, if_neg (by decide), List.append_nil] at eI
      rw [hu] at eU
      exact ih (k + 1) m σ (by omega) (by omega) hQ h40 (by rw [h41, eU]; rfl) (by rw [eI]; exact hK)
    cases ho : ly_ov f k b with
    | false =>
      rw [if_pos (by rfl), nI_1]
      exact no (by unfold ly_U; rw [ho]; rfl)
    | true =>
      rw [if_neg (by decide), if_neg (nin (show k < 4 by omega) (by decide)), if_neg (nin (show b < 4 by omega) (by decide)), ncl (show k < 2 ^ 31 by omega), ncl (show b < 2 ^ 31 by omega), h40 k (by omega), h40 b (Nat.le_refl _), nI_1, nI_1]
      by_cases hc : lv f k + 1 = lv f b
      · have hu : ly_U f b k = true := by unfold ly_U; rw [ho, decide_eq_true hc]; rfl
        rw [if_pos (by rw [hc]), mw_eq]
        rw [hu, if_pos rfl] at eI
        rw [hu] at eU
        have x1 := ct_m_lt (ly_U f b) k
        rw [h41, i_orbit (by omega) x1]
        have rm := ct_room (f := f) (b := b) (k := k + 1) (by omega) (by omega)
        rw [eI, List.length_append] at rm
        have rm : (ct_al f b).length + ((ct_in f b k).length + 2) ≤ 12 := rm
        have F0 : lb_F b σ (u2 σ 41 b (nI (ct_m (ly_U f b) k + 2 ^ k))) := ⟨fun a ha => u2_ne _ _ _ (by omega), fun j _ => by rw [u2_ne _ _ _ (by decide)], fun j hj => ⟨by rw [u2_ne _ _ _ (by decide)], u2_off _ _ (Or.inr hj)⟩⟩
        have e41 : u2 σ 41 b (nI (ct_m (ly_U f b) k + 2 ^ k)) 41 b = nI (ct_m (ly_U f b) k + 2 ^ k) := u2_at _ _ _ _
        have eo : ∀ a, a ≠ 41 → u2 σ 41 b (nI (ct_m (ly_U f b) k + 2 ^ k)) a = σ a := fun a ha => u2_ne _ _ _ ha
        generalize u2 σ 41 b (nI (ct_m (ly_U f b) k + 2 ^ k)) = s0 at F0 e41 eo
        have hQ0 : pl_Q n f (s0 35) 0 := by rw [eo 35 (by decide)]; exact hQ
        have hK0 : qd_K (ct_al f b ++ ct_in f b k) s0 := ⟨by rw [eo 34 (by decide)]; exact hK.1, by rw [eo 42 (by decide), eo 43 (by decide), eo 44 (by decide)]; exact hK.2⟩
        rw [Q_from_ok V hQ0 (by omega) hb, ob_some]
        obtain ⟨σ1, s1, s2, s3⟩ := touch_ok (τ := τ) hK0 (by rw [List.length_append]; omega) b (some k) (max (ly_l f k) (ly_l f b))
        have s1 : Q_touches (nI b) (nI k) (nI (max (ly_l f k) (ly_l f b))) s0 τ = some (σ1, τ) := s1
        rw [s1, ov_some, Q_to_ok V (by rw [s3.1 35 (by decide) (by decide) (by decide) (by decide)]; exact hQ0) (by omega) hb, ob_some]
        obtain ⟨σ2, t1, t2, t3⟩ := touch_ok (τ := τ) s2 (by rw [List.length_append, List.length_append]; show _ + 1 < 12; omega) b (some k) (min (ly_r f k) (ly_r f b))
        have t1 : Q_touches (nI b) (nI k) (nI (min (ly_r f k) (ly_r f b))) σ1 τ = some (σ2, τ) := t1
        rw [t1, ov_some]
        have F2 := s3.tr t3
        have K2 : qd_K (ct_al f b ++ ct_in f b (k + 1)) σ2 := by
          rw [eI]
          have e : ct_al f b ++ (ct_in f b k ++ [(b, some k, max (ly_l f k) (ly_l f b)), (b, some k, min (ly_r f k) (ly_r f b))]) = ct_al f b ++ ct_in f b k ++ [(b, some k, max (ly_l f k) (ly_l f b))] ++ [(b, some k, min (ly_r f k) (ly_r f b))] := by simp
          rw [e]; exact t2
        obtain ⟨σ', e1, e2, e3, e4, e5⟩ := ih (k + 1) m σ2 (by omega) (by omega) (by rw [F2.1 35 (by decide) (by decide) (by decide) (by decide)]; exact hQ0) (fun a ha => by rw [F2.1 40 (by decide) (by decide) (by decide) (by decide), eo 40 (by decide)]; exact h40 a ha) (by rw [F2.1 41 (by decide) (by decide) (by decide) (by decide), e41, eU]; rfl) K2
        exact ⟨σ', e1, e2, e3, e4, (F0.tr F2.lb).tr e5⟩
      · rw [if_neg (fun z => hc ((nI_eq (by omega) (by omega)).mp z))]
        exact no (by unfold ly_U; rw [decide_eq_false hc, Bool.and_false])
theorem lay16 {b : Nat} {τ : mT} (V : pl_V n f) (hb : b < n) : ∀ (d k m : Nat) (σ : mS), k + d = b → d < m → pl_Q n f (σ 35) 0 → (∀ a, a < b → σ 40 a = nI (lv f a)) → σ 40 b = nI (ly_m f (lv f) b k) → σ 41 b = nI 0 → qd_K (ct_al f b) σ →
    ∃ σ', Q_layBlock_l16 m (nI b) (nI k) σ τ = some (σ', τ) ∧ σ' 41 b = nI (un f b) ∧ σ' 40 b = nI (lv f b) ∧ qd_K (ct_al f (b + 1)) σ' ∧ lb_F b σ σ' := by
  have hn := V.1
  intro d
  induction d with
  | zero =>
    intro k m σ hk hm hQ h40 hb40 h41 hK
    obtain ⟨m, rfl⟩ : ∃ m', m = m' + 1 := ⟨m - 1, by omega⟩
    have : k = b := by omega
    subst this
    unfold Q_layBlock_l16
    rw [if_pos (nI_le (Nat.le_refl _) (by omega))]
    exact lay76 V hb k 0 mc_F σ (by omega) (by unfold mc_F; omega) hQ (fun a ha => by
      by_cases z : a = k
      · rw [z, hb40, ← lv_eq]
      · exact h40 a (by omega)) h41 (by show qd_K (ct_al f k ++ []) σ; rw [List.append_nil]; exact hK)
  | succ d ih =>
    intro k m σ hk hm hQ h40 hb40 h41 hK
    obtain ⟨m, rfl⟩ : ∃ m', m = m' + 1 := ⟨m - 1, by omega⟩
    have hkb : k < b := by omega
    have l1 := lv_le f k
    have l2 := ly_m_le (f := f) (L := lv f) (b := b) (k := k) (fun a _ => lv_le f a)
    have e : ly_m f (lv f) b (k + 1) = if ly_ov f k b = true ∧ ly_m f (lv f) b k ≤ lv f k then lv f k + 1 else ly_m f (lv f) b k := rfl
    unfold Q_layBlock_l16
    rw [if_neg (nI_ge hkb (by omega)), Q_over_ok V hQ (by omega) hb, ob_some]
    have wr : ∀ v, v = ly_m f (lv f) b (k + 1) → ∃ σ', Q_layBlock_l16 m (nI b) (nI (k + 1)) (u2 σ 40 b (nI v)) τ = some (σ', τ) ∧ σ' 41 b = nI (un f b) ∧ σ' 40 b = nI (lv f b) ∧ qd_K (ct_al f (b + 1)) σ' ∧ lb_F b σ σ' := fun v hv => by
      have F0 : lb_F b σ (u2 σ 40 b (nI v)) := ⟨fun a ha => u2_ne _ _ _ (by omega), fun j _ => by rw [u2_ne _ _ _ (by decide)], fun j hj => ⟨u2_off _ _ (Or.inr hj), by rw [u2_ne _ _ _ (by decide)]⟩⟩
      obtain ⟨σ', e1, e2, e3, e4, e5⟩ := ih (k + 1) m (u2 σ 40 b (nI v)) (by omega) (by omega) (by rw [u2_ne _ _ _ (by decide)]; exact hQ) (fun a ha => by rw [u2_off _ _ (Or.inr (by omega))]; exact h40 a ha) (by rw [u2_at, hv]) (by rw [u2_ne _ _ _ (by decide)]; exact h41) ⟨by rw [u2_ne _ _ _ (by decide)]; exact hK.1, by rw [u2_ne _ _ _ (by decide), u2_ne _ _ _ (by decide), u2_ne _ _ _ (by decide)]; exact hK.2⟩
      exact ⟨σ', e1, e2, e3, e4, F0.tr e5⟩
    have b61 : Q_layBlock_b61 (Q_layBlock_l16 m) (nI b) (nI k) (nI b) σ τ = Q_layBlock_l16 m (nI b) (nI (k + 1)) (u2 σ 40 b (nI (ly_m f (lv f) b k))) τ := by
      unfold Q_layBlock_b61
      rw [if_neg (nin (show b < 4 by omega) (by decide)), if_neg (nin (show b < 4 by omega) (by decide)), ncl (show b < 2 ^ 31 by omega), mw_eq, hb40, nI_1]
    cases ho : ly_ov f k b with
    | false =>
      rw [if_pos (by rfl), b61]
      exact wr _ (by rw [e, ho, if_neg (by simp)])
    | true =>
      rw [if_neg (by decide), if_neg (nin (show k < 4 by omega) (by decide)), if_neg (nin (show b < 4 by omega) (by decide)), ncl (show k < 2 ^ 31 by omega), ncl (show b < 2 ^ 31 by omega), h40 k hkb, hb40]
      by_cases z : ly_m f (lv f) b k ≤ lv f k
      · rw [if_neg (nI_nlt z (by omega)), mw_eq, nI_1, nI_1]
        exact wr _ (by rw [e, ho, if_pos ⟨rfl, z⟩])
      · rw [if_pos (nI_lt (by omega) (by omega)), b61]
        exact wr _ (by rw [e, ho, if_neg (fun q => z q.2)])
/-- all that layAll lays: of the first b blocks -/
def qd_A (f : Nat → Nat) (b : Nat) (σ : mS) : Prop := (∀ a, a < b → σ 40 a = nI (lv f a) ∧ σ 41 a = nI (un f a)) ∧ qd_K (ct_al f b) σ
def la_F (σ σ' : mS) : Prop := (∀ a, a < 34 ∨ 44 < a ∨ (34 < a ∧ a < 40) → σ' a = σ a) ∧ ∀ j, j ≠ 9 → σ' 34 j = σ 34 j
theorem la_F.tr {σ1 σ2 : mS} (h : la_F σ σ1) (h' : la_F σ1 σ2) : la_F σ σ2 := ⟨fun a h1 => (h'.1 a h1).trans (h.1 a h1), fun j hj => (h'.2 j hj).trans (h.2 j hj)⟩
theorem layAll_l {τ : mT} (V : pl_V n f) : ∀ (d b m : Nat) (σ : mS), b + d = n → d < m → pl_Q n f (σ 35) 0 → qd_A f b σ → ∃ σ', Q_layAll_l7 m (nI b) σ τ = some (σ', τ) ∧ qd_A f n σ' ∧ la_F σ σ' := by
  have hn := V.1
  intro d
  induction d with
  | zero =>
    intro b m σ hb hm hQ hA
    obtain ⟨m, rfl⟩ : ∃ m', m = m' + 1 := ⟨m - 1, by omega⟩
    have : b = n := by omega
    subst this
    refine ⟨σ, ?_, hA, fun _ _ => rfl, fun _ _ => rfl⟩
    unfold Q_layAll_l7 Q_many
    rw [ob_some, hQ.1, if_pos (nI_le (Nat.le_refl _) (by omega))]
  | succ d ih =>
    intro b m σ hb hm hQ hA
    obtain ⟨m, rfl⟩ : ∃ m', m = m' + 1 := ⟨m - 1, by omega⟩
    have hbn : b < n := by omega
    unfold Q_layAll_l7 Q_many
    rw [ob_some, hQ.1, if_neg (nI_ge hbn (by omega))]
    have F0 : lb_F b σ (u2 (u2 σ 40 b 0) 41 b 0) := ⟨fun a ha => by rw [u2_ne _ _ _ (by omega), u2_ne _ _ _ (by omega)], fun j _ => by rw [u2_ne _ _ _ (by decide), u2_ne _ _ _ (by decide)], fun j hj => ⟨by rw [u2_ne _ _ _ (by decide), u2_off _ _ (Or.inr hj)], by rw [u2_off _ _ (Or.inr hj), u2_ne _ _ _ (by decide)]⟩⟩
    obtain ⟨σ1, s1, s2, s3, s4, s5⟩ := lay16 (τ := τ) V hbn b 0 mc_F (u2 (u2 σ 40 b 0) 41 b 0) (by omega) (by unfold mc_F; omega) (by rw [F0.1 35 (by omega)]; exact hQ) (fun a ha => by rw [(F0.2.2 a (by omega)).1]; exact (hA.1 a ha).1) (by rw [u2_ne _ _ _ (by decide), u2_at]; rfl) (u2_at _ _ _ _) ⟨by rw [u2_ne _ _ _ (by decide), u2_ne _ _ _ (by decide)]; exact hA.2.1, by rw [u2_ne _ _ _ (by decide), u2_ne _ _ _ (by decide), u2_ne _ _ _ (by decide), u2_ne _ _ _ (by decide), u2_ne _ _ _ (by decide), u2_ne _ _ _ (by decide)]; exact hA.2.2⟩
    have s1 : Q_layBlock_l16 mc_F (nI b) 0 (u2 (u2 σ 40 b 0) 41 b 0) τ = some (σ1, τ) := s1
    unfold Q_layBlock
    rw [if_neg (nin (show b < 4 by omega) (by decide)), ncl (show b < 2 ^ 31 by omega), mw_eq, mw_eq, s1, ov_some, nI_1]
    have F1 := F0.tr s5
    obtain ⟨σ', e1, e2, e3⟩ := ih (b + 1) m σ1 (by omega) (by omega) (by rw [F1.1 35 (by omega)]; exact hQ) ⟨fun a ha => by
      by_cases z : a = b
      · rw [z]; exact ⟨s3, s2⟩
      · rw [(F1.2.2 a z).1, (F1.2.2 a z).2]; exact hA.1 a (by omega), s4⟩
    exact ⟨σ', e1, e2, fun a ha => (e3.1 a ha).trans (F1.1 a ha), fun j hj => (e3.2 j hj).trans (F1.2.1 j hj)⟩
theorem layAll_ok (V : pl_V n f) (hQ : pl_Q n f (σ 35) 0) : ∃ σ', Q_layAll σ τ = some (σ', τ) ∧ qd_A f n σ' ∧ la_F σ σ' := by
  obtain ⟨σ', e1, e2, e3⟩ := layAll_l (τ := τ) V n 0 mc_F (u2 σ 34 9 0) (by omega) (by have := V.1; unfold mc_F; omega) (by rw [u2_ne _ _ _ (by decide)]; exact hQ) ⟨fun a ha => absurd ha (by omega), u2_at _ _ _ _, fun i c hc => by simp [ct_al] at hc⟩
  refine ⟨σ', ?_, e2, fun a ha => by rw [e3.1 a ha, u2_ne _ _ _ (by omega)], fun j hj => by rw [e3.2 j hj, u2_off _ _ (Or.inr hj)]⟩
  unfold Q_layAll
  rw [mw_eq]
  exact e1
theorem above_l (hn : n ≤ 4) (hQ : σ 35 0 = nI n) (hA : ∀ a, a < n → σ 41 a = nI (un f a)) {b : Nat} (hb : b < n) : ∀ (d k m : Nat), k + d = n → d < m → Q_above_l4 m (nI b) (nI (ab f k b)) (nI k) σ τ = some (nI (ab f n b), σ, τ) := by
  intro d
  induction d with
  | zero =>
    intro k m hk hm
    obtain ⟨m, rfl⟩ : ∃ m', m = m' + 1 := ⟨m - 1, by omega⟩
    have : k = n := by omega
    subst this
    unfold Q_above_l4 Q_many
    rw [ob_some, hQ, if_pos (nI_le (Nat.le_refl _) (by omega))]
  | succ d ih =>
    intro k m hk hm
    obtain ⟨m, rfl⟩ : ∃ m', m = m' + 1 := ⟨m - 1, by omega⟩
    have hkn : k < n := by omega
    have hun : un f k < 2 ^ k := ct_m_lt _ k
    have hun31 : un f k < 2 ^ 31 := Nat.lt_of_lt_of_le hun (Nat.pow_le_pow_right (by decide) (by omega))
    have x2 := ab_lt f k b
    have eB : bN (un f k) b = (decide (b < k) && ly_U f k b) := by
      by_cases z : b < k
      · rw [show bN (un f k) b = ly_U f k b from bN_mk _ k b z, decide_eq_true z]; rfl
      · rw [bN_out hun (by omega), decide_eq_false z]; rfl
    have eA := ab_succ f k b
    unfold Q_above_l4 Q_many
    rw [ob_some, hQ, if_neg (nI_ge hkn (by omega)), if_neg (nin (show k < 4 by omega) (by decide)), ncl (show k < 2 ^ 31 by omega), hA k hkn, has_ok hun31 (by omega), ob_some, eB]
    cases hc : (decide (b < k) && ly_U f k b) with
    | false =>
      rw [hc] at eA
      rw [if_pos (by rfl), nI_1, show (0 : Int32) = nI 0 from rfl, i_or, Nat.or_zero]
      have := ih (k + 1) m (by omega) (by omega)
      rw [eA] at this
      exact this
    | true =>
      rw [hc] at eA
      rw [if_neg (by decide), nI_1, i_orbit (by omega) x2]
      have := ih (k + 1) m (by omega) (by omega)
      rw [eA] at this
      exact this
theorem above_ok (V : pl_V n f) (hQ : σ 35 0 = nI n) (hA : qd_A f n σ) {b : Nat} (hb : b < n) : Q_above (nI b) σ τ = some (nI (ab f n b), σ, τ) := above_l V.1 hQ (fun a ha => (hA.1 a ha).2) hb n 0 mc_F (by omega) (by have := V.1; unfold mc_F; omega)
end LA
