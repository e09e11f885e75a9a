/-! ===== THE CLASS FINDS WHERE THE BLOCKS LIE ===== -/
theorem ly_bd {n : Nat} {f : Nat → Nat} (V : pl_V n f) {b : Nat} (hb : b < n) : ly_l f b ≤ 9 ∧ ly_l f b < ly_r f b ∧ ly_r f b ≤ 15 := by
  obtain ⟨h1, h2, h3, _⟩ := V.2 b hb
  unfold ly_l ly_r
  omega
theorem ab_succ (f : Nat → Nat) (b a : Nat) : ab f (b + 1) a = ab f b a + (if (decide (a < b) && ly_U f b a) = true then 2 ^ b else 0) := rfl
theorem ab_lt (f : Nat → Nat) (n a : Nat) : ab f n a < 2 ^ n := ct_m_lt _ n
theorem ab_self (f : Nat → Nat) (b : Nat) : ab f (b + 1) b = 0 := by
  unfold ab
  refine ct_m_n0 _ _ fun x hx => ?_
  rw [decide_eq_false (by omega)]
  rfl
section FD
variable {n : Nat} {f : Nat → Nat}
/-- what find has laid of the first b blocks -/
def fd_S (f : Nat → Nat) (b : Nat) (σ : mS) : Prop := ∀ a, a < b → σ 7 a = nI (ly_l f a) ∧ σ 8 a = nI (ly_r f a)
theorem overlap_ok {b : Nat} {σ : mS} {τ : mT} (V : pl_V n f) (hs : fd_S f (b + 1) σ) (hb : b < n) {a : Nat} (ha : a ≤ b) : Y_overlap (nI a) (nI b) σ τ = some (if ly_ov f a b then 1 else 0, σ, τ) := by
  have hn := V.1
  obtain ⟨a1, a2⟩ := hs a (by omega)
  obtain ⟨b1, b2⟩ := hs b (by omega)
  obtain ⟨p1, p2, p3⟩ := ly_bd V (show a < n by omega)
  obtain ⟨q1, q2, q3⟩ := ly_bd V hb
  unfold Y_overlap
  rw [if_neg (nin (show a < 4 by omega) (by decide)), if_neg (nin (show b < 4 by omega) (by decide)), ncl (by omega), ncl (by omega), a1, a2, b1, b2]
  unfold ly_ov
  by_cases h1 : ly_l f a < ly_r f b
  · rw [if_neg (nI_ge h1 (by omega)), decide_eq_true h1]
    by_cases h2 : ly_l f b < ly_r f a
    · rw [if_neg (nI_ge h2 (by omega)), decide_eq_true h2]; rfl
    · rw [if_pos (nI_le (by omega) (by omega)), decide_eq_false h2]; rfl
  · rw [if_pos (nI_le (by omega) (by omega)), decide_eq_false h1]; rfl
theorem level_l {b : Nat} {σ : mS} {τ : mT} (V : pl_V n f) (hs : fd_S f (b + 1) σ) (hb : b < n) (hl : ∀ a, a < b → σ 9 a = nI (lv f a)) : ∀ (d k m : Nat), k + d = b → d < m → Y_findLevel_l4 m (nI b) (nI (ly_m f (lv f) b k)) (nI k) σ τ = some (u2 σ 9 b (nI (lv f b)), τ) := by
  have hn := V.1
  intro d
  induction d with
  | zero =>
    intro k m hk hm
    obtain ⟨m, rfl⟩ : ∃ m', m = m' + 1 := ⟨m - 1, by omega⟩
    have : k = b := by omega
    subst this
    unfold Y_findLevel_l4
    rw [if_pos (nI_le (Nat.le_refl _) (by omega)), if_neg (nin (show k < 4 by omega) (by decide)), ncl (by omega), mw_eq, ← lv_eq]
  | succ d ih =>
    intro k m hk hm
    obtain ⟨m, rfl⟩ : ∃ m', m = m' + 1 := ⟨m - 1, by omega⟩
    have hkb : k < b := by omega
    have l1 := lv_le f k
    have l2 := ly_m_le (f := f) (L := lv f) (b := b) (k := k) (fun a _ => lv_le f a)
    unfold Y_findLevel_l4
    rw [if_neg (nI_ge hkb (by omega)), overlap_ok V hs hb (by omega), ob_some]
    have e : ly_m f (lv f) b (k + 1) = if ly_ov f k b = true ∧ ly_m f (lv f) b k ≤ lv f k then lv f k + 1 else ly_m f (lv f) b k := rfl
    cases ho : ly_ov f k b with
    | false =>
      rw [if_pos (by rfl), nI_1]
      rw [ho] at e
      rw [if_neg (by simp)] at e
      have := ih (k + 1) m (by omega) (by omega)
      rw [e] at this
      exact this
    | true =>
      rw [if_neg (by decide), if_neg (nin (show k < 4 by omega) (by decide)), ncl (by omega), hl k hkb, nI_1, nI_1, i_jmax (by omega) (by omega)]
      have e2 : max (ly_m f (lv f) b k) (lv f k + 1) = ly_m f (lv f) b (k + 1) := by
        rw [e, ho]
        by_cases z : ly_m f (lv f) b k ≤ lv f k
        · rw [if_pos ⟨rfl, z⟩]; omega
        · rw [if_neg (fun q => z q.2)]; omega
      rw [e2]
      exact ih (k + 1) m (by omega) (by omega)
theorem level_ok {b : Nat} {σ : mS} {τ : mT} (V : pl_V n f) (hs : fd_S f (b + 1) σ) (hb : b < n) (hl : ∀ a, a < b → σ 9 a = nI (lv f a)) : Y_findLevel (nI b) σ τ = some (u2 σ 9 b (nI (lv f b)), τ) := level_l V hs hb hl b 0 mc_F (by omega) (by have := V.1; unfold mc_F; omega)
theorem under_l {b : Nat} {τ : mT} (V : pl_V n f) (hb : b < n) : ∀ (d k m : Nat) (σ : mS), k + d = b → d < m → fd_S f (b + 1) σ → (∀ a, a ≤ b → σ 9 a = nI (lv f a)) → σ 10 b = nI (ct_m (ly_U f b) k) → (∀ a, a < k → σ 11 a = nI (ab f (b + 1) a)) → (∀ a, k ≤ a → a < b → σ 11 a = nI (ab f b a)) →
    ∃ σ', Y_findUnder_l9 m (nI b) (nI k) σ τ = some (σ', τ) ∧ σ' 10 b = nI (un f b) ∧ (∀ a, a < b → σ' 11 a = nI (ab f (b + 1) a)) ∧ (∀ j, j ≠ b → σ' 10 j = σ 10 j) ∧ (∀ j, b ≤ j → σ' 11 j = σ 11 j) ∧ ∀ a, a ≠ 10 → a ≠ 11 → σ' a = σ a := by
  have hn := V.1
  intro d
  induction d with
  | zero =>
    intro k m σ hk hm hs h9 h10 h11 h11'
    obtain ⟨m, rfl⟩ : ∃ m', m = m' + 1 := ⟨m - 1, by omega⟩
    have : k = b := by omega
    subst this
    refine ⟨σ, ?_, h10, h11, fun _ _ => rfl, fun _ _ => rfl, fun _ _ _ => rfl⟩
    unfold Y_findUnder_l9
    rw [if_pos (nI_le (Nat.le_refl _) (by omega))]
  | succ d ih =>
    intro k m σ hk hm hs h9 h10 h11 h11'
    obtain ⟨m, rfl⟩ : ∃ m', m = m' + 1 := ⟨m - 1, by omega⟩
    have hkb : k < b := by omega
    have l1 := lv_le f k
    have l2 := lv_le f b
    have eU : ct_m (ly_U f b) (k + 1) = ct_m (ly_U f b) k + (if ly_U f b k then 2 ^ k else 0) := rfl
    have eA : ab f (b + 1) k = ab f b k + (if ly_U f b k then 2 ^ b else 0) := by
      rw [ab_succ, decide_eq_true hkb, Bool.true_and]
    unfold Y_findUnder_l9
    rw [if_neg (nI_ge hkb (by omega)), if_neg (nin (show k < 4 by omega) (by decide)), if_neg (nin (show b < 4 by omega) (by decide)), ncl (by omega), ncl (by omega), h9 k (by omega), h9 b (by omega)]
    have cond : nI (lv f k) = nI (lv f b) - 1 ↔ lv f k + 1 = lv f b := by
      cases hl : lv f b with
      | zero =>
        refine ⟨fun z => ?_, fun z => by omega⟩
        have : (nI (lv f k)).toInt = (nI 0 - 1).toInt := by rw [z]
        rw [nI_toInt (by omega)] at this
        have e2 : (nI 0 - 1).toInt = -1 := by decide
        omega
      | succ q =>
        rw [nI_pred, nI_eq (by omega) (by omega)]
        omega
    have no : ly_U f b k = false → ∃ σ', Y_findUnder_l9 m (nI b) (nI (k + 1)) σ τ = some (σ', τ) ∧ σ' 10 b = nI (un f b) ∧ (∀ a, a < b → σ' 11 a = nI (ab f (b + 1) a)) ∧ (∀ j, j ≠ b → σ' 10 j = σ 10 j) ∧ (∀ j, b ≤ j → σ' 11 j = σ 11 j) ∧ ∀ a, a ≠ 10 → a ≠ 11 → σ' a = σ a := fun hu => by
      rw [hu] at eU eA
      refine ih (k + 1) m σ (by omega) (by omega) hs h9 (by rw [h10, eU]; rfl) (fun a ha => ?_) (fun a h1 h2 => h11' a (by omega) h2)
      by_cases z : a = k
      · subst z
        rw [h11' a (Nat.le_refl _) hkb, eA]; rfl
      · exact h11 a (by omega)
    by_cases hc : lv f k + 1 = lv f b
    · rw [if_pos (cond.mpr hc), overlap_ok V hs hb (by omega), ob_some, nI_1]
      have hu : ly_U f b k = ly_ov f k b := by unfold ly_U; rw [decide_eq_true hc, Bool.and_true]
      cases ho : ly_ov f k b with
      | false =>
        rw [if_pos (by rfl)]
        exact no (hu.trans ho)
      | true =>
        rw [if_neg (by decide), mw_eq, mw_eq]
        have hu := hu.trans ho
        rw [hu] at eU eA
        have x1 := ct_m_lt (ly_U f b) k
        have x2 := ab_lt f b k
        rw [h10, i_orbit (by omega) x1, u2_ne _ _ _ (show (11 : Nat) ≠ 10 by decide), h11' k (Nat.le_refl _) hkb, i_orbit (by omega) x2]
        obtain ⟨σ', e1, e2, e3, e4, e5, e6⟩ := ih (k + 1) m (u2 (u2 σ 10 b (nI (ct_m (ly_U f b) k + 2 ^ k))) 11 k (nI (ab f b k + 2 ^ b))) (by omega) (by omega)
          (fun a ha => by rw [u2_ne _ _ _ (by decide), u2_ne _ _ _ (by decide), u2_ne _ _ _ (by decide), u2_ne _ _ _ (by decide)]; exact hs a ha)
          (fun a ha => by rw [u2_ne _ _ _ (by decide), u2_ne _ _ _ (by decide)]; exact h9 a ha)
          (by rw [u2_ne _ _ _ (by decide), u2_at, eU]; rfl)
          (fun a ha => by
            by_cases z : a = k
            · subst z; rw [u2_at, eA]; rfl
            · rw [u2_off _ _ (Or.inr z), u2_ne _ _ _ (by decide)]; exact h11 a (by omega))
          (fun a h1 h2 => by rw [u2_off _ _ (Or.inr (by omega)), u2_ne _ _ _ (by decide)]; exact h11' a (by omega) h2)
        refine ⟨σ', e1, e2, e3, fun j hj => ?_, fun j hj => ?_, fun a h1 h2 => ?_⟩
        · rw [e4 j hj, u2_ne _ _ _ (by decide), u2_off _ _ (Or.inr hj)]
        · rw [e5 j hj, u2_off _ _ (Or.inr (by omega)), u2_ne _ _ _ (by decide)]
        · rw [e6 a h1 h2, u2_ne _ _ _ h2, u2_ne _ _ _ h1]
    · rw [if_neg (fun z => hc (cond.mp z)), nI_1]
      exact no (by unfold ly_U; rw [decide_eq_false hc, Bool.and_false])
/-- the contacts found so far -/
def fd_K (l : List ctT) (σ : mS) : Prop := σ 6 9 = nI l.length ∧ ct_M l (σ 12) (σ 13) (σ 14)
def fd_F (σ σ' : mS) : Prop := (∀ a, a ≠ 6 → a ≠ 12 → a ≠ 13 → a ≠ 14 → σ' a = σ a) ∧ ∀ j, j ≠ 9 → σ' 6 j = σ 6 j
theorem fd_F.rf {σ : mS} : fd_F σ σ := ⟨fun _ _ _ _ _ => rfl, fun _ _ => rfl⟩
theorem fd_F.tr {σ σ1 σ2 : mS} (h : fd_F σ σ1) (h' : fd_F σ1 σ2) : fd_F σ σ2 := ⟨fun a h1 h2 h3 h4 => (h'.1 a h1 h2 h3 h4).trans (h.1 a h1 h2 h3 h4), fun j hj => (h'.2 j hj).trans (h.2 j hj)⟩
theorem addc_ok {l : List ctT} {σ : mS} {τ : mT} (h : fd_K l σ) (hl : l.length < 12) (u : Nat) (lo : Option Nat) (x : Nat) : ∃ σ', Y_addContact (nI u) (opt9 lo) (nI x) σ τ = some (σ', τ) ∧ fd_K (l ++ [(u, lo, x)]) σ' ∧ fd_F σ σ' := by
  obtain ⟨h1, h2⟩ := h
  refine ⟨u2 (u2 (u2 (u2 σ 12 l.length (nI u)) 13 l.length (opt9 lo)) 14 l.length (nI x)) 6 9 (nI (l.length + 1)), ?_, ⟨?_, ?_⟩, ⟨fun a a1 a2 a3 a4 => ?_, fun j hj => ?_⟩⟩
  · unfold Y_addContact
    rw [h1, show (12 : Int32) = nI 12 from rfl, if_neg (nI_ge hl (by decide)), if_neg (nin hl (by decide)), ncl (by omega), mw_eq, u2_ne _ _ _ (by decide), h1, if_neg (nin hl (by decide)), ncl (by omega), mw_eq, u2_ne _ _ _ (by decide), u2_ne _ _ _ (by decide), h1, if_neg (nin hl (by decide)), ncl (by omega), mw_eq, u2_ne _ _ _ (by decide), u2_ne _ _ _ (by decide), u2_ne _ _ _ (by decide), h1, nI_1, mw_eq]
  · rw [u2_at, List.length_append]; rfl
  · rw [u2_ne _ _ _ (by decide), u2_ne _ _ _ (by decide), u2_ne _ _ _ (by decide), u2_same, u2_ne _ _ _ (by decide), u2_ne _ _ _ (by decide), u2_same, u2_ne _ _ _ (by decide), u2_ne _ _ _ (by decide), u2_same, u2_ne _ _ _ (by decide), u2_ne _ _ _ (by decide)]
    exact ct_M_snoc h2 (u, lo, x)
  · rw [u2_ne _ _ _ a1, u2_ne _ _ _ a4, u2_ne _ _ _ a3, u2_ne _ _ _ a2]
  · rw [u2_off _ _ (Or.inr hj), u2_ne _ _ _ (by decide), u2_ne _ _ _ (by decide), u2_ne _ _ _ (by decide)]
theorem conts_l {b : Nat} {τ : mT} (V : pl_V n f) (hb : b < n) : ∀ (d k m : Nat) (σ : mS), k + d = b → d < m → fd_S f (b + 1) σ → σ 10 b = nI (un f b) → fd_K (ct_al f b ++ ct_in f b k) σ →
    un f b ≠ 0 → ∃ σ', Y_findContacts_l37 m (nI b) (nI k) σ τ = some (σ', τ) ∧ fd_K (ct_al f b ++ ct_in f b b) σ' ∧ fd_F σ σ' := by
  have hn := V.1
  intro d
  induction d with
  | zero =>
    intro k m σ hk hm hs h10 hK _
    obtain ⟨m, rfl⟩ : ∃ m', m = m' + 1 := ⟨m - 1, by omega⟩
    have : k = b := by omega
    subst this
    refine ⟨σ, ?_, hK, fd_F.rf⟩
    unfold Y_findContacts_l37
    rw [if_pos (nI_le (Nat.le_refl _) (by omega))]
  | succ d ih =>
    intro k m σ hk hm hs h10 hK h0
    obtain ⟨m, rfl⟩ : ∃ m', m = m' + 1 := ⟨m - 1, by omega⟩
    have hkb : k < b := by omega
    have hun : un f b < 2 ^ b := ct_m_lt _ b
    have hun31 : un f b < 2 ^ 31 := Nat.lt_of_lt_of_le hun (Nat.pow_le_pow_right (by decide) (by omega))
    have eI : ct_in f b (k + 1) = ct_in f b k ++ (if ly_U f b k then [(b, some k, max (ly_l f k) (ly_l f b)), (b, some k, min (ly_r f k) (ly_r f b))] else []) := rfl
    unfold Y_findContacts_l37
    rw [if_neg (nI_ge hkb (by omega)), if_neg (nin (show b < 4 by omega) (by decide)), ncl (show b < 2 ^ 31 by omega), h10, bit_ok hun31 (by omega), show bN (un f b) k = ly_U f b k from bN_mk _ b k hkb, nI_1]
    cases hu : ly_U f b k with
    | false =>
      rw [if_neg (by decide)]
      rw [hu, if_neg (by decide), List.append_nil] at eI
      exact ih (k + 1) m σ (by omega) (by omega) hs h10 (by rw [eI]; exact hK) h0
    | true =>
      rw [if_pos (by rfl), if_neg (nin (show k < 4 by omega) (by decide)), ncl (show k < 2 ^ 31 by omega)]
      rw [hu, if_pos rfl] at eI
      have rm := ct_room (f := f) (b := b) (k := k + 1) (by omega) (by omega)
      rw [eI, List.length_append] at rm
      have rm : (ct_al f b).length + ((ct_in f b k).length + 2) ≤ 12 := rm
      obtain ⟨a1, a2⟩ := hs k (by omega)
      obtain ⟨b1, b2⟩ := hs b (by omega)
      obtain ⟨p1, p2, p3⟩ := ly_bd V (show k < n by omega)
      obtain ⟨q1, q2, q3⟩ := ly_bd V hb
      rw [a1, b1, i_jmax (by omega) (by omega)]
      obtain ⟨σ1, s1, s2, s3⟩ := addc_ok (τ := τ) hK (by rw [List.length_append]; omega) b (some k) (max (ly_l f k) (ly_l f b))
      have s1 : Y_addContact (nI b) (nI k) (nI (max (ly_l f k) (ly_l f b))) σ τ = some (σ1, τ) := s1
      rw [s1, ov_some, s3.1 8 (by decide) (by decide) (by decide) (by decide), a2, b2, i_jmin (by omega) (by omega)]
      obtain ⟨σ2, t1, t2, t3⟩ := addc_ok (τ := τ) s2 (by rw [List.length_append, List.length_append]; show _ + 1 < 12; omega) b (some k) (min (ly_r f k) (ly_r f b))
      have t1 : Y_addContact (nI b) (nI k) (nI (min (ly_r f k) (ly_r f b))) σ1 τ = some (σ2, τ) := t1
      rw [t1, ov_some]
      have F2 := s3.tr t3
      have K2 : fd_K (ct_al f b ++ ct_in f b (k + 1)) σ2 := by
        rw [eI]
        have e : ct_al f b ++ (ct_in f b k ++ [(b, some k, max (ly_l f k) (ly_l f b)), (b, some k, min (ly_r f k) (ly_r f b))]) = ct_al f b ++ ct_in f b k ++ [(b, some k, max (ly_l f k) (ly_l f b))] ++ [(b, some k, min (ly_r f k) (ly_r f b))] := by simp
        rw [e]; exact t2
      obtain ⟨σ', e1, e2, e3⟩ := ih (k + 1) m σ2 (by omega) (by omega) (fun a ha => by rw [F2.1 7 (by decide) (by decide) (by decide) (by decide), F2.1 8 (by decide) (by decide) (by decide) (by decide)]; exact hs a ha) (by rw [F2.1 10 (by decide) (by decide) (by decide) (by decide)]; exact h10) K2 h0
      exact ⟨σ', e1, e2, F2.tr e3⟩
theorem conts_nil {b : Nat} {τ : mT} {σ : mS} (hb : b < 4) (h10 : σ 10 b = nI 0) : ∀ (d k m : Nat), k + d = b → d < m → Y_findContacts_l37 m (nI b) (nI k) σ τ = some (σ, τ) := by
  intro d
  induction d with
  | zero =>
    intro k m hk hm
    obtain ⟨m, rfl⟩ : ∃ m', m = m' + 1 := ⟨m - 1, by omega⟩
    unfold Y_findContacts_l37
    rw [if_pos (nI_le (by omega) (by omega))]
  | succ d ih =>
    intro k m hk hm
    obtain ⟨m, rfl⟩ : ∃ m', m = m' + 1 := ⟨m - 1, by omega⟩
    unfold Y_findContacts_l37
    rw [if_neg (nI_ge (show k < b by omega) (by omega)), if_neg (nin hb (by decide)), ncl (by omega), h10, bit_ok (by decide) (by omega), show bN 0 k = false from bN_out (N := 0) (by decide) (by omega), if_neg (by decide), nI_1]
    exact ih (k + 1) m (by omega) (by omega)
theorem conts_ok {b : Nat} {τ : mT} {σ : mS} (V : pl_V n f) (hb : b < n) (hs : fd_S f (b + 1) σ) (h10 : σ 10 b = nI (un f b)) (hK : fd_K (ct_al f b) σ) : ∃ σ', Y_findContacts (nI b) σ τ = some (σ', τ) ∧ fd_K (ct_al f (b + 1)) σ' ∧ fd_F σ σ' := by
  have hn := V.1
  have eA : ct_al f (b + 1) = ct_al f b ++ ct_bl f b := rfl
  have hun : un f b < 2 ^ b := ct_m_lt _ b
  have hun31 : un f b < 2 ^ 31 := Nat.lt_of_lt_of_le hun (Nat.pow_le_pow_right (by decide) (by omega))
  have h12 := ct_al12 f (n := b + 1) (by omega)
  unfold Y_findContacts
  rw [if_neg (nin (show b < 4 by omega) (by decide)), ncl (show b < 2 ^ 31 by omega), h10]
  by_cases h0 : un f b = 0
  · have eB : ct_bl f b = [(b, none, ly_l f b), (b, none, ly_r f b)] := if_pos h0
    rw [eA, eB, List.length_append] at h12
    have h12 : (ct_al f b).length + 2 ≤ 12 := h12
    obtain ⟨b1, b2⟩ := hs b (by omega)
    rw [h0, if_pos (by rfl), b1]
    obtain ⟨σ1, s1, s2, s3⟩ := addc_ok (τ := τ) hK (by omega) b none (ly_l f b)
    have s1 : Y_addContact (nI b) (-9) (nI (ly_l f b)) σ τ = some (σ1, τ) := s1
    rw [s1, ov_some, s3.1 8 (by decide) (by decide) (by decide) (by decide), b2]
    obtain ⟨σ2, t1, t2, t3⟩ := addc_ok (τ := τ) s2 (by rw [List.length_append]; show _ + 1 < 12; omega) b none (ly_r f b)
    have t1 : Y_addContact (nI b) (-9) (nI (ly_r f b)) σ1 τ = some (σ2, τ) := t1
    rw [t1, ov_some]
    have F2 := s3.tr t3
    have nl := conts_nil (τ := τ) (σ := σ2) (show b < 4 by omega) (by rw [F2.1 10 (by decide) (by decide) (by decide) (by decide), h10, h0]) b 0 mc_F (by omega) (by unfold mc_F; omega)
    refine ⟨σ2, nl, ?_, F2⟩
    rw [eA, eB]
    have e : ct_al f b ++ [(b, none, ly_l f b), (b, none, ly_r f b)] = ct_al f b ++ [(b, none, ly_l f b)] ++ [(b, none, ly_r f b)] := by simp
    rw [e]; exact t2
  · rw [if_neg (nI_ne0 (by omega) hun31), eA, show ct_bl f b = ct_in f b b from if_neg h0]
    exact conts_l V hb b 0 mc_F σ (by omega) (by unfold mc_F; omega) hs h10 (by show fd_K (ct_al f b ++ []) σ; rw [List.append_nil]; exact hK) h0
/-- all that find lays: of the first b blocks -/
def fd_A (f : Nat → Nat) (b : Nat) (σ : mS) : Prop := fd_S f b σ ∧ (∀ a, a < b → σ 9 a = nI (lv f a) ∧ σ 10 a = nI (un f a) ∧ σ 11 a = nI (ab f b a)) ∧ fd_K (ct_al f b) σ
/-- what find leaves as it was -/
def fi_F (σ σ' : mS) : Prop := (∀ a, a < 6 ∨ 14 < a → σ' a = σ a) ∧ ∀ j, j ≠ 8 → j ≠ 9 → σ' 6 j = σ 6 j
theorem fi_F.tr {σ σ1 σ2 : mS} (h : fi_F σ σ1) (h' : fi_F σ1 σ2) : fi_F σ σ2 := ⟨fun a h1 => (h'.1 a h1).trans (h.1 a h1), fun j hj h2 => (h'.2 j hj h2).trans (h.2 j hj h2)⟩
theorem find_2_l {τ : mT} (V : pl_V n f) : ∀ (d b m : Nat) (σ : mS), b + d = n → d < m → pl_C n f (σ 3) 0 → σ 6 8 = nI n → fd_A f b σ → ∃ σ', Y_find_2_l19 m (nI b) σ τ = some (σ', τ) ∧ fd_A f n σ' ∧ σ' 6 8 = nI n ∧ fi_F σ σ' := by
  have hn := V.1
  intro d
  induction d with
  | zero =>
    intro b m σ hb hm hC h8 hA
    obtain ⟨m, rfl⟩ : ∃ m', m = m' + 1 := ⟨m - 1, by omega⟩
    have : b = n := by omega
    subst this
    refine ⟨σ, ?_, hA, h8, fun _ _ => rfl, fun _ _ _ => rfl⟩
    unfold Y_find_2_l19
    rw [h8, if_pos (nI_le (Nat.le_refl _) (by omega))]
  | succ d ih =>
    intro b m σ hb hm hC h8 hA
    obtain ⟨m, rfl⟩ : ∃ m', m = m' + 1 := ⟨m - 1, by omega⟩
    have hbn : b < n := by omega
    obtain ⟨A1, A2, A3⟩ := hA
    have g0 : P_get_2 (nI b) 0 σ τ = some (nI (f (5 * b)), σ, τ) := P_get_2_ok (k := 0) hn hC hbn (by omega)
    unfold Y_find_2_l19
    rw [h8, if_neg (nI_ge hbn (by omega)), g0, ob_some, if_neg (nin (show b < 4 by omega) (by decide)), ncl (show b < 2 ^ 31 by omega), mw_eq]
    have g1 : P_get_2 (nI b) 1 (u2 σ 7 b (nI (f (5 * b)))) τ = some (nI (f (5 * b + 1)), u2 σ 7 b (nI (f (5 * b))), τ) := P_get_2_ok (k := 1) hn (by rw [u2_ne _ _ _ (by decide)]; exact hC) hbn (by omega)
    rw [g1, ob_some, mw_eq, mw_eq, u2_at, show (2 : Int32) = nI 2 from rfl, pk_mul, nI_add, nI_1]
    have e7 : ∀ a, u2 (u2 (u2 σ 7 b (nI (f (5 * b)))) 8 b (nI (f (5 * b) + 2 * f (5 * b + 1)))) 11 b (0 : Int32) 7 a = upd (σ 7) b (nI (ly_l f b)) a := fun a => by
      rw [u2_ne _ _ _ (by decide), u2_ne _ _ _ (by decide), u2_same]; rfl
    have e8 : ∀ a, u2 (u2 (u2 σ 7 b (nI (f (5 * b)))) 8 b (nI (f (5 * b) + 2 * f (5 * b + 1)))) 11 b (0 : Int32) 8 a = upd (σ 8) b (nI (ly_r f b)) a := fun a => by
      rw [u2_ne _ _ _ (by decide), u2_same, u2_ne _ _ _ (by decide)]; rfl
    have e11 : ∀ a, u2 (u2 (u2 σ 7 b (nI (f (5 * b)))) 8 b (nI (f (5 * b) + 2 * f (5 * b + 1)))) 11 b (0 : Int32) 11 a = upd (σ 11) b 0 a := fun a => by
      rw [u2_same, u2_ne _ _ _ (by decide), u2_ne _ _ _ (by decide)]
    have eo : ∀ a, a ≠ 7 → a ≠ 8 → a ≠ 11 → u2 (u2 (u2 σ 7 b (nI (f (5 * b)))) 8 b (nI (f (5 * b) + 2 * f (5 * b + 1)))) 11 b (0 : Int32) a = σ a := fun a a1 a2 a3 => by
      rw [u2_ne _ _ _ a3, u2_ne _ _ _ a2, u2_ne _ _ _ a1]
    generalize u2 (u2 (u2 σ 7 b (nI (f (5 * b)))) 8 b (nI (f (5 * b) + 2 * f (5 * b + 1)))) 11 b (0 : Int32) = s1 at e7 e8 e11 eo
    have S1 : fd_S f (b + 1) s1 := fun a ha => by
      rw [e7, e8]
      by_cases z : a = b
      · subst z; rw [pk_us, pk_us]; exact ⟨rfl, rfl⟩
      · rw [pk_un z, pk_un z]; exact A1 a (by omega)
    rw [level_ok V S1 hbn (fun a ha => by rw [eo 9 (by decide) (by decide) (by decide)]; exact (A2 a ha).1), ov_some]
    unfold Y_findUnder
    rw [if_neg (nin (show b < 4 by omega) (by decide)), ncl (show b < 2 ^ 31 by omega), mw_eq]
    obtain ⟨s3, t1, t2, t3, t4, t5, t6⟩ := under_l (τ := τ) V hbn b 0 mc_F (u2 (u2 s1 9 b (nI (lv f b))) 10 b 0) (by omega) (by unfold mc_F; omega)
      (fun a ha => by rw [u2_ne _ _ _ (by decide), u2_ne _ _ _ (by decide), u2_ne _ _ _ (by decide), u2_ne _ _ _ (by decide)]; exact S1 a ha)
      (fun a ha => by
        rw [u2_ne _ _ _ (by decide)]
        by_cases z : a = b
        · subst z; rw [u2_at]
        · rw [u2_off _ _ (Or.inr z), eo 9 (by decide) (by decide) (by decide)]; exact (A2 a (by omega)).1)
      (by rw [u2_at]; rfl) (fun a ha => absurd ha (by omega))
      (fun a _ ha => by rw [u2_ne _ _ _ (by decide), u2_ne _ _ _ (by decide), e11, pk_un (by omega)]; exact (A2 a ha).2.2)
    have t1 : Y_findUnder_l9 mc_F (nI b) 0 (u2 (u2 s1 9 b (nI (lv f b))) 10 b 0) τ = some (s3, τ) := t1
    rw [t1, ov_some]
    have eo3 : ∀ a, a ≠ 7 → a ≠ 8 → a ≠ 9 → a ≠ 10 → a ≠ 11 → s3 a = σ a := fun a a1 a2 a3 a4 a5 => by
      rw [t6 a a4 a5, u2_ne _ _ _ a4, u2_ne _ _ _ a3, eo a a1 a2 a5]
    have S3 : fd_S f (b + 1) s3 := fun a ha => by
      rw [t6 7 (by decide) (by decide), t6 8 (by decide) (by decide), u2_ne _ _ _ (by decide), u2_ne _ _ _ (by decide), u2_ne _ _ _ (by decide), u2_ne _ _ _ (by decide)]; exact S1 a ha
    obtain ⟨s4, c1, c2, c3⟩ := conts_ok (τ := τ) (σ := s3) V hbn S3 t2 ⟨by rw [eo3 6 (by decide) (by decide) (by decide) (by decide) (by decide)]; exact A3.1, by rw [eo3 12 (by decide) (by decide) (by decide) (by decide) (by decide), eo3 13 (by decide) (by decide) (by decide) (by decide) (by decide), eo3 14 (by decide) (by decide) (by decide) (by decide) (by decide)]; exact A3.2⟩
    rw [c1, ov_some]
    have nb : ∀ a, a ≠ 6 → a ≠ 12 → a ≠ 13 → a ≠ 14 → s4 a = s3 a := c3.1
    obtain ⟨σ', v1, v2, v3, v4⟩ := ih (b + 1) m s4 (by omega) (by omega)
      (by rw [nb 3 (by decide) (by decide) (by decide) (by decide), eo3 3 (by decide) (by decide) (by decide) (by decide) (by decide)]; exact hC)
      (by rw [c3.2 8 (by decide), eo3 6 (by decide) (by decide) (by decide) (by decide) (by decide)]; exact h8)
      ⟨fun a ha => by rw [nb 7 (by decide) (by decide) (by decide) (by decide), nb 8 (by decide) (by decide) (by decide) (by decide)]; exact S3 a ha, fun a ha => by
        rw [nb 9 (by decide) (by decide) (by decide) (by decide), nb 10 (by decide) (by decide) (by decide) (by decide), nb 11 (by decide) (by decide) (by decide) (by decide), t6 9 (by decide) (by decide), u2_ne _ _ _ (by decide)]
        by_cases z : a = b
        · subst z
          refine ⟨u2_at _ _ _ _, t2, ?_⟩
          rw [t5 a (Nat.le_refl _), u2_ne _ _ _ (by decide), u2_ne _ _ _ (by decide), e11, pk_us, ab_self]; rfl
        · obtain ⟨z1, z2, z3⟩ := A2 a (by omega)
          refine ⟨?_, ?_, t3 a (by omega)⟩
          · rw [u2_off _ _ (Or.inr z), eo 9 (by decide) (by decide) (by decide)]; exact z1
          · rw [t4 a z, u2_off _ _ (Or.inr z), u2_ne _ _ _ (by decide), eo 10 (by decide) (by decide) (by decide)]; exact z2, c2⟩
    refine ⟨σ', v1, v2, v3, fun a ha => ?_, fun j j1 j2 => ?_⟩
    · rw [v4.1 a ha, nb a (by omega) (by omega) (by omega) (by omega), eo3 a (by omega) (by omega) (by omega) (by omega) (by omega)]
    · rw [v4.2 j j1 j2, c3.2 j j2, eo3 6 (by decide) (by decide) (by decide) (by decide) (by decide)]
theorem find_2_ok {σ : mS} {τ : mT} (V : pl_V n f) (hC : pl_C n f (σ 3) 0) : ∃ σ', Y_find_2 σ τ = some (σ', τ) ∧ fd_A f n σ' ∧ σ' 6 8 = nI n ∧ fi_F σ σ' := by
  have hn := V.1
  have e6 : ∀ j, j ≠ 8 → j ≠ 9 → u2 (u2 σ 6 8 (nI n)) 6 9 0 6 j = σ 6 j := fun j h1 h2 => by rw [u2_off _ _ (Or.inr h2), u2_off _ _ (Or.inr h1)]
  have eo : ∀ a, a ≠ 6 → u2 (u2 σ 6 8 (nI n)) 6 9 0 a = σ a := fun a ha => by rw [u2_ne _ _ _ ha, u2_ne _ _ _ ha]
  obtain ⟨σ', v1, v2, v3, v4⟩ := find_2_l (τ := τ) V n 0 mc_F (u2 (u2 σ 6 8 (nI n)) 6 9 0) (by omega) (by unfold mc_F; omega) (by rw [eo 3 (by decide)]; exact hC) (by rw [u2_off _ _ (Or.inr (by decide)), u2_at]) ⟨fun a ha => absurd ha (by omega), fun a ha => absurd ha (by omega), u2_at _ _ _ _, fun i c hc => by simp [ct_al] at hc⟩
  refine ⟨σ', ?_, v2, v3, fun a ha => by rw [v4.1 a ha, eo a (by omega)], fun j h1 h2 => by rw [v4.2 j h1 h2, e6 j h1 h2]⟩
  unfold Y_find_2 P_size_2
  rw [ob_some, hC.n, show (4 : Int32) = nI 4 from rfl, i_jmin (by omega) (by decide), Nat.min_eq_left hn, mw_eq, mw_eq]
  exact v1
theorem find_4_l {τ : mT} (V : pl_V n f) : ∀ (d b m : Nat) (σ : mS), b + d = n → d < m → pl_C n f (σ 5) 0 → σ 6 8 = nI n → fd_A f b σ → ∃ σ', Y_find_4_l19 m (nI b) σ τ = some (σ', τ) ∧ fd_A f n σ' ∧ σ' 6 8 = nI n ∧ fi_F σ σ' := by
  have hn := V.1
  intro d
  induction d with
  | zero =>
    intro b m σ hb hm hC h8 hA
    obtain ⟨m, rfl⟩ : ∃ m', m = m' + 1 := ⟨m - 1, by omega⟩
    have : b = n := by omega
    subst this
    refine ⟨σ, ?_, hA, h8, fun _ _ => rfl, fun _ _ _ => rfl⟩
    unfold Y_find_4_l19
    rw [h8, if_pos (nI_le (Nat.le_refl _) (by omega))]
  | succ d ih =>
    intro b m σ hb hm hC h8 hA
    obtain ⟨m, rfl⟩ : ∃ m', m = m' + 1 := ⟨m - 1, by omega⟩
    have hbn : b < n := by omega
    obtain ⟨A1, A2, A3⟩ := hA
    have g0 : P_get_4 (nI b) 0 σ τ = some (nI (f (5 * b)), σ, τ) := P_get_4_ok (k := 0) hn hC hbn (by omega)
    unfold Y_find_4_l19
    rw [h8, if_neg (nI_ge hbn (by omega)), g0, ob_some, if_neg (nin (show b < 4 by omega) (by decide)), ncl (show b < 2 ^ 31 by omega), mw_eq]
    have g1 : P_get_4 (nI b) 1 (u2 σ 7 b (nI (f (5 * b)))) τ = some (nI (f (5 * b + 1)), u2 σ 7 b (nI (f (5 * b))), τ) := P_get_4_ok (k := 1) hn (by rw [u2_ne _ _ _ (by decide)]; exact hC) hbn (by omega)
    rw [g1, ob_some, mw_eq, mw_eq, u2_at, show (2 : Int32) = nI 2 from rfl, pk_mul, nI_add, nI_1]
    have e7 : ∀ a, u2 (u2 (u2 σ 7 b (nI (f (5 * b)))) 8 b (nI (f (5 * b) + 2 * f (5 * b + 1)))) 11 b (0 : Int32) 7 a = upd (σ 7) b (nI (ly_l f b)) a := fun a => by
      rw [u2_ne _ _ _ (by decide), u2_ne _ _ _ (by decide), u2_same]; rfl
    have e8 : ∀ a, u2 (u2 (u2 σ 7 b (nI (f (5 * b)))) 8 b (nI (f (5 * b) + 2 * f (5 * b + 1)))) 11 b (0 : Int32) 8 a = upd (σ 8) b (nI (ly_r f b)) a := fun a => by
      rw [u2_ne _ _ _ (by decide), u2_same, u2_ne _ _ _ (by decide)]; rfl
    have e11 : ∀ a, u2 (u2 (u2 σ 7 b (nI (f (5 * b)))) 8 b (nI (f (5 * b) + 2 * f (5 * b + 1)))) 11 b (0 : Int32) 11 a = upd (σ 11) b 0 a := fun a => by
      rw [u2_same, u2_ne _ _ _ (by decide), u2_ne _ _ _ (by decide)]
    have eo : ∀ a, a ≠ 7 → a ≠ 8 → a ≠ 11 → u2 (u2 (u2 σ 7 b (nI (f (5 * b)))) 8 b (nI (f (5 * b) + 2 * f (5 * b + 1)))) 11 b (0 : Int32) a = σ a := fun a a1 a2 a3 => by
      rw [u2_ne _ _ _ a3, u2_ne _ _ _ a2, u2_ne _ _ _ a1]
    generalize u2 (u2 (u2 σ 7 b (nI (f (5 * b)))) 8 b (nI (f (5 * b) + 2 * f (5 * b + 1)))) 11 b (0 : Int32) = s1 at e7 e8 e11 eo
    have S1 : fd_S f (b + 1) s1 := fun a ha => by
      rw [e7, e8]
      by_cases z : a = b
      · subst z; rw [pk_us, pk_us]; exact ⟨rfl, rfl⟩
      · rw [pk_un z, pk_un z]; exact A1 a (by omega)
    rw [level_ok V S1 hbn (fun a ha => by rw [eo 9 (by decide) (by decide) (by decide)]; exact (A2 a ha).1), ov_some]
    unfold Y_findUnder
    rw [if_neg (nin (show b < 4 by omega) (by decide)), ncl (show b < 2 ^ 31 by omega), mw_eq]
    obtain ⟨s3, t1, t2, t3, t4, t5, t6⟩ := under_l (τ := τ) V hbn b 0 mc_F (u2 (u2 s1 9 b (nI (lv f b))) 10 b 0) (by omega) (by unfold mc_F; omega)
      (fun a ha => by rw [u2_ne _ _ _ (by decide), u2_ne _ _ _ (by decide), u2_ne _ _ _ (by decide), u2_ne _ _ _ (by decide)]; exact S1 a ha)
      (fun a ha => by
        rw [u2_ne _ _ _ (by decide)]
        by_cases z : a = b
        · subst z; rw [u2_at]
        · rw [u2_off _ _ (Or.inr z), eo 9 (by decide) (by decide) (by decide)]; exact (A2 a (by omega)).1)
      (by rw [u2_at]; rfl) (fun a ha => absurd ha (by omega))
      (fun a _ ha => by rw [u2_ne _ _ _ (by decide), u2_ne _ _ _ (by decide), e11, pk_un (by omega)]; exact (A2 a ha).2.2)
    have t1 : Y_findUnder_l9 mc_F (nI b) 0 (u2 (u2 s1 9 b (nI (lv f b))) 10 b 0) τ = some (s3, τ) := t1
    rw [t1, ov_some]
    have eo3 : ∀ a, a ≠ 7 → a ≠ 8 → a ≠ 9 → a ≠ 10 → a ≠ 11 → s3 a = σ a := fun a a1 a2 a3 a4 a5 => by
      rw [t6 a a4 a5, u2_ne _ _ _ a4, u2_ne _ _ _ a3, eo a a1 a2 a5]
    have S3 : fd_S f (b + 1) s3 := fun a ha => by
      rw [t6 7 (by decide) (by decide), t6 8 (by decide) (by decide), u2_ne _ _ _ (by decide), u2_ne _ _ _ (by decide), u2_ne _ _ _ (by decide), u2_ne _ _ _ (by decide)]; exact S1 a ha
    obtain ⟨s4, c1, c2, c3⟩ := conts_ok (τ := τ) (σ := s3) V hbn S3 t2 ⟨by rw [eo3 6 (by decide) (by decide) (by decide) (by decide) (by decide)]; exact A3.1, by rw [eo3 12 (by decide) (by decide) (by decide) (by decide) (by decide), eo3 13 (by decide) (by decide) (by decide) (by decide) (by decide), eo3 14 (by decide) (by decide) (by decide) (by decide) (by decide)]; exact A3.2⟩
    rw [c1, ov_some]
    have nb : ∀ a, a ≠ 6 → a ≠ 12 → a ≠ 13 → a ≠ 14 → s4 a = s3 a := c3.1
    obtain ⟨σ', v1, v2, v3, v4⟩ := ih (b + 1) m s4 (by omega) (by omega)
      (by rw [nb 5 (by decide) (by decide) (by decide) (by decide), eo3 5 (by decide) (by decide) (by decide) (by decide) (by decide)]; exact hC)
      (by rw [c3.2 8 (by decide), eo3 6 (by decide) (by decide) (by decide) (by decide) (by decide)]; exact h8)
      ⟨fun a ha => by rw [nb 7 (by decide) (by decide) (by decide) (by decide), nb 8 (by decide) (by decide) (by decide) (by decide)]; exact S3 a ha, fun a ha => by
        rw [nb 9 (by decide) (by decide) (by decide) (by decide), nb 10 (by decide) (by decide) (by decide) (by decide), nb 11 (by decide) (by decide) (by decide) (by decide), t6 9 (by decide) (by decide), u2_ne _ _ _ (by decide)]
        by_cases z : a = b
        · subst z
          refine ⟨u2_at _ _ _ _, t2, ?_⟩
          rw [t5 a (Nat.le_refl _), u2_ne _ _ _ (by decide), u2_ne _ _ _ (by decide), e11, pk_us, ab_self]; rfl
        · obtain ⟨z1, z2, z3⟩ := A2 a (by omega)
          refine ⟨?_, ?_, t3 a (by omega)⟩
          · rw [u2_off _ _ (Or.inr z), eo 9 (by decide) (by decide) (by decide)]; exact z1
          · rw [t4 a z, u2_off _ _ (Or.inr z), u2_ne _ _ _ (by decide), eo 10 (by decide) (by decide) (by decide)]; exact z2, c2⟩
    refine ⟨σ', v1, v2, v3, fun a ha => ?_, fun j j1 j2 => ?_⟩
    · rw [v4.1 a ha, nb a (by omega) (by omega) (by omega) (by omega), eo3 a (by omega) (by omega) (by omega) (by omega) (by omega)]
    · rw [v4.2 j j1 j2, c3.2 j j2, eo3 6 (by decide) (by decide) (by decide) (by decide) (by decide)]
theorem find_4_ok {σ : mS} {τ : mT} (V : pl_V n f) (hC : pl_C n f (σ 5) 0) : ∃ σ', Y_find_4 σ τ = some (σ', τ) ∧ fd_A f n σ' ∧ σ' 6 8 = nI n ∧ fi_F σ σ' := by
  have hn := V.1
  have e6 : ∀ j, j ≠ 8 → j ≠ 9 → u2 (u2 σ 6 8 (nI n)) 6 9 0 6 j = σ 6 j := fun j h1 h2 => by rw [u2_off _ _ (Or.inr h2), u2_off _ _ (Or.inr h1)]
  have eo : ∀ a, a ≠ 6 → u2 (u2 σ 6 8 (nI n)) 6 9 0 a = σ a := fun a ha => by rw [u2_ne _ _ _ ha, u2_ne _ _ _ ha]
  obtain ⟨σ', v1, v2, v3, v4⟩ := find_4_l (τ := τ) V n 0 mc_F (u2 (u2 σ 6 8 (nI n)) 6 9 0) (by omega) (by unfold mc_F; omega) (by rw [eo 5 (by decide)]; exact hC) (by rw [u2_off _ _ (Or.inr (by decide)), u2_at]) ⟨fun a ha => absurd ha (by omega), fun a ha => absurd ha (by omega), u2_at _ _ _ _, fun i c hc => by simp [ct_al] at hc⟩
  refine ⟨σ', ?_, v2, v3, fun a ha => by rw [v4.1 a ha, eo a (by omega)], fun j h1 h2 => by rw [v4.2 j h1 h2, e6 j h1 h2]⟩
  unfold Y_find_4 P_size_4
  rw [ob_some, hC.n, show (4 : Int32) = nI 4 from rfl, i_jmin (by omega) (by decide), Nat.min_eq_left hn, mw_eq, mw_eq]
  exact v1
end FD
