/-! ===== THE CLASS POSES THE EQUATIONS ===== -/
section PO
variable {n : Nat} {f : Nat → Nat} {σ : mS} {τ : mT}
theorem fd_ct (V : pl_V n f) (A : fd_A f n σ) {x : Nat} (hx : x < (ct_al f n).length) : Y_upper (nI x) σ τ = some (nI (ctc (ct_al f n) x).1, σ, τ) ∧ Y_lower (nI x) σ τ = some (opt9 (ctc (ct_al f n) x).2.1, σ, τ) ∧ Y_x (nI x) σ τ = some (nI (ctc (ct_al f n) x).2.2, σ, τ) := by
  have h12 := ct_al12 f V.1
  obtain ⟨a1, a2, a3⟩ := A.2.2.2 x _ (ctc_mem hx)
  have w := wi_pin hx (by omega) σ τ
  have i12 := nin (show x < 12 by omega) (by decide)
  have cl : (nI x).toNatClampNeg = x := ncl (by omega)
  refine ⟨?_, ?_, ?_⟩
  · unfold Y_upper
    rw [A.2.2.1, w, ob_some, if_neg (by decide), if_neg i12, cl, a1]
  · unfold Y_lower
    rw [A.2.2.1, w, ob_some, if_neg (by decide), if_neg i12, cl, a2]
  · unfold Y_x
    rw [A.2.2.1, w, ob_some, if_neg (by decide), if_neg i12, cl, a3]
theorem opt9_some {lo : Option Nat} {b : Nat} (hb : b < 4) (hl : ∀ a, lo = some a → a < 4) : opt9 lo = nI b ↔ lo = some b := by
  cases lo with
  | none =>
    refine ⟨fun z => ?_, fun z => by cases z⟩
    have : (nI b).toInt = (-9 : Int32).toInt := by rw [← z]; rfl
    rw [nI_toInt (by omega)] at this
    have e : (-9 : Int32).toInt = -9 := by decide
    omega
  | some a =>
    have ha := hl a rfl
    show nI a = nI b ↔ _
    rw [nI_eq (by omega) (by omega)]
    exact ⟨fun z => by rw [z], fun z => by injection z⟩
theorem ev_1 {s0 : Int32} {s : Int} (hs : s0.toInt = s) (h1 : s = 1 ∨ s = -1 ∨ s = 0) {p l : Nat} (hp : p ≤ 15) (hl : l ≤ 15) : ((s0 * (nI p - nI l)).toInt64).toInt = s * ((p : Int) - (l : Int)) := by
  have e := pk_sub_toInt (a := p) (b := l) (by omega) (by omega)
  rw [Int32.toInt_toInt64, Kit.i32_mul (by rw [hs, e]; rcases h1 with z | z | z <;> subst z <;> omega) (by rw [hs, e]; rcases h1 with z | z | z <;> subst z <;> omega), hs, e]
theorem n17 (r p : Nat) : 17 + (r + p) = 17 + r + p := by omega
theorem poseb_2 (V : pl_V n f) (C : pl_C n f (σ 3) 0) (A : fd_A f n σ) {b : Nat} (hb : b < n) {r : Nat} (hr : r ≤ 6) (h4 : σ 15 4 = nI (ct_al f n).length) : ∀ (d k m : Nat) (τ : mT), k + d = (ct_al f n).length → d < m → (∀ x p, x < k → p < 2 → (τ (17 + (r + p)) x).toInt = ct_ev f (ctc (ct_al f n) x) b p) →
    ∃ τ', B_poseBlock_2_6_l55 m (nI b) (nI r) (nI k) σ τ = some (σ, τ') ∧ (∀ x p, x < (ct_al f n).length → p < 2 → (τ' (17 + (r + p)) x).toInt = ct_ev f (ctc (ct_al f n) x) b p) ∧ (∀ p, p < 2 → (τ' (17 + (r + p)) 13).toInt = eq_w f b p) ∧ ∀ a, a ≠ 17 + r → a ≠ 17 + (r + 1) → τ' a = τ a := by
  have hn := V.1
  have h12 := ct_al12 f V.1
  intro d
  induction d with
  | zero =>
    intro k m τ hk hm hT
    obtain ⟨m, rfl⟩ : ∃ m', m = m' + 1 := ⟨m - 1, by omega⟩
    have : k = (ct_al f n).length := by omega
    subst this
    obtain ⟨v1, v2, v3, v4, v5, v6, v7⟩ := V.2 b hb
    have m1 : f (5 * b + 2) * f (5 * b + 1) ≤ 9 * 3 := Nat.mul_le_mul v5 v3
    have m2 : f (5 * b + 3) * f (5 * b + 4) ≤ 20 * 6 := Nat.mul_le_mul v6 (by omega)
    have g1 : ∀ t, P_get_2 (nI b) 1 σ t = some (nI (f (5 * b + 1)), σ, t) := fun t => P_get_2_ok (k := 1) hn C hb (by omega)
    have g2 : ∀ t, P_get_2 (nI b) 2 σ t = some (nI (f (5 * b + 2)), σ, t) := fun t => P_get_2_ok (k := 2) hn C hb (by omega)
    have g3 : ∀ t, P_get_2 (nI b) 3 σ t = some (nI (f (5 * b + 3)), σ, t) := fun t => P_get_2_ok (k := 3) hn C hb (by omega)
    have g4 : ∀ t, P_get_2 (nI b) 4 σ t = some (nI (f (5 * b + 4)), σ, t) := fun t => P_get_2_ok (k := 4) hn C hb (by omega)
    refine ⟨u2L (u2L τ (17 + r) 13 (lN (f (5 * b + 2) + f (5 * b + 3)))) (17 + (r + 1)) 13 (lN (f (5 * b + 2) * f (5 * b + 1) + f (5 * b + 3) * f (5 * b + 4))), ?_, fun x p hx hp => ?_, fun p hp => ?_, fun a a1 a2 => by rw [u2L_ne _ _ _ a2, u2L_ne _ _ _ a1]⟩
    · unfold B_poseBlock_2_6_l55
      rw [h4, if_pos (nI_le (Nat.le_refl _) (by omega)), g2, ob_some, g3, ob_some, if_neg (nin (show r < 8 by omega) (by decide)), ncl (show r < 2 ^ 31 by omega), mw_eq, nI_1, if_neg (nin (show r + 1 < 8 by omega) (by decide)), ncl (show r + 1 < 2 ^ 31 by omega), g1, ob_some, g4, ob_some, mw_eq, nI_add, pk_mul, pk_mul, nI_add, nI_l (by omega), nI_l (by omega)]
    · rw [u2L_off _ _ (Or.inr (by omega)), u2L_off _ _ (Or.inr (by omega))]
      exact hT x p hx hp
    · have : p = 0 ∨ p = 1 := by omega
      rcases this with e | e <;> subst e
      · rw [u2L_off _ _ (Or.inl (by omega))]
        show (u2L τ (17 + r) 13 _ (17 + r) 13).toInt = _
        rw [u2L_at, pk_lT (by omega)]
        rfl
      · rw [u2L_at, pk_lT (by omega)]
        rfl
  | succ d ih =>
    intro k m τ hk hm hT
    obtain ⟨m, rfl⟩ : ∃ m', m = m' + 1 := ⟨m - 1, by omega⟩
    have hkN : k < (ct_al f n).length := by omega
    obtain ⟨c1, c2, c3⟩ := fd_ct (τ := τ) V A hkN
    obtain ⟨o1, o2, o3⟩ := ct_x_ok V hkN
    obtain ⟨q1, q2, q3⟩ := ly_bd V o1
    obtain ⟨w1, w2, w3⟩ := ly_bd V hb
    have g0 : ∀ t, P_get_2 (nI b) 0 σ t = some (nI (ly_l f b), σ, t) := fun t => P_get_2_ok (k := 0) hn C hb (by omega)
    have b93 : ∀ (s0 : Int32) (s : Int), s0.toInt = s → (s = 1 ∨ s = -1 ∨ s = 0) → ct_sg (ctc (ct_al f n) k) b = s → ∃ τ', B_poseBlock_2_6_b93 (B_poseBlock_2_6_l55 m) (nI b) (nI r) (nI k) s0 σ τ = some (σ, τ') ∧ (∀ x p, x < (ct_al f n).length → p < 2 → (τ' (17 + (r + p)) x).toInt = ct_ev f (ctc (ct_al f n) x) b p) ∧ (∀ p, p < 2 → (τ' (17 + (r + p)) 13).toInt = eq_w f b p) ∧ ∀ a, a ≠ 17 + r → a ≠ 17 + (r + 1) → τ' a = τ a := fun s0 s e1 e2 e3 => by
      unfold B_poseBlock_2_6_b93
      have c3' : ∀ t, Y_x (nI k) σ t = some (nI (ctc (ct_al f n) k).2.2, σ, t) := fun t => (fd_ct (τ := t) V A hkN).2.2
      rw [if_neg (nin (show r < 8 by omega) (by decide)), if_neg (nin (show k < 14 by omega) (by decide)), ncl (show r < 2 ^ 31 by omega), ncl (show k < 2 ^ 31 by omega), mw_eq, nI_1, if_neg (nin (show r + 1 < 8 by omega) (by decide)), ncl (show r + 1 < 2 ^ 31 by omega), c3', ob_some, g0, ob_some, mw_eq, nI_1]
      obtain ⟨τ', t1, t2, t3, t4⟩ := ih (k + 1) m (u2L (u2L τ (17 + r) k s0.toInt64) (17 + (r + 1)) k ((s0 * (nI (ctc (ct_al f n) k).2.2 - nI (ly_l f b))).toInt64)) (by omega) (by omega) (fun x p hx hp => by
        by_cases z : x = k
        · subst z
          have : p = 0 ∨ p = 1 := by omega
          rcases this with e | e <;> subst e
          · rw [u2L_off _ _ (Or.inl (by omega))]
            show (u2L τ (17 + r) x _ (17 + r) x).toInt = _
            rw [u2L_at, Int32.toInt_toInt64, e1, ct_ev_0, e3]
          · rw [u2L_at, ev_1 e1 e2 (by omega) (by omega), ct_ev_1, e3]
        · rw [u2L_off _ _ (Or.inr z), u2L_off _ _ (Or.inr z)]
          exact hT x p (by omega) hp)
      exact ⟨τ', t1, t2, t3, fun a a1 a2 => by rw [t4 a a1 a2, u2L_ne _ _ _ a2, u2L_ne _ _ _ a1]⟩
    unfold B_poseBlock_2_6_l55
    rw [h4, if_neg (nI_ge hkN (by omega)), c1, ob_some]
    by_cases e1 : (ctc (ct_al f n) k).1 = b
    · rw [if_pos (by rw [e1])]
      exact b93 1 1 (by decide) (Or.inl rfl) (if_pos e1)
    · rw [if_neg (fun z => e1 ((nI_eq (by omega) (by omega)).mp z)), c2, ob_some]
      have ow := opt9_some (b := b) (lo := (ctc (ct_al f n) k).2.1) (by omega) (fun a ha => by have := (o3 a ha).1; omega)
      by_cases e2 : (ctc (ct_al f n) k).2.1 = some b
      · rw [if_pos (ow.mpr e2)]
        exact b93 (-1) (-1) (by decide) (Or.inr (Or.inl rfl)) (by unfold ct_sg; rw [if_neg e1, if_pos e2])
      · rw [if_neg (fun z => e2 (ow.mp z))]
        exact b93 0 0 (by decide) (Or.inr (Or.inr rfl)) (by unfold ct_sg; rw [if_neg e1, if_neg e2])
theorem poseb_4 (V : pl_V n f) (C : pl_C n f (σ 5) 0) (A : fd_A f n σ) {b : Nat} (hb : b < n) {r : Nat} (hr : r ≤ 6) (h4 : σ 15 4 = nI (ct_al f n).length) : ∀ (d k m : Nat) (τ : mT), k + d = (ct_al f n).length → d < m → (∀ x p, x < k → p < 2 → (τ (17 + (r + p)) x).toInt = ct_ev f (ctc (ct_al f n) x) b p) →
    ∃ τ', B_poseBlock_4_6_l55 m (nI b) (nI r) (nI k) σ τ = some (σ, τ') ∧ (∀ x p, x < (ct_al f n).length → p < 2 → (τ' (17 + (r + p)) x).toInt = ct_ev f (ctc (ct_al f n) x) b p) ∧ (∀ p, p < 2 → (τ' (17 + (r + p)) 13).toInt = eq_w f b p) ∧ ∀ a, a ≠ 17 + r → a ≠ 17 + (r + 1) → τ' a = τ a := by
  have hn := V.1
  have h12 := ct_al12 f V.1
  intro d
  induction d with
  | zero =>
    intro k m τ hk hm hT
    obtain ⟨m, rfl⟩ : ∃ m', m = m' + 1 := ⟨m - 1, by omega⟩
    have : k = (ct_al f n).length := by omega
    subst this
    obtain ⟨v1, v2, v3, v4, v5, v6, v7⟩ := V.2 b hb
    have m1 : f (5 * b + 2) * f (5 * b + 1) ≤ 9 * 3 := Nat.mul_le_mul v5 v3
    have m2 : f (5 * b + 3) * f (5 * b + 4) ≤ 20 * 6 := Nat.mul_le_mul v6 (by omega)
    have g1 : ∀ t, P_get_4 (nI b) 1 σ t = some (nI (f (5 * b + 1)), σ, t) := fun t => P_get_4_ok (k := 1) hn C hb (by omega)
    have g2 : ∀ t, P_get_4 (nI b) 2 σ t = some (nI (f (5 * b + 2)), σ, t) := fun t => P_get_4_ok (k := 2) hn C hb (by omega)
    have g3 : ∀ t, P_get_4 (nI b) 3 σ t = some (nI (f (5 * b + 3)), σ, t) := fun t => P_get_4_ok (k := 3) hn C hb (by omega)
    have g4 : ∀ t, P_get_4 (nI b) 4 σ t = some (nI (f (5 * b + 4)), σ, t) := fun t => P_get_4_ok (k := 4) hn C hb (by omega)
    refine ⟨u2L (u2L τ (17 + r) 13 (lN (f (5 * b + 2) + f (5 * b + 3)))) (17 + (r + 1)) 13 (lN (f (5 * b + 2) * f (5 * b + 1) + f (5 * b + 3) * f (5 * b + 4))), ?_, fun x p hx hp => ?_, fun p hp => ?_, fun a a1 a2 => by rw [u2L_ne _ _ _ a2, u2L_ne _ _ _ a1]⟩
    · unfold B_poseBlock_4_6_l55
      rw [h4, if_pos (nI_le (Nat.le_refl _) (by omega)), g2, ob_some, g3, ob_some, if_neg (nin (show r < 8 by omega) (by decide)), ncl (show r < 2 ^ 31 by omega), mw_eq, nI_1, if_neg (nin (show r + 1 < 8 by omega) (by decide)), ncl (show r + 1 < 2 ^ 31 by omega), g1, ob_some, g4, ob_some, mw_eq, nI_add, pk_mul, pk_mul, nI_add, nI_l (by omega), nI_l (by omega)]
    · rw [u2L_off _ _ (Or.inr (by omega)), u2L_off _ _ (Or.inr (by omega))]
      exact hT x p hx hp
    · have : p = 0 ∨ p = 1 := by omega
      rcases this with e | e <;> subst e
      · rw [u2L_off _ _ (Or.inl (by omega))]
        show (u2L τ (17 + r) 13 _ (17 + r) 13).toInt = _
        rw [u2L_at, pk_lT (by omega)]
        rfl
      · rw [u2L_at, pk_lT (by omega)]
        rfl
  | succ d ih =>
    intro k m τ hk hm hT
    obtain ⟨m, rfl⟩ : ∃ m', m = m' + 1 := ⟨m - 1, by omega⟩
    have hkN : k < (ct_al f n).length := by omega
    obtain ⟨c1, c2, c3⟩ := fd_ct (τ := τ) V A hkN
    obtain ⟨o1, o2, o3⟩ := ct_x_ok V hkN
    obtain ⟨q1, q2, q3⟩ := ly_bd V o1
    obtain ⟨w1, w2, w3⟩ := ly_bd V hb
    have g0 : ∀ t, P_get_4 (nI b) 0 σ t = some (nI (ly_l f b), σ, t) := fun t => P_get_4_ok (k := 0) hn C hb (by omega)
    have b93 : ∀ (s0 : Int32) (s : Int), s0.toInt = s → (s = 1 ∨ s = -1 ∨ s = 0) → ct_sg (ctc (ct_al f n) k) b = s → ∃ τ', B_poseBlock_4_6_b93 (B_poseBlock_4_6_l55 m) (nI b) (nI r) (nI k) s0 σ τ = some (σ, τ') ∧ (∀ x p, x < (ct_al f n).length → p < 2 → (τ' (17 + (r + p)) x).toInt = ct_ev f (ctc (ct_al f n) x) b p) ∧ (∀ p, p < 2 → (τ' (17 + (r + p)) 13).toInt = eq_w f b p) ∧ ∀ a, a ≠ 17 + r → a ≠ 17 + (r + 1) → τ' a = τ a := fun s0 s e1 e2 e3 => by
      unfold B_poseBlock_4_6_b93
      have c3' : ∀ t, Y_x (nI k) σ t = some (nI (ctc (ct_al f n) k).2.2, σ, t) := fun t => (fd_ct (τ := t) V A hkN).2.2
      rw [if_neg (nin (show r < 8 by omega) (by decide)), if_neg (nin (show k < 14 by omega) (by decide)), ncl (show r < 2 ^ 31 by omega), ncl (show k < 2 ^ 31 by omega), mw_eq, nI_1, if_neg (nin (show r + 1 < 8 by omega) (by decide)), ncl (show r + 1 < 2 ^ 31 by omega), c3', ob_some, g0, ob_some, mw_eq, nI_1]
      obtain ⟨τ', t1, t2, t3, t4⟩ := ih (k + 1) m (u2L (u2L τ (17 + r) k s0.toInt64) (17 + (r + 1)) k ((s0 * (nI (ctc (ct_al f n) k).2.2 - nI (ly_l f b))).toInt64)) (by omega) (by omega) (fun x p hx hp => by
        by_cases z : x = k
        · subst z
          have : p = 0 ∨ p = 1 := by omega
          rcases this with e | e <;> subst e
          · rw [u2L_off _ _ (Or.inl (by omega))]
            show (u2L τ (17 + r) x _ (17 + r) x).toInt = _
            rw [u2L_at, Int32.toInt_toInt64, e1, ct_ev_0, e3]
          · rw [u2L_at, ev_1 e1 e2 (by omega) (by omega), ct_ev_1, e3]
        · rw [u2L_off _ _ (Or.inr z), u2L_off _ _ (Or.inr z)]
          exact hT x p (by omega) hp)
      exact ⟨τ', t1, t2, t3, fun a a1 a2 => by rw [t4 a a1 a2, u2L_ne _ _ _ a2, u2L_ne _ _ _ a1]⟩
    unfold B_poseBlock_4_6_l55
    rw [h4, if_neg (nI_ge hkN (by omega)), c1, ob_some]
    by_cases e1 : (ctc (ct_al f n) k).1 = b
    · rw [if_pos (by rw [e1])]
      exact b93 1 1 (by decide) (Or.inl rfl) (if_pos e1)
    · rw [if_neg (fun z => e1 ((nI_eq (by omega) (by omega)).mp z)), c2, ob_some]
      have ow := opt9_some (b := b) (lo := (ctc (ct_al f n) k).2.1) (by omega) (fun a ha => by have := (o3 a ha).1; omega)
      by_cases e2 : (ctc (ct_al f n) k).2.1 = some b
      · rw [if_pos (ow.mpr e2)]
        exact b93 (-1) (-1) (by decide) (Or.inr (Or.inl rfl)) (by unfold ct_sg; rw [if_neg e1, if_pos e2])
      · rw [if_neg (fun z => e2 (ow.mp z))]
        exact b93 0 0 (by decide) (Or.inr (Or.inr rfl)) (by unfold ct_sg; rw [if_neg e1, if_neg e2])
/-- posed so far -/
def ps_I (f : Nat → Nat) (n : Nat) (H : Nat → Bool) (b : Nat) (σ : mS) (τ : mT) : Prop :=
  σ 15 3 = nI (2 * ct_c H b) ∧ σ 15 4 = nI (ct_al f n).length ∧ (τ 15 5).toInt = 1 ∧
  (∀ a, a < b → H a = true → (∀ p, p < 2 → (∀ x, x < (ct_al f n).length → (τ (17 + (2 * ct_c H a + p)) x).toInt = ct_ev f (ctc (ct_al f n) x) a p) ∧ (τ (17 + (2 * ct_c H a + p)) 13).toInt = eq_w f a p ∧ σ 25 (2 * ct_c H a + p) = nI (13 + (2 * ct_c H a + p))) ∧ σ 26 a = nI (2 * ct_c H a))
/-- what posing leaves as it was -/
def po_F (σ : mS) (τ : mT) (σ' : mS) (τ' : mT) : Prop := (∀ a, a ≠ 15 → a ≠ 25 → a ≠ 26 → σ' a = σ a) ∧ ∀ a, a < 15 ∨ 24 < a → τ' a = τ a
theorem po_F.tr {σ1 σ2 : mS} {τ1 τ2 : mT} (h : po_F σ τ σ1 τ1) (h' : po_F σ1 τ1 σ2 τ2) : po_F σ τ σ2 τ2 := ⟨fun a h1 h2 h3 => (h'.1 a h1 h2 h3).trans (h.1 a h1 h2 h3), fun a h1 => (h'.2 a h1).trans (h.2 a h1)⟩
theorem fd_A.fr {σ' : mS} (A : fd_A f n σ) (h : ∀ a, a < 15 → σ' a = σ a) : fd_A f n σ' := by
  obtain ⟨a1, a2, a3, a4⟩ := A
  unfold fd_A fd_S fd_K
  rw [h 7 (by decide), h 8 (by decide), h 9 (by decide), h 10 (by decide), h 11 (by decide), h 6 (by decide), h 12 (by decide), h 13 (by decide), h 14 (by decide)]
  exact ⟨a1, a2, a3, a4⟩
/-- the held blocks as a number; the balanced ones -/
def Hh (held : Nat) (b : Nat) : Bool := !bN held b
theorem pose_2_l (V : pl_V n f) {held : Nat} (hh : held < 16) : ∀ (d b m : Nat) (σ : mS) (τ : mT), b + d = n → d < m → pl_C n f (σ 3) 0 → fd_A f n σ → ps_I f n (Hh held) b σ τ →
    ∃ σ' τ', B_pose_2_6_l26 m (nI held) (nI b) σ τ = some (σ', τ') ∧ ps_I f n (Hh held) n σ' τ' ∧ po_F σ τ σ' τ' := by
  have hn := V.1
  have h12 := ct_al12 f V.1
  intro d
  induction d with
  | zero =>
    intro b m σ τ hb hm C A I
    obtain ⟨m, rfl⟩ : ∃ m', m = m' + 1 := ⟨m - 1, by omega⟩
    have : b = n := by omega
    subst this
    refine ⟨σ, τ, ?_, I, fun _ _ _ _ => rfl, fun _ _ => rfl⟩
    unfold B_pose_2_6_l26 P_size_2
    rw [ob_some, C.n, if_pos (nI_le (Nat.le_refl _) (by omega))]
  | succ d ih =>
    intro b m σ τ hb hm C A I
    obtain ⟨m, rfl⟩ : ∃ m', m = m' + 1 := ⟨m - 1, by omega⟩
    have hbn : b < n := by omega
    obtain ⟨I1, I2, I3, I4⟩ := I
    have hcl := ct_c_le (Hh held) b
    have es : ct_c (Hh held) (b + 1) = ct_c (Hh held) b + (if Hh held b then 1 else 0) := rfl
    unfold B_pose_2_6_l26 P_size_2
    rw [ob_some, C.n, if_neg (nI_ge hbn (by omega)), show (4 : Int32) = nI 4 from rfl, if_neg (nI_ge (show b < 4 by omega) (by omega)), if_neg (nin (show b < 4 by omega) (by decide)), ncl (show b < 2 ^ 31 by omega), mw_eq, bit_ok (by omega) (by omega), u2_ne _ _ _ (show (15 : Nat) ≠ 26 by decide), I1]
    have F0 : po_F σ τ (u2 σ 26 b (-1)) τ := ⟨fun a _ _ a3 => u2_ne _ _ _ a3, fun _ _ => rfl⟩
    cases hbt : bN held b with
    | true =>
      have hH : Hh held b = false := by unfold Hh; rw [hbt]; rfl
      rw [hH] at es
      have es : ct_c (Hh held) (b + 1) = ct_c (Hh held) b := es
      rw [if_neg (by decide), nI_1]
      obtain ⟨σ', τ', e1, e2, e3⟩ := ih (b + 1) m (u2 σ 26 b (-1)) τ (by omega) (by omega) (by rw [u2_ne _ _ _ (by decide)]; exact C) (A.fr fun a ha => u2_ne _ _ _ (by omega)) ⟨by rw [u2_ne _ _ _ (by decide), I1, es], by rw [u2_ne _ _ _ (by decide), I2], I3, fun a ha hHa => by
        have hab : a ≠ b := fun z => by rw [z, hH] at hHa; cases hHa
        obtain ⟨w1, w2⟩ := I4 a (by omega) hHa
        exact ⟨fun p hp => ⟨(w1 p hp).1, (w1 p hp).2.1, by rw [u2_ne _ _ _ (by decide)]; exact (w1 p hp).2.2⟩, by rw [u2_off _ _ (Or.inr hab)]; exact w2⟩⟩
      exact ⟨σ', τ', e1, e2, F0.tr e3⟩
    | false =>
      have hH : Hh held b = true := by unfold Hh; rw [hbt]; rfl
      rw [hH] at es
      have es : ct_c (Hh held) (b + 1) = ct_c (Hh held) b + 1 := es
      rw [if_pos (by rfl), show (2 : Int32) = nI 2 from rfl, nI_add, show (8 : Int32) = nI 8 from rfl, if_neg (nI_nlt (by omega) (by decide))]
      have hr : 2 * ct_c (Hh held) b ≤ 6 := by omega
      generalize hrr : 2 * ct_c (Hh held) b = r at *
      have pb : B_poseBlock_2_6 (nI b) (u2 σ 26 b (-1)) τ = B_poseBlock_2_6_l55 mc_F (nI b) (nI r) (nI 0) (u2 (u2 (u2 (u2 (u2 σ 26 b (-1)) 15 3 (nI (r + 2))) 26 b (nI r)) 25 r (nI (13 + r))) 25 (r + 1) (nI (13 + r + 1))) τ := by
        unfold B_poseBlock_2_6
        rw [u2_ne _ _ _ (show (15 : Nat) ≠ 26 by decide), I1, show (2 : Int32) = nI 2 from rfl, nI_add, mw_eq, if_neg (nin (show b < 4 by omega) (by decide)), ncl (show b < 2 ^ 31 by omega), mw_eq, if_neg (nin (show r < 8 by omega) (by decide)), ncl (show r < 2 ^ 31 by omega), show (13 : Int32) = nI 13 from rfl, nI_add, mw_eq, nI_1, if_neg (nin (show r + 1 < 8 by omega) (by decide)), ncl (show r + 1 < 2 ^ 31 by omega), nI_1, mw_eq]
        rfl
      rw [pb]
      have o1 : ∀ a, a ≠ 15 → a ≠ 25 → a ≠ 26 → u2 (u2 (u2 (u2 (u2 σ 26 b (-1)) 15 3 (nI (r + 2))) 26 b (nI r)) 25 r (nI (13 + r))) 25 (r + 1) (nI (13 + r + 1)) a = σ a := fun a a1 a2 a3 => by
        rw [u2_ne _ _ _ a2, u2_ne _ _ _ a2, u2_ne _ _ _ a3, u2_ne _ _ _ a1, u2_ne _ _ _ a3]
      have o15 : u2 (u2 (u2 (u2 (u2 σ 26 b (-1)) 15 3 (nI (r + 2))) 26 b (nI r)) 25 r (nI (13 + r))) 25 (r + 1) (nI (13 + r + 1)) 15 = upd (σ 15) 3 (nI (r + 2)) := by
        rw [u2_ne _ _ _ (by decide), u2_ne _ _ _ (by decide), u2_ne _ _ _ (by decide), u2_same, u2_ne _ _ _ (by decide)]
      have o25 : u2 (u2 (u2 (u2 (u2 σ 26 b (-1)) 15 3 (nI (r + 2))) 26 b (nI r)) 25 r (nI (13 + r))) 25 (r + 1) (nI (13 + r + 1)) 25 = upd (upd (σ 25) r (nI (13 + r))) (r + 1) (nI (13 + r + 1)) := by
        rw [u2_same, u2_same, u2_ne _ _ _ (by decide), u2_ne _ _ _ (by decide), u2_ne _ _ _ (by decide)]
      have o26 : ∀ j, u2 (u2 (u2 (u2 (u2 σ 26 b (-1)) 15 3 (nI (r + 2))) 26 b (nI r)) 25 r (nI (13 + r))) 25 (r + 1) (nI (13 + r + 1)) 26 j = if j = b then nI r else σ 26 j := fun j => by
        rw [u2_ne _ _ _ (by decide), u2_ne _ _ _ (by decide)]
        by_cases z : j = b
        · rw [if_pos z, z, u2_at]
        · rw [if_neg z, u2_off _ _ (Or.inr z), u2_ne _ _ _ (by decide), u2_off _ _ (Or.inr z)]
      generalize u2 (u2 (u2 (u2 (u2 σ 26 b (-1)) 15 3 (nI (r + 2))) 26 b (nI r)) 25 r (nI (13 + r))) 25 (r + 1) (nI (13 + r + 1)) = s1 at o1 o15 o25 o26
      have C1 : pl_C n f (s1 3) 0 := by rw [o1 3 (by decide) (by decide) (by decide)]; exact C
      have A1 : fd_A f n s1 := A.fr fun a ha => o1 a (by omega) (by omega) (by omega)
      obtain ⟨τ1, t1, t2, t3, t4⟩ := poseb_2 V C1 A1 hbn hr (by rw [o15, pk_un (by decide)]; exact I2) (ct_al f n).length 0 mc_F τ (by omega) (by unfold mc_F; omega) (fun x p hx => absurd hx (by omega))
      rw [t1, ov_some, nI_1]
      have lt : ∀ a, a < b → Hh held a = true → 2 * ct_c (Hh held) a + 1 < r := fun a ha hHa => by
        have := (sl_ct (P := Hh held) ha hHa).1
        omega
      obtain ⟨σ', τ', e1, e2, e3⟩ := ih (b + 1) m s1 τ1 (by omega) (by omega) C1 A1 ⟨by rw [o15, pk_us, es]; congr 1; omega, by rw [o15, pk_un (by decide), I2], by rw [t4 15 (by omega) (by omega)]; exact I3, fun a ha hHa => by
        by_cases z : a = b
        · subst z
          rw [hrr]
          refine ⟨fun p hp => ⟨fun x hx => t2 x p hx hp, t3 p hp, ?_⟩, by rw [o26, if_pos rfl]⟩
          rw [o25]
          have : p = 0 ∨ p = 1 := by omega
          rcases this with e | e <;> subst e
          · rw [pk_un (by omega)]; exact pk_us
          · rw [pk_us]; rfl
        · obtain ⟨w1, w2⟩ := I4 a (by omega) hHa
          have hlt := lt a (by omega) hHa
          refine ⟨fun p hp => ?_, by rw [o26, if_neg z]; exact w2⟩
          rw [t4 _ (by omega) (by omega), o25, pk_un (by omega), pk_un (by omega)]
          exact w1 p hp⟩
      exact ⟨σ', τ', e1, e2, ⟨fun a a1 a2 a3 => by rw [e3.1 a a1 a2 a3, o1 a a1 a2 a3], fun a ha => by rw [e3.2 a ha, t4 a (by omega) (by omega)]⟩⟩
theorem pose_2_ok (V : pl_V n f) {held : Nat} (hh : held < 16) (C : pl_C n f (σ 3) 0) (A : fd_A f n σ) : ∃ σ' τ', B_pose_2_6 (nI held) σ τ = some (σ', τ') ∧ ps_I f n (Hh held) n σ' τ' ∧ po_F σ τ σ' τ' := by
  have h12 := ct_al12 f V.1
  have o : ∀ a, a ≠ 15 → u2 (u2 σ 15 3 0) 15 4 (nI (ct_al f n).length) a = σ a := fun a ha => by rw [u2_ne _ _ _ ha, u2_ne _ _ _ ha]
  obtain ⟨σ', τ', e1, e2, e3⟩ := pose_2_l V hh n 0 mc_F (u2 (u2 σ 15 3 0) 15 4 (nI (ct_al f n).length)) (u2L τ 15 5 1) (by omega) (by have := V.1; unfold mc_F; omega) (by rw [o 3 (by decide)]; exact C) (A.fr fun a ha => o a (by omega)) ⟨by rw [u2_off _ _ (Or.inr (by decide)), u2_at]; rfl, u2_at _ _ _ _, by rw [u2L_at]; rfl, fun a ha => absurd ha (by omega)⟩
  refine ⟨σ', τ', ?_, e2, fun a a1 a2 a3 => by rw [e3.1 a a1 a2 a3, o a a1], fun a ha => by rw [e3.2 a ha, u2L_ne _ _ _ (by omega)]⟩
  unfold B_pose_2_6 Y_contacts
  rw [mw_eq, ob_some, u2_ne _ _ _ (by decide), A.2.2.1, show (12 : Int32) = nI 12 from rfl, i_jmin (by omega) (by decide), Nat.min_eq_left h12, mw_eq, mw_eq]
  exact e1
theorem pose_4_l (V : pl_V n f) {held : Nat} (hh : held < 16) : ∀ (d b m : Nat) (σ : mS) (τ : mT), b + d = n → d < m → pl_C n f (σ 5) 0 → fd_A f n σ → ps_I f n (Hh held) b σ τ →
    ∃ σ' τ', B_pose_4_6_l26 m (nI held) (nI b) σ τ = some (σ', τ') ∧ ps_I f n (Hh held) n σ' τ' ∧ po_F σ τ σ' τ' := by
  have hn := V.1
  have h12 := ct_al12 f V.1
  intro d
  induction d with
  | zero =>
    intro b m σ τ hb hm C A I
    obtain ⟨m, rfl⟩ : ∃ m', m = m' + 1 := ⟨m - 1, by omega⟩
    have : b = n := by omega
    subst this
    refine ⟨σ, τ, ?_, I, fun _ _ _ _ => rfl, fun _ _ => rfl⟩
    unfold B_pose_4_6_l26 P_size_4
    rw [ob_some, C.n, if_pos (nI_le (Nat.le_refl _) (by omega))]
  | succ d ih =>
    intro b m σ τ hb hm C A I
    obtain ⟨m, rfl⟩ : ∃ m', m = m' + 1 := ⟨m - 1, by omega⟩
    have hbn : b < n := by omega
    obtain ⟨I1, I2, I3, I4⟩ := I
    have hcl := ct_c_le (Hh held) b
    have es : ct_c (Hh held) (b + 1) = ct_c (Hh held) b + (if Hh held b then 1 else 0) := rfl
    unfold B_pose_4_6_l26 P_size_4
    rw [ob_some, C.n, if_neg (nI_ge hbn (by omega)), show (4 : Int32) = nI 4 from rfl, if_neg (nI_ge (show b < 4 by omega) (by omega)), if_neg (nin (show b < 4 by omega) (by decide)), ncl (show b < 2 ^ 31 by omega), mw_eq, bit_ok (by omega) (by omega), u2_ne _ _ _ (show (15 : Nat) ≠ 26 by decide), I1]
    have F0 : po_F σ τ (u2 σ 26 b (-1)) τ := ⟨fun a _ _ a3 => u2_ne _ _ _ a3, fun _ _ => rfl⟩
    cases hbt : bN held b with
    | true =>
      have hH : Hh held b = false := by unfold Hh; rw [hbt]; rfl
      rw [hH] at es
      have es : ct_c (Hh held) (b + 1) = ct_c (Hh held) b := es
      rw [if_neg (by decide), nI_1]
      obtain ⟨σ', τ', e1, e2, e3⟩ := ih (b + 1) m (u2 σ 26 b (-1)) τ (by omega) (by omega) (by rw [u2_ne _ _ _ (by decide)]; exact C) (A.fr fun a ha => u2_ne _ _ _ (by omega)) ⟨by rw [u2_ne _ _ _ (by decide), I1, es], by rw [u2_ne _ _ _ (by decide), I2], I3, fun a ha hHa => by
        have hab : a ≠ b := fun z => by rw [z, hH] at hHa; cases hHa
        obtain ⟨w1, w2⟩ := I4 a (by omega) hHa
        exact ⟨fun p hp => ⟨(w1 p hp).1, (w1 p hp).2.1, by rw [u2_ne _ _ _ (by decide)]; exact (w1 p hp).2.2⟩, by rw [u2_off _ _ (Or.inr hab)]; exact w2⟩⟩
      exact ⟨σ', τ', e1, e2, F0.tr e3⟩
    | false =>
      have hH : Hh held b = true := by unfold Hh; rw [hbt]; rfl
      rw [hH] at es
      have es : ct_c (Hh held) (b + 1) = ct_c (Hh held) b + 1 := es
      rw [if_pos (by rfl), show (2 : Int32) = nI 2 from rfl, nI_add, show (8 : Int32) = nI 8 from rfl, if_neg (nI_nlt (by omega) (by decide))]
      have hr : 2 * ct_c (Hh held) b ≤ 6 := by omega
      generalize hrr : 2 * ct_c (Hh held) b = r at *
      have pb : B_poseBlock_4_6 (nI b) (u2 σ 26 b (-1)) τ = B_poseBlock_4_6_l55 mc_F (nI b) (nI r) (nI 0) (u2 (u2 (u2 (u2 (u2 σ 26 b (-1)) 15 3 (nI (r + 2))) 26 b (nI r)) 25 r (nI (13 + r))) 25 (r + 1) (nI (13 + r + 1))) τ := by
        unfold B_poseBlock_4_6
        rw [u2_ne _ _ _ (show (15 : Nat) ≠ 26 by decide), I1, show (2 : Int32) = nI 2 from rfl, nI_add, mw_eq, if_neg (nin (show b < 4 by omega) (by decide)), ncl (show b < 2 ^ 31 by omega), mw_eq, if_neg (nin (show r < 8 by omega) (by decide)), ncl (show r < 2 ^ 31 by omega), show (13 : Int32) = nI 13 from rfl, nI_add, mw_eq, nI_1, if_neg (nin (show r + 1 < 8 by omega) (by decide)), ncl (show r + 1 < 2 ^ 31 by omega), nI_1, mw_eq]
        rfl
      rw [pb]
      have o1 : ∀ a, a ≠ 15 → a ≠ 25 → a ≠ 26 → u2 (u2 (u2 (u2 (u2 σ 26 b (-1)) 15 3 (nI (r + 2))) 26 b (nI r)) 25 r (nI (13 + r))) 25 (r + 1) (nI (13 + r + 1)) a = σ a := fun a a1 a2 a3 => by
        rw [u2_ne _ _ _ a2, u2_ne _ _ _ a2, u2_ne _ _ _ a3, u2_ne _ _ _ a1, u2_ne _ _ _ a3]
      have o15 : u2 (u2 (u2 (u2 (u2 σ 26 b (-1)) 15 3 (nI (r + 2))) 26 b (nI r)) 25 r (nI (13 + r))) 25 (r + 1) (nI (13 + r + 1)) 15 = upd (σ 15) 3 (nI (r + 2)) := by
        rw [u2_ne _ _ _ (by decide), u2_ne _ _ _ (by decide), u2_ne _ _ _ (by decide), u2_same, u2_ne _ _ _ (by decide)]
      have o25 : u2 (u2 (u2 (u2 (u2 σ 26 b (-1)) 15 3 (nI (r + 2))) 26 b (nI r)) 25 r (nI (13 + r))) 25 (r + 1) (nI (13 + r + 1)) 25 = upd (upd (σ 25) r (nI (13 + r))) (r + 1) (nI (13 + r + 1)) := by
        rw [u2_same, u2_same, u2_ne _ _ _ (by decide), u2_ne _ _ _ (by decide), u2_ne _ _ _ (by decide)]
      have o26 : ∀ j, u2 (u2 (u2 (u2 (u2 σ 26 b (-1)) 15 3 (nI (r + 2))) 26 b (nI r)) 25 r (nI (13 + r))) 25 (r + 1) (nI (13 + r + 1)) 26 j = if j = b then nI r else σ 26 j := fun j => by
        rw [u2_ne _ _ _ (by decide), u2_ne _ _ _ (by decide)]
        by_cases z : j = b
        · rw [if_pos z, z, u2_at]
        · rw [if_neg z, u2_off _ _ (Or.inr z), u2_ne _ _ _ (by decide), u2_off _ _ (Or.inr z)]
      generalize u2 (u2 (u2 (u2 (u2 σ 26 b (-1)) 15 3 (nI (r + 2))) 26 b (nI r)) 25 r (nI (13 + r))) 25 (r + 1) (nI (13 + r + 1)) = s1 at o1 o15 o25 o26
      have C1 : pl_C n f (s1 5) 0 := by rw [o1 5 (by decide) (by decide) (by decide)]; exact C
      have A1 : fd_A f n s1 := A.fr fun a ha => o1 a (by omega) (by omega) (by omega)
      obtain ⟨τ1, t1, t2, t3, t4⟩ := poseb_4 V C1 A1 hbn hr (by rw [o15, pk_un (by decide)]; exact I2) (ct_al f n).length 0 mc_F τ (by omega) (by unfold mc_F; omega) (fun x p hx => absurd hx (by omega))
      rw [t1, ov_some, nI_1]
      have lt : ∀ a, a < b → Hh held a = true → 2 * ct_c (Hh held) a + 1 < r := fun a ha hHa => by
        have := (sl_ct (P := Hh held) ha hHa).1
        omega
      obtain ⟨σ', τ', e1, e2, e3⟩ := ih (b + 1) m s1 τ1 (by omega) (by omega) C1 A1 ⟨by rw [o15, pk_us, es]; congr 1; omega, by rw [o15, pk_un (by decide), I2], by rw [t4 15 (by omega) (by omega)]; exact I3, fun a ha hHa => by
        by_cases z : a = b
        · subst z
          rw [hrr]
          refine ⟨fun p hp => ⟨fun x hx => t2 x p hx hp, t3 p hp, ?_⟩, by rw [o26, if_pos rfl]⟩
          rw [o25]
          have : p = 0 ∨ p = 1 := by omega
          rcases this with e | e <;> subst e
          · rw [pk_un (by omega)]; exact pk_us
          · rw [pk_us]; rfl
        · obtain ⟨w1, w2⟩ := I4 a (by omega) hHa
          have hlt := lt a (by omega) hHa
          refine ⟨fun p hp => ?_, by rw [o26, if_neg z]; exact w2⟩
          rw [t4 _ (by omega) (by omega), o25, pk_un (by omega), pk_un (by omega)]
          exact w1 p hp⟩
      exact ⟨σ', τ', e1, e2, ⟨fun a a1 a2 a3 => by rw [e3.1 a a1 a2 a3, o1 a a1 a2 a3], fun a ha => by rw [e3.2 a ha, t4 a (by omega) (by omega)]⟩⟩
theorem pose_4_ok (V : pl_V n f) {held : Nat} (hh : held < 16) (C : pl_C n f (σ 5) 0) (A : fd_A f n σ) : ∃ σ' τ', B_pose_4_6 (nI held) σ τ = some (σ', τ') ∧ ps_I f n (Hh held) n σ' τ' ∧ po_F σ τ σ' τ' := by
  have h12 := ct_al12 f V.1
  have o : ∀ a, a ≠ 15 → u2 (u2 σ 15 3 0) 15 4 (nI (ct_al f n).length) a = σ a := fun a ha => by rw [u2_ne _ _ _ ha, u2_ne _ _ _ ha]
  obtain ⟨σ', τ', e1, e2, e3⟩ := pose_4_l V hh n 0 mc_F (u2 (u2 σ 15 3 0) 15 4 (nI (ct_al f n).length)) (u2L τ 15 5 1) (by omega) (by have := V.1; unfold mc_F; omega) (by rw [o 5 (by decide)]; exact C) (A.fr fun a ha => o a (by omega)) ⟨by rw [u2_off _ _ (Or.inr (by decide)), u2_at]; rfl, u2_at _ _ _ _, by rw [u2L_at]; rfl, fun a ha => absurd ha (by omega)⟩
  refine ⟨σ', τ', ?_, e2, fun a a1 a2 a3 => by rw [e3.1 a a1 a2 a3, o a a1], fun a ha => by rw [e3.2 a ha, u2L_ne _ _ _ (by omega)]⟩
  unfold B_pose_4_6 Y_contacts
  rw [mw_eq, ob_some, u2_ne _ _ _ (by decide), A.2.2.1, show (12 : Int32) = nI 12 from rfl, i_jmin (by omega) (by decide), Nat.min_eq_left h12, mw_eq, mw_eq]
  exact e1
theorem ps_R {H : Nat → Bool} (V : pl_V n f) (I : ps_I f n H n σ τ) : bp_R (2 * ct_c H n) (ct_al f n).length (tb_0 (eqA f n H) (rowv H n (eq_w f))) σ τ := by
  obtain ⟨I1, I2, I3, I4⟩ := I
  have h12 := ct_al12 f V.1
  have hn := V.1
  have hcl := ct_c_le H n
  have row : ∀ i, i < 2 * ct_c H n → ∃ a, a < n ∧ H a = true ∧ i = 2 * ct_c H a + i % 2 ∧ i % 2 < 2 := fun i hi => by
    obtain ⟨s1, s2, s3⟩ := sl_ok (P := H) (N := n) (j := i / 2) (by omega)
    exact ⟨_, s1, s2, by rw [s3]; omega, by omega⟩
  refine ⟨by omega, by omega, I1, I2, I3, fun i hi j hj => ?_, fun i hi => ?_, fun i hi => ?_⟩
  · obtain ⟨a, a1, a2, a3, a4⟩ := row i hi
    show _ = eqA f n H j i
    unfold eqA
    rw [a3, rowv_at _ a1 a2 a4]
    exact ((I4 a a1 a2).1 _ a4).1 j hj
  · obtain ⟨a, a1, a2, a3, a4⟩ := row i hi
    show _ = rowv H n (eq_w f) i
    rw [a3, rowv_at _ a1 a2 a4]
    exact ((I4 a a1 a2).1 _ a4).2.1
  · obtain ⟨a, a1, a2, a3, a4⟩ := row i hi
    refine ⟨?_, by show 13 + i < 22; omega⟩
    show σ 25 i = nI (13 + i)
    rw [a3]
    exact ((I4 a a1 a2).1 _ a4).2.2
end PO
