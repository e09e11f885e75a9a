/-! ===== THE REFERENCE LAYS THE EQUATIONS ===== -/
section LR
variable {n : Nat} {f : Nat → Nat} {σ : mS}
theorem ev_2 {s0 : Int64} {s : Int} (hs : s0.toInt = s) (h1 : s = 1 ∨ s = -1 ∨ s = 0) {p l : Nat} (hp : p ≤ 15) (hl : l ≤ 15) : (s0 * (nI p - nI l).toInt64).toInt = s * ((p : Int) - (l : Int)) := by
  have e := pk_sub_toInt (a := p) (b := l) (by omega) (by omega)
  have e2 : ((nI p - nI l).toInt64).toInt = (p : Int) - (l : Int) := by rw [Int32.toInt_toInt64, e]
  rw [l_mul (a := 1) (b := 15) (by rw [hs]; rcases h1 with z | z | z <;> subst z <;> decide) (by rw [e2]; omega) (by decide), hs, e2]
theorem m16 (r c : Nat) : (16 : Int32) * nI r + (16 : Int32) + nI c = nI (16 * (r + 1) + c) := by
  rw [show (16 : Int32) = nI 16 from rfl, pk_mul, nI_add, nI_add]
  congr 1
theorem lrow_l (V : pl_V n f) (Q : pl_Q n f (σ 35) 0) (A : qd_A f n σ) {b : Nat} (hb : b < n) {r : Nat} (hr : r ≤ 6) {ex al : Int32} {spot : Nat} (hs : spot ≤ 6) {E B : Nat → Nat → Int} (hE : (ex = nI b ∧ E b 0 = -1 ∧ E b 1 = -(spot : Int)) ∨ (ex ≠ nI b ∧ E b 0 = 0 ∧ E b 1 = 0)) (hB : (al = 0 ∧ ∀ p, B b p = eq_w f b p) ∨ (al = 1 ∧ ∀ p, B b p = - E b p)) : ∀ (d k m : Nat) (τ : mT), k + d = (ct_al f n).length → d < m → (∀ x p, x < k → p < 2 → (τ 45 (16 * (r + p) + x)).toInt = ct_ev f (ctc (ct_al f n) x) b p) →
    ∃ τ', Q_layRow_l3 m (nI b) (nI r) ex (nI spot) al (nI k) σ τ = some (σ, τ') ∧ (∀ p, p < 2 → (∀ x, x < (ct_al f n).length → (τ' 45 (16 * (r + p) + x)).toInt = ct_ev f (ctc (ct_al f n) x) b p) ∧ (τ' 45 (16 * (r + p) + (ct_al f n).length)).toInt = E b p ∧ (τ' 46 (r + p)).toInt = B b p) ∧ (∀ i j, i ≠ r → i ≠ r + 1 → j < 16 → τ' 45 (16 * i + j) = τ 45 (16 * i + j)) ∧ (∀ i, i ≠ r → i ≠ r + 1 → τ' 46 i = τ 46 i) ∧ ∀ a, a ≠ 45 → a ≠ 46 → τ' a = τ a := by
  have hn := V.1
  have h12 := ct_al12 f V.1
  have K1 := A.2.1
  have p01 : ∀ p, p < 2 → p = 0 ∨ p = 1 := fun p h => by omega
  intro d
  induction d with
  | zero =>
    intro k m τ hk hm hT
    obtain ⟨m, rfl⟩ : ∃ m', m = m' + 1 := ⟨m - 1, by omega⟩
    have : k = (ct_al f n).length := by omega
    obtain ⟨v1, v2, v3, v4, v5, v6, v7⟩ := V.2 b hb
    have m1 : f (5 * b + 2) * f (5 * b + 1) ≤ 9 * 3 := Nat.mul_le_mul v5 v3
    have m2 : f (5 * b + 3) * f (5 * b + 4) ≤ 20 * 6 := Nat.mul_le_mul v6 (by omega)
    have g2 : ∀ t, Q_get (nI b) 2 σ t = some (nI (f (5 * b + 1)), σ, t) := fun t => Q_get_ok (k := 1) hn Q hb (by omega)
    have g3 : ∀ t, Q_get (nI b) 3 σ t = some (nI (f (5 * b + 2)), σ, t) := fun t => Q_get_ok (k := 2) hn Q hb (by omega)
    have g4 : ∀ t, Q_get (nI b) 4 σ t = some (nI (f (5 * b + 3)), σ, t) := fun t => Q_get_ok (k := 3) hn Q hb (by omega)
    have g5 : ∀ t, Q_get (nI b) 5 σ t = some (nI (f (5 * b + 4)), σ, t) := fun t => Q_get_ok (k := 4) hn Q hb (by omega)
    -- what is written
    have wr : ∀ (e0 e1 d0 d1 : Int64), e0.toInt = E b 0 → e1.toInt = E b 1 → d0.toInt = B b 0 → d1.toInt = B b 1 →
        (∀ p, p < 2 → (∀ x, x < (ct_al f n).length → ((u2L (u2L (u2L (u2L τ 45 (16 * r + (ct_al f n).length) e0) 45 (16 * (r + 1) + (ct_al f n).length) e1) 46 r d0) 46 (r + 1) d1) 45 (16 * (r + p) + x)).toInt = ct_ev f (ctc (ct_al f n) x) b p) ∧ ((u2L (u2L (u2L (u2L τ 45 (16 * r + (ct_al f n).length) e0) 45 (16 * (r + 1) + (ct_al f n).length) e1) 46 r d0) 46 (r + 1) d1) 45 (16 * (r + p) + (ct_al f n).length)).toInt = E b p ∧ ((u2L (u2L (u2L (u2L τ 45 (16 * r + (ct_al f n).length) e0) 45 (16 * (r + 1) + (ct_al f n).length) e1) 46 r d0) 46 (r + 1) d1) 46 (r + p)).toInt = B b p) ∧ (∀ i j, i ≠ r → i ≠ r + 1 → j < 16 → (u2L (u2L (u2L (u2L τ 45 (16 * r + (ct_al f n).length) e0) 45 (16 * (r + 1) + (ct_al f n).length) e1) 46 r d0) 46 (r + 1) d1) 45 (16 * i + j) = τ 45 (16 * i + j)) ∧ (∀ i, i ≠ r → i ≠ r + 1 → (u2L (u2L (u2L (u2L τ 45 (16 * r + (ct_al f n).length) e0) 45 (16 * (r + 1) + (ct_al f n).length) e1) 46 r d0) 46 (r + 1) d1) 46 i = τ 46 i) ∧ ∀ a, a ≠ 45 → a ≠ 46 → (u2L (u2L (u2L (u2L τ 45 (16 * r + (ct_al f n).length) e0) 45 (16 * (r + 1) + (ct_al f n).length) e1) 46 r d0) 46 (r + 1) d1) a = τ a := fun e0 e1 d0 d1 he0 he1 hd0 hd1 => by
      refine ⟨fun p hp => ⟨fun x hx => ?_, ?_, ?_⟩, fun i j h1 h2 hj => ?_, fun i h1 h2 => ?_, fun a h1 h2 => ?_⟩
      · rw [u2L_ne _ _ _ (by decide), u2L_ne _ _ _ (by decide), u2L_off _ _ (Or.inr (by omega)), u2L_off _ _ (Or.inr (by omega))]
        exact hT x p (by omega) hp
      · rw [u2L_ne _ _ _ (by decide), u2L_ne _ _ _ (by decide)]
        rcases p01 p hp with e | e <;> subst e
        · rw [u2L_off _ _ (Or.inr (by omega)), Nat.add_zero, u2L_at]; exact he0
        · rw [u2L_at]; exact he1
      · rcases p01 p hp with e | e <;> subst e
        · rw [u2L_off _ _ (Or.inr (by omega))]; exact (congrArg Int64.toInt (u2L_at _ _ _ _)).trans hd0
        · rw [u2L_at]; exact hd1
      · rw [u2L_ne _ _ _ (by decide), u2L_ne _ _ _ (by decide), u2L_off _ _ (Or.inr (by omega)), u2L_off _ _ (Or.inr (by omega))]
      · rw [u2L_off _ _ (Or.inr h2), u2L_off _ _ (Or.inr h1), u2L_ne _ _ _ (by decide), u2L_ne _ _ _ (by decide)]
      · rw [u2L_ne _ _ _ h2, u2L_ne _ _ _ h2, u2L_ne _ _ _ h1, u2L_ne _ _ _ h1]
    have i1 := nin (show 16 * r + (ct_al f n).length < 128 by omega) (by decide)
    have i2 := nin (show 16 * (r + 1) + (ct_al f n).length < 128 by omega) (by decide)
    have i3 := nin (show r < 8 by omega) (by decide)
    have i4 := nin (show r + 1 < 8 by omega) (by decide)
    have c1 : (nI (16 * r + (ct_al f n).length)).toNatClampNeg = 16 * r + (ct_al f n).length := ncl (by omega)
    have c2 : (nI (16 * (r + 1) + (ct_al f n).length)).toNatClampNeg = 16 * (r + 1) + (ct_al f n).length := ncl (by omega)
    have c3 : (nI r).toNatClampNeg = r := ncl (by omega)
    have c4 : (nI (r + 1)).toNatClampNeg = r + 1 := ncl (by omega)
    unfold Q_layRow_l3
    rw [K1, this, if_pos (nI_le (Nat.le_refl _) (by omega))]
    rcases hE with ⟨x1, x2, x3⟩ | ⟨x1, x2, x3⟩
    · rw [if_pos x1]
      unfold Q_layRow_b110
      rw [if_neg (by decide), K1, n16]
      unfold Q_layRow_b137
      rw [if_neg i1, c1, mw_eq, if_neg (by decide), K1, m16]
      unfold Q_layRow_b167
      rw [if_neg i2, c2, mw_eq]
      have hneg : ((-nI spot).toInt64).toInt = -(spot : Int) := by rw [Int32.toInt_toInt64, sb_negT (by omega)]
      rcases hB with ⟨y1, y2⟩ | ⟨y1, y2⟩
      · rw [if_pos y1, g3, ob_some, g4, ob_some]
        unfold Q_layRow_b205
        rw [if_neg i3, c3, mw_eq, if_pos y1, g3, ob_some, g2, ob_some, g4, ob_some, g5, ob_some, nI_1, if_neg i4, c4, mw_eq, nI_add, pk_mul, pk_mul, nI_add]
        exact ⟨_, rfl, wr _ _ _ _ (by rw [x2]; rfl) (by rw [x3]; exact hneg) (by rw [y2, nI_l (by omega), pk_lT (by omega)]; rfl) (by rw [y2, nI_l (by omega), pk_lT (by omega)]; rfl)⟩
      · rw [if_neg (by rw [y1]; decide), if_neg (by decide)]
        unfold Q_layRow_b205
        rw [if_neg i3, c3, mw_eq, if_neg (by rw [y1]; decide), if_neg (by decide), nI_1, if_neg i4, c4, mw_eq]
        exact ⟨_, rfl, wr _ _ _ _ (by rw [x2]; rfl) (by rw [x3]; exact hneg) (by rw [y2, x2]; rfl) (by rw [y2, x3, nI_l (by omega), pk_lT (by omega)]; omega)⟩
    · rw [if_neg x1]
      unfold Q_layRow_b110
      rw [if_pos rfl, K1, n16]
      unfold Q_layRow_b137
      rw [if_neg i1, c1, mw_eq, if_pos rfl, K1, m16]
      unfold Q_layRow_b167
      rw [if_neg i2, c2, mw_eq]
      rcases hB with ⟨y1, y2⟩ | ⟨y1, y2⟩
      · rw [if_pos y1, g3, ob_some, g4, ob_some]
        unfold Q_layRow_b205
        rw [if_neg i3, c3, mw_eq, if_pos y1, g3, ob_some, g2, ob_some, g4, ob_some, g5, ob_some, nI_1, if_neg i4, c4, mw_eq, nI_add, pk_mul, pk_mul, nI_add]
        exact ⟨_, rfl, wr _ _ _ _ (by rw [x2]; rfl) (by rw [x3]; rfl) (by rw [y2, nI_l (by omega), pk_lT (by omega)]; rfl) (by rw [y2, nI_l (by omega), pk_lT (by omega)]; rfl)⟩
      · rw [if_neg (by rw [y1]; decide), if_pos rfl]
        unfold Q_layRow_b205
        rw [if_neg i3, c3, mw_eq, if_neg (by rw [y1]; decide), if_pos rfl, nI_1, if_neg i4, c4, mw_eq]
        exact ⟨_, rfl, wr _ _ _ _ (by rw [x2]; rfl) (by rw [x3]; rfl) (by rw [y2, x2]; rfl) (by rw [y2, x3]; rfl)⟩
  | succ d ih =>
    intro k m τ hk hm hT
    obtain ⟨m, rfl⟩ : ∃ m', m = m' + 1 := ⟨m - 1, by omega⟩
    have hkN : k < (ct_al f n).length := by omega
    obtain ⟨c1, c2, c3⟩ := A.2.2 k _ (ctc_mem hkN)
    obtain ⟨o1, o2, o3⟩ := ct_x_ok V hkN
    obtain ⟨q1, q2, q3⟩ := ly_bd V o1
    obtain ⟨w1, w2, w3⟩ := ly_bd V hb
    have b45 : ∀ (s0 : Int64) (s : Int), s0.toInt = s → (s = 1 ∨ s = -1 ∨ s = 0) → ct_sg (ctc (ct_al f n) k) b = s →
        ∃ τ', Q_layRow_b45 (Q_layRow_l3 m) (nI b) (nI r) ex (nI spot) al (nI k) s0 σ τ = some (σ, τ') ∧ (∀ p, p < 2 → (∀ x, x < (ct_al f n).length → (τ' 45 (16 * (r + p) + x)).toInt = ct_ev f (ctc (ct_al f n) x) b p) ∧ (τ' 45 (16 * (r + p) + (ct_al f n).length)).toInt = E b p ∧ (τ' 46 (r + p)).toInt = B b p) ∧ (∀ i j, i ≠ r → i ≠ r + 1 → j < 16 → τ' 45 (16 * i + j) = τ 45 (16 * i + j)) ∧ (∀ i, i ≠ r → i ≠ r + 1 → τ' 46 i = τ 46 i) ∧ ∀ a, a ≠ 45 → a ≠ 46 → τ' a = τ a := fun s0 s e1 e2 e3 => by
      unfold Q_layRow_b45
      rw [n16, m16, if_neg (nin (show 16 * r + k < 128 by omega) (by decide)), ncl (show 16 * r + k < 2 ^ 31 by omega), mw_eq, if_neg (nin (show k < 16 by omega) (by decide)), Q_left_ok V Q hb, ob_some, if_neg (nin (show 16 * (r + 1) + k < 128 by omega) (by decide)), ncl (show 16 * (r + 1) + k < 2 ^ 31 by omega), ncl (show k < 2 ^ 31 by omega), c3, mw_eq, nI_1]
      obtain ⟨τ', t1, t2, t3, t4, t5⟩ := ih (k + 1) m (u2L (u2L τ 45 (16 * r + k) s0) 45 (16 * (r + 1) + k) (s0 * (nI (ctc (ct_al f n) k).2.2 - nI (ly_l f b)).toInt64)) (by omega) (by omega) (fun x p hx hp => by
        by_cases z : x = k
        · subst z
          rcases p01 p hp with e | e <;> subst e
          · rw [u2L_off _ _ (Or.inr (by omega)), Nat.add_zero, u2L_at, e1, ct_ev_0, e3]
          · rw [u2L_at, ev_2 e1 e2 (by omega) (by omega), ct_ev_1, e3]
        · rw [u2L_off _ _ (Or.inr (by omega)), u2L_off _ _ (Or.inr (by omega))]
          exact hT x p (by omega) hp)
      refine ⟨τ', t1, t2, fun i j h1 h2 hj => ?_, fun i h1 h2 => ?_, fun a h1 h2 => ?_⟩
      · rw [t3 i j h1 h2 hj, u2L_off _ _ (Or.inr (by omega)), u2L_off _ _ (Or.inr (by omega))]
      · rw [t4 i h1 h2, u2L_ne _ _ _ (by decide), u2L_ne _ _ _ (by decide)]
      · rw [t5 a h1 h2, u2L_ne _ _ _ h1, u2L_ne _ _ _ h1]
    unfold Q_layRow_l3
    rw [K1, if_neg (nI_ge hkN (by omega)), if_neg (nin (show k < 16 by omega) (by decide)), ncl (show k < 2 ^ 31 by omega), c1]
    by_cases e1 : (ctc (ct_al f n) k).1 = b
    · rw [if_pos (by rw [e1])]
      exact b45 1 1 (by decide) (Or.inl rfl) (if_pos e1)
    · rw [if_neg (fun z => e1 ((nI_eq (by omega) (by omega)).mp z)), c2]
      have ow := opt9_some (b := b) (lo := (ctc (ct_al f n) k).2.1) (by omega) (fun a ha => by have := (o3 a ha).1; omega)
      by_cases e2 : (ctc (ct_al f n) k).2.1 = some b
      · rw [if_pos (ow.mpr e2)]
        exact b45 (-1) (-1) (by decide) (Or.inr (Or.inl rfl)) (by unfold ct_sg; rw [if_neg e1, if_pos e2])
      · rw [if_neg (fun z => e2 (ow.mp z))]
        exact b45 0 0 (by decide) (Or.inr (Or.inr rfl)) (by unfold ct_sg; rw [if_neg e1, if_neg e2])
/-- laid so far -/
def lr_I (f : Nat → Nat) (n : Nat) (H : Nat → Bool) (E B : Nat → Nat → Int) (b : Nat) (σ : mS) (τ : mT) : Prop :=
  σ 34 13 = nI (2 * ct_c H b) ∧ ∀ a, a < b → H a = true → ∀ p, p < 2 → (∀ x, x < (ct_al f n).length → (τ 45 (16 * (2 * ct_c H a + p) + x)).toInt = ct_ev f (ctc (ct_al f n) x) a p) ∧ (τ 45 (16 * (2 * ct_c H a + p) + (ct_al f n).length)).toInt = E a p ∧ (τ 46 (2 * ct_c H a + p)).toInt = B a p
def lr_F (σ σ' : mS) : Prop := (∀ a, a ≠ 34 → σ' a = σ a) ∧ ∀ j, j ≠ 13 → j ≠ 14 → σ' 34 j = σ 34 j
theorem lr_F.tr {σ1 σ2 : mS} (h : lr_F σ σ1) (h' : lr_F σ1 σ2) : lr_F σ σ2 := ⟨fun a h1 => (h'.1 a h1).trans (h.1 a h1), fun j hj h2 => (h'.2 j hj h2).trans (h.2 j hj h2)⟩
theorem qd_A.fr {σ' : mS} (A : qd_A f n σ) (h : ∀ a, a ≠ 34 → σ' a = σ a) (h9 : σ' 34 9 = σ 34 9) : qd_A f n σ' := by
  obtain ⟨a1, a2, a3⟩ := A
  unfold qd_A qd_K
  rw [h 40 (by decide), h 41 (by decide), h 42 (by decide), h 43 (by decide), h 44 (by decide), h9]
  exact ⟨a1, a2, a3⟩
theorem lrows_l (V : pl_V n f) {S : Nat} (hS : S < 16) {H : Nat → Bool} (hH : ∀ b, b < n → H b = bN S b) {ex al : Int32} {spot : Nat} (hs : spot ≤ 6) {E B : Nat → Nat → Int} (hE : ∀ b, b < n → (ex = nI b ∧ E b 0 = -1 ∧ E b 1 = -(spot : Int)) ∨ (ex ≠ nI b ∧ E b 0 = 0 ∧ E b 1 = 0)) (hB : (al = 0 ∧ ∀ b p, B b p = eq_w f b p) ∨ (al = 1 ∧ ∀ b p, B b p = - E b p)) : ∀ (d b m : Nat) (σ : mS) (τ : mT), b + d = n → d < m → pl_Q n f (σ 35) 0 → qd_A f n σ → lr_I f n H E B b σ τ →
    ∃ σ' τ', Q_layRows_l8 m (nI S) ex (nI spot) al (nI b) σ τ = some (σ', τ') ∧ lr_I f n H E B n σ' τ' ∧ σ' 34 14 = nI ((ct_al f n).length + if ex ≠ -9 ∧ al = 0 then 1 else 0) ∧ lr_F σ σ' := by
  have hn := V.1
  have h12 := ct_al12 f V.1
  intro d
  induction d with
  | zero =>
    intro b m σ τ hb hm Q A I
    obtain ⟨m, rfl⟩ : ∃ m', m = m' + 1 := ⟨m - 1, by omega⟩
    have : b = n := by omega
    subst this
    have out : ∀ k : Nat, lr_I f b H E B b (u2 σ 34 14 (nI k)) τ ∧ u2 σ 34 14 (nI k) 34 14 = nI k ∧ lr_F σ (u2 σ 34 14 (nI k)) := fun k => ⟨⟨by rw [u2_off _ _ (Or.inr (by decide))]; exact I.1, I.2⟩, u2_at _ _ _ _, fun a ha => u2_ne _ _ _ ha, fun j _ h => u2_off _ _ (Or.inr h)⟩
    unfold Q_layRows_l8 Q_many
    have z0 : nI (ct_al f b).length + (0 : Int32) = nI (ct_al f b).length := by rw [show (0 : Int32) = nI 0 from rfl, nI_add]; rfl
    rw [ob_some, Q.1, if_pos (nI_le (Nat.le_refl _) (by omega)), A.2.1, nI_1, z0]
    by_cases e1 : ex = -9
    · rw [if_pos e1, if_neg (fun z => z.1 e1), mw_eq]
      exact ⟨_, τ, rfl, out _⟩
    · rw [if_neg e1]
      by_cases e2 : al = 0
      · rw [if_pos e2, if_pos ⟨e1, e2⟩, mw_eq]
        exact ⟨_, τ, rfl, out _⟩
      · rw [if_neg e2, if_neg (fun z => e2 z.2), mw_eq]
        exact ⟨_, τ, rfl, out _⟩
  | succ d ih =>
    intro b m σ τ hb hm Q A I
    obtain ⟨m, rfl⟩ : ∃ m', m = m' + 1 := ⟨m - 1, by omega⟩
    have hbn : b < n := by omega
    have hcl := ct_c_le H b
    have es : ct_c H (b + 1) = ct_c H b + (if H b then 1 else 0) := rfl
    unfold Q_layRows_l8 Q_many
    rw [ob_some, Q.1, if_neg (nI_ge hbn (by omega)), has_ok (by omega) (by omega), ob_some, ← hH b hbn]
    cases hHb : H b with
    | false =>
      rw [hHb] at es
      have es : ct_c H (b + 1) = ct_c H b := es
      rw [if_pos (by rfl), nI_1]
      exact ih (b + 1) m σ τ (by omega) (by omega) Q A ⟨by rw [I.1, es], fun a ha hHa => I.2 a (by
        have : a ≠ b := fun z => by rw [z, hHb] at hHa; cases hHa
        omega) hHa⟩
    | true =>
      rw [hHb] at es
      have es : ct_c H (b + 1) = ct_c H b + 1 := es
      rw [if_neg (by decide)]
      obtain ⟨τ1, t1, t2, t3, t4, t5⟩ := lrow_l (r := 2 * ct_c H b) V Q A hbn (by omega) hs (hE b hbn) (by
        rcases hB with ⟨y1, y2⟩ | ⟨y1, y2⟩
        · exact Or.inl ⟨y1, y2 b⟩
        · exact Or.inr ⟨y1, y2 b⟩) (ct_al f n).length 0 mc_F τ (by omega) (by unfold mc_F; omega) (fun x p hx => absurd hx (by omega))
      have t1 : Q_layRow (nI b) (σ 34 13) ex (nI spot) al σ τ = some (σ, τ1) := by rw [I.1]; exact t1
      rw [t1, ov_some, mw_eq, I.1, show (2 : Int32) = nI 2 from rfl, nI_add, nI_1]
      have F0 : lr_F σ (u2 σ 34 13 (nI (2 * ct_c H b + 2))) := ⟨fun a ha => u2_ne _ _ _ ha, fun j h _ => u2_off _ _ (Or.inr h)⟩
      have lt : ∀ a, a < b → H a = true → 2 * ct_c H a + 1 < 2 * ct_c H b := fun a ha hHa => by
        have := (sl_ct (P := H) ha hHa).1
        omega
      obtain ⟨σ', τ', e1, e2, e3, e4⟩ := ih (b + 1) m (u2 σ 34 13 (nI (2 * ct_c H b + 2))) τ1 (by omega) (by omega) (by rw [u2_ne _ _ _ (by decide)]; exact Q) (A.fr (fun a ha => u2_ne _ _ _ ha) (u2_off _ _ (Or.inr (by decide)))) ⟨by rw [u2_at, es]; congr 1, fun a ha hHa p hp => by
        by_cases z : a = b
        · subst z
          exact t2 p hp
        · have hlt := lt a (by omega) hHa
          obtain ⟨w1, w2, w3⟩ := I.2 a (by omega) hHa p hp
          refine ⟨fun x hx => ?_, ?_, ?_⟩
          · rw [t3 _ _ (by omega) (by omega) (by omega)]; exact w1 x hx
          · rw [t3 _ _ (by omega) (by omega) (by omega)]; exact w2
          · rw [t4 _ (by omega) (by omega)]; exact w3⟩
      exact ⟨σ', τ', e1, e2, e3, F0.tr e4⟩
theorem lrows_ok {τ : mT} (V : pl_V n f) {S : Nat} (hS : S < 16) {H : Nat → Bool} (hH : ∀ b, b < n → H b = bN S b) {ex al : Int32} {spot : Nat} (hs : spot ≤ 6) {E B : Nat → Nat → Int} (hE : ∀ b, b < n → (ex = nI b ∧ E b 0 = -1 ∧ E b 1 = -(spot : Int)) ∨ (ex ≠ nI b ∧ E b 0 = 0 ∧ E b 1 = 0)) (hB : (al = 0 ∧ ∀ b p, B b p = eq_w f b p) ∨ (al = 1 ∧ ∀ b p, B b p = - E b p)) (Q : pl_Q n f (σ 35) 0) (A : qd_A f n σ) :
    ∃ σ' τ', Q_layRows (nI S) ex (nI spot) al σ τ = some (σ', τ') ∧ lr_I f n H E B n σ' τ' ∧ σ' 34 14 = nI ((ct_al f n).length + if ex ≠ -9 ∧ al = 0 then 1 else 0) ∧ lr_F σ σ' := by
  have F0 : lr_F σ (u2 σ 34 13 0) := ⟨fun a ha => u2_ne _ _ _ ha, fun j h _ => u2_off _ _ (Or.inr h)⟩
  obtain ⟨σ', τ', e1, e2, e3, e4⟩ := lrows_l V hS hH hs hE hB n 0 mc_F (u2 σ 34 13 0) τ (by omega) (by have := V.1; unfold mc_F; omega) (by rw [u2_ne _ _ _ (by decide)]; exact Q) (A.fr (fun a ha => u2_ne _ _ _ ha) (u2_off _ _ (Or.inr (by decide)))) ⟨u2_at _ _ _ _, fun a ha => absurd ha (by omega)⟩
  refine ⟨σ', τ', ?_, e2, e3, F0.tr e4⟩
  unfold Q_layRows
  rw [mw_eq]
  exact e1
/-! the laid equations are the posed ones -/
theorem lr_R {τ : mT} {H : Nat → Bool} {E B : Nat → Nat → Int} (I : lr_I f n H E B n σ τ) (h14 : σ 34 14 = nI (ct_al f n).length) : qp_R (2 * ct_c H n) (ct_al f n).length (eqA f n H) (rowv H n B) σ τ := by
  have row : ∀ i, i < 2 * ct_c H n → ∃ a, a < n ∧ H a = true ∧ i = 2 * ct_c H a + i % 2 ∧ i % 2 < 2 := fun i hi => by
    obtain ⟨s1, s2, s3⟩ := sl_ok (P := H) (N := n) (j := i / 2) (by omega)
    exact ⟨_, s1, s2, by rw [s3]; omega, by omega⟩
  refine ⟨I.1, h14, fun i hi c hc => ?_, fun i hi => ?_⟩
  · obtain ⟨a, a1, a2, a3, a4⟩ := row i hi
    unfold eqA
    rw [a3, rowv_at _ a1 a2 a4]
    exact (I.2 a a1 a2 _ a4).1 c hc
  · obtain ⟨a, a1, a2, a3, a4⟩ := row i hi
    rw [a3, rowv_at _ a1 a2 a4]
    exact (I.2 a a1 a2 _ a4).2.2
theorem lr_RL {τ : mT} {H : Nat → Bool} {B : Nat → Nat → Int} {e spot : Nat} (I : lr_I f n H (fun b p => - eq_d e spot b p) B n σ τ) (h14 : σ 34 14 = nI ((ct_al f n).length + 1)) : qp_R (2 * ct_c H n) ((ct_al f n).length + 1) (eqL f n H e spot) (rowv H n B) σ τ := by
  have row : ∀ i, i < 2 * ct_c H n → ∃ a, a < n ∧ H a = true ∧ i = 2 * ct_c H a + i % 2 ∧ i % 2 < 2 := fun i hi => by
    obtain ⟨s1, s2, s3⟩ := sl_ok (P := H) (N := n) (j := i / 2) (by omega)
    exact ⟨_, s1, s2, by rw [s3]; omega, by omega⟩
  refine ⟨I.1, h14, fun i hi c hc => ?_, fun i hi => ?_⟩
  · obtain ⟨a, a1, a2, a3, a4⟩ := row i hi
    have : c < (ct_al f n).length ∨ c = (ct_al f n).length := by omega
    rcases this with z | z
    · rw [eqL_lo z]
      unfold eqA
      rw [a3, rowv_at _ a1 a2 a4]
      exact (I.2 a a1 a2 _ a4).1 c z
    · rw [z, eqL_hi, a3, rowv_at _ a1 a2 a4]
      exact (I.2 a a1 a2 _ a4).2.1
  · obtain ⟨a, a1, a2, a3, a4⟩ := row i hi
    rw [a3, rowv_at _ a1 a2 a4]
    exact (I.2 a a1 a2 _ a4).2.2
end LR
