/-! ===== BALANCE: CLASS AND REFERENCE ALIKE ===== -/
theorem all_ok : ∀ n : Fin 5, ∀ held : Fin 16, held.1 < 2 ^ n.1 → (nI (2 ^ n.1 - 1) &&& (nI held.1 ^^^ (-1 : Int32)) = nI (2 ^ n.1 - 1 - held.1)) ∧ ∀ b : Fin 4, b.1 < n.1 → Hh held.1 b.1 = bN (2 ^ n.1 - 1 - held.1) b.1 := by decide +kernel
/-- what the reference leaves as it was -/
def qf_F (σ σ' : mS) : Prop := (∀ a, a < 34 ∨ (34 < a ∧ a < 40) ∨ a = 48 → σ' a = σ a) ∧ σ' 34 2 = σ 34 2 ∧ σ' 34 6 = σ 34 6
theorem qf_F.rf {σ : mS} : qf_F σ σ := ⟨fun _ _ => rfl, rfl, rfl⟩
theorem qf_F.tr {σ σ1 σ2 : mS} (h : qf_F σ σ1) (h' : qf_F σ1 σ2) : qf_F σ σ2 := ⟨fun a ha => (h'.1 a ha).trans (h.1 a ha), h'.2.1.trans h.2.1, h'.2.2.trans h.2.2⟩
theorem la_F.qf {σ σ' : mS} (h : la_F σ σ') : qf_F σ σ' := ⟨fun a ha => h.1 a (by omega), h.2 2 (by decide), h.2 6 (by decide)⟩
theorem lr_F.qf {σ σ' : mS} (h : lr_F σ σ') : qf_F σ σ' := ⟨fun a ha => h.1 a (by omega), h.2 2 (by decide) (by decide), h.2 6 (by decide) (by decide)⟩
theorem qp_F.qf {σ σ' : mS} {τ τ' : mT} (h : qp_F σ τ σ' τ') : qf_F σ σ' := ⟨fun a ha => h.1 a (by omega), h.2.1 2 (by decide), h.2.1 6 (by decide)⟩
section AK
variable {n : Nat} {f : Nat → Nat}
theorem pw4 (hn : n ≤ 4) : 0 < 2 ^ n ∧ 2 ^ n ≤ 16 := ⟨Nat.two_pow_pos n, Nat.pow_le_pow_right (n := 2) (by decide) hn⟩
theorem Q_all_ok {σ : mS} {τ : mT} (hn : n ≤ 4) (h : σ 35 0 = nI n) : Q_all σ τ = some (nI (2 ^ n - 1), σ, τ) := by
  obtain ⟨p1, p2⟩ := pw4 hn
  unfold Q_all Q_many
  rw [ob_some, h, i_shl (by omega), show (1 : Int32) = nI 1 from rfl, pk_sub p1]
theorem Hh_0 (hn : n ≤ 4) : ∀ b, b < n → Hh 0 b = bN (2 ^ n - 1) b := fun b hb => by
  have := (all_ok ⟨n, by omega⟩ ⟨0, by decide⟩ (Nat.two_pow_pos n)).2 ⟨b, by omega⟩ hb
  exact this
/-- the reference's question whether blocks can be balanced -/
theorem qbal {σ : mS} {τ : mT} (V : pl_V n f) (Q : pl_Q n f (σ 35) 0) {S : Nat} (hS : S < 16) {H : Nat → Bool} (hH : ∀ b, b < n → H b = bN S b) : ∃ r σ' τ', Q_canBalance (nI S) σ τ = some (r, σ', τ') ∧ qf_F σ σ' ∧ ((r = 1 ∧ rest f n H) ∨ (r = 0 ∧ ¬ rest f n H)) := by
  obtain ⟨σ1, l1, l2, l3⟩ := layAll_ok (τ := τ) V Q
  have Q1 : pl_Q n f (σ1 35) 0 := by rw [l3.1 35 (by omega)]; exact Q
  obtain ⟨σ2, τ2, r1, r2, r3, r4⟩ := lrows_ok (τ := τ) (spot := 0) (ex := -9) (al := 0) (E := fun _ _ => 0) (B := eq_w f) V hS hH (by decide) (fun b hb => Or.inr ⟨fun z => by
    have : (nI b).toInt = (-9 : Int32).toInt := by rw [← z]
    have hn := V.1
    rw [nI_toInt (by omega)] at this
    have e : (-9 : Int32).toInt = -9 := by decide
    omega, rfl, rfl⟩) (Or.inl ⟨rfl, fun _ _ => rfl⟩) Q1 l2
  have r1 : Q_layRows (nI S) (-9) 0 0 σ1 τ = some (σ2, τ2) := r1
  rw [if_neg (fun z => z.1 rfl)] at r3
  obtain ⟨σ3, τ3, s1, s2, s3⟩ := seeks_ok (go := none) (eqA_ok V (eq_w_ok V)) (fun u hu => by cases hu) (lr_R r2 r3)
  have s1 : Q_seeks (-9) σ2 τ2 = some (σ3, τ3) := s1
  have fr : qf_F σ σ3 := (l3.qf.tr r4.qf).tr s2.qf
  unfold Q_canBalance
  rw [l1, ov_some, r1, ov_some, s1, ov_some]
  rcases s3 with ⟨s3, s4⟩ | ⟨s3, s4, _⟩
  · rw [s3, if_neg (by decide)]
    exact ⟨0, σ3, τ3, rfl, fr, Or.inr ⟨rfl, s4⟩⟩
  · rw [s3, if_neg (by decide)]
    exact ⟨1, σ3, τ3, rfl, fr, Or.inl ⟨rfl, s4⟩⟩
theorem qrest {σ : mS} {τ : mT} (V : pl_V n f) (Q : pl_Q n f (σ 35) 0) : ∃ r σ' τ', Q_isResting σ τ = some (r, σ', τ') ∧ qf_F σ σ' ∧ ((r = 1 ∧ rest f n (Hh 0)) ∨ (r = 0 ∧ ¬ rest f n (Hh 0))) := by
  obtain ⟨p1, p2⟩ := pw4 V.1
  obtain ⟨r, σ', τ', e1, e2, e3⟩ := qbal (τ := τ) V Q (show 2 ^ n - 1 < 16 by omega) (Hh_0 V.1)
  refine ⟨r, σ', τ', ?_, e2, e3⟩
  unfold Q_isResting
  rw [Q_all_ok V.1 Q.1, ob_some, e1, ob_some, if_neg]
  rcases e3 with ⟨z, _⟩ | ⟨z, _⟩ <;> rw [z] <;> decide
section TL
variable {m N : Nat} {A : Nat → Nat → Int} {b : Nat → Int} {σ : mS} {τ : mT}
theorem told_least (K : lp_ok m N A b) {u wh : Nat} (hu : u < N) (hw : wh < 2) {T : tb_T} (hT : lp_cn m N A b T) (hmin : ∀ y t, lp_sol N A b y t → t * tb_pt m T u ≤ T.1 * y u) (q1 : qv N A b (some u) (τ 34 19).toInt (τ 34 20).toInt) (q2 : (τ 34 19).toInt * T.1 ≤ tb_pt m T u * (τ 34 20).toInt) :
    Q_told (nI wh) σ τ = some (lN (if wh % 2 = 0 then lp_num m T u else lp_den m T u), σ, τ) := by
  refine told_as K hu (by omega) hT (by rw [if_pos hw, if_pos hw]; exact q1) ?_
  rw [if_pos hw, if_pos hw]
  obtain ⟨y, a1, a2, _⟩ := q1
  have h := hmin y _ a1
  have a2 : (τ 34 19).toInt = y u := a2
  rw [← a2, Int.mul_comm, Int.mul_comm T.1] at h
  exact Int.le_antisymm q2 h
theorem told_most (K : lp_ok m N A b) {u wh : Nat} (hu : u < N) (hw : 2 ≤ wh) (hw4 : wh < 4) {T : tb_T} (hT : lp_cn m N A b T) (hmax : ∀ y t, lp_sol N A b y t → T.1 * y u ≤ t * tb_pt m T u) (q1 : qv N A b (some u) (τ 34 21).toInt (τ 34 22).toInt) (q2 : tb_pt m T u * (τ 34 22).toInt ≤ (τ 34 21).toInt * T.1) :
    Q_told (nI wh) σ τ = some (lN (if wh % 2 = 0 then lp_num m T u else lp_den m T u), σ, τ) := by
  refine told_as K hu hw4 hT (by rw [if_neg (by omega), if_neg (by omega)]; exact q1) ?_
  rw [if_neg (by omega), if_neg (by omega)]
  obtain ⟨y, a1, a2, _⟩ := q1
  have h := hmax y _ a1
  have a2 : (τ 34 21).toInt = y u := a2
  rw [← a2, Int.mul_comm, Int.mul_comm _ (tb_pt m T u)] at h
  exact Int.le_antisymm h q2
end TL
/-- between which bounds the push of a contact must be -/
theorem bounds_ok {σ : mS} {τ : mT} (V : pl_V n f) (C : pl_C n f (σ 3) 0) (Q : pl_Q n f (σ 35) 0) (x w : Int32) : ∃ r σ1 τ1 σ2 τ2, R_bounds x w σ τ = some (r, σ1, τ1) ∧ Q_bounds x w σ1 τ1 = some (r, σ2, τ2) ∧ cl_F σ σ1 ∧ qf_F σ1 σ2 := by
  have hn := V.1
  have h12 := ct_al12 f hn
  obtain ⟨s1, f1, f2, f3, f4⟩ := find_2_ok (τ := τ) V C
  have F1 : cl_F σ s1 := fun a ha => f4.1 a (by omega)
  have Qf : ∀ s, cl_F σ s → pl_Q n f (s 35) 0 := fun s h => by rw [h 35 (by omega)]; exact Q
  have K := eqA_ok (H := Hh 0) V (eq_w_ok V)
  rcases wi_pred x (n := (ct_al f n).length) (by omega) with ⟨u, hu, rfl, w1⟩ | w1
  · rcases wi_ok w 0 (b := 3) (by decide) (by decide) with ⟨wh, _, hw, rfl, w2⟩ | w2
    · have w2 : ∀ σ τ, R_within (nI wh) 0 3 σ τ = some (1, σ, τ) := w2
      obtain ⟨s2, t2, p1, p2, p3⟩ := pose_2_ok (σ := s1) (τ := τ) (held := 0) V (by decide) (by rw [F1 3 (by omega)]; exact C) f2
      have p1 : B_pose_2_6 0 s1 τ = some (s2, t2) := p1
      obtain ⟨r, σ1, τ1, e1, e2, e3⟩ := bp_extreme K (ps_R V p2) hu (show wh < 4 by omega)
      have F3 : cl_F σ σ1 := fun a ha => by rw [e2.1 a (by omega), p3.1 a (by omega) (by omega) (by omega), f4.1 a (by omega)]
      -- the reference
      obtain ⟨q1, l1, l2, l3⟩ := layAll_ok (σ := σ1) (τ := τ1) V (Qf _ F3)
      have Q1 : pl_Q n f (q1 35) 0 := by rw [l3.1 35 (by omega)]; exact Qf _ F3
      obtain ⟨g1, g2⟩ := pw4 hn
      obtain ⟨q2, u2', r1, r2, r3, r4⟩ := lrows_ok (τ := τ1) (S := 2 ^ n - 1) (H := Hh 0) (spot := 0) (ex := -9) (al := 0) (E := fun _ _ => 0) (B := eq_w f) V (by omega) (Hh_0 hn) (by decide) (fun b hb => Or.inr ⟨fun z => by
        have : (nI b).toInt = (-9 : Int32).toInt := by rw [← z]
        rw [nI_toInt (by omega)] at this
        have e : (-9 : Int32).toInt = -9 := by decide
        omega, rfl, rfl⟩) (Or.inl ⟨rfl, fun _ _ => rfl⟩) Q1 l2
      have r1 : Q_layRows (nI (2 ^ n - 1)) (-9) 0 0 q1 τ1 = some (q2, u2') := r1
      rw [if_neg (fun z => z.1 rfl)] at r3
      obtain ⟨q3, u3, k1, k2, k3⟩ := seeks_ok (go := some u) K (fun v hv => by injection hv with hv; omega) (lr_R r2 r3)
      have k1 : Q_seeks (nI u) q2 u2' = some (q3, u3) := k1
      have FQ : qf_F σ1 q3 := (l3.qf.tr r4.qf).tr k2.qf
      have eC : R_bounds (nI u) (nI wh) σ τ = some (r, σ1, τ1) := by
        unfold R_bounds Y_contacts
        rw [f1, ov_some, ob_some, f2.2.2.1, w1, ob_some, if_neg (by decide), w2, ob_some, if_neg (by decide), p1, ov_some, e1, ob_some]
      have eQ : ∀ r', (if q3 34 18 = 0 then some ((-9 : Int64), q3, u3) else ob (Q_told (nI wh) q3 u3) fun r9 σ9 τ9 => some (r9, σ9, τ9)) = some (r', q3, u3) → Q_bounds (nI u) (nI wh) σ1 τ1 = some (r', q3, u3) := fun r' h => by
        unfold Q_bounds Q_isContact
        rw [l1, ov_some, l2.2.1, qw_eq, w1, ob_some, if_neg (by decide), ob_some, if_neg (by decide), w2, ob_some, if_neg (by decide), Q_all_ok hn Q1.1, ob_some, r1, ov_some, k1, ov_some]
        exact h
      refine ⟨r, σ1, τ1, q3, u3, eC, eQ r ?_, F3, FQ⟩
      rcases e3 with ⟨x1, x2⟩ | ⟨x1, x2, T, x3, x4, x5⟩ | ⟨x1, x2, x3, y, y1, y2, y3⟩ | ⟨x1, x2, T, x3, x4, x5⟩
      · rcases k3 with ⟨k3, _⟩ | ⟨_, k4, _⟩
        · rw [if_pos k3, x2]
        · exact absurd k4 x1
      · rcases k3 with ⟨_, k4⟩ | ⟨k3, _, k5, k6, k7⟩
        · exact absurd x1 k4
        · rw [if_neg (by rw [k3]; decide), told_least K hu x2 x3 x4 k5 (k7 T x3).1, ob_some, x5]
      · have := eq_rec V (H := Hh 0) (fun b hb => by unfold Hh; rw [bN_out (N := 0) (by decide) (by omega)]; rfl) y1 y3 u hu
        omega
      · rcases k3 with ⟨_, k4⟩ | ⟨k3, _, k5, k6, k7⟩
        · exact absurd x1 k4
        · rw [if_neg (by rw [k3]; decide), told_most K hu x2 (by omega) x3 x4 k6 (k7 T x3).2, ob_some, x5]
    · have w2 : ∀ σ τ, R_within w 0 3 σ τ = some (0, σ, τ) := w2
      obtain ⟨q1, l1, l2, l3⟩ := layAll_ok (σ := s1) (τ := τ) V (Qf _ F1)
      refine ⟨-1, s1, τ, q1, τ, ?_, ?_, F1, l3.qf⟩
      · unfold R_bounds Y_contacts
        rw [f1, ov_some, ob_some, f2.2.2.1, w1, ob_some, if_neg (by decide), w2, ob_some, if_pos rfl]
      · unfold Q_bounds Q_isContact
        rw [l1, ov_some, l2.2.1, qw_eq, w1, ob_some, if_neg (by decide), ob_some, if_neg (by decide), w2, ob_some, if_pos rfl]
  · obtain ⟨q1, l1, l2, l3⟩ := layAll_ok (σ := s1) (τ := τ) V (Qf _ F1)
    refine ⟨-1, s1, τ, q1, τ, ?_, ?_, F1, l3.qf⟩
    · unfold R_bounds Y_contacts
      rw [f1, ov_some, ob_some, f2.2.2.1, w1, ob_some, if_pos rfl]
    · unfold Q_bounds Q_isContact
      rw [l1, ov_some, l2.2.1, qw_eq, w1, ob_some, if_neg (by decide), ob_some, if_pos rfl]
/-- is there such a spot: alike -/
theorem spot_case (V : pl_V n f) (x s : Int32) : (∃ b sp, b < n ∧ sp ≤ 2 * f (5 * b + 1) ∧ x = nI b ∧ s = nI sp ∧ (∀ σ τ, pl_C n f (σ 3) 0 → R_isSpot x s σ τ = some (1, σ, τ)) ∧ ∀ σ τ, pl_Q n f (σ 35) 0 → Q_isSpot x s σ τ = some (1, σ, τ)) ∨ ((∀ σ τ, pl_C n f (σ 3) 0 → R_isSpot x s σ τ = some (0, σ, τ)) ∧ ∀ σ τ, pl_Q n f (σ 35) 0 → Q_isSpot x s σ τ = some (0, σ, τ)) := by
  have hn := V.1
  rcases has_case x hn with ⟨b, hb, rfl, h1, h2⟩ | ⟨h1, h2⟩
  · have hh := (V.2 b hb).2.2.1
    have g1 : ∀ σ τ, pl_C n f (σ 3) 0 → P_get_2 (nI b) 1 σ τ = some (nI (f (5 * b + 1)), σ, τ) := fun σ τ h => P_get_2_ok (k := 1) hn h hb (by omega)
    have g2 : ∀ σ τ, pl_Q n f (σ 35) 0 → Q_get (nI b) 2 σ τ = some (nI (f (5 * b + 1)), σ, τ) := fun σ τ h => Q_get_ok (k := 1) hn h hb (by omega)
    rcases wi_ok s 0 (b := 2 * f (5 * b + 1)) (by decide) (by omega) with ⟨sp, _, hs, rfl, w⟩ | w
    · have w : ∀ σ τ, R_within (nI sp) 0 (nI (2 * f (5 * b + 1))) σ τ = some (1, σ, τ) := w
      refine Or.inl ⟨b, sp, hb, hs, rfl, rfl, fun σ τ h => ?_, fun σ τ h => ?_⟩
      · unfold R_isSpot
        rw [h1 σ τ h.n, ob_some, if_neg (by decide), g1 σ τ h, ob_some, show (2 : Int32) = nI 2 from rfl, pk_mul, w, ob_some, if_neg (by decide)]
      · unfold Q_isSpot
        rw [h2 σ τ h.1, ob_some, if_neg (by decide), g2 σ τ h, ob_some, show (2 : Int32) = nI 2 from rfl, pk_mul, qw_eq, w, ob_some, if_neg (by decide)]
    · have w : ∀ σ τ, R_within s 0 (nI (2 * f (5 * b + 1))) σ τ = some (0, σ, τ) := w
      refine Or.inr ⟨fun σ τ h => ?_, fun σ τ h => ?_⟩
      · unfold R_isSpot
        rw [h1 σ τ h.n, ob_some, if_neg (by decide), g1 σ τ h, ob_some, show (2 : Int32) = nI 2 from rfl, pk_mul, w, ob_some, if_pos rfl]
      · unfold Q_isSpot
        rw [h2 σ τ h.1, ob_some, if_neg (by decide), g2 σ τ h, ob_some, show (2 : Int32) = nI 2 from rfl, pk_mul, qw_eq, w, ob_some, if_pos rfl]
  · refine Or.inr ⟨fun σ τ h => ?_, fun σ τ h => ?_⟩
    · unfold R_isSpot
      rw [h1 σ τ h.n, ob_some, if_pos rfl]
    · unfold Q_isSpot
      rw [h2 σ τ h.1, ob_some, if_pos rfl]
end AK
