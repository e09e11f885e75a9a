/-! ===== HOW LIGHT, HOW HEAVY A LOAD: ALIKE ===== -/
theorem rowv_neg {H : Nat → Bool} {n : Nat} (G : Nat → Nat → Int) (q : Nat) : rowv H n (fun b p => - G b p) q = - rowv H n G q := by
  unfold rowv
  by_cases h : q < 2 * ct_c H n
  · rw [if_pos h, if_pos h]
  · rw [if_neg h, if_neg h]; rfl
section BE
variable {n : Nat} {f : Nat → Nat}
theorem eqL_sum {H : Nat → Bool} (e spot : Nat) (y : Nat → Int) (q : Nat) : sm ((ct_al f n).length + 1) (fun x => y x * eqL f n H e spot x q) = sm (ct_al f n).length (fun x => y x * eqA f n H x q) - y (ct_al f n).length * rowv H n (eq_d e spot) q := by
  show sm (ct_al f n).length (fun x => y x * eqL f n H e spot x q) + y (ct_al f n).length * eqL f n H e spot (ct_al f n).length q = _
  rw [eqL_hi, rowv_neg, sm_congr (g := fun x => y x * eqA f n H x q) (fun x hx => by rw [eqL_lo hx]), Int.mul_neg]
  omega
theorem neg9 {b : Nat} (hb : b < 2 ^ 31) : nI b ≠ (-9 : Int32) := fun z => by
  have : (nI b).toInt = (-9 : Int32).toInt := by rw [← z]
  rw [nI_toInt hb] at this
  have e : (-9 : Int32).toInt = -9 := by decide
  omega
theorem bears_ok {σ : mS} {τ : mT} (V : pl_V n f) (C : pl_C n f (σ 3) 0) (Q : pl_Q n f (σ 35) 0) (x s w : Int32) : ∃ r σ1 τ1 σ2 τ2, R_bears x s w σ τ = some (r, σ1, τ1) ∧ Q_bears x s w σ1 τ1 = some (r, σ2, τ2) ∧ cl_F σ σ1 ∧ qf_F σ1 σ2 := by
  have hn := V.1
  have h12 := ct_al12 f hn
  have Qf : ∀ s, cl_F σ s → pl_Q n f (s 35) 0 := fun s h => by rw [h 35 (by omega)]; exact Q
  rcases spot_case V x s with ⟨b, sp, hb, hsp, rfl, rfl, h1, h2⟩ | ⟨h1, h2⟩
  · have hsp6 : sp ≤ 6 := by have := (V.2 b hb).2.2.1; omega
    rcases wi_ok w 0 (b := 3) (by decide) (by decide) with ⟨wh, _, hw, rfl, w2⟩ | w2
    · have w2 : ∀ σ τ, R_within (nI wh) 0 3 σ τ = some (1, σ, τ) := w2
      have hHb : Hh 0 b = true := by unfold Hh; rw [bN_out (N := 0) (by decide) (by omega)]; rfl
      -- the class
      obtain ⟨s1, f1, f2, f3, f4⟩ := find_2_ok (τ := τ) V C
      have F1 : cl_F σ s1 := fun a ha => f4.1 a (by omega)
      obtain ⟨s2, t2, p1, p2, p3⟩ := pose_2_ok (σ := s1) (τ := τ) (held := 0) V (by decide) (by rw [F1 3 (by omega)]; exact C) f2
      have p1 : B_pose_2_6 0 s1 τ = some (s2, t2) := p1
      obtain ⟨s3, t3, o1, o2, o3⟩ := load_ok V p2 hb hHb hsp6
      have K := eqL_ok (H := Hh 0) (e := b) (spot := sp) V hsp6 (eq_w_ok V)
      have KA := eqA_ok (H := Hh 0) V (eq_d_ok (n := n) (e := b) (spot := sp) hsp6)
      have hu : (ct_al f n).length < (ct_al f n).length + 1 := by omega
      obtain ⟨r, σ1, τ1, e1, e2, e3⟩ := bp_extreme K o2 hu (show wh < 4 by omega)
      have F3 : cl_F σ σ1 := fun a ha => by rw [e2.1 a (by omega), o3 a (by omega), p3.1 a (by omega) (by omega) (by omega), f4.1 a (by omega)]
      -- the reference: the load alone
      obtain ⟨q1, l1, l2, l3⟩ := layAll_ok (σ := σ1) (τ := τ1) V (Qf _ F3)
      have Q1 : pl_Q n f (q1 35) 0 := by rw [l3.1 35 (by omega)]; exact Qf _ F3
      obtain ⟨g1, g2⟩ := pw4 hn
      have hE : ∀ c, c < n → (nI b = nI c ∧ (fun b' p => - eq_d b sp b' p) c 0 = -1 ∧ (fun b' p => - eq_d b sp b' p) c 1 = -(sp : Int)) ∨ (nI b ≠ nI c ∧ (fun b' p => - eq_d b sp b' p) c 0 = 0 ∧ (fun b' p => - eq_d b sp b' p) c 1 = 0) := fun c hc => by
        by_cases z : c = b
        · refine Or.inl ⟨by rw [z], ?_, ?_⟩
          · show - eq_d b sp c 0 = -1; rw [eq_d_0, if_pos z]
          · show - eq_d b sp c 1 = _; rw [eq_d_1, if_pos z]
        · refine Or.inr ⟨fun q => z ((nI_eq (by omega) (by omega)).mp q).symm, ?_, ?_⟩
          · show - eq_d b sp c 0 = 0; rw [eq_d_0, if_neg z]; rfl
          · show - eq_d b sp c 1 = 0; rw [eq_d_1, if_neg z]; rfl
      obtain ⟨q2, u2', r1, r2, r3, r4⟩ := lrows_ok (τ := τ1) (S := 2 ^ n - 1) (H := Hh 0) (spot := sp) (ex := nI b) (al := 1) (E := fun b' p => - eq_d b sp b' p) (B := eq_d b sp) V (by omega) (Hh_0 hn) hsp6 hE (Or.inr ⟨rfl, fun b' p => by show _ = - - eq_d b sp b' p; omega⟩) Q1 l2
      rw [if_neg (fun z => absurd z.2 (by decide))] at r3
      obtain ⟨q3, u3, k1, k2, k3⟩ := seeks_ok (go := none) KA (fun v hv => by cases hv) (lr_R r2 r3)
      have k1 : Q_seeks (-9) q2 u2' = some (q3, u3) := k1
      have FQ3 : qf_F σ1 q3 := (l3.qf.tr r4.qf).tr k2.qf
      have Q3 : pl_Q n f (q3 35) 0 := by rw [FQ3.1 35 (by omega)]; exact Qf _ F3
      have A3 : qd_A f n q3 := l2.fr (fun a ha => by rw [k2.1 a ha, r4.1 a ha]) (by rw [k2.2.1 9 (by decide), r4.2 9 (by decide) (by decide)])
      -- the reference: with the load
      obtain ⟨q4, u4, m1, m2, m3, m4⟩ := lrows_ok (σ := q3) (τ := u3) (S := 2 ^ n - 1) (H := Hh 0) (spot := sp) (ex := nI b) (al := 0) (E := fun b' p => - eq_d b sp b' p) (B := eq_w f) V (by omega) (Hh_0 hn) hsp6 hE (Or.inl ⟨rfl, fun _ _ => rfl⟩) Q3 A3
      rw [if_pos ⟨neg9 (by omega), rfl⟩] at m3
      obtain ⟨q5, u5, v1, v2, v3⟩ := seeks_ok (go := some (ct_al f n).length) K (fun v hv => by injection hv with hv; omega) (lr_RL m2 m3)
      have v1 : Q_seeks (q4 34 9) q4 u4 = some (q5, u5) := by rw [m4.2 9 (by decide) (by decide), A3.2.1]; exact v1
      have FQ5 : qf_F σ1 q5 := (FQ3.tr m4.qf).tr v2.qf
      have eC : R_bears (nI b) (nI sp) (nI wh) σ τ = some (r, σ1, τ1) := by
        unfold R_bears
        rw [h1 σ τ C, ob_some, if_neg (by decide), w2, ob_some, if_neg (by decide), f1, ov_some, p1, ov_some, o1, ob_some, e1, ob_some]
      have eQ : (if q5 34 18 = 0 then some ((-9 : Int64), q5, u5) else if nI wh ≤ (1 : Int32) then Q_bears_b97 (nI wh) q5 u5 else if q3 34 18 = 0 then Q_bears_b97 (nI wh) q5 u5 else some ((-5 : Int64), q5, u5)) = some (r, q5, u5) → Q_bears (nI b) (nI sp) (nI wh) σ1 τ1 = some (r, q5, u5) := fun h => by
        unfold Q_bears
        rw [h2 σ1 τ1 (Qf _ F3), ob_some, if_neg (by decide), qw_eq, w2, ob_some, if_neg (by decide), l1, ov_some, Q_all_ok hn Q1.1, ob_some, r1, ov_some, k1, ov_some, Q_all_ok hn Q3.1, ob_some, m1, ov_some, v1, ov_some]
        exact h
      refine ⟨r, σ1, τ1, q5, u5, eC, eQ ?_, F3, FQ5⟩
      have w1 : ∀ h : wh < 2, nI wh ≤ (1 : Int32) := fun h => by rw [show (1 : Int32) = nI 1 from rfl]; exact nI_le (by omega) (by decide)
      have w1' : ∀ h : 2 ≤ wh, ¬ nI wh ≤ (1 : Int32) := fun h => by rw [show (1 : Int32) = nI 1 from rfl]; exact nI_ge (by omega) (by omega)
      unfold Q_bears_b97
      rcases e3 with ⟨x1, x2⟩ | ⟨x1, x2, T, x3, x4, x5⟩ | ⟨x1, x2, x3, y, y1, y2, y3⟩ | ⟨x1, x2, T, x3, x4, x5⟩
      · rcases v3 with ⟨v3, _⟩ | ⟨_, v4, _⟩
        · rw [if_pos v3, x2]
        · exact absurd v4 x1
      · rcases v3 with ⟨_, v4⟩ | ⟨v3, _, v5, v6, v7⟩
        · exact absurd x1 v4
        · rw [if_neg (by rw [v3]; decide), if_pos (w1 x2), told_least K hu x2 x3 x4 v5 (v7 T x3).1, ob_some, x5]
      · have al : lp_fe (ct_al f n).length (eqA f n (Hh 0)) (rowv (Hh 0) n (eq_d b sp)) := ⟨y, y (ct_al f n).length, y2, fun x hx => y1 x (by omega), fun q => by
          have := y3 q
          rw [eqL_sum] at this
          omega⟩
        rcases v3 with ⟨_, v4⟩ | ⟨v3, _⟩
        · exact absurd x1 v4
        · rcases k3 with ⟨_, k4⟩ | ⟨k3, _⟩
          · exact absurd al k4
          · rw [if_neg (by rw [v3]; decide), if_neg (w1' x2), if_neg (by rw [k3]; decide), x3]
      · have nal : ¬ lp_fe (ct_al f n).length (eqA f n (Hh 0)) (rowv (Hh 0) n (eq_d b sp)) := by
          rintro ⟨z, t, z1, z2, z3⟩
          have hs := x3.sol K.1
          obtain ⟨s1, s2, s3⟩ := hs
          have g0 : 0 ≤ tb_pt (2 * ct_c (Hh 0) n) T (ct_al f n).length := s2 _ hu
          have sol : lp_sol ((ct_al f n).length + 1) (eqL f n (Hh 0) b sp) (rowv (Hh 0) n (eq_w f)) (fun x => tb_pt (2 * ct_c (Hh 0) n) T x + 1 * (if x < (ct_al f n).length then z x else t)) T.1 := by
            refine ⟨s1, fun x hx => ?_, fun q => ?_⟩
            · have a1 := s2 x hx
              try dsimp only
              split
              · rename_i hx2; have := z2 x hx2; omega
              · omega
            · have e1 := s3 q
              rw [eqL_sum] at e1 ⊢
              have e2 := z3 q
              rw [sm_congr (g := fun x => tb_pt (2 * ct_c (Hh 0) n) T x * eqA f n (Hh 0) x q + z x * eqA f n (Hh 0) x q) (fun x hx => by
                try dsimp only
                rw [if_pos hx, Int.one_mul, Int.add_mul]), sm_add, e2]
              rw [if_neg (by omega), Int.one_mul, Int.add_mul]
              omega
          have := x4 _ _ sol
          try dsimp only at this
          rw [if_neg (by omega), Int.one_mul, Int.mul_add] at this
          have := Int.mul_pos s1 z1
          omega
        rcases v3 with ⟨_, v4⟩ | ⟨v3, _, v5, v6, v7⟩
        · exact absurd x1 v4
        · rcases k3 with ⟨k3, _⟩ | ⟨_, k4, _⟩
          · rw [if_neg (by rw [v3]; decide), if_neg (w1' x2), if_pos k3, told_most K hu x2 (by omega) x3 x4 v6 (v7 T x3).2, ob_some, x5]
          · exact absurd k4 nal
    · have w2 : ∀ σ τ, R_within w 0 3 σ τ = some (0, σ, τ) := w2
      refine ⟨-1, σ, τ, σ, τ, ?_, ?_, cl_F.rf, qf_F.rf⟩
      · unfold R_bears
        rw [h1 σ τ C, ob_some, if_neg (by decide), w2, ob_some, if_pos rfl]
      · unfold Q_bears
        rw [h2 σ τ Q, ob_some, if_neg (by decide), qw_eq, w2, ob_some, if_pos rfl]
  · refine ⟨-1, σ, τ, σ, τ, ?_, ?_, cl_F.rf, qf_F.rf⟩
    · unfold R_bears
      rw [h1 σ τ C, ob_some, if_pos rfl]
    · unfold Q_bears
      rw [h2 σ τ Q, ob_some, if_pos rfl]
end BE
