/-! ===== WHAT THE SEARCH HOLDS ===== -/
theorem lc_ge (x y : Int64) : (0 ≤ lg_cmp x y) ↔ y.toInt ≤ x.toInt := by rw [lg_cmp_ge, Int64.le_iff_toInt_le]
theorem lc_le (x y : Int64) : (lg_cmp x y ≤ 0) ↔ x.toInt ≤ y.toInt := by rw [lg_cmp_le, Int64.le_iff_toInt_le]
section FO
variable {m N : Nat} {A : Nat → Nat → Int} {b : Nat → Int} {go : Option Nat} {σ : mS} {τ : mT}
/-- a fraction that pushes have -/
def qv (N : Nat) (A : Nat → Nat → Int) (b : Nat → Int) (go : Option Nat) (up low : Int) : Prop := ∃ y, lp_sol N A b y low ∧ up = gval go y ∧ 0 ≤ up ∧ up ≤ 4600000000 ∧ low ≤ 84934656
theorem qv.lo {up low : Int} (h : qv N A b go up low) : 0 < low := by obtain ⟨y, h, _⟩ := h; exact h.1
def q_le (m N : Nat) (A : Nat → Nat → Int) (b : Nat → Int) (go : Option Nat) (S0 : Nat) (up low : Int) : Prop := ∀ S, S < S0 → cs_ok m N A S → ∀ y t, lp_sol N A b y t → cs_in N S y → up * t ≤ gval go y * low
def q_ge (m N : Nat) (A : Nat → Nat → Int) (b : Nat → Int) (go : Option Nat) (S0 : Nat) (up low : Int) : Prop := ∀ S, S < S0 → cs_ok m N A S → ∀ y t, lp_sol N A b y t → cs_in N S y → gval go y * low ≤ up * t
def qk (m N : Nat) (A : Nat → Nat → Int) (b : Nat → Int) (go : Option Nat) (S0 : Nat) (σ : mS) (τ : mT) : Prop :=
  (σ 34 18 = 0 ∧ ∀ S, S < S0 → cs_ok m N A S → ∀ y t, lp_sol N A b y t → cs_in N S y → False) ∨
  (σ 34 18 = 1 ∧ qv N A b go (τ 34 19).toInt (τ 34 20).toInt ∧ qv N A b go (τ 34 21).toInt (τ 34 22).toInt ∧ q_le m N A b go S0 (τ 34 19).toInt (τ 34 20).toInt ∧ q_ge m N A b go S0 (τ 34 21).toInt (τ 34 22).toInt)
theorem qk_skip {S0 : Nat} (h : qk m N A b go S0 σ τ) (hn : cs_ok m N A S0 → ∀ y t, lp_sol N A b y t → cs_in N S0 y → False) : qk m N A b go (S0 + 1) σ τ := by
  have c : ∀ S, S < S0 + 1 → S < S0 ∨ S = S0 := fun S h => by omega
  rcases h with ⟨h1, h2⟩ | ⟨h1, h2, h3, h4, h5⟩
  · exact Or.inl ⟨h1, fun S hS ho y t hy hi => (c S hS).elim (fun z => h2 S z ho y t hy hi) (fun z => by subst z; exact hn ho y t hy hi)⟩
  · exact Or.inr ⟨h1, h2, h3, fun S hS ho y t hy hi => (c S hS).elim (fun z => h4 S z ho y t hy hi) (fun z => by subst z; exact (hn ho y t hy hi).elim), fun S hS ho y t hy hi => (c S hS).elim (fun z => h5 S z ho y t hy hi) (fun z => by subst z; exact (hn ho y t hy hi).elim)⟩
theorem qk_congr {S0 : Nat} {τ' : mT} (h : qk m N A b go S0 σ τ) (e : τ' 34 = τ 34) : qk m N A b go S0 σ τ' := by
  unfold qk at h ⊢
  rw [e]
  exact h
theorem l_cross {x y z w : Int64} (h1 : (x.toInt.natAbs : Int) ≤ 4600000000) (h2 : (y.toInt.natAbs : Int) ≤ 84934656) : (x * y).toInt = x.toInt * y.toInt := l_mul h1 h2 (by decide)
theorem abs_le {x a : Int} (h0 : 0 ≤ x) (h : x ≤ a) : ((x.natAbs : Nat) : Int) ≤ a := by omega
theorem meets_1 {S0 : Nat} (h : qk m N A b go S0 σ τ) {x1 x3 : Int64} (hv : qv N A b go x1.toInt x3.toInt) (he : cs_ok m N A S0 → ∀ y t, lp_sol N A b y t → cs_in N S0 y → gval go y * x3.toInt = x1.toInt * t) :
    ∃ τ1, Q_meets x1 x3 σ τ = Q_meets_b33 x1 x3 σ τ1 ∧ qv N A b go (τ1 34 19).toInt (τ1 34 20).toInt ∧ q_le m N A b go (S0 + 1) (τ1 34 19).toInt (τ1 34 20).toInt ∧ τ1 34 21 = τ 34 21 ∧ τ1 34 22 = τ 34 22 ∧ ∀ a, a ≠ 34 → τ1 a = τ a := by
  have c : ∀ S, S < S0 + 1 → S < S0 ∨ S = S0 := fun S h => by omega
  have wr : ∀ S0', q_le m N A b go S0' x1.toInt x3.toInt → ∃ τ1, Q_meets_b23 x1 x3 σ τ = Q_meets_b33 x1 x3 σ τ1 ∧ qv N A b go (τ1 34 19).toInt (τ1 34 20).toInt ∧ q_le m N A b go S0' (τ1 34 19).toInt (τ1 34 20).toInt ∧ τ1 34 21 = τ 34 21 ∧ τ1 34 22 = τ 34 22 ∧ ∀ a, a ≠ 34 → τ1 a = τ a := fun S0' hq => by
    refine ⟨u2L (u2L τ 34 19 x1) 34 20 x3, ?_, ?_, ?_, ?_, ?_, fun a ha => ?_⟩
    · unfold Q_meets_b23; rw [mw_eq, mw_eq]
    · rw [u2L_at, u2L_off _ _ (Or.inr (by decide)), u2L_at]; exact hv
    · rw [u2L_at, u2L_off _ _ (Or.inr (by decide)), u2L_at]; exact hq
    · rw [u2L_off _ _ (Or.inr (by decide)), u2L_off _ _ (Or.inr (by decide))]
    · rw [u2L_off _ _ (Or.inr (by decide)), u2L_off _ _ (Or.inr (by decide))]
    · rw [u2L_ne _ _ _ ha, u2L_ne _ _ _ ha]
  unfold Q_meets
  rcases h with ⟨h1, h2⟩ | ⟨h1, h2, h3, h4, h5⟩
  · rw [if_pos h1]
    exact wr _ fun S hS ho y t hy hi => (c S hS).elim (fun z => (h2 S z ho y t hy hi).elim) (fun z => by subst z; rw [he ho y t hy hi]; exact Int.le_refl _)
  · rw [if_neg (by rw [h1]; decide)]
    have l1 := h2.lo
    have l2 := hv.lo
    obtain ⟨y1, a1, a2, a3, a4, a5⟩ := hv
    obtain ⟨y2, b1, b2, b3, b4, b5⟩ := h2
    have e1 : (x1 * τ 34 20).toInt = x1.toInt * (τ 34 20).toInt := l_cross (z := 0) (w := 0) (abs_le a3 a4) (abs_le (by omega) b5)
    have e2 : (τ 34 19 * x3).toInt = (τ 34 19).toInt * x3.toInt := l_cross (z := 0) (w := 0) (abs_le b3 b4) (abs_le (by omega) a5)
    by_cases q : 0 ≤ lg_cmp (x1 * τ 34 20) (τ 34 19 * x3)
    · rw [if_pos q]
      have q := (lc_ge _ _).mp q
      rw [e1, e2] at q
      refine ⟨τ, rfl, ⟨y2, b1, b2, b3, b4, b5⟩, fun S hS ho y t hy hi => (c S hS).elim (fun z => h4 S z ho y t hy hi) (fun z => ?_), rfl, rfl, fun _ _ => rfl⟩
      subst z
      have := he ho y t hy hi
      exact fr_trans l1 l2 hy.1 q (by omega)
    · rw [if_neg q]
      have q : ¬ (τ 34 19).toInt * x3.toInt ≤ x1.toInt * (τ 34 20).toInt := fun z => q ((lc_ge _ _).mpr (by rw [e1, e2]; exact z))
      exact wr _ fun S hS ho y t hy hi => (c S hS).elim (fun z => fr_trans l2 l1 hy.1 (by omega) (h4 S z ho y t hy hi)) (fun z => by subst z; rw [he ho y t hy hi]; exact Int.le_refl _)
theorem meets_2 {S0 : Nat} (h : qk m N A b go S0 σ τ) {x1 x3 : Int64} (hv : qv N A b go x1.toInt x3.toInt) (he : cs_ok m N A S0 → ∀ y t, lp_sol N A b y t → cs_in N S0 y → gval go y * x3.toInt = x1.toInt * t) {τ1 : mT} (g1 : τ1 34 21 = τ 34 21) (g2 : τ1 34 22 = τ 34 22) :
    ∃ τ2, Q_meets_b33 x1 x3 σ τ1 = some (u2 σ 34 18 1, τ2) ∧ qv N A b go (τ2 34 21).toInt (τ2 34 22).toInt ∧ q_ge m N A b go (S0 + 1) (τ2 34 21).toInt (τ2 34 22).toInt ∧ τ2 34 19 = τ1 34 19 ∧ τ2 34 20 = τ1 34 20 ∧ ∀ a, a ≠ 34 → τ2 a = τ1 a := by
  have c : ∀ S, S < S0 + 1 → S < S0 ∨ S = S0 := fun S h => by omega
  have wr : ∀ S0', q_ge m N A b go S0' x1.toInt x3.toInt → ∃ τ2, Q_meets_b56 x1 x3 σ τ1 = some (u2 σ 34 18 1, τ2) ∧ qv N A b go (τ2 34 21).toInt (τ2 34 22).toInt ∧ q_ge m N A b go S0' (τ2 34 21).toInt (τ2 34 22).toInt ∧ τ2 34 19 = τ1 34 19 ∧ τ2 34 20 = τ1 34 20 ∧ ∀ a, a ≠ 34 → τ2 a = τ1 a := fun S0' hq => by
    refine ⟨u2L (u2L τ1 34 21 x1) 34 22 x3, ?_, ?_, ?_, ?_, ?_, fun a ha => ?_⟩
    · unfold Q_meets_b56; rw [mw_eq, mw_eq, mw_eq]
    · rw [u2L_at, u2L_off _ _ (Or.inr (by decide)), u2L_at]; exact hv
    · rw [u2L_at, u2L_off _ _ (Or.inr (by decide)), u2L_at]; exact hq
    · rw [u2L_off _ _ (Or.inr (by decide)), u2L_off _ _ (Or.inr (by decide))]
    · rw [u2L_off _ _ (Or.inr (by decide)), u2L_off _ _ (Or.inr (by decide))]
    · rw [u2L_ne _ _ _ ha, u2L_ne _ _ _ ha]
  unfold Q_meets_b33
  rcases h with ⟨h1, h2⟩ | ⟨h1, h2, h3, h4, h5⟩
  · rw [if_pos h1]
    exact wr _ fun S hS ho y t hy hi => (c S hS).elim (fun z => (h2 S z ho y t hy hi).elim) (fun z => by subst z; rw [he ho y t hy hi]; exact Int.le_refl _)
  · rw [if_neg (by rw [h1]; decide), g1, g2]
    have l1 := h3.lo
    have l2 := hv.lo
    obtain ⟨y1, a1, a2, a3, a4, a5⟩ := hv
    obtain ⟨y2, b1, b2, b3, b4, b5⟩ := h3
    have e1 : (x1 * τ 34 22).toInt = x1.toInt * (τ 34 22).toInt := l_cross (z := 0) (w := 0) (abs_le a3 a4) (abs_le (by omega) b5)
    have e2 : (τ 34 21 * x3).toInt = (τ 34 21).toInt * x3.toInt := l_cross (z := 0) (w := 0) (abs_le b3 b4) (abs_le (by omega) a5)
    by_cases q : lg_cmp (x1 * τ 34 22) (τ 34 21 * x3) ≤ 0
    · rw [if_pos q, mw_eq]
      have q := (lc_le _ _).mp q
      rw [e1, e2] at q
      refine ⟨τ1, rfl, by rw [g1, g2]; exact ⟨y2, b1, b2, b3, b4, b5⟩, ?_, rfl, rfl, fun _ _ => rfl⟩
      rw [g1, g2]
      refine fun S hS ho y t hy hi => (c S hS).elim (fun z => h5 S z ho y t hy hi) (fun z => ?_)
      subst z
      have := he ho y t hy hi
      have := fr_trans hy.1 l2 l1 (show gval go y * x3.toInt ≤ x1.toInt * t by omega) q
      omega
    · rw [if_neg q]
      have q : ¬ x1.toInt * (τ 34 22).toInt ≤ (τ 34 21).toInt * x3.toInt := fun z => q ((lc_le _ _).mpr (by rw [e1, e2]; exact z))
      refine wr _ fun S hS ho y t hy hi => (c S hS).elim (fun z => ?_) (fun z => by subst z; rw [he ho y t hy hi]; exact Int.le_refl _)
      exact fr_trans hy.1 l1 l2 (h5 S z ho y t hy hi) (by omega)
/-- what the search leaves as it was -/
def qp_F (σ : mS) (τ : mT) (σ' : mS) (τ' : mT) : Prop := (∀ a, a ≠ 34 → σ' a = σ a) ∧ (∀ k, k ≠ 18 → σ' 34 k = σ 34 k) ∧ ∀ a, a ≠ 34 → a ≠ 47 → τ' a = τ a
theorem qp_F.rf : qp_F σ τ σ τ := ⟨fun _ _ => rfl, fun _ _ => rfl, fun _ _ _ => rfl⟩
theorem qp_F.tr {σ1 σ2 : mS} {τ1 τ2 : mT} (h : qp_F σ τ σ1 τ1) (h' : qp_F σ1 τ1 σ2 τ2) : qp_F σ τ σ2 τ2 := ⟨fun a ha => (h'.1 a ha).trans (h.1 a ha), fun a ha => (h'.2.1 a ha).trans (h.2.1 a ha), fun a ha hb => (h'.2.2 a ha hb).trans (h.2.2 a ha hb)⟩
theorem qp_R.fr {σ' : mS} {τ' : mT} (R : qp_R m N A b σ τ) (h : qp_F σ τ σ' τ') : qp_R m N A b σ' τ' := by
  obtain ⟨r1, r2, r3, r4⟩ := R
  obtain ⟨h1, h2, h3⟩ := h
  exact ⟨by rw [h2 13 (by decide)]; exact r1, by rw [h2 14 (by decide)]; exact r2, fun i hi c hc => by rw [h3 45 (by decide) (by decide)]; exact r3 i hi c hc, fun i hi => by rw [h3 46 (by decide) (by decide)]; exact r4 i hi⟩
theorem seeks_l (K : lp_ok m N A b) (hgo : ∀ u, go = some u → u < N) : ∀ (d S0 n : Nat) (σ : mS) (τ : mT), S0 + d = 2 ^ N → d < n → qp_R m N A b σ τ → qk m N A b go S0 σ τ → ∃ σ' τ', Q_seeks_l7 n (opt9 go) (nI S0) σ τ = some (σ', τ') ∧ qk m N A b go (2 ^ N) σ' τ' ∧ qp_F σ τ σ' τ' := by
  intro d
  have hN := K.1
  have hm := K.2.1
  have hp := pw_31 hN
  have h1N : (1 : Int32) <<< (nI N &&& 31) = nI (2 ^ N) := by
    rw [show (1 : Int32) = nI 1 from rfl, pk_shlN _ N (sh_ok ⟨N, by omega⟩) (by omega), Nat.one_mul]
  induction d with
  | zero =>
    intro S0 n σ τ hS hn R h
    obtain ⟨n, rfl⟩ : ∃ n', n = n' + 1 := ⟨n - 1, by omega⟩
    have : S0 = 2 ^ N := by omega
    subst this
    refine ⟨σ, τ, ?_, h, qp_F.rf⟩
    unfold Q_seeks_l7
    rw [R.2.1, h1N, if_pos (nI_le (Nat.le_refl _) (by omega))]
  | succ d ih =>
    intro S0 n σ τ hS hn R h
    obtain ⟨n, rfl⟩ : ∃ n', n = n' + 1 := ⟨n - 1, by omega⟩
    have hS0 : S0 < 2 ^ N := by omega
    unfold Q_seeks_l7
    rw [R.2.1, h1N, if_neg (nI_ge hS0 (by omega)), ones_ok (by omega), ob_some, ct_c_ext (bN S0) (N := N) (n := 16) (by omega) (fun k hk => bN_out hS0 hk), R.1, nI_1]
    have hcl := ct_c_le (bN S0) N
    by_cases hct : ct_c (bN S0) N = m
    · rw [if_pos (by rw [hct])]
      obtain ⟨r, τ1, s1, s2, s3⟩ := solves_ok K R hS0 hct
      rw [s1, ob_some]
      have F1 : qp_F σ τ σ τ1 := ⟨fun _ _ => rfl, fun _ _ => rfl, fun a _ ha => s2 a ha⟩
      have R1 := R.fr F1
      have h1 := qk_congr h (s2 34 (by decide))
      rcases s3 with ⟨s3, D', s4, s5, s6⟩ | ⟨s3, s4⟩
      · rw [s3, if_neg (by decide)]
        obtain ⟨g1, g2⟩ := gj_end s4
        obtain ⟨r2, n1, n2⟩ := none_ok (τ := τ1) hm R1.1 s5 s6
        rw [n1, ob_some]
        have bd := (gj_bd K.2.2.1 (fun j hj => K.2.2.2.1.1 _ (sl_ok (P := bN S0) (N := N) (j := j) (by omega)).1) K.2.2.2.1.2 s4)
        rcases n2 with ⟨n2, n3⟩ | ⟨n2, i, i1, i2⟩
        · rw [n2, if_neg (by decide)]
          obtain ⟨dv, d1, d2⟩ := divisor_ok (τ := τ1) hm R1.1 s5 s6
          rw [d1, ob_some]
          obtain ⟨z, z1, z2⟩ := solved_ok hm hN R1.1 g1 s5 s6 hS0 hct hgo bd.2.2
          rw [z1, ob_some]
          obtain ⟨p1, p2⟩ := cs_point (A := A) (b := b) hct g2 (sgi_sq D') (sgi_pos g1) n3
          have e0 : cs_ok m N A S0 → ∀ y t, lp_sol N A b y t → cs_in N S0 y → gval go y * (sgi D' * D') = z.toInt * t := fun ho y t hy hi => by
            have on := cs_only ho g2 hy hi
            rw [z2]
            cases hgg : go with
            | none => show (0 : Int) * _ = 0 * _; omega
            | some u =>
              have hu := hgo u hgg
              show y u * (sgi D' * D') = (if bN S0 u then sgi D' * gr_c τ1 (ct_c (bN S0) u) m else 0) * t
              cases hb : bN S0 u with
              | false => rw [hi u hu hb]; simp
              | true =>
                obtain ⟨q1, q2⟩ := sl_ct (P := bN S0) hu hb
                have := on _ (by rw [hct] at q1; exact q1)
                rw [q2] at this
                simp only [if_true]
                have e1 : y u * (sgi D' * D') = sgi D' * (D' * y u) := by grind
                rw [e1, this]
                grind
          have e1 : ∀ low : Int64, low.toInt = sgi D' * D' → qv N A b go z.toInt low.toInt := fun low hl => by
            refine ⟨_, by rw [hl]; exact p1, z2, ?_, ?_, ?_⟩
            · rw [z2]
              cases hgg : go with
              | none => exact Int.le_refl _
              | some u => exact p1.2.1 u (hgo u hgg)
            · rw [z2]
              cases hgg : go with
              | none => show (0 : Int) ≤ _; decide
              | some u =>
                show (if bN S0 u then sgi D' * gr_c τ1 (ct_c (bN S0) u) m else 0) ≤ 4600000000
                cases hb : bN S0 u with
                | false => show (0 : Int) ≤ _; decide
                | true =>
                  simp only [if_true]
                  have q1 := (sl_ct (P := bN S0) (hgo u hgg) hb).1
                  have := bd.2.2 _ (by rw [hct] at q1; exact q1)
                  unfold sgi
                  split <;> omega
            · rw [hl]
              have := bd.1
              unfold sgi
              split <;> omega
          have mt : ∀ low : Int64, low.toInt = sgi D' * D' → ∃ σ' τ', Q_seeks_b67 (Q_seeks_l7 n) (opt9 go) (nI S0) z low σ τ1 = some (σ', τ') ∧ qk m N A b go (2 ^ N) σ' τ' ∧ qp_F σ τ σ' τ' := fun low hl => by
            have he : cs_ok m N A S0 → ∀ y t, lp_sol N A b y t → cs_in N S0 y → gval go y * low.toInt = z.toInt * t := by rw [hl]; exact e0
            obtain ⟨t1, m1, m2, m3, m4, m5, m6⟩ := meets_1 h1 (e1 low hl) he
            obtain ⟨t2, w1, w2, w3, w4, w5, w6⟩ := meets_2 h1 (e1 low hl) he m4 m5
            have F2 : qp_F σ τ1 (u2 σ 34 18 1) t2 := ⟨fun a ha => u2_ne _ _ _ ha, fun k hk => u2_off _ _ (Or.inr hk), fun a ha _ => by rw [w6 a ha, m6 a ha]⟩
            unfold Q_seeks_b67
            rw [m1, w1, ov_some, nI_1]
            obtain ⟨σ', τ', v1, v2, v3⟩ := ih (S0 + 1) n (u2 σ 34 18 1) t2 (by omega) (by omega) (R1.fr F2) (Or.inr ⟨u2_at _ _ _ _, by rw [w4, w5]; exact m2, w2, by rw [w4, w5]; exact m3, w3⟩)
            exact ⟨σ', τ', v1, v2, (F1.tr F2).tr v3⟩
          by_cases hg : 0 ≤ lg_cmp dv 0
          · rw [if_pos hg]
            have hg := (lc_ge0 _).mp hg
            exact mt dv (by rw [d2, show sgi D' = 1 from if_pos (by omega)]; omega)
          · rw [if_neg hg]
            have hg : ¬ 0 ≤ dv.toInt := fun q => hg ((lc_ge0 _).mpr q)
            exact mt (-dv) (by rw [l_neg (a := 84934656) (by rw [d2]; exact bd.1) (by decide), d2, show sgi D' = -1 from if_neg (by omega)]; omega)
        · rw [n2, if_pos (by rfl)]
          obtain ⟨σ', τ', v1, v2, v3⟩ := ih (S0 + 1) n σ τ1 (by omega) (by omega) R1 (qk_skip h1 (fun ho y t hy hi => by
            have on := cs_only ho g2 hy hi i i1
            have a1 := sl_ok (P := bN S0) (N := N) (j := i) (by omega)
            have a2 := hy.2.1 _ a1.1
            have a3 : sgi D' * (D' * y (sl (bN S0) N i)) = t * (sgi D' * gr_c τ1 i m) := by rw [on]; grind
            have a4 : 0 ≤ sgi D' * (D' * y (sl (bN S0) N i)) := by
              rw [← Int.mul_assoc]
              exact Int.mul_nonneg (Int.le_of_lt (sgi_pos g1)) a2
            have a5 := Int.mul_neg_of_pos_of_neg hy.1 i2
            omega))
          exact ⟨σ', τ', v1, v2, F1.tr v3⟩
      · rw [s3, if_pos (by rfl)]
        obtain ⟨σ', τ', v1, v2, v3⟩ := ih (S0 + 1) n σ τ1 (by omega) (by omega) R1 (qk_skip h1 (fun ho _ _ _ _ => ho.2 s4))
        exact ⟨σ', τ', v1, v2, F1.tr v3⟩
    · rw [if_neg (fun z => hct ((nI_eq (by omega) (by omega)).mp z))]
      exact ih (S0 + 1) n σ τ (by omega) (by omega) R (qk_skip h (fun ho _ _ _ _ => hct ho.1))
theorem seeks_ok (K : lp_ok m N A b) (hgo : ∀ u, go = some u → u < N) (R : qp_R m N A b σ τ) : ∃ σ' τ', Q_seeks (opt9 go) σ τ = some (σ', τ') ∧ qp_F σ τ σ' τ' ∧
    ((σ' 34 18 = 0 ∧ ¬ lp_fe N A b) ∨ (σ' 34 18 = 1 ∧ lp_fe N A b ∧ qv N A b go (τ' 34 19).toInt (τ' 34 20).toInt ∧ qv N A b go (τ' 34 21).toInt (τ' 34 22).toInt ∧ ∀ T, lp_cn m N A b T → (τ' 34 19).toInt * T.1 ≤ gval go (tb_pt m T) * (τ' 34 20).toInt ∧ gval go (tb_pt m T) * (τ' 34 22).toInt ≤ (τ' 34 21).toInt * T.1)) := by
  have hp := pw_31 K.1
  have F0 : qp_F σ τ (u2 σ 34 18 0) τ := ⟨fun a ha => u2_ne _ _ _ ha, fun k hk => u2_off _ _ (Or.inr hk), fun _ _ _ => rfl⟩
  obtain ⟨σ', τ', v1, v2, v3⟩ := seeks_l K hgo (2 ^ N) 0 mc_F (u2 σ 34 18 0) τ (by omega) (by unfold mc_F; omega) (R.fr F0) (Or.inl ⟨u2_at _ _ _ _, fun S hS => absurd hS (by omega)⟩)
  refine ⟨σ', τ', ?_, F0.tr v3, ?_⟩
  · unfold Q_seeks
    rw [mw_eq]
    exact v1
  · rcases v2 with ⟨w1, w2⟩ | ⟨w1, w2, w3, w4, w5⟩
    · refine Or.inl ⟨w1, fun hf => ?_⟩
      obtain ⟨T, hT⟩ := lp_corner K hf
      obtain ⟨S, s1, s2, s3⟩ := cn_set K.1 hT
      exact w2 S s1 s2 _ _ (hT.sol K.1) s3
    · have hfe : lp_fe N A b := by obtain ⟨y, a, _⟩ := w2; exact ⟨y, _, a⟩
      refine Or.inr ⟨w1, hfe, w2, w3, fun T hT => ?_⟩
      obtain ⟨S, s1, s2, s3⟩ := cn_set K.1 hT
      exact ⟨w4 S s1 s2 _ _ (hT.sol K.1) s3, w5 S s1 s2 _ _ (hT.sol K.1) s3⟩
end FO
