/-! ===== THE REFERENCE's SEARCH ===== -/
theorem bN_tb (S k : Nat) : bN S k = S.testBit k := by
  unfold bN
  rw [Nat.testBit_eq_decide_div_mod_eq]
theorem pw_31 {N : Nat} (h : N ≤ 13) : 2 ^ N ≤ 8192 := by
  have := Nat.pow_le_pow_right (show 0 < 2 by decide) h
  exact this
/-- the system lies in the reference's memory -/
def qp_R (m N : Nat) (A : Nat → Nat → Int) (b : Nat → Int) (σ : mS) (τ : mT) : Prop :=
  σ 34 13 = nI m ∧ σ 34 14 = nI N ∧ (∀ i, i < m → ∀ c, c < N → (τ 45 (16 * i + c)).toInt = A c i) ∧ ∀ i, i < m → (τ 46 i).toInt = b i
section SK
variable {m N : Nat} {A : Nat → Nat → Int} {b : Nat → Int} {σ : mS} {τ : mT}
theorem solves_ok (K : lp_ok m N A b) (R : qp_R m N A b σ τ) {S : Nat} (hS : S < 2 ^ N) (hct : ct_c (bN S) N = m) :
    ∃ r τ', Q_solves (nI S) σ τ = some (r, σ, τ') ∧ (∀ a, a ≠ 47 → τ' a = τ a) ∧ ((r = 1 ∧ ∃ D' : Int, gj_I m (fun j => A (sl (bN S) N j)) b m D' (gr_c τ') ∧ (m = 0 → D' = 1) ∧ (m = 0 ∨ gr_c τ' (m - 1) (m - 1) = D')) ∨ (r = 0 ∧ lp_dep m (fun j => A (sl (bN S) N j)))) := by
  obtain ⟨r1, r2, r3, r4⟩ := R
  obtain ⟨k1, k2, k3, k4, k5, k6, k7, k8⟩ := K
  have hS31 : S < 2 ^ 31 := by have := pw_31 k1; omega
  obtain ⟨τ1, f1, f2, f3, f4, f5⟩ := fills_l (σ := σ) k2 k1 r1 r2 hS31 hct N 0 mc_F τ (by omega) (by unfold mc_F; omega)
  have f1 : Q_fills (nI S) σ τ = some (σ, τ1) := f1
  have hsl : ∀ j, j < m → sl (bN S) N j < N ∧ bN S (sl (bN S) N j) = true ∧ ct_c (bN S) (sl (bN S) N j) = j := fun j hj => sl_ok (by omega)
  have g0 : gj_I m (fun j => A (sl (bN S) N j)) b 0 1 (gr_c τ1) := gj_congr (gj_0 (v := fun j => A (sl (bN S) N j)) (fun j q hj hq => k5 _ q (hsl j hj).1 hq) k6) (fun i j hi hj => by
    unfold gr_c
    by_cases z : j = m
    · rw [if_pos z, z, f3 i hi, r4 i hi]
    · rw [if_neg z]
      obtain ⟨s1, s2, s3⟩ := hsl j (by omega)
      have := f2 _ (Nat.zero_le _) s1 s2 i hi
      rw [s3] at this
      rw [this, r3 i hi _ s1])
  obtain ⟨r, τ', e1, e2, e3⟩ := solves_l (σ := σ) k2 r1 k3 (v := fun j => A (sl (bN S) N j)) (b := b) (fun j hj => k4.1 _ (hsl j hj).1) k4.2 m 0 mc_F 1 τ1 (by omega) (by unfold mc_F; omega) g0 (Or.inl rfl)
  refine ⟨r, τ', ?_, fun a ha => by rw [e2 a ha, f5 a ha], ?_⟩
  · unfold Q_solves
    rw [f1, ov_some]
    exact e1
  · rcases e3 with ⟨a1, D', a2, a3, a4⟩ | a1
    · exact Or.inl ⟨a1, D', a2, a3, a4⟩
    · exact Or.inr a1
theorem divisor_ok (hm : m ≤ 8) (r1 : σ 34 13 = nI m) {D' : Int} (h0 : m = 0 → D' = 1) (h1 : m = 0 ∨ gr_c τ (m - 1) (m - 1) = D') : ∃ d : Int64, Q_divisor σ τ = some (d, σ, τ) ∧ d.toInt = D' := by
  unfold Q_divisor
  rw [r1]
  cases m with
  | zero => exact ⟨1, by rw [if_pos (by rfl)], by rw [h0 rfl]; rfl⟩
  | succ k =>
    rw [if_neg (nI_ne0 (by omega) (by omega)), nI_pred, n9, show 9 * k + (k + 1) = (9 * k + k) + 1 by omega, nI_pred, if_neg (nin (show 9 * k + k < 72 by omega) (by omega)), ncl (by omega)]
    refine ⟨_, rfl, ?_⟩
    rcases h1 with z | z
    · omega
    · exact z
/-- which sign a divisor has -/
def sgi (D : Int) : Int := if 0 < D then 1 else -1
theorem sgi_sq (D : Int) : sgi D * sgi D = 1 := by unfold sgi; split <;> rfl
theorem sgi_pos {D : Int} (h : D ≠ 0) : 0 < sgi D * D := by unfold sgi; split <;> omega
theorem none_l (hm : m ≤ 8) (r1 : σ 34 13 = nI m) {D : Int} (x1 : Int32) (hx : x1 = if 0 < D then 1 else 0) : ∀ (d k n : Nat) (x2 : Int32), k + d = m → d < n → ((x2 = 1 ∧ ∀ i, i < k → 0 ≤ sgi D * gr_c τ i m) ∨ (x2 = 0 ∧ ∃ i, i < m ∧ sgi D * gr_c τ i m < 0)) →
    ∃ r, Q_isNoneBelow_l19 n x1 x2 (nI k) σ τ = some (r, σ, τ) ∧ ((r = 1 ∧ ∀ i, i < m → 0 ≤ sgi D * gr_c τ i m) ∨ (r = 0 ∧ ∃ i, i < m ∧ sgi D * gr_c τ i m < 0)) := by
  intro d
  induction d with
  | zero =>
    intro k n x2 hk hn h
    obtain ⟨n, rfl⟩ : ∃ n', n = n' + 1 := ⟨n - 1, by omega⟩
    have : k = m := by omega
    subst this
    refine ⟨x2, ?_, h⟩
    unfold Q_isNoneBelow_l19
    rw [r1, if_pos (nI_le (Nat.le_refl _) (by omega)), if_neg (by
      rcases h with ⟨h, _⟩ | ⟨h, _⟩
      · rw [h]; decide
      · rw [h]; decide)]
  | succ d ih =>
    intro k n x2 hk hn h
    obtain ⟨n, rfl⟩ : ∃ n', n = n' + 1 := ⟨n - 1, by omega⟩
    have hkm : k < m := by omega
    unfold Q_isNoneBelow_l19
    rw [r1, if_neg (nI_ge hkm (by omega)), n9, if_neg (nin (show 9 * k + m < 72 by omega) (by omega)), ncl (by omega), nI_1]
    rcases h with ⟨h1, h2⟩ | ⟨h1, h2⟩
    · rw [h1, if_neg (by decide)]
      unfold Q_isNoneBelow_b68
      by_cases hD : 0 < D
      · rw [if_pos hD] at hx
        have hs : sgi D = 1 := if_pos hD
        subst hx
        rw [if_neg (by decide)]
        by_cases hl : lg_cmp (τ 47 (9 * k + m)) 0 < 0
        · rw [if_pos hl]
          have hl := (lc_lt _ _).mp hl
          rw [Int64.toInt_zero] at hl
          exact ih (k + 1) n 0 (by omega) (by omega) (Or.inr ⟨rfl, k, hkm, by rw [hs]; show 1 * (τ 47 (9 * k + m)).toInt < 0; omega⟩)
        · rw [if_neg hl, nI_1]
          have hl : ¬ (τ 47 (9 * k + m)).toInt < 0 := fun z => hl ((lc_lt _ _).mpr (by rw [Int64.toInt_zero]; exact z))
          refine ih (k + 1) n 1 (by omega) (by omega) (Or.inl ⟨rfl, fun i hi => ?_⟩)
          by_cases e : i = k
          · rw [e, hs]; show 0 ≤ 1 * (τ 47 (9 * k + m)).toInt; omega
          · exact h2 i (by omega)
      · rw [if_neg hD] at hx
        have hs : sgi D = -1 := if_neg hD
        subst hx
        rw [if_pos (by rfl)]
        by_cases hl : 0 < lg_cmp (τ 47 (9 * k + m)) 0
        · rw [if_pos hl]
          have hl : ¬ (τ 47 (9 * k + m)).toInt ≤ 0 := fun z => absurd ((lc_le0 _).mpr z) (by
            intro q
            exact absurd hl (by rw [Int32.lt_iff_toInt_lt, Int32.le_iff_toInt_le] at *; omega))
          exact ih (k + 1) n 0 (by omega) (by omega) (Or.inr ⟨rfl, k, hkm, by rw [hs]; show -1 * (τ 47 (9 * k + m)).toInt < 0; omega⟩)
        · rw [if_neg hl, nI_1]
          have hl : (τ 47 (9 * k + m)).toInt ≤ 0 := (lc_le0 _).mp (by rw [Int32.lt_iff_toInt_lt] at hl; rw [Int32.le_iff_toInt_le]; omega)
          refine ih (k + 1) n 1 (by omega) (by omega) (Or.inl ⟨rfl, fun i hi => ?_⟩)
          by_cases e : i = k
          · rw [e, hs]; show 0 ≤ -1 * (τ 47 (9 * k + m)).toInt; omega
          · exact h2 i (by omega)
    · rw [h1, if_pos (by rfl)]
      exact ih (k + 1) n 0 (by omega) (by omega) (Or.inr ⟨rfl, h2⟩)
theorem none_ok (hm : m ≤ 8) (r1 : σ 34 13 = nI m) {D' : Int} (h0 : m = 0 → D' = 1) (h1 : m = 0 ∨ gr_c τ (m - 1) (m - 1) = D') : ∃ r, Q_isNoneBelow σ τ = some (r, σ, τ) ∧ ((r = 1 ∧ ∀ i, i < m → 0 ≤ sgi D' * gr_c τ i m) ∨ (r = 0 ∧ ∃ i, i < m ∧ sgi D' * gr_c τ i m < 0)) := by
  obtain ⟨d, d1, d2⟩ := divisor_ok hm r1 h0 h1
  unfold Q_isNoneBelow
  rw [d1, ob_some]
  unfold Q_isNoneBelow_b14
  by_cases hl : lg_cmp d 0 ≤ 0
  · rw [if_pos hl]
    have hl := (lc_le0 _).mp hl
    exact none_l hm r1 (D := D') 0 (if_neg (by omega)).symm m 0 mc_F 1 (by omega) (by unfold mc_F; omega) (Or.inl ⟨rfl, fun i hi => by omega⟩)
  · rw [if_neg hl]
    have hl : ¬ d.toInt ≤ 0 := fun z => hl ((lc_le0 _).mpr z)
    exact none_l hm r1 (D := D') 1 (if_pos (by omega)).symm m 0 mc_F 1 (by omega) (by unfold mc_F; omega) (Or.inl ⟨rfl, fun i hi => by omega⟩)
/-- the goal's number among pushes -/
def gval (go : Option Nat) (y : Nat → Int) : Int := match go with
  | none => 0
  | some u => y u
theorem bN_mod (S u c : Nat) : bN (S % 2 ^ u) c = (decide (c < u) && bN S c) := by
  rw [bN_tb, bN_tb, Nat.testBit_mod_two_pow]
theorem ones_low {S u : Nat} (hS : S < 2 ^ 31) (hu : u ≤ 13) (σ : mS) (τ : mT) : Q_ones (nI S &&& (((1 : Int32) <<< (nI u &&& 31)) - (1 : Int32))) σ τ = some (nI (ct_c (bN S) u), σ, τ) := by
  have hp := pw_31 hu
  have h1 : (1 : Int32) <<< (nI u &&& 31) = nI (2 ^ u) := by
    rw [show (1 : Int32) = nI 1 from rfl, pk_shlN _ u (sh_ok ⟨u, by omega⟩) (by omega), Nat.one_mul]
  have h2 : 0 < 2 ^ u := Nat.two_pow_pos u
  have h3 : nI (2 ^ u) - 1 = nI (2 ^ u - 1) := by
    rw [show (1 : Int32) = nI 1 from rfl, pk_sub h2]
  rw [h1, h3, pk_andN (by omega) u (by rw [pk_tn (by omega)])]
  have hlt : S % 2 ^ u < 2 ^ u := Nat.mod_lt _ h2
  rw [ones_ok (by omega), ct_c_ext (bN (S % 2 ^ u)) (N := u) (n := 16) (by omega) (fun k hk => bN_out hlt hk), ct_c_congr (Q := bN S) (fun c hc => by rw [bN_mod]; simp [hc])]
theorem solved_ok (hm : m ≤ 8) (hN : N ≤ 13) (r1 : σ 34 13 = nI m) {D' : Int} (hD : D' ≠ 0) (h0 : m = 0 → D' = 1) (h1 : m = 0 ∨ gr_c τ (m - 1) (m - 1) = D') {S : Nat} (hS : S < 2 ^ N) (hct : ct_c (bN S) N = m) {go : Option Nat} (hgo : ∀ u, go = some u → u < N) (hb : ∀ i, i < m → ((gr_c τ i m).natAbs : Int) ≤ 4600000000) :
    ∃ z, Q_solved (nI S) (opt9 go) σ τ = some (z, σ, τ) ∧ z.toInt = gval go (fun x => if bN S x then sgi D' * gr_c τ (ct_c (bN S) x) m else 0) := by
  have hS31 : S < 2 ^ 31 := by have := pw_31 hN; omega
  unfold Q_solved
  cases go with
  | none => exact ⟨0, by rw [if_pos (show opt9 none = -9 from rfl)], rfl⟩
  | some u =>
    have hu := hgo u rfl
    have hn9 : ¬ nI u = (-9 : Int32) := fun z => by
      have : (nI u).toInt = (-9 : Int32).toInt := by rw [z]
      rw [nI_toInt (by omega)] at this
      have e : (-9 : Int32).toInt = -9 := by decide
      omega
    show ∃ z, (if nI u = (-9 : Int32) then _ else _) = _ ∧ _
    rw [if_neg hn9]
    show ∃ z, ob (Q_has (nI S) (nI u) σ τ) _ = _ ∧ _
    rw [has_ok hS31 (by omega), ob_some]
    show ∃ z : Int64, _ ∧ z.toInt = if bN S u then sgi D' * gr_c τ (ct_c (bN S) u) m else 0
    cases hbu : bN S u with
    | false => exact ⟨0, by rw [if_pos (by rfl)], rfl⟩
    | true =>
      rw [if_neg (by decide)]
      have hlt := (sl_ct (P := bN S) hu hbu).1
      rw [hct] at hlt
      show ∃ z, ob (Q_ones (nI S &&& (((1 : Int32) <<< (nI u &&& 31)) - (1 : Int32))) σ τ) _ = _ ∧ _
      rw [ones_low hS31 (by omega), ob_some]
      obtain ⟨d, d1, d2⟩ := divisor_ok hm r1 h0 h1
      rw [r1, n9, if_neg (nin (show 9 * ct_c (bN S) u + m < 72 by omega) (by omega)), d1, ob_some, ncl (by omega)]
      have hbb := hb _ hlt
      simp only [if_true]
      by_cases hl : lg_cmp d 0 ≤ 0
      · rw [if_pos hl]
        have hl := (lc_le0 _).mp hl
        refine ⟨_, rfl, ?_⟩
        rw [l_neg (a := 4600000000) hbb (by decide), show sgi D' = -1 from if_neg (by omega)]
        show - (τ 47 (9 * ct_c (bN S) u + m)).toInt = -1 * (τ 47 (9 * ct_c (bN S) u + m)).toInt
        omega
      · rw [if_neg hl]
        have hl : ¬ d.toInt ≤ 0 := fun z => hl ((lc_le0 _).mpr z)
        refine ⟨_, rfl, ?_⟩
        rw [show sgi D' = 1 from if_pos (by omega)]
        show (τ 47 (9 * ct_c (bN S) u + m)).toInt = 1 * (τ 47 (9 * ct_c (bN S) u + m)).toInt
        omega
end SK
