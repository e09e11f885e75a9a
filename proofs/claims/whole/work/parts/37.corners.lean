/-! ===== MAKESHIFT VARIABLES DRIVEN OUT; LEAST AND GREATEST ===== -/
/-- a step at a row of sum 0, whatever its sign -/
def tb_pvs (T : tb_T) (l e : Nat) : tb_T := if T.2.1 l e < 0 then tb_neg (tb_pv T l e) else tb_pv T l e
def tb_din (row : Nat) : Nat → Nat → tb_T → tb_T
  | 0, _, T => T
  | k + 1, j, T => if T.2.2.2 row < 13 then T else if T.2.1 row j = 0 then tb_din row k (j + 1) T else tb_din row k (j + 1) (tb_pvs T row j)
/-- rows from 'row' on, k of them -/
def tb_dout (N : Nat) : Nat → Nat → tb_T → tb_T
  | 0, _, T => T
  | k + 1, row, T => tb_dout N k (row + 1) (tb_din row N 0 T)
/-- the equations do not depend on one another -/
def lp_fr (m N : Nat) (A : Nat → Nat → Int) : Prop := ∀ u : Nat → Int, (∀ x, x < N → sm m (fun q => u q * A x q) = 0) → ∀ q, q < m → u q = 0
section TC
variable {m N : Nat} {A : Nat → Nat → Int} {b : Nat → Int}
def tb_Z (m N : Nat) (T : tb_T) : Prop := ∀ i, i < m → ¬ T.2.2.2 i < N → T.2.2.1 i = 0
theorem tb_pvs_I {T : tb_T} (hN : N ≤ 13) (h : tb_I m N A b T) (hU : tb_U m A T) (hZ : tb_Z m N T) {l e : Nat} (hl : l < m) (he : e < N) (hp : T.2.1 l e ≠ 0) (hl0 : T.2.2.1 l = 0) : tb_I m N A b (tb_pvs T l e) ∧ tb_U m A (tb_pvs T l e) ∧ tb_Z m N (tb_pvs T l e) ∧ (tb_pvs T l e).2.2.2 = fun i => if i = l then e else T.2.2.2 i := by
  obtain ⟨hJ, hD, hs⟩ := h
  obtain ⟨j1, j2, j3⟩ := tb_J_pv hN hJ hl he hp
  have u1 := tb_U_pv hN hJ hU hl he hp
  have sv : ∀ i, i < m → i ≠ l → (tb_pv T l e).2.2.1 i = T.2.2.1 i * T.2.1 l e / T.1 := fun i hi hn => by
    show (if i = l then T.2.2.1 l else (T.2.2.1 i * T.2.1 l e - T.2.1 i e * T.2.2.1 l) / T.1) = _
    rw [if_neg hn, hl0, Int.mul_zero, Int.sub_zero]
  have dv : ∀ i, i < m → i ≠ l → T.1 ∣ T.2.2.1 i * T.2.1 l e := fun i hi hn => by
    have := j3 i hi hn
    rw [hl0, Int.mul_zero, Int.sub_zero] at this
    exact this
  have sl : (tb_pv T l e).2.2.1 l = 0 := by
    show (if l = l then T.2.2.1 l else _) = 0
    rw [if_pos rfl, hl0]
  have zz : ∀ i, i < m → ¬ (if i = l then e else T.2.2.2 i) < N → (tb_pv T l e).2.2.1 i = 0 := fun i hi hn => by
    by_cases q : i = l
    · rw [q]; exact sl
    · rw [if_neg q] at hn
      rw [sv i hi q, hZ i hi hn]
      simp
  unfold tb_pvs
  by_cases hc : T.2.1 l e < 0
  · rw [if_pos hc]
    refine ⟨⟨tb_J_neg j1, by show 0 < - T.2.1 l e; omega, fun i hi => ?_⟩, tb_U_neg u1, fun i hi hn => ?_, rfl⟩
    · show 0 ≤ - (tb_pv T l e).2.2.1 i
      by_cases q : i = l
      · rw [q, sl]; decide
      · rw [sv i hi q, ← Int.neg_ediv_of_dvd (dv i hi q)]
        refine Int.ediv_nonneg ?_ (Int.le_of_lt hD)
        have := Int.mul_nonpos_of_nonneg_of_nonpos (hs i hi) (Int.le_of_lt hc)
        omega
    · show - (tb_pv T l e).2.2.1 i = 0
      rw [zz i hi hn]; rfl
  · rw [if_neg hc]
    refine ⟨⟨j1, by show 0 < T.2.1 l e; omega, fun i hi => ?_⟩, u1, fun i hi hn => zz i hi hn, rfl⟩
    by_cases q : i = l
    · rw [q, sl]; decide
    · rw [sv i hi q]
      exact Int.ediv_nonneg (Int.mul_nonneg (hs i hi) (by omega)) (Int.le_of_lt hD)
/-- under independent equations a makeshift row has something to step at -/
theorem tb_some {T : tb_T} (hfr : lp_fr m N A) (hA : ∀ x q, x < N → m ≤ q → A x q = 0) (h : tb_J m N A b T) (hU : tb_U m A T) {i : Nat} (hi : i < m) (hg : T.2.2.2 i = 13 + i) : ∃ j, j < N ∧ T.2.1 i j ≠ 0 := by
  by_cases hx : ∃ j, j < N ∧ T.2.1 i j ≠ 0
  · exact hx
  · exfalso
    have h0 : ∀ j, j < N → T.2.1 i j = 0 := fun j hj => by
      by_cases z : T.2.1 i j = 0
      · exact z
      · exact absurd ⟨j, hj, z⟩ hx
    -- the units' cells
    have hch : ∀ q, ∃ cq : Nat → Int, q < m → pv_CR m (tb_bs m A T.2.2.2) T.1 (tb_un q) cq := fun q => by
      by_cases hq : q < m
      · obtain ⟨cq, hc⟩ := hU q hq; exact ⟨cq, fun _ => hc⟩
      · exact ⟨fun _ => 0, fun z => absurd z hq⟩
    let cu : Nat → Nat → Int := fun q => Classical.choose (hch q)
    have hcu : ∀ q, q < m → pv_CR m (tb_bs m A T.2.2.2) T.1 (tb_un q) (cu q) := fun q hq => Classical.choose_spec (hch q) hq
    -- of any vector on the first m rows
    have vec : ∀ v : Nat → Int, (∀ q, m ≤ q → v q = 0) → pv_CR m (tb_bs m A T.2.2.2) T.1 v (fun k => sm m (fun q => v q * cu q k)) := by
      intro v hv r
      have e1 : v r = sm m (fun q => v q * tb_un q r) := by
        by_cases hr : r < m
        · rw [sm_one (i := r) hr (fun k _ hn => by unfold tb_un; rw [if_neg (fun z => hn z.symm)]; simp)]
          unfold tb_un
          rw [if_pos rfl]
          omega
        · rw [hv r (by omega), sm_congr (g := fun _ => 0) (fun k hk => by unfold tb_un; rw [if_neg (by omega)]; simp), sm_zero]
      rw [e1, ← sm_mul]
      have e2 : sm m (fun k => sm m (fun q => v q * cu q k) * (tb_bs m A T.2.2.2).getD k (fun _ => 0) r) = sm m (fun k => sm m (fun q => v q * (cu q k * (tb_bs m A T.2.2.2).getD k (fun _ => 0) r))) := by
        refine sm_congr fun k _ => ?_
        rw [Int.mul_comm, ← sm_mul]
        exact sm_congr fun q _ => by grind
      rw [e2, sm_swap]
      refine sm_congr fun q hq => ?_
      rw [sm_mul, ← hcu q hq r]
      grind
    have uniq : ∀ (v c1 c2 : Nat → Int), pv_CR m (tb_bs m A T.2.2.2) T.1 v c1 → pv_CR m (tb_bs m A T.2.2.2) T.1 v c2 → ∀ k, k < m → c1 k = c2 k := by
      intro v c1 c2 a1 a2 k hk
      have := tb_ind h (al := fun k => c1 k - c2 k) (fun q => by
        have b1 := a1 q
        have b2 := a2 q
        have : sm m (fun k => (c1 k - c2 k) * tb_Ae A (T.2.2.2 k) q) = sm m (fun k => c1 k * (tb_bs m A T.2.2.2).getD k (fun _ => 0) q) + (-1) * sm m (fun k => c2 k * (tb_bs m A T.2.2.2).getD k (fun _ => 0) q) := by
          rw [← sm_mul, ← sm_add]
          exact sm_congr fun k hk => by rw [tb_bs_get hk]; grind
        rw [this, ← b1, ← b2]
        omega) k hk
      have h9 : c1 k - c2 k = 0 := this
      omega
    have hu := hfr (fun q => cu q i) (fun x hx => by
      have := uniq (A x) _ _ (h.2.2.1 x hx) (vec (A x) (fun q hq => hA x q hx hq)) i hi
      have h1 : T.2.1 i x = sm m (fun q => A x q * cu q i) := this
      rw [h0 x hx] at h1
      rw [sm_congr (g := fun q => A x q * cu q i) (fun q _ => Int.mul_comm _ _)]
      exact h1.symm) i hi
    have hu : cu i i = 0 := hu
    have e1 : pv_CR m (tb_bs m A T.2.2.2) T.1 (tb_un i) (fun k => if k = i then T.1 else 0) := fun r => by
      rw [sm_one (i := i) hi (fun k _ hn => by show (if k = i then T.1 else 0) * _ = 0; rw [if_neg hn]; simp)]
      show _ = (if i = i then T.1 else 0) * _
      rw [if_pos rfl, tb_bs_get hi, hg]
      unfold tb_Ae
      rw [if_neg (by omega)]
      congr 2
      omega
    have := uniq (tb_un i) _ _ (hcu i hi) e1 i hi
    rw [if_pos rfl, hu] at this
    exact h.2.1.1 this.symm
theorem tb_din_ok (hN : N ≤ 13) {row : Nat} (hr : row < m) : ∀ (k j : Nat) (T : tb_T), j + k = N → tb_I m N A b T → tb_U m A T → tb_Z m N T → (T.2.2.2 row < 13 ∨ ∃ x, j ≤ x ∧ x < N ∧ T.2.1 row x ≠ 0) →
    tb_I m N A b (tb_din row k j T) ∧ tb_U m A (tb_din row k j T) ∧ tb_Z m N (tb_din row k j T) ∧ (tb_din row k j T).2.2.2 row < 13 ∧ ∀ i, i ≠ row → (tb_din row k j T).2.2.2 i = T.2.2.2 i
  | 0, j, T, hj, h1, h2, h3, h4 => by
    refine ⟨h1, h2, h3, ?_, fun i _ => rfl⟩
    rcases h4 with z | ⟨x, z1, z2, _⟩
    · exact z
    · omega
  | k + 1, j, T, hj, h1, h2, h3, h4 => by
    unfold tb_din
    by_cases hg : T.2.2.2 row < 13
    · rw [if_pos hg]
      exact ⟨h1, h2, h3, hg, fun i _ => rfl⟩
    · rw [if_neg hg]
      by_cases hc : T.2.1 row j = 0
      · rw [if_pos hc]
        refine tb_din_ok hN hr k (j + 1) T (by omega) h1 h2 h3 ?_
        rcases h4 with z | ⟨x, z1, z2, z3⟩
        · exact Or.inl z
        · refine Or.inr ⟨x, ?_, z2, z3⟩
          by_cases e : x = j
          · rw [e] at z3; exact absurd hc z3
          · omega
      · rw [if_neg hc]
        have hs0 : T.2.2.1 row = 0 := h3 row hr (by
          rcases h1.1.1 row hr with z | z
          · omega
          · omega)
        obtain ⟨a1, a2, a3, a4⟩ := tb_pvs_I hN h1 h2 h3 hr (show j < N by omega) hc hs0
        have hg2 : (tb_pvs T row j).2.2.2 row < 13 := by rw [a4]; show (if row = row then j else _) < 13; rw [if_pos rfl]; omega
        obtain ⟨b1, b2, b3, b4, b5⟩ := tb_din_ok hN hr k (j + 1) (tb_pvs T row j) (by omega) a1 a2 a3 (Or.inl hg2)
        refine ⟨b1, b2, b3, b4, fun i hi => ?_⟩
        rw [b5 i hi, a4]
        exact if_neg hi
theorem tb_dout_ok (hN : N ≤ 13) (hfr : lp_fr m N A) (hA : ∀ x q, x < N → m ≤ q → A x q = 0) : ∀ (k row : Nat) (T : tb_T), row + k = m → tb_I m N A b T → tb_U m A T → tb_Z m N T → (∀ i, i < row → T.2.2.2 i < N) →
    tb_I m N A b (tb_dout N k row T) ∧ tb_U m A (tb_dout N k row T) ∧ ∀ i, i < m → (tb_dout N k row T).2.2.2 i < N
  | 0, row, T, hk, h1, h2, h3, h4 => ⟨h1, h2, fun i hi => h4 i (by omega)⟩
  | k + 1, row, T, hk, h1, h2, h3, h4 => by
    unfold tb_dout
    obtain ⟨a1, a2, a3, a4, a5⟩ := tb_din_ok hN (show row < m by omega) N 0 T (by omega) h1 h2 h3 (by
      rcases h1.1.1 row (by omega) with z | z
      · exact Or.inl (by omega)
      · obtain ⟨j, j1, j2⟩ := tb_some hfr hA h1.1 h2 (show row < m by omega) z
        exact Or.inr ⟨j, Nat.zero_le _, j1, j2⟩)
    refine tb_dout_ok hN hfr hA k (row + 1) _ (by omega) a1 a2 a3 (fun i hi => ?_)
    by_cases e : i = row
    · rw [e]
      rcases a1.1.1 row (by omega) with z | z
      · exact z
      · omega
    · rw [a5 i e]
      exact h4 i (by omega)
/-! least and greatest of a variable -/
def tb_wu (u : Nat) : Nat → Int := fun x => if x = u then 1 else 0
def tb_wn (u : Nat) : Nat → Int := fun x => if x = u then -1 else 0
theorem tb_v_wu (u : Nat) (T : tb_T) : tb_v m (tb_wu u) T = tb_pt m T u := by
  unfold tb_v tb_pt tb_wu
  exact sm_congr fun i _ => by by_cases z : T.2.2.2 i = u <;> simp [z]
theorem tb_v_wn (u : Nat) (T : tb_T) : tb_v m (tb_wn u) T = - tb_pt m T u := by
  unfold tb_v tb_pt tb_wn
  have : sm m (fun i => (if T.2.2.2 i = u then (-1 : Int) else 0) * T.2.2.1 i) = (-1) * sm m (fun i => if T.2.2.2 i = u then T.2.2.1 i else 0) := by
    rw [← sm_mul]
    exact sm_congr fun i _ => by by_cases z : T.2.2.2 i = u <;> simp [z]
  rw [this]
  omega
theorem tb_real_step {T T1 : tb_T} {w : Nat → Int} (h : ∀ i, i < m → T.2.2.2 i < N) (hs : tb_step m N w T = some T1) : ∀ i, i < m → T1.2.2.2 i < N := by
  unfold tb_step at hs
  split at hs
  · cases hs
  · rename_i e he
    split at hs
    · cases hs
    · rename_i l hl
      cases hs
      intro i hi
      show (if i = l then e else T.2.2.2 i) < N
      by_cases q : i = l
      · rw [if_pos q]; exact (tb_en_some he).1
      · rw [if_neg q]; exact h i hi
/-- the row of the goal, where the goal is one variable -/
theorem tb_r_wu {T : tb_T} {u k : Nat} (hJ : tb_J m N A b T) (hk : k < m) (hu : T.2.2.2 k = u) {x : Nat} (hx : x ≠ u) : tb_r m (tb_wu u) T x = tb_ce T k x := by
  unfold tb_r
  rw [show tb_wu u x = 0 from if_neg hx, Int.mul_zero, Int.sub_zero, sm_one (i := k) hk (fun i hi hn => by
    rw [show tb_wu u (T.2.2.2 i) = 0 from if_neg (fun z => hn (tb_inj hJ i k hi hk (z.trans hu.symm)))]
    simp), show tb_wu u (T.2.2.2 k) = 1 from if_pos hu]
  omega
theorem tb_r_none {T : tb_T} {u : Nat} (hu : ∀ i, i < m → T.2.2.2 i ≠ u) (x : Nat) : tb_r m (tb_wu u) T x = - (T.1 * tb_wu u x) := by
  unfold tb_r
  rw [sm_congr (g := fun _ => 0) (fun i hi => by rw [show tb_wu u (T.2.2.2 i) = 0 from if_neg (hu i hi)]; simp), sm_zero]
  omega
theorem tb_r_wn (u : Nat) (T : tb_T) (x : Nat) : tb_r m (tb_wn u) T x = - tb_r m (tb_wu u) T x := by
  unfold tb_r
  have e : ∀ z, tb_wn u z = - tb_wu u z := fun z => by unfold tb_wn tb_wu; split <;> rfl
  rw [sm_congr (g := fun i => (-1) * (tb_wu u (T.2.2.2 i) * tb_ce T i x)) (fun i _ => by rw [e]; grind), sm_mul, e]
  grind
theorem tb_r_self {T : tb_T} (hN : N ≤ 13) (hJ : tb_J m N A b T) {u k : Nat} (hk : k < m) (hu : T.2.2.2 k = u) : tb_r m (tb_wu u) T u = 0 := by
  unfold tb_r
  rw [sm_congr (g := fun i => if i = k then T.1 else 0) (fun i hi => by
    have := tb_unit hN hJ hk hi
    rw [hu] at this
    rw [this]
    by_cases z : i = k
    · subst z
      rw [show tb_wu u (T.2.2.2 i) = 1 from if_pos hu]
      simp
    · simp [z]), sm_one (i := k) hk (fun i _ hn => if_neg hn), if_pos rfl, show tb_wu u u = 1 from if_pos rfl]
  omega
theorem tb_least_en {T : tb_T} (hN : N ≤ 13) (h : tb_I m N A b T) {u : Nat} (hst : tb_step m N (tb_wu u) T = none) : tb_en (tb_r m (tb_wu u) T) N = none := by
  unfold tb_step at hst
  split at hst
  · assumption
  · rename_i e he
    exfalso
    obtain ⟨e1, e2, e3⟩ := tb_en_some he
    split at hst
    · rename_i hl
      have hn := tb_lv_none hl
      by_cases hb : ∃ k, k < m ∧ T.2.2.2 k = u
      · obtain ⟨k, hk, hu⟩ := hb
        by_cases heu : e = u
        · rw [heu, tb_r_self hN h.1 hk hu] at e2; omega
        · rw [tb_r_wu h.1 hk hu heu] at e2
          have : tb_ce T k e = T.2.1 k e := if_pos (by omega)
          rw [this] at e2
          exact hn k hk e2
      · have hu : ∀ i, i < m → T.2.2.2 i ≠ u := fun i hi z => hb ⟨i, hi, z⟩
        rw [tb_r_none hu] at e2
        have : 0 ≤ T.1 * tb_wu u e := Int.mul_nonneg (Int.le_of_lt h.2.1) (by unfold tb_wu; split <;> omega)
        omega
    · cases hst
/-- THE LEAST: at the end of the steps, of all pushes -/
theorem tb_least {T : tb_T} (hN : N ≤ 13) (h : tb_I m N A b T) {u : Nat} (hu : u < N) (hst : tb_step m N (tb_wu u) T = none) {y : Nat → Int} {t : Int} (hy : lp_sol N A b y t) : t * tb_pt m T u ≤ T.1 * y u := by
  have e := tb_best (tb_wu u) hN h (tb_least_en hN h hst) hy
  rw [tb_v_wu, sm_one (i := u) hu (fun x _ hn => by rw [show tb_wu u x = 0 from if_neg hn]; simp), show tb_wu u u = 1 from if_pos rfl, Int.one_mul] at e
  exact e
/-- THE GREATEST: either the steps end at it, or there are pushes without weights by which it grows -/
theorem tb_most {T : tb_T} (hN : N ≤ 13) (h : tb_I m N A b T) (hreal : ∀ i, i < m → T.2.2.2 i < N) {u : Nat} (hu : u < N) (hst : tb_step m N (tb_wn u) T = none) :
    (tb_en (tb_r m (tb_wn u) T) N = none ∧ ∀ (y : Nat → Int) (t : Int), lp_sol N A b y t → T.1 * y u ≤ t * tb_pt m T u) ∨
    (tb_en (tb_r m (tb_wn u) T) N ≠ none ∧ ∃ y : Nat → Int, (∀ x, x < N → 0 ≤ y x) ∧ 0 < y u ∧ ∀ q, sm N (fun x => y x * A x q) = 0) := by
  by_cases hen : tb_en (tb_r m (tb_wn u) T) N = none
  · refine Or.inl ⟨hen, fun y t hy => ?_⟩
    have e := tb_best (tb_wn u) hN h hen hy
    rw [tb_v_wn, sm_one (i := u) hu (fun x _ hn => by rw [show tb_wn u x = 0 from if_neg hn]; simp), show tb_wn u u = -1 from if_pos rfl] at e
    have e1 : T.1 * (-1 * y u) = - (T.1 * y u) := by grind
    have e2 : t * (- tb_pt m T u) = - (t * tb_pt m T u) := by grind
    omega
  · refine Or.inr ⟨hen, ?_⟩
    cases he : tb_en (tb_r m (tb_wn u) T) N with
    | none => exact absurd he hen
    | some e =>
      obtain ⟨e1, e2, e3⟩ := tb_en_some he
      have hl : tb_lv T e m = none := by
        unfold tb_step at hst
        rw [he] at hst
        cases hl : tb_lv T e m with
        | none => rfl
        | some l =>
          have hst : (match tb_lv T e m with | none => none | some l => some (tb_pv T l e)) = none := hst
          rw [hl] at hst
          cases hst
      have hn := tb_lv_none hl
      -- e is no variable of the basis
      have hnb : ∀ i, i < m → T.2.2.2 i ≠ e := fun i hi z => by
        have h1 := (tb_bl hN h (tb_wn u)).2.2.2.2.2.2.2.2 i hi
        rw [z] at h1
        omega
      let y : Nat → Int := fun x => if x = e then T.1 else - sm m (fun i => if T.2.2.2 i = x then T.2.1 i e else 0)
      have yg : ∀ i, i < m → y (T.2.2.2 i) = - T.2.1 i e := fun i hi => by
        show (if T.2.2.2 i = e then T.1 else - sm m (fun k => if T.2.2.2 k = T.2.2.2 i then T.2.1 k e else 0)) = _
        rw [if_neg (hnb i hi), sm_one (i := i) hi (fun k hk z => if_neg (fun q => z (tb_inj h.1 k i hk hi q))), if_pos rfl]
      have ye : y e = T.1 := if_pos rfl
      have hy0 : ∀ x, x < N → 0 ≤ y x := fun x _ => by
        show 0 ≤ (if x = e then T.1 else - sm m (fun i => if T.2.2.2 i = x then T.2.1 i e else 0))
        by_cases z : x = e
        · rw [if_pos z]; exact Int.le_of_lt h.2.1
        · rw [if_neg z]
          have : sm m (fun i => if T.2.2.2 i = x then T.2.1 i e else 0) ≤ 0 := sm_nonpos fun i hi => by
            have := hn i hi
            by_cases z2 : T.2.2.2 i = x
            · rw [if_pos z2]; omega
            · rw [if_neg z2]; exact Int.le_refl _
          omega
      have hnull : ∀ q, sm N (fun x => y x * A x q) = 0 := fun q => by
        have e4 : sm N (fun x => y x * A x q) = sm N (fun x => if x = e then T.1 * A e q else 0) + sm N (fun x => sm m (fun i => if T.2.2.2 i = x then - (T.2.1 i e * A x q) else 0)) := by
          rw [← sm_add]
          refine sm_congr fun x _ => ?_
          by_cases z : x = e
          · subst z
            rw [ye, if_pos rfl, sm_congr (g := fun _ => 0) (fun i hi => if_neg (hnb i hi)), sm_zero]
            omega
          · rw [if_neg z]
            show (if x = e then T.1 else - sm m (fun i => if T.2.2.2 i = x then T.2.1 i e else 0)) * A x q = _
            rw [if_neg z]
            have : sm m (fun i => if T.2.2.2 i = x then - (T.2.1 i e * A x q) else 0) = (- A x q) * sm m (fun i => if T.2.2.2 i = x then T.2.1 i e else 0) := by
              rw [← sm_mul]
              exact sm_congr fun i _ => by by_cases z2 : T.2.2.2 i = x <;> simp [z2]; grind
            rw [this]
            grind
        rw [e4, sm_one (i := e) e1 (fun x _ z => if_neg z), if_pos rfl, sm_swap, h.1.2.2.1 e e1 q, ← sm_add]
        rw [sm_congr (g := fun _ => 0) (fun i hi => ?_), sm_zero]
        rw [sm_one (i := T.2.2.2 i) (hreal i hi) (fun x _ z => if_neg (fun w => z w.symm)), if_pos rfl, tb_bs_get hi]
        unfold tb_Ae
        rw [if_pos (by have := hreal i hi; omega)]
        grind
      refine ⟨y, hy0, ?_, hnull⟩
      -- how fast u grows
      have e5 := tb_ext (tb_wn u) hN h (y := y) (t := 0) (fun q => by rw [hnull q]; omega)
      rw [sm_one (i := u) hu (fun x _ hn => by rw [show tb_wn u x = 0 from if_neg hn]; simp), show tb_wn u u = -1 from if_pos rfl] at e5
      have e6 : sm N (fun x => tb_r m (tb_wn u) T x * y x) = tb_r m (tb_wn u) T e * T.1 := by
        rw [sm_one (i := e) e1 (fun x hx z => ?_), ye]
        show _ * (if x = e then T.1 else - sm m (fun i => if T.2.2.2 i = x then T.2.1 i e else 0)) = 0
        rw [if_neg z]
        by_cases hb : ∃ k, k < m ∧ T.2.2.2 k = x
        · obtain ⟨k, hk, hkx⟩ := hb
          have h1 := (tb_bl hN h (tb_wn u)).2.2.2.2.2.2.2.2 k hk
          rw [hkx] at h1
          rw [h1]; simp
        · rw [sm_congr (g := fun _ => 0) (fun i hi => if_neg (fun z2 => hb ⟨i, hi, z2⟩)), sm_zero]; simp
      rw [e6] at e5
      have e7 : T.1 * y u = T.1 * tb_r m (tb_wn u) T e := by grind
      have := Int.eq_of_mul_eq_mul_left (by have := h.2.1; omega) e7
      omega
end TC
