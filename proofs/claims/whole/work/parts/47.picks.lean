/-! ===== SETS, SUMS, CORNERS ===== -/
theorem sm_sel (P : Nat → Bool) (F : Nat → Int) : ∀ n, sm (ct_c P n) F = sm n (fun x => if P x then F (ct_c P x) else 0)
  | 0 => rfl
  | n + 1 => by
    have ih := sm_sel P F n
    show sm (ct_c P n + (if P n then 1 else 0)) F = sm n (fun x => if P x then F (ct_c P x) else 0) + (if P n then F (ct_c P n) else 0)
    rw [← ih]
    cases P n
    · show sm (ct_c P n) F = _ + 0
      omega
    · rfl
theorem sm_ones : ∀ n : Nat, sm n (fun _ => 1) = (n : Int)
  | 0 => rfl
  | n + 1 => by
    show sm n (fun _ => 1) + 1 = _
    rw [sm_ones n]
    omega
theorem sm_img {m N : Nat} {g : Nat → Nat} (hg : ∀ i, i < m → g i < N) (hi : ∀ i j, i < m → j < m → g i = g j → i = j) {f : Nat → Int} (hf : ∀ x, x < N → (∀ i, i < m → g i ≠ x) → f x = 0) : sm N f = sm m (fun k => f (g k)) := by
  have e : ∀ x, x < N → f x = sm m (fun k => if g k = x then f x else 0) := fun x hx => by
    by_cases h : ∃ i, i < m ∧ g i = x
    · obtain ⟨i, i1, i2⟩ := h
      rw [sm_one (i := i) i1 (fun k hk hn => if_neg (fun z => hn (hi k i hk i1 (by omega)))), if_pos i2]
    · have h0 : ∀ i, i < m → g i ≠ x := fun i hi z => h ⟨i, hi, z⟩
      rw [hf x hx h0, sm_congr (g := fun _ => 0) (fun k hk => if_neg (h0 k hk)), sm_zero]
  rw [sm_congr e, sm_swap]
  exact sm_congr fun k hk => by
    rw [sm_one (i := g k) (hg k hk) (fun x _ hn => if_neg (fun z => hn z.symm)), if_pos rfl]
section CN
variable {m N : Nat} {A : Nat → Nat → Int} {b : Nat → Int}
theorem lp_corner (K : lp_ok m N A b) (h : lp_fe N A b) : ∃ T, lp_cn m N A b T := by
  obtain ⟨hI0, hU0⟩ := tb_0_I K.1 K.2.2.2.2.1 K.2.2.2.2.2.1 K.2.2.2.2.2.2.1
  have hU : tb_I m N A b (tb_run m N tb_w1 100000 (tb_0 A b)) ∧ tb_U m A (tb_run m N tb_w1 100000 (tb_0 A b)) := tb_run_keep (fun T => tb_I m N A b T ∧ tb_U m A T) (fun T T1 h hs => ⟨tb_step_I K.1 h.1 hs, tb_step_U K.1 h.1 h.2 hs⟩) _ _ ⟨hI0, hU0⟩
  have hst := tb_run_stops K.1 K.2.1 tb_w1 hI0 (show 73728 ≤ 100000 by omega)
  generalize tb_run m N tb_w1 100000 (tb_0 A b) = T at hU hst
  obtain ⟨f1, f2⟩ := tb_p1 K.1 hU.1 hst
  obtain ⟨o1, o2, o3⟩ := tb_dout_ok K.1 K.2.2.2.2.2.2.2 K.2.2.2.2.1 m 0 T (by omega) hU.1 hU.2 (f2 (f1.mp h)) (fun i hi => absurd hi (by omega))
  exact ⟨_, o1, o3⟩
/-- as many columns as rows, none of which depends on the others -/
def cs_ok (m N : Nat) (A : Nat → Nat → Int) (S : Nat) : Prop := ct_c (bN S) N = m ∧ ¬ lp_dep m (fun j => A (sl (bN S) N j))
/-- no push outside of a set -/
def cs_in (N S : Nat) (y : Nat → Int) : Prop := ∀ x, x < N → bN S x = false → y x = 0
theorem cn_set (hN : N ≤ 13) {T : tb_T} (h : lp_cn m N A b T) : ∃ S, S < 2 ^ N ∧ cs_ok m N A S ∧ cs_in N S (tb_pt m T) := by
  have hP : ∀ x, (tb_row m T.2.2.2 x).isSome = true ↔ ∃ i, i < m ∧ T.2.2.2 i = x := fun x => by
    cases hr : tb_row m T.2.2.2 x with
    | none => exact ⟨fun z => by simp at z, fun ⟨i, i1, i2⟩ => absurd i2 (tb_row_none hr i i1)⟩
    | some k => exact ⟨fun _ => ⟨k, tb_row_some hr⟩, fun _ => rfl⟩
  refine ⟨ct_m (fun x => (tb_row m T.2.2.2 x).isSome) N, ct_m_lt _ N, ?_⟩
  have hb : ∀ x, x < N → (bN (ct_m (fun x => (tb_row m T.2.2.2 x).isSome) N) x = true ↔ ∃ i, i < m ∧ T.2.2.2 i = x) := fun x hx => by
    rw [bN_mk _ N x hx]; exact hP x
  generalize ct_m (fun x => (tb_row m T.2.2.2 x).isSome) N = S at hb
  have inj := tb_inj h.1.1
  have cnt : ct_c (bN S) N = m := by
    have e1 := sm_sel (bN S) (fun _ => 1) N
    rw [sm_ones, sm_img h.2 inj (f := fun x => if bN S x then 1 else 0) (fun x hx z => by
      try dsimp only
      cases q : bN S x
      · rfl
      · obtain ⟨i, i1, i2⟩ := (hb x hx).mp q
        exact absurd i2 (z i i1)), sm_congr (g := fun _ => 1) (fun k hk => by
      try dsimp only
      rw [(hb _ (h.2 k hk)).mpr ⟨k, hk, rfl⟩]; rfl), sm_ones] at e1
    omega
  refine ⟨⟨cnt, ?_⟩, fun x hx q => tb_pt_0 fun i hi z => ?_⟩
  · rintro ⟨al, i0, h1, h2, h3⟩
    have be : ∀ k, k < m → (if bN S (T.2.2.2 k) then al (ct_c (bN S) (T.2.2.2 k)) else 0) = 0 := tb_ind h.1.1 (al := fun k => if bN S (T.2.2.2 k) then al (ct_c (bN S) (T.2.2.2 k)) else 0) (fun q => by
      have e := h3 q
      rw [← cnt, sm_sel (bN S) (fun i => al i * A (sl (bN S) N i) q) N] at e
      rw [sm_img h.2 inj (f := fun x => if bN S x then al (ct_c (bN S) x) * A (sl (bN S) N (ct_c (bN S) x)) q else 0) (fun x hx z => by
        try dsimp only
        cases q : bN S x
        · rfl
        · obtain ⟨i, i1, i2⟩ := (hb x hx).mp q
          exact absurd i2 (z i i1))] at e
      rw [← e]
      exact sm_congr fun k hk => by
        try dsimp only
        have hx := (hb _ (h.2 k hk)).mpr ⟨k, hk, rfl⟩
        have hlt := h.2 k hk
        rw [if_pos hx, if_pos hx, (sl_ct hlt hx).2]
        unfold tb_Ae
        rw [if_pos (show T.2.2.2 k < 13 by omega)])
    obtain ⟨s1, s2, s3⟩ := sl_ok (P := bN S) (N := N) (j := i0) (by omega)
    obtain ⟨k, k1, k2⟩ := (hb _ s1).mp s2
    have := be k k1
    rw [k2, if_pos s2, s3] at this
    exact h2 this
  · have := (hb x hx).mpr ⟨i, hi, z⟩
    rw [q] at this
    cases this
/-- what solving a set gives: its only point, up to a factor -/
theorem cs_point {S : Nat} (hct : ct_c (bN S) N = m) {D' s : Int} {c : Nat → Nat → Int} (hg : ∀ q, D' * b q = sm m (fun i => c i m * A (sl (bN S) N i) q)) (hs : s * s = 1) (hp : 0 < s * D') (hn : ∀ i, i < m → 0 ≤ s * c i m) : lp_sol N A b (fun x => if bN S x then s * c (ct_c (bN S) x) m else 0) (s * D') ∧ cs_in N S (fun x => if bN S x then s * c (ct_c (bN S) x) m else 0) := by
  refine ⟨⟨hp, fun x hx => ?_, fun q => ?_⟩, fun x hx q => by simp [q]⟩
  · dsimp only
    cases q : bN S x
    · exact Int.le_refl _
    · exact hn _ (by have := (sl_ct (P := bN S) hx q).1; omega)
  · have e := hg q
    rw [← hct, sm_sel (bN S) (fun i => c i (ct_c (bN S) N) * A (sl (bN S) N i) q) N, hct] at e
    rw [Int.mul_assoc, e, ← sm_mul]
    exact sm_congr fun x hx => by
      try dsimp only
      cases z : bN S x
      · simp
      · simp only [if_true]
        rw [(sl_ct hx z).2, Int.mul_assoc]
theorem cs_only {S : Nat} (hct : cs_ok m N A S) {D' : Int} {c : Nat → Nat → Int} (hg : ∀ q, D' * b q = sm m (fun i => c i m * A (sl (bN S) N i) q)) {y : Nat → Int} {t : Int} (hy : lp_sol N A b y t) (hin : cs_in N S y) : ∀ j, j < m → D' * y (sl (bN S) N j) = t * c j m := by
  obtain ⟨h1, h2⟩ := hct
  intro j hj
  by_cases hne : D' * y (sl (bN S) N j) - t * c j m = 0
  · omega
  refine absurd ⟨fun j => D' * y (sl (bN S) N j) - t * c j m, j, hj, hne, fun q => ?_⟩ h2
  have e1 := hy.2.2 q
  have e2 : sm N (fun x => y x * A x q) = sm m (fun j => y (sl (bN S) N j) * A (sl (bN S) N j) q) := by
    rw [← h1, sm_sel (bN S) (fun j => y (sl (bN S) N j) * A (sl (bN S) N j) q) N]
    exact sm_congr fun x hx => by
      try dsimp only
      cases z : bN S x
      · rw [hin x hx z]; simp
      · simp only [if_true]
        rw [(sl_ct hx z).2]
  rw [e2] at e1
  have e3 : sm m (fun i => (D' * y (sl (bN S) N i) - t * c i m) * A (sl (bN S) N i) q) = D' * sm m (fun j => y (sl (bN S) N j) * A (sl (bN S) N j) q) + (-t) * sm m (fun i => c i m * A (sl (bN S) N i) q) := by
    rw [← sm_mul, ← sm_mul, ← sm_add]
    exact sm_congr fun i _ => by grind
  rw [e3, e1, ← hg q]
  grind
end CN
