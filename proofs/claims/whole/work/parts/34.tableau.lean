/-! ===== THE TABLEAU, its steps by the lowest number, and that they end ===== -/
/-- D, cells (row, column), sums, which variable a row gives (from 13 on: the row's own makeshift) -/
abbrev tb_T : Type := Int × (Nat → Nat → Int) × (Nat → Int) × (Nat → Nat)
def tb_un (i : Nat) : Nat → Int := fun r => if r = i then 1 else 0
def tb_Ae (A : Nat → Nat → Int) (x : Nat) : Nat → Int := if x < 13 then A x else tb_un (x - 13)
def tb_bs (m : Nat) (A : Nat → Nat → Int) (g : Nat → Nat) : List (Nat → Int) := (List.range m).map (fun i => tb_Ae A (g i))
theorem tb_bs_len (m : Nat) (A : Nat → Nat → Int) (g : Nat → Nat) : (tb_bs m A g).length = m := by simp [tb_bs]
theorem tb_bs_get {m : Nat} {A : Nat → Nat → Int} {g : Nat → Nat} {k : Nat} (hk : k < m) : (tb_bs m A g).getD k (fun _ => 0) = tb_Ae A (g k) := by
  unfold tb_bs
  rw [List.getD_eq_getElem?_getD, List.getElem?_map, List.getElem?_range hk]
  rfl
theorem tb_bs_set {m : Nat} {A : Nat → Nat → Int} {g : Nat → Nat} {l e : Nat} (hl : l < m) : (tb_bs m A g).set l (tb_Ae A e) = tb_bs m A (fun i => if i = l then e else g i) := by
  apply List.ext_getElem?
  intro i
  rw [List.getElem?_set]
  unfold tb_bs
  rw [List.getElem?_map, List.getElem?_map, List.length_map, List.length_range]
  by_cases h : l = i
  · subst h
    rw [if_pos rfl, if_pos hl, List.getElem?_range hl]
    simp
  · rw [if_neg h]
    by_cases hi : i < m
    · rw [List.getElem?_range hi]
      have hne : ¬ i = l := fun q => h q.symm
      simp [hne]
    · rw [List.getElem?_eq_none (by simp; omega)]
      rfl
/-- what always holds of a tableau (signs of the sums apart) -/
def tb_J (m N : Nat) (A : Nat → Nat → Int) (b : Nat → Int) (T : tb_T) : Prop :=
  (∀ i, i < m → T.2.2.2 i < N ∨ T.2.2.2 i = 13 + i) ∧ pv_DT (tb_bs m A T.2.2.2) (List.range m) T.1 ∧
  (∀ j, j < N → pv_CR m (tb_bs m A T.2.2.2) T.1 (A j) (fun i => T.2.1 i j)) ∧ pv_CR m (tb_bs m A T.2.2.2) T.1 b T.2.2.1
def tb_I (m N : Nat) (A : Nat → Nat → Int) (b : Nat → Int) (T : tb_T) : Prop := tb_J m N A b T ∧ 0 < T.1 ∧ ∀ i, i < m → 0 ≤ T.2.2.1 i
def tb_pv (T : tb_T) (l e : Nat) : tb_T := (T.2.1 l e, fun i j => if i = l then T.2.1 l j else (T.2.1 i j * T.2.1 l e - T.2.1 i e * T.2.1 l j) / T.1, fun i => if i = l then T.2.2.1 l else (T.2.2.1 i * T.2.1 l e - T.2.1 i e * T.2.2.1 l) / T.1, fun i => if i = l then e else T.2.2.2 i)
def tb_neg (T : tb_T) : tb_T := (- T.1, fun i j => - T.2.1 i j, fun i => - T.2.2.1 i, T.2.2.2)
section TB
variable {m N : Nat} {A : Nat → Nat → Int} {b : Nat → Int}
theorem tb_J_pv {T : tb_T} (hN : N ≤ 13) (h : tb_J m N A b T) {l e : Nat} (hl : l < m) (he : e < N) (hp : T.2.1 l e ≠ 0) : tb_J m N A b (tb_pv T l e) ∧
    (∀ i j, i < m → i ≠ l → j < N → T.1 ∣ (T.2.1 i j * T.2.1 l e - T.2.1 i e * T.2.1 l j)) ∧ (∀ i, i < m → i ≠ l → T.1 ∣ (T.2.2.1 i * T.2.1 l e - T.2.1 i e * T.2.2.1 l)) := by
  obtain ⟨h1, h2, h3, h4⟩ := h
  have eA : A e = tb_Ae A e := by unfold tb_Ae; rw [if_pos (by omega)]
  obtain ⟨s1, s2⟩ := pv_step (tb_bs_len m A T.2.2.2) h2 (h3 e he) hl hp
  rw [eA, tb_bs_set hl] at s1
  have s3 : ∀ (vj cj : Nat → Int), pv_CR m (tb_bs m A T.2.2.2) T.1 vj cj → (∀ k, k < m → k ≠ l → T.1 ∣ (cj k * T.2.1 l e - T.2.1 k e * cj l)) ∧ pv_CR m (tb_bs m A (tb_pv T l e).2.2.2) (T.2.1 l e) vj (fun k => if k = l then cj l else (cj k * T.2.1 l e - T.2.1 k e * cj l) / T.1) := by
    intro vj cj hj
    obtain ⟨a1, a2⟩ := s2 vj cj hj
    rw [eA, tb_bs_set hl] at a2
    exact ⟨a1, a2⟩
  refine ⟨⟨fun i hi => ?_, s1, fun j hj => ?_, ?_⟩, fun i j hi hn hj => (s3 _ _ (h3 j hj)).1 i hi hn, fun i hi hn => (s3 _ _ h4).1 i hi hn⟩
  · show (if i = l then e else T.2.2.2 i) < N ∨ (if i = l then e else T.2.2.2 i) = 13 + i
    by_cases q : i = l
    · rw [if_pos q]; exact Or.inl he
    · rw [if_neg q]; exact h1 i hi
  · have := (s3 _ _ (h3 j hj)).2
    intro r
    rw [show (tb_pv T l e).1 = T.2.1 l e from rfl, this r]
    exact sm_congr fun k _ => by
      show (if k = l then T.2.1 l j else _) * _ = (if k = l then T.2.1 l j else _) * _
      by_cases q : k = l <;> simp [q]
  · exact (s3 _ _ h4).2
theorem tb_J_neg {T : tb_T} (h : tb_J m N A b T) : tb_J m N A b (tb_neg T) := by
  obtain ⟨h1, ⟨h2, ε, h3, h4⟩, h5, h6⟩ := h
  refine ⟨h1, ⟨by show - T.1 ≠ 0; omega, - ε, by grind, by show - T.1 = _; rw [h4]; show _ = - ε * de_det (tb_bs m A T.2.2.2) _; grind⟩, fun j hj r => ?_, fun r => ?_⟩
  · show - T.1 * A j r = sm m (fun k => - T.2.1 k j * _)
    rw [sm_congr (g := fun k => (-1) * (T.2.1 k j * (tb_bs m A T.2.2.2).getD k (fun _ => 0) r)) (fun k _ => by show - T.2.1 k j * (tb_bs m A T.2.2.2).getD k (fun _ => 0) r = _; grind), sm_mul, ← h5 j hj r]
    grind
  · show - T.1 * b r = sm m (fun k => - T.2.2.1 k * _)
    rw [sm_congr (g := fun k => (-1) * (T.2.2.1 k * (tb_bs m A T.2.2.2).getD k (fun _ => 0) r)) (fun k _ => by show - T.2.2.1 k * (tb_bs m A T.2.2.2).getD k (fun _ => 0) r = _; grind), sm_mul, ← h6 r]
    grind
/-! the basis' columns are apart, each variable gives one row -/
theorem tb_ind {T : tb_T} (h : tb_J m N A b T) {al : Nat → Int} (ha : ∀ q, sm m (fun k => al k * tb_Ae A (T.2.2.2 k) q) = 0) : ∀ i, i < m → al i = 0 := by
  obtain ⟨h1, ⟨h2, ε, h3, h4⟩, h5, h6⟩ := h
  refine pv_ind (tb_bs_len m A T.2.2.2) (rows := List.range m) (fun z => h2 (by rw [h4, z]; simp)) (fun r => ?_)
  rw [sm_congr (g := fun k => al k * tb_Ae A (T.2.2.2 k) r) (fun k hk => by rw [tb_bs_get hk])]
  exact ha r
theorem tb_inj {T : tb_T} (h : tb_J m N A b T) : ∀ i j, i < m → j < m → T.2.2.2 i = T.2.2.2 j → i = j := by
  intro i j hi hj e
  by_cases hij : i = j
  · exact hij
  · exfalso
    have := tb_ind h (al := fun k => if k = i then 1 else if k = j then -1 else 0) (fun q => by
      have e1 : sm m (fun k => (if k = i then 1 else if k = j then -1 else 0) * tb_Ae A (T.2.2.2 k) q) = sm m (fun k => if k = i then tb_Ae A (T.2.2.2 i) q else 0) + sm m (fun k => if k = j then - tb_Ae A (T.2.2.2 i) q else 0) := by
        rw [← sm_add]
        refine sm_congr fun k _ => ?_
        by_cases q1 : k = i
        · subst q1; simp [hij]
        · by_cases q2 : k = j
          · subst q2; simp [q1, e]
          · simp [q1, q2]
      rw [e1, sm_one (i := i) hi (fun k _ hn => if_neg hn), sm_one (i := j) hj (fun k _ hn => if_neg hn), if_pos rfl, if_pos rfl]
      omega) i hi
    simp at this
/-- the cells, with those of the makeshift variables -/
def tb_ce (T : tb_T) (i x : Nat) : Int := if x < 13 then T.2.1 i x else if x = 13 + i then T.1 else 0
/-- variables that count: the real ones, and the makeshift ones of the basis -/
def tb_ok (N : Nat) (m : Nat) (g : Nat → Nat) (x : Nat) : Prop := x < N ∨ ∃ i, i < m ∧ g i = 13 + i ∧ x = 13 + i
theorem tb_col {T : tb_T} (hN : N ≤ 13) (h : tb_J m N A b T) {x : Nat} (hx : tb_ok N m T.2.2.2 x) (q : Nat) : T.1 * tb_Ae A x q = sm m (fun i => tb_ce T i x * tb_Ae A (T.2.2.2 i) q) := by
  obtain ⟨h1, h2, h3, h4⟩ := h
  rcases hx with hx | ⟨i, hi, e1, e2⟩
  · have := h3 x hx q
    unfold tb_Ae
    rw [if_pos (show x < 13 by omega), this]
    refine sm_congr fun k hk => ?_
    rw [tb_bs_get hk]
    unfold tb_ce
    rw [if_pos (show x < 13 by omega)]
    rfl
  · rw [sm_one (i := i) hi (fun k hk hn => by
      unfold tb_ce
      rw [if_neg (by omega), if_neg (by omega)]
      simp), e1, ← e2]
    unfold tb_ce
    rw [if_neg (by omega), if_pos e2]
theorem tb_rs {T : tb_T} {X : Nat} (hN : N ≤ 13) (h : tb_J m N A b T) {y : Nat → Int} {t : Int} (h0 : ∀ x, x < X → ¬ tb_ok N m T.2.2.2 x → y x = 0) (hy : ∀ q, sm X (fun x => y x * tb_Ae A x q) = t * b q) : ∀ i, i < m → sm X (fun x => tb_ce T i x * y x) = t * T.2.2.1 i := by
  intro i hi
  have := tb_ind h (al := fun i => sm X (fun x => tb_ce T i x * y x) - t * T.2.2.1 i) (fun q => ?_) i hi
  · have h9 : sm X (fun x => tb_ce T i x * y x) - t * T.2.2.1 i = 0 := this
    omega
  · have e1 : sm m (fun k => (sm X (fun x => tb_ce T k x * y x) - t * T.2.2.1 k) * tb_Ae A (T.2.2.2 k) q) = sm m (fun k => sm X (fun x => tb_ce T k x * y x * tb_Ae A (T.2.2.2 k) q)) + (-t) * sm m (fun k => T.2.2.1 k * tb_Ae A (T.2.2.2 k) q) := by
      rw [← sm_mul, ← sm_add]
      refine sm_congr fun k _ => ?_
      rw [sm_congr (f := fun x => tb_ce T k x * y x * tb_Ae A (T.2.2.2 k) q) (g := fun x => tb_Ae A (T.2.2.2 k) q * (tb_ce T k x * y x)) (fun x _ => by grind), sm_mul]
      grind
    have e2 : sm m (fun k => T.2.2.1 k * tb_Ae A (T.2.2.2 k) q) = T.1 * b q := by
      rw [h.2.2.2 q]
      exact sm_congr fun k hk => by rw [tb_bs_get hk]
    have e3 : sm m (fun k => sm X (fun x => tb_ce T k x * y x * tb_Ae A (T.2.2.2 k) q)) = T.1 * (t * b q) := by
      rw [sm_swap, ← hy q, ← sm_mul]
      refine sm_congr fun x hx => ?_
      rw [sm_congr (f := fun k => tb_ce T k x * y x * tb_Ae A (T.2.2.2 k) q) (g := fun k => y x * (tb_ce T k x * tb_Ae A (T.2.2.2 k) q)) (fun k _ => by grind), sm_mul]
      by_cases hok : tb_ok N m T.2.2.2 x
      · rw [← tb_col hN h hok q]; grind
      · rw [h0 x hx hok]; simp
    rw [e1, e2, e3]
    grind
theorem tb_unit {T : tb_T} (hN : N ≤ 13) (h : tb_J m N A b T) {i k : Nat} (hi : i < m) (hk : k < m) : tb_ce T k (T.2.2.2 i) = if k = i then T.1 else 0 := by
  have hok : tb_ok N m T.2.2.2 (T.2.2.2 i) := by
    rcases h.1 i hi with q | q
    · exact Or.inl q
    · exact Or.inr ⟨i, hi, q, q⟩
  have := tb_ind h (al := fun k => tb_ce T k (T.2.2.2 i) - (if k = i then T.1 else 0)) (fun q => by
    have e1 : sm m (fun k => (tb_ce T k (T.2.2.2 i) - (if k = i then T.1 else 0)) * tb_Ae A (T.2.2.2 k) q) = sm m (fun k => tb_ce T k (T.2.2.2 i) * tb_Ae A (T.2.2.2 k) q) + sm m (fun k => if k = i then - (T.1 * tb_Ae A (T.2.2.2 i) q) else 0) := by
      rw [← sm_add]
      refine sm_congr fun k _ => ?_
      by_cases z : k = i
      · subst z; simp only [if_true]; grind
      · simp [z]
    rw [e1, ← tb_col hN h hok q, sm_one (i := i) hi (fun k _ hn => if_neg hn), if_pos rfl]
    omega) k hk
  have h9 : tb_ce T k (T.2.2.2 i) - (if k = i then T.1 else 0) = 0 := this
  omega
/-! the goal's row, for weights on the variables -/
def tb_r (m : Nat) (w : Nat → Int) (T : tb_T) (x : Nat) : Int := sm m (fun i => w (T.2.2.2 i) * tb_ce T i x) - T.1 * w x
def tb_v (m : Nat) (w : Nat → Int) (T : tb_T) : Int := sm m (fun i => w (T.2.2.2 i) * T.2.2.1 i)
theorem tb_bl {T : tb_T} (hN : N ≤ 13) (h : tb_I m N A b T) (w : Nat → Int) : bl_T m (13 + m) (tb_Ae A) b (List.range m) (tb_ok N m T.2.2.2) w T.1 (tb_ce T) T.2.2.1 T.2.2.2 (tb_r m w T) (tb_v m w T) := by
  obtain ⟨hJ, hD, hs⟩ := h
  refine ⟨hD, hs, fun i hi => ?_, tb_inj hJ, fun al ha => tb_ind hJ ha, fun x _ hx q => tb_col hN hJ hx q, fun q => ?_, fun y t h0 hy => ?_, fun i hi => ?_⟩
  · rcases hJ.1 i hi with q | q
    · exact ⟨by omega, Or.inl q⟩
    · exact ⟨by omega, Or.inr ⟨i, hi, q, q⟩⟩
  · rw [hJ.2.2.2 q]
    exact sm_congr fun k hk => by rw [tb_bs_get hk]
  · have hr := tb_rs hN hJ h0 hy
    have e1 : sm (13 + m) (fun x => tb_r m w T x * y x) = sm m (fun i => w (T.2.2.2 i) * sm (13 + m) (fun x => tb_ce T i x * y x)) + (- T.1) * sm (13 + m) (fun x => w x * y x) := by
      rw [← sm_mul]
      rw [sm_congr (n := m) (f := fun i => w (T.2.2.2 i) * sm (13 + m) (fun x => tb_ce T i x * y x)) (g := fun i => sm (13 + m) (fun x => w (T.2.2.2 i) * (tb_ce T i x * y x))) (fun i _ => (sm_mul _ _ _).symm), sm_swap, ← sm_add]
      refine sm_congr fun x _ => ?_
      unfold tb_r
      rw [sm_congr (f := fun i => w (T.2.2.2 i) * (tb_ce T i x * y x)) (g := fun i => y x * (w (T.2.2.2 i) * tb_ce T i x)) (fun i _ => by grind), sm_mul]
      grind
    have e2 : sm m (fun i => w (T.2.2.2 i) * sm (13 + m) (fun x => tb_ce T i x * y x)) = t * tb_v m w T := by
      unfold tb_v
      rw [← sm_mul]
      exact sm_congr fun i hi => by rw [hr i hi]; grind
    rw [e1, e2]
    grind
  · unfold tb_r
    rw [sm_congr (g := fun k => if k = i then w (T.2.2.2 i) * T.1 else 0) (fun k hk => by
      rw [tb_unit hN hJ hi hk]
      by_cases z : k = i
      · subst z; simp
      · simp [z]), sm_one (i := i) hi (fun k _ hn => if_neg hn), if_pos rfl]
    grind
end TB
