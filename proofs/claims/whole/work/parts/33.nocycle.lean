/-! ===== THE LOWEST NUMBER's RULE, itself ===== -/
section BM
variable {m X : Nat} {Ae : Nat → Nat → Int} {bb : Nat → Int} {rows : List Nat} {ok : Nat → Prop} {w : Nat → Int}
/-- one step by the rule -/
def bl_st (m X : Nat) (ok : Nat → Prop) (D : Int) (c : Nat → Nat → Int) (s : Nat → Int) (g : Nat → Nat) (r : Nat → Int) (v : Int) (D1 : Int) (s1 : Nat → Int) (g1 : Nat → Nat) (v1 : Int) (e l : Nat) : Prop :=
  e < X ∧ ok e ∧ 0 < r e ∧ (∀ x, x < e → ok x → r x ≤ 0) ∧ l < m ∧ 0 < c l e ∧
  (∀ i, i < m → 0 < c i e → s l * c i e < s i * c l e ∨ (s l * c i e = s i * c l e ∧ g l ≤ g i)) ∧
  D1 = c l e ∧ (∀ i, i < m → g1 i = if i = l then e else g i) ∧ (∀ i, i < m → i ≠ l → s1 i * D = s i * c l e - c i e * s l) ∧ s1 l = s l ∧ v1 * D = v * D1 - r e * s l
def bl_in (m : Nat) (g : Nat → Nat) (x : Nat) : Prop := ∃ i, i < m ∧ g i = x
variable {D : Nat → Int} {c : Nat → Nat → Nat → Int} {s : Nat → Nat → Int} {g : Nat → Nat → Nat} {r : Nat → Nat → Int} {v : Nat → Int} {e l : Nat → Nat} {p q : Nat}
theorem bl_same (T : bl_T m X Ae bb rows ok w (D p) (c p) (s p) (g p) (r p) (v p)) (T2 : bl_T m X Ae bb rows ok w (D q) (c q) (s q) (g q) (r q) (v q)) (hs : ∀ x, bl_in m (g p) x ↔ bl_in m (g q) x) : D p * v q = D q * v p := by
  have hv := bl_val T
  have hv2 := bl_val T2
  obtain ⟨h1, h2, h3, h4, h5, h6, h7, h8, h9⟩ := T
  obtain ⟨k1, k2, k3, k4, k5, k6, k7, k8, k9⟩ := T2
  let y : Nat → Int := fun x => sm m (fun i => if g q i = x then s q i else 0)
  have yg : ∀ i, i < m → y (g q i) = s q i := fun i hi => by
    show sm m (fun k => if g q k = g q i then s q k else 0) = s q i
    rw [sm_one (i := i) hi (fun k hk hn => if_neg (fun z => hn (k4 k i hk hi z))), if_pos rfl]
  have y0 : ∀ x, (∀ i, i < m → g q i ≠ x) → y x = 0 := fun x hx => by
    show sm m (fun k => if g q k = x then s q k else 0) = 0
    rw [sm_congr (g := fun _ => 0) (fun k hk => if_neg (hx k hk)), sm_zero]
  have y1 : ∀ x, (∀ i, i < m → g p i ≠ x) → y x = 0 := fun x hx => y0 x (fun i hi z => by
    obtain ⟨j, hj, ej⟩ := (hs x).mpr ⟨i, hi, z⟩
    exact hx j hj ej)
  have hX : ∀ i, i < m → g p i < X := fun i hi => (h3 i hi).1
  have kX : ∀ i, i < m → g q i < X := fun i hi => (k3 i hi).1
  have re : ∀ f : Nat → Int, sm m (fun i => s q i * f (g q i)) = sm m (fun i => y (g p i) * f (g p i)) := fun f => by
    have a1 := bl_sum kX k4 (fun x => y x * f x) (fun x _ hx => by rw [y0 x hx]; simp)
    have a2 := bl_sum hX h4 (fun x => y x * f x) (fun x _ hx => by rw [y1 x hx]; simp)
    rw [← a2, a1]
    exact sm_congr fun i hi => by rw [yg i hi]
  have hz : ∀ i, i < m → D q * s p i - D p * y (g p i) = 0 := by
    refine h5 (fun i => D q * s p i - D p * y (g p i)) (fun z => ?_)
    have a1 := h7 z
    have a2 := k7 z
    rw [re (fun x => Ae x z)] at a2
    have : sm m (fun k => (D q * s p k - D p * y (g p k)) * Ae (g p k) z) = D q * sm m (fun k => s p k * Ae (g p k) z) + (- D p) * sm m (fun k => y (g p k) * Ae (g p k) z) := by
      rw [← sm_mul, ← sm_mul, ← sm_add]
      exact sm_congr fun k _ => by grind
    rw [this, ← a1, ← a2]
    grind
  rw [← hv, ← hv2]
  have a3 : sm m (fun i => w (g q i) * s q i) = sm m (fun i => w (g p i) * y (g p i)) := by
    have := re w
    rw [sm_congr (f := fun i => w (g q i) * s q i) (g := fun i => s q i * w (g q i)) (fun i _ => Int.mul_comm _ _), this]
    exact sm_congr fun i _ => Int.mul_comm _ _
  rw [a3, ← sm_mul, ← sm_mul]
  refine sm_congr fun i hi => ?_
  have := hz i hi
  grind
/-- between two places where it is in and isn't, a variable leaves -/
theorem bl_leaves (S : ∀ k, p ≤ k → k < q → bl_st m X ok (D k) (c k) (s k) (g k) (r k) (v k) (D (k + 1)) (s (k + 1)) (g (k + 1)) (v (k + 1)) (e k) (l k)) {x : Nat} : ∀ (n a : Nat), p ≤ a → a + n ≤ q → bl_in m (g a) x → ¬ bl_in m (g (a + n)) x → ∃ k, a ≤ k ∧ k < a + n ∧ bl_in m (g k) x ∧ g k (l k) = x
  | 0, a, _, _, h1, h2 => absurd h1 h2
  | n + 1, a, hp, hq, h1, h2 => by
    by_cases h : bl_in m (g (a + 1)) x
    · obtain ⟨k, k1, k2, k3⟩ := bl_leaves S n (a + 1) (by omega) (by omega) h (by rw [show a + 1 + n = a + (n + 1) by omega]; exact h2)
      exact ⟨k, by omega, by omega, k3⟩
    · refine ⟨a, Nat.le_refl _, by omega, h1, ?_⟩
      obtain ⟨i, hi, ei⟩ := h1
      have st := S a hp (by omega)
      have hg := st.2.2.2.2.2.2.2.2.1 i hi
      by_cases hil : i = l a
      · rw [← hil]; exact ei
      · rw [if_neg hil] at hg
        exact absurd ⟨i, hi, hg.trans ei⟩ h
theorem bl_enters (S : ∀ k, p ≤ k → k < q → bl_st m X ok (D k) (c k) (s k) (g k) (r k) (v k) (D (k + 1)) (s (k + 1)) (g (k + 1)) (v (k + 1)) (e k) (l k)) {x : Nat} : ∀ (n a : Nat), p ≤ a → a + n ≤ q → ¬ bl_in m (g a) x → bl_in m (g (a + n)) x → ∃ k, a ≤ k ∧ k < a + n ∧ e k = x
  | 0, a, _, _, h1, h2 => absurd h2 h1
  | n + 1, a, hp, hq, h1, h2 => by
    by_cases h : bl_in m (g (a + 1)) x
    · refine ⟨a, Nat.le_refl _, by omega, ?_⟩
      obtain ⟨i, hi, ei⟩ := h
      have st := S a hp (by omega)
      have hg := st.2.2.2.2.2.2.2.2.1 i hi
      by_cases hil : i = l a
      · rw [if_pos hil] at hg; exact hg.symm.trans ei
      · rw [if_neg hil] at hg
        exact absurd ⟨i, hi, hg.symm.trans ei⟩ h1
    · obtain ⟨k, k1, k2, k3⟩ := bl_enters S n (a + 1) (by omega) (by omega) h (by rw [show a + 1 + n = a + (n + 1) by omega]; exact h2)
      exact ⟨k, by omega, by omega, k3⟩
/-- a greatest entering one -/
theorem bl_max (e : Nat → Nat) (p : Nat) : ∀ n, 0 < n → ∃ k, p ≤ k ∧ k < p + n ∧ ∀ j, p ≤ j → j < p + n → e j ≤ e k
  | 0, h => absurd h (by omega)
  | 1, _ => ⟨p, Nat.le_refl _, by omega, fun j h1 h2 => by rw [show j = p by omega]; exact Nat.le_refl _⟩
  | n + 2, _ => by
    obtain ⟨k, h1, h2, h3⟩ := bl_max e p (n + 1) (by omega)
    by_cases h : e (p + (n + 1)) ≤ e k
    · refine ⟨k, h1, by omega, fun j a1 a2 => ?_⟩
      by_cases q : j = p + (n + 1)
      · rw [q]; exact h
      · exact h3 j a1 (by omega)
    · refine ⟨p + (n + 1), by omega, by omega, fun j a1 a2 => ?_⟩
      by_cases q : j = p + (n + 1)
      · rw [q]; exact Nat.le_refl _
      · have := h3 j a1 (by omega); omega
theorem sm_neg : ∀ {n : Nat} {f : Nat → Int}, sm n f < 0 → ∃ i, i < n ∧ f i < 0
  | 0, f, h => absurd h (by simp [sm])
  | n + 1, f, h => by
    by_cases hn : f n < 0
    · exact ⟨n, by omega, hn⟩
    · obtain ⟨i, h1, h2⟩ := sm_neg (n := n) (f := f) (by unfold sm at h; omega)
      exact ⟨i, by omega, h2⟩
theorem bl_main (hpq : p < q) (T : ∀ k, p ≤ k → k ≤ q → bl_T m X Ae bb rows ok w (D k) (c k) (s k) (g k) (r k) (v k))
    (S : ∀ k, p ≤ k → k < q → bl_st m X ok (D k) (c k) (s k) (g k) (r k) (v k) (D (k + 1)) (s (k + 1)) (g (k + 1)) (v (k + 1)) (e k) (l k)) (hs : ∀ x, bl_in m (g p) x ↔ bl_in m (g q) x) : False := by
  have hD : ∀ k, p ≤ k → k ≤ q → 0 < D k := fun k a1 a2 => (T k a1 a2).1
  -- all steps stand still
  have mono : ∀ n, p + n ≤ q → v (p + n) * D p ≤ v p * D (p + n) ∧ ((∃ k, p ≤ k ∧ k < p + n ∧ s k (l k) ≠ 0) → v (p + n) * D p < v p * D (p + n)) := by
    intro n
    induction n with
    | zero => intro _; exact ⟨Int.le_refl _, fun ⟨k, a1, a2, _⟩ => absurd a2 (by omega)⟩
    | succ n ih =>
      intro hn
      obtain ⟨i1, i2⟩ := ih (by omega)
      have st := S (p + n) (by omega) (by omega)
      have hk := hD (p + n) (by omega) (by omega)
      have hk1 := hD (p + n + 1) (by omega) (by omega)
      have h0 := hD p (Nat.le_refl _) (by omega)
      have er := st.2.2.1
      have sl := (T (p + n) (by omega) (by omega)).2.1 (l (p + n)) st.2.2.2.2.1
      have ev := st.2.2.2.2.2.2.2.2.2.2.2
      have hrs : 0 ≤ r (p + n) (e (p + n)) * s (p + n) (l (p + n)) := Int.mul_nonneg (by omega) sl
      have g1 : v (p + n + 1) * D p * D (p + n) = v (p + n) * D p * D (p + n + 1) - r (p + n) (e (p + n)) * s (p + n) (l (p + n)) * D p := by grind
      have hrs2 : 0 ≤ r (p + n) (e (p + n)) * s (p + n) (l (p + n)) * D p := Int.mul_nonneg hrs (by omega)
      have g2 : v (p + n) * D p * D (p + n + 1) ≤ v p * D (p + n) * D (p + n + 1) := Int.mul_le_mul_of_nonneg_right i1 (by omega)
      have g3 : v p * D (p + n) * D (p + n + 1) = v p * D (p + n + 1) * D (p + n) := by grind
      refine ⟨Int.le_of_mul_le_mul_right (a := D (p + n)) (by rw [show p + (n + 1) = p + n + 1 by omega]; omega) hk, fun ⟨k, a1, a2, a3⟩ => ?_⟩
      refine Int.lt_of_mul_lt_mul_right (a := D (p + n)) (by
        rw [show p + (n + 1) = p + n + 1 by omega]
        by_cases hkn : k = p + n
        · subst hkn
          have : 0 < r (p + n) (e (p + n)) * s (p + n) (l (p + n)) * D p := Int.mul_pos (Int.mul_pos er (by omega)) h0
          omega
        · have g4 := i2 ⟨k, a1, by omega, a3⟩
          have g5 : v (p + n) * D p * D (p + n + 1) < v p * D (p + n) * D (p + n + 1) := Int.mul_lt_mul_of_pos_right g4 hk1
          omega) (Int.le_of_lt hk)
  have deg : ∀ k, p ≤ k → k < q → s k (l k) = 0 := by
    intro k a1 a2
    by_cases h : s k (l k) = 0
    · exact h
    · have := (mono (q - p) (by omega)).2 ⟨k, a1, by omega, h⟩
      rw [show p + (q - p) = q by omega] at this
      have e1 := bl_same (T p (Nat.le_refl _) (by omega)) (T q (by omega) (Nat.le_refl _)) hs
      have : v q * D p = v p * D q := by grind
      omega
  -- what is 0 stays 0
  have zstep : ∀ k, p ≤ k → k < q → ∀ x, (∀ i, i < m → g k i = x → s k i = 0) ↔ (∀ i, i < m → g (k + 1) i = x → s (k + 1) i = 0) := by
    intro k a1 a2 x
    have st := S k a1 a2
    have hk := hD k a1 (by omega)
    have hd := deg k a1 a2
    have hcl := st.2.2.2.2.2.1
    have hg := st.2.2.2.2.2.2.2.2.1
    have hs1 := st.2.2.2.2.2.2.2.2.2.1
    have hs2 := st.2.2.2.2.2.2.2.2.2.2.1
    have key : ∀ i, i < m → i ≠ l k → (s k i = 0 ↔ s (k + 1) i = 0) := by
      intro i hi hn
      have e1 := hs1 i hi hn
      rw [hd, Int.mul_zero, Int.sub_zero] at e1
      constructor
      · intro z
        rw [z, Int.zero_mul] at e1
        rcases Int.mul_eq_zero.mp e1 with q1 | q1
        · exact q1
        · omega
      · intro z
        rw [z, Int.zero_mul] at e1
        rcases Int.mul_eq_zero.mp e1.symm with q1 | q1
        · exact q1
        · omega
    constructor
    · intro h i hi hx
      by_cases hil : i = l k
      · rw [hil, hs2, hd]
      · rw [hg i hi, if_neg hil] at hx
        exact (key i hi hil).mp (h i hi hx)
    · intro h i hi hx
      by_cases hil : i = l k
      · rw [hil, hd]
      · refine (key i hi hil).mpr (h i hi ?_)
        rw [hg i hi, if_neg hil, hx]
  have zall : ∀ x n, p + n ≤ q → ((∀ i, i < m → g p i = x → s p i = 0) ↔ (∀ i, i < m → g (p + n) i = x → s (p + n) i = 0)) := by
    intro x n
    induction n with
    | zero => intro _; exact Iff.rfl
    | succ n ih => intro hn; exact (ih (by omega)).trans (zstep (p + n) (by omega) (by omega) x)
  -- the greatest one that enters
  obtain ⟨k1, b1, b2, b3⟩ := bl_max e p (q - p) (by omega)
  have b2 : k1 < q := by omega
  have b3 : ∀ j, p ≤ j → j < q → e j ≤ e k1 := fun j a1 a2 => b3 j a1 (by omega)
  have st1 := S k1 b1 b2
  have nin : ∀ k, p ≤ k → k < q → ¬ bl_in m (g k) (e k) := fun k a1 a2 ⟨i, hi, ei⟩ => by
    have h0 := (T k a1 (by omega)).2.2.2.2.2.2.2.2 i hi
    have h1 := (S k a1 a2).2.2.1
    rw [ei] at h0
    omega
  have lv : ∃ a, p ≤ a ∧ a < q ∧ g a (l a) = e k1 := by
    by_cases h : bl_in m (g q) (e k1)
    · have hp := (hs _).mpr h
      obtain ⟨a, c1, c2, c3, c4⟩ := bl_leaves S (k1 - p) p (Nat.le_refl _) (by omega) hp (by rw [show p + (k1 - p) = k1 by omega]; exact nin k1 b1 b2)
      exact ⟨a, c1, by omega, c4⟩
    · have hin : bl_in m (g (k1 + 1)) (e k1) := ⟨l k1, st1.2.2.2.2.1, by rw [st1.2.2.2.2.2.2.2.2.1 _ st1.2.2.2.2.1, if_pos rfl]⟩
      obtain ⟨a, c1, c2, c3, c4⟩ := bl_leaves S (q - (k1 + 1)) (k1 + 1) (by omega) (by omega) hin (by rw [show k1 + 1 + (q - (k1 + 1)) = q by omega]; exact h)
      exact ⟨a, by omega, by omega, c4⟩
  obtain ⟨a, a1, a2, a3⟩ := lv
  have sta := S a a1 a2
  have hla := sta.2.2.2.2.1
  have cr := bl_cross (T a a1 (by omega)) (T k1 b1 (by omega)) sta.1 sta.2.1 (fun i hi ei => nin a a1 a2 ⟨i, hi, ei⟩)
  have hne : e a ≠ e k1 := fun h => nin a a1 a2 ⟨l a, hla, a3.trans h.symm⟩
  have hlt : e a < e k1 := by have := b3 a a1 a2; omega
  have r2 := st1.2.2.2.1 (e a) hlt sta.2.1
  have hpos : 0 < D k1 * r a (e a) := Int.mul_pos (hD k1 b1 (by omega)) sta.2.2.1
  have hsum : 0 < sm m (fun i => (-1) * (r k1 (g a i) * c a i (e a))) := by
    rw [sm_mul]
    have : r k1 (e a) * D a ≤ 0 := Int.mul_nonpos_of_nonpos_of_nonneg r2 (Int.le_of_lt (hD a a1 (by omega)))
    omega
  obtain ⟨i, hi, hin⟩ := sm_neg (n := m) (f := fun i => r k1 (g a i) * c a i (e a)) (by rw [sm_mul] at hsum; omega)
  have hin : r k1 (g a i) * c a i (e a) < 0 := hin
  by_cases hit : g a i = e k1
  · have : i = l a := (T a a1 (by omega)).2.2.2.1 i (l a) hi hla (hit.trans a3.symm)
    subst this
    have h1 := sta.2.2.2.2.2.1
    have h2 := st1.2.2.1
    rw [hit] at hin
    have := Int.mul_pos h2 h1
    omega
  · have hr0 : r k1 (g a i) ≠ 0 := fun z => by rw [z, Int.zero_mul] at hin; omega
    have nk1 : ¬ bl_in m (g k1) (g a i) := fun ⟨j, hj, ej⟩ => hr0 (by rw [← ej]; exact (T k1 b1 (by omega)).2.2.2.2.2.2.2.2 j hj)
    have hent : ∃ k, p ≤ k ∧ k < q ∧ e k = g a i := by
      by_cases h : bl_in m (g q) (g a i)
      · obtain ⟨k, c1, c2, c3⟩ := bl_enters S (q - k1) k1 b1 (by omega) nk1 (by rw [show k1 + (q - k1) = q by omega]; exact h)
        exact ⟨k, by omega, by omega, c3⟩
      · have hnp : ¬ bl_in m (g p) (g a i) := fun z => h ((hs _).mp z)
        obtain ⟨k, c1, c2, c3⟩ := bl_enters S (a - p) p (Nat.le_refl _) (by omega) hnp (by rw [show p + (a - p) = a by omega]; exact ⟨i, hi, rfl⟩)
        exact ⟨k, c1, by omega, c3⟩
    obtain ⟨k, c1, c2, c3⟩ := hent
    have hle : g a i < e k1 := by have := b3 k c1 c2; omega
    have hok := ((T a a1 (by omega)).2.2.1 i hi).2
    have hr1 := st1.2.2.2.1 (g a i) hle hok
    have hci : 0 < c a i (e a) := by
      by_cases z : 0 < c a i (e a)
      · exact z
      · have : 0 ≤ r k1 (g a i) * c a i (e a) := Int.mul_nonneg_of_nonpos_of_nonpos hr1 (by omega)
        omega
    have z1 : ∀ j, j < m → g k1 j = g a i → s k1 j = 0 := fun j hj ej => absurd ⟨j, hj, ej⟩ nk1
    have z2 := (zall (g a i) (k1 - p) (by omega)).mpr (by rw [show p + (k1 - p) = k1 by omega]; exact z1)
    have z3 := (zall (g a i) (a - p) (by omega)).mp z2
    rw [show p + (a - p) = a by omega] at z3
    have z4 := z3 i hi rfl
    have rt := sta.2.2.2.2.2.2.1 i hi hci
    rw [deg a a1 a2, z4, a3] at rt
    rcases rt with rt | ⟨_, rt⟩
    · omega
    · omega
end BM
