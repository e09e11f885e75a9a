/-! ===== THE LOWEST NUMBER's RULE: no basis comes again ===== -/
/-- columns that are a basis: only nothing adds up to nothing -/
theorem pv_ind {m : Nat} {bs : List (Nat → Int)} (hl : bs.length = m) {rows : List Nat} (hd : de_det bs rows ≠ 0) {al : Nat → Int} (h : ∀ r, sm m (fun k => al k * bs.getD k (fun _ => 0) r) = 0) : ∀ i, i < m → al i = 0 := by
  intro i hi
  have e := de_comb bs i (by omega) al rows m (by omega)
  rw [if_pos hi] at e
  have e2 : (fun r => sm m (fun k => al k * bs.getD k (fun _ => 0) r)) = fun r => 0 * (fun _ => (0 : Int)) r := funext fun r => by rw [h r]; simp
  rw [e2, de_scale _ _ _ _ _ (by omega), Int.zero_mul] at e
  rcases Int.mul_eq_zero.mp e.symm with q | q
  · exact q
  · exact absurd q hd
/-- a sum over the variables, of which only the basis' and one more are not 0 -/
theorem bl_sum {m X : Nat} {g : Nat → Nat} (hX : ∀ i, i < m → g i < X) (hinj : ∀ i j, i < m → j < m → g i = g j → i = j) (f : Nat → Int) (hf : ∀ v, v < X → (∀ i, i < m → g i ≠ v) → f v = 0) : sm X f = sm m (fun i => f (g i)) := by
  have e1 : sm X f = sm X (fun v => sm m (fun i => if g i = v then f v else 0)) := by
    refine sm_congr fun v hv => ?_
    by_cases h : ∃ i, i < m ∧ g i = v
    · obtain ⟨i, hi, e⟩ := h
      rw [sm_one (i := i) hi (fun k hk hn => by
        rw [if_neg]
        intro q
        exact hn (hinj k i hk hi (q.trans e.symm)))]
      rw [if_pos e]
    · have h' : ∀ i, i < m → g i ≠ v := fun i hi q => h ⟨i, hi, q⟩
      rw [hf v hv h', sm_congr (g := fun _ => 0) (fun k hk => if_neg (h' k hk)), sm_zero]
  rw [e1, sm_swap]
  refine sm_congr fun i hi => ?_
  rw [sm_one (i := g i) (hX i hi) (fun v _ hn => if_neg (fun q => hn q.symm)), if_pos rfl]
/-- the pigeons' holes -/
theorem ph_two (N : Nat) : ∀ (f : Nat → Nat), (∀ i, i ≤ N → f i < N) → ∃ i j, i < j ∧ j ≤ N ∧ f i = f j := by
  induction N with
  | zero => intro f h; exact absurd (h 0 (Nat.le_refl 0)) (by omega)
  | succ N ih =>
    intro f h
    by_cases hx : ∃ i, i ≤ N ∧ f i = f (N + 1)
    · obtain ⟨i, hi, e⟩ := hx
      exact ⟨i, N + 1, by omega, Nat.le_refl _, e⟩
    · have hne : ∀ i, i ≤ N → f i ≠ f (N + 1) := fun i hi e => hx ⟨i, hi, e⟩
      have hL := h (N + 1) (Nat.le_refl _)
      -- rename the last value to the top
      obtain ⟨i, j, h1, h2, h3⟩ := ih (fun i => if f i = N then f (N + 1) else f i) (fun i hi => by
        have := h i (by omega)
        have hn := hne i hi
        show (if f i = N then f (N + 1) else f i) < N
        by_cases e : f i = N
        · rw [if_pos e]; omega
        · rw [if_neg e]; omega)
      refine ⟨i, j, h1, by omega, ?_⟩
      have n1 := hne i (by omega)
      have n2 := hne j h2
      have h3 : (if f i = N then f (N + 1) else f i) = (if f j = N then f (N + 1) else f j) := h3
      by_cases e1 : f i = N <;> by_cases e2 : f j = N
      · omega
      · rw [if_pos e1, if_neg e2] at h3; exact absurd h3.symm n2
      · rw [if_neg e1, if_pos e2] at h3; exact absurd h3 n1
      · rw [if_neg e1, if_neg e2] at h3; exact h3
section BL
variable {m X : Nat} {Ae : Nat → Nat → Int} {bb : Nat → Int} {rows : List Nat} {ok : Nat → Prop} {w : Nat → Int}
/-- a tableau: D, cells, sums, basis, the goal's row and value -/
def bl_T (m X : Nat) (Ae : Nat → Nat → Int) (bb : Nat → Int) (rows : List Nat) (ok : Nat → Prop) (w : Nat → Int) (D : Int) (c : Nat → Nat → Int) (s : Nat → Int) (g : Nat → Nat) (r : Nat → Int) (v : Int) : Prop :=
  0 < D ∧ (∀ i, i < m → 0 ≤ s i) ∧ (∀ i, i < m → g i < X ∧ ok (g i)) ∧ (∀ i j, i < m → j < m → g i = g j → i = j) ∧
  (∀ al : Nat → Int, (∀ q, sm m (fun k => al k * Ae (g k) q) = 0) → ∀ i, i < m → al i = 0) ∧
  (∀ x, x < X → ok x → ∀ q, D * Ae x q = sm m (fun i => c i x * Ae (g i) q)) ∧ (∀ q, D * bb q = sm m (fun i => s i * Ae (g i) q)) ∧
  (∀ (y : Nat → Int) (t : Int), (∀ x, x < X → ¬ ok x → y x = 0) → (∀ q, sm X (fun x => y x * Ae x q) = t * bb q) → D * sm X (fun x => w x * y x) = t * v - sm X (fun x => r x * y x)) ∧
  (∀ i, i < m → r (g i) = 0)
/-- the point of a tableau gives the goal's value -/
theorem bl_val {D : Int} {c : Nat → Nat → Int} {s : Nat → Int} {g : Nat → Nat} {r : Nat → Int} {v : Int} (T : bl_T m X Ae bb rows ok w D c s g r v) : sm m (fun i => w (g i) * s i) = v := by
  obtain ⟨h1, h2, h3, h4, h5, h6, h7, h8, h9⟩ := T
  -- the point as a vector over the variables
  let y : Nat → Int := fun x => sm m (fun i => if g i = x then s i else 0)
  have yg : ∀ i, i < m → y (g i) = s i := fun i hi => by
    show sm m (fun k => if g k = g i then s k else 0) = s i
    rw [sm_one (i := i) hi (fun k hk hn => if_neg (fun q => hn (h4 k i hk hi q)))]
    rw [if_pos rfl]
  have y0 : ∀ x, (∀ i, i < m → g i ≠ x) → y x = 0 := fun x hx => by
    show sm m (fun k => if g k = x then s k else 0) = 0
    rw [sm_congr (g := fun _ => 0) (fun k hk => if_neg (hx k hk)), sm_zero]
  have hX : ∀ i, i < m → g i < X := fun i hi => (h3 i hi).1
  have e := h8 y D (fun x _ hn => y0 x (fun i hi q => hn (q ▸ (h3 i hi).2))) (fun q => by
    rw [bl_sum hX h4 (fun x => y x * Ae x q) (fun x _ hx => by rw [y0 x hx]; simp), h7 q]
    exact sm_congr fun i hi => by rw [yg i hi])
  rw [bl_sum hX h4 (fun x => w x * y x) (fun x _ hx => by rw [y0 x hx]; simp), bl_sum hX h4 (fun x => r x * y x) (fun x _ hx => by rw [y0 x hx]; simp)] at e
  rw [sm_congr (f := fun i => r (g i) * y (g i)) (g := fun _ => 0) (fun i hi => by rw [h9 i hi]; simp), sm_zero] at e
  rw [sm_congr (f := fun i => w (g i) * y (g i)) (g := fun i => w (g i) * s i) (fun i hi => by rw [yg i hi])] at e
  have : D * sm m (fun i => w (g i) * s i) = D * v := by omega
  exact Int.eq_of_mul_eq_mul_left (by omega) this
/-- the goal's row of one tableau by that of another: along the way that a variable x0 enters -/
theorem bl_cross {D : Int} {c : Nat → Nat → Int} {s : Nat → Int} {g : Nat → Nat} {r : Nat → Int} {v : Int} (T : bl_T m X Ae bb rows ok w D c s g r v)
    {D2 : Int} {c2 : Nat → Nat → Int} {s2 : Nat → Int} {g2 : Nat → Nat} {r2 : Nat → Int} {v2 : Int} (T2 : bl_T m X Ae bb rows ok w D2 c2 s2 g2 r2 v2)
    {x0 : Nat} (hx : x0 < X) (hok : ok x0) (hnb : ∀ i, i < m → g i ≠ x0) : D2 * r x0 = r2 x0 * D - sm m (fun i => r2 (g i) * c i x0) := by
  obtain ⟨h1, h2, h3, h4, h5, h6, h7, h8, h9⟩ := T
  obtain ⟨k1, k2, k3, k4, k5, k6, k7, k8, k9⟩ := T2
  let y : Nat → Int := fun x => if x = x0 then D else - sm m (fun i => if g i = x then c i x0 else 0)
  have yg : ∀ i, i < m → y (g i) = - c i x0 := fun i hi => by
    show (if g i = x0 then D else - sm m (fun k => if g k = g i then c k x0 else 0)) = - c i x0
    rw [if_neg (hnb i hi), sm_one (i := i) hi (fun k hk hn => if_neg (fun q => hn (h4 k i hk hi q))), if_pos rfl]
  have yx : y x0 = D := if_pos rfl
  have y0 : ∀ x, x ≠ x0 → (∀ i, i < m → g i ≠ x) → y x = 0 := fun x hn hx => by
    show (if x = x0 then D else - sm m (fun k => if g k = x then c k x0 else 0)) = 0
    rw [if_neg hn, sm_congr (g := fun _ => 0) (fun k hk => if_neg (hx k hk)), sm_zero]
    rfl
  have hX : ∀ i, i < m → g i < X := fun i hi => (h3 i hi).1
  -- a sum over all variables: x0's share and the basis'
  have hsum : ∀ f : Nat → Int, (∀ x, y x = 0 → f x = 0) → sm X f = f x0 + sm m (fun i => f (g i)) := fun f hf => by
    have e1 : sm X f = sm X (fun x => if x = x0 then f x else 0) + sm X (fun x => if x = x0 then 0 else f x) := by
      rw [← sm_add]
      exact sm_congr fun x _ => by by_cases q : x = x0 <;> simp [q]
    rw [e1, sm_one (i := x0) hx (fun x _ hn => if_neg hn), if_pos rfl, bl_sum hX h4 (fun x => if x = x0 then 0 else f x) (fun x _ hg => by
      show (if x = x0 then 0 else f x) = 0
      by_cases q : x = x0
      · rw [if_pos q]
      · rw [if_neg q]; exact hf x (y0 x q hg))]
    congr 1
    exact sm_congr fun i hi => if_neg (hnb i hi)
  have hnok : ∀ x, x < X → ¬ ok x → y x = 0 := fun x _ hn => y0 x (fun q => hn (q ▸ hok)) (fun i hi q => hn (q ▸ (h3 i hi).2))
  have hnull : ∀ q, sm X (fun x => y x * Ae x q) = 0 * bb q := fun q => by
    rw [hsum (fun x => y x * Ae x q) (fun x hz => by rw [hz]; simp), yx, sm_congr (f := fun i => y (g i) * Ae (g i) q) (g := fun i => (-1) * (c i x0 * Ae (g i) q)) (fun i hi => by rw [yg i hi]; grind), sm_mul, ← h6 x0 hx hok q]
    omega
  have e1 := h8 y 0 hnok hnull
  have e2 := k8 y 0 hnok hnull
  rw [hsum (fun x => r x * y x) (fun x hz => by rw [hz]; simp), sm_congr (f := fun i => r (g i) * y (g i)) (g := fun _ => 0) (fun i hi => by rw [h9 i hi]; simp), sm_zero, yx] at e1
  rw [hsum (fun x => r2 x * y x) (fun x hz => by rw [hz]; simp), sm_congr (f := fun i => r2 (g i) * y (g i)) (g := fun i => (-1) * (r2 (g i) * c i x0)) (fun i hi => by rw [yg i hi]; grind), sm_mul, yx] at e2
  -- D * W = - r x0 * D ; D2 * W = - (r2 x0 * D - ..)
  generalize sm X (fun x => w x * y x) = Wv at e1 e2
  have hW : Wv = - r x0 := by
    have : D * Wv = D * (- r x0) := by grind
    exact Int.eq_of_mul_eq_mul_left (by omega) this
  rw [hW] at e2
  grind
end BL
