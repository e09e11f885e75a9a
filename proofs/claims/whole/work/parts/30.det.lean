/-! ===== DETERMINANTS of lists of columns, by the first column ===== -/
def de_E (u : Nat → Int) (F : List Nat → Int) : List Nat → Int
  | [] => 0
  | r :: rs => u r * F rs - de_E u (fun t => F (r :: t)) rs
def de_det : List (Nat → Int) → List Nat → Int
  | [], [] => 1
  | [], _ :: _ => 0
  | v :: cols, rows => de_E v (fun t => de_det cols t) rows
theorem de_E_zero (u : Nat → Int) : ∀ (rows : List Nat), de_E u (fun _ => 0) rows = 0
  | [] => rfl
  | r :: rs => by
    unfold de_E
    rw [de_E_zero u rs]
    simp
theorem de_E_add (u v : Nat → Int) (a b : Int) : ∀ (rows : List Nat) (F : List Nat → Int), de_E (fun r => a * u r + b * v r) F rows = a * de_E u F rows + b * de_E v F rows
  | [], F => by simp [de_E]
  | r :: rs, F => by
    unfold de_E
    rw [de_E_add u v a b rs]
    grind
theorem de_E_lin (u : Nat → Int) (a b : Int) : ∀ (rows : List Nat) (F G : List Nat → Int), de_E u (fun t => a * F t + b * G t) rows = a * de_E u F rows + b * de_E u G rows
  | [], F, G => by simp [de_E]
  | r :: rs, F, G => by
    unfold de_E
    rw [de_E_lin u a b rs]
    grind
theorem de_E_swap (u v : Nat → Int) : ∀ (rows : List Nat) (F : List Nat → Int), de_E u (fun t => de_E v F t) rows + de_E v (fun t => de_E u F t) rows = 0
  | [], F => by simp [de_E]
  | r :: rs, F => by
    have h1 : de_E u (fun t => de_E v F t) (r :: rs) = u r * de_E v F rs - de_E u (fun t => de_E v F (r :: t)) rs := rfl
    have h2 : de_E v (fun t => de_E u F t) (r :: rs) = v r * de_E u F rs - de_E v (fun t => de_E u F (r :: t)) rs := rfl
    have e1 : de_E u (fun t => de_E v F (r :: t)) rs = v r * de_E u F rs - de_E u (fun t => de_E v (fun z => F (r :: z)) t) rs := by
      have : (fun t => de_E v F (r :: t)) = (fun t => v r * F t + (-1) * de_E v (fun z => F (r :: z)) t) := funext fun t => by
        show v r * F t - de_E v (fun z => F (r :: z)) t = _
        grind
      rw [this, de_E_lin]
      grind
    have e2 : de_E v (fun t => de_E u F (r :: t)) rs = u r * de_E v F rs - de_E v (fun t => de_E u (fun z => F (r :: z)) t) rs := by
      have : (fun t => de_E u F (r :: t)) = (fun t => u r * F t + (-1) * de_E u (fun z => F (r :: z)) t) := funext fun t => by
        show u r * F t - de_E u (fun z => F (r :: z)) t = _
        grind
      rw [this, de_E_lin]
      grind
    have ih := de_E_swap u v rs (fun z => F (r :: z))
    rw [h1, h2, e1, e2]
    grind
theorem de_swap (u v : Nat → Int) (cols : List (Nat → Int)) (rows : List Nat) : de_det (u :: v :: cols) rows = - de_det (v :: u :: cols) rows := by
  have h := de_E_swap u v rows (fun t => de_det cols t)
  show de_E u (fun t => de_E v (fun z => de_det cols z) t) rows = - de_E v (fun t => de_E u (fun z => de_det cols z) t) rows
  omega
theorem de_alt0 (u : Nat → Int) : ∀ (cols : List (Nat → Int)) (j : Nat) (rows : List Nat), cols[j]? = some u → de_det (u :: cols) rows = 0
  | [], j, rows, h => by simp at h
  | v :: cols, 0, rows, h => by
    have e : v = u := by simpa using h
    subst e
    have := de_swap v v cols rows
    omega
  | v :: cols, j + 1, rows, h => by
    have h' : cols[j]? = some u := by simpa using h
    rw [de_swap]
    show - de_E v (fun t => de_det (u :: cols) t) rows = 0
    have : (fun t => de_det (u :: cols) t) = fun _ => 0 := funext fun t => de_alt0 u cols j t h'
    rw [this, de_E_zero]
    rfl
theorem de_alt {u : Nat → Int} : ∀ (cols : List (Nat → Int)) (i j : Nat) (rows : List Nat), i < j → cols[i]? = some u → cols[j]? = some u → de_det cols rows = 0
  | [], i, j, rows, _, h, _ => by simp at h
  | v :: cols, 0, j + 1, rows, _, h, h2 => by
    have e : v = u := by simpa using h
    subst e
    exact de_alt0 v cols j rows (by simpa using h2)
  | v :: cols, i + 1, j + 1, rows, hij, h, h2 => by
    show de_E v (fun t => de_det cols t) rows = 0
    have : (fun t => de_det cols t) = fun _ => 0 := funext fun t => de_alt cols i j t (by omega) (by simpa using h) (by simpa using h2)
    rw [this, de_E_zero]
  | v :: cols, 0, 0, rows, hij, _, _ => absurd hij (by omega)
  | v :: cols, i + 1, 0, rows, hij, _, _ => absurd hij (by omega)
theorem de_alt' {u : Nat → Int} (cols : List (Nat → Int)) (i j : Nat) (rows : List Nat) (h : i ≠ j) (h1 : cols[i]? = some u) (h2 : cols[j]? = some u) : de_det cols rows = 0 := by
  rcases Nat.lt_or_gt_of_ne h with g | g
  · exact de_alt cols i j rows g h1 h2
  · exact de_alt cols j i rows g h2 h1
theorem de_lin (u v : Nat → Int) (a b : Int) : ∀ (cols : List (Nat → Int)) (i : Nat) (rows : List Nat), i < cols.length → de_det (cols.set i (fun r => a * u r + b * v r)) rows = a * de_det (cols.set i u) rows + b * de_det (cols.set i v) rows
  | [], i, rows, h => absurd h (by simp)
  | w :: cols, 0, rows, _ => de_E_add u v a b rows _
  | w :: cols, i + 1, rows, h => by
    have h' : i < cols.length := by simpa using h
    show de_E w (fun t => de_det (cols.set i (fun r => a * u r + b * v r)) t) rows = a * de_E w (fun t => de_det (cols.set i u) t) rows + b * de_E w (fun t => de_det (cols.set i v) t) rows
    have : (fun t => de_det (cols.set i (fun r => a * u r + b * v r)) t) = fun t => a * de_det (cols.set i u) t + b * de_det (cols.set i v) t := funext fun t => de_lin u v a b cols i t h'
    rw [this, de_E_lin]
theorem de_scale (u : Nat → Int) (a : Int) (cols : List (Nat → Int)) (i : Nat) (rows : List Nat) (h : i < cols.length) : de_det (cols.set i (fun r => a * u r)) rows = a * de_det (cols.set i u) rows := by
  have := de_lin u u a 0 cols i rows h
  simp only [Int.zero_mul, Int.add_zero] at this
  exact this
/-! sums -/
def sm : Nat → (Nat → Int) → Int
  | 0, _ => 0
  | n + 1, f => sm n f + f n
theorem sm_congr : ∀ {n : Nat} {f g : Nat → Int}, (∀ k, k < n → f k = g k) → sm n f = sm n g
  | 0, _, _, _ => rfl
  | n + 1, f, g, h => by
    unfold sm
    rw [sm_congr (n := n) (fun k hk => h k (by omega)), h n (by omega)]
theorem sm_add : ∀ (n : Nat) (f g : Nat → Int), sm n (fun k => f k + g k) = sm n f + sm n g
  | 0, _, _ => rfl
  | n + 1, f, g => by unfold sm; rw [sm_add n]; grind
theorem sm_mul (a : Int) : ∀ (n : Nat) (f : Nat → Int), sm n (fun k => a * f k) = a * sm n f
  | 0, _ => by simp [sm]
  | n + 1, f => by unfold sm; rw [sm_mul a n]; grind
theorem sm_zero : ∀ (n : Nat), sm n (fun _ => 0) = 0
  | 0 => rfl
  | n + 1 => by unfold sm; rw [sm_zero n]; rfl
theorem sm_one {i : Nat} {f : Nat → Int} : ∀ {n : Nat}, i < n → (∀ k, k < n → k ≠ i → f k = 0) → sm n f = f i
  | 0, h, _ => absurd h (by omega)
  | n + 1, h, hz => by
    unfold sm
    by_cases e : i = n
    · subst e
      rw [sm_congr (g := fun _ => 0) (fun k hk => hz k (by omega) (by omega)), sm_zero]
      omega
    · rw [sm_one (n := n) (by omega) (fun k hk hn => hz k (by omega) hn), hz n (by omega) (fun q => e q.symm)]
      omega
theorem sm_nonneg : ∀ {n : Nat} {f : Nat → Int}, (∀ k, k < n → 0 ≤ f k) → 0 ≤ sm n f
  | 0, _, _ => by simp [sm]
  | n + 1, f, h => by
    unfold sm
    have h1 := sm_nonneg (n := n) (fun k hk => h k (by omega))
    have h2 := h n (by omega)
    omega
theorem sm_swap : ∀ (n m : Nat) (f : Nat → Nat → Int), sm n (fun i => sm m (fun j => f i j)) = sm m (fun j => sm n (fun i => f i j))
  | 0, m, f => by simp [sm, sm_zero]
  | n + 1, m, f => by
    show sm n (fun i => sm m (fun j => f i j)) + sm m (fun j => f n j) = sm m (fun j => sm n (fun i => f i j) + f n j)
    rw [sm_swap n m f, sm_add]
/-- a column that is a sum of the columns: its own share -/
theorem de_comb (cols : List (Nat → Int)) (i : Nat) (hi : i < cols.length) (al : Nat → Int) (rows : List Nat) : ∀ (n : Nat), n ≤ cols.length →
    de_det (cols.set i (fun r => sm n (fun k => al k * cols.getD k (fun _ => 0) r))) rows = if i < n then al i * de_det cols rows else 0
  | 0, _ => by
    have : (fun r => sm 0 (fun k => al k * cols.getD k (fun _ => 0) r)) = fun r => 0 * (fun _ => (0 : Int)) r := funext fun r => by simp [sm]
    rw [this, de_scale _ _ _ _ _ hi]
    simp
  | n + 1, hn => by
    have e : (fun r => sm (n + 1) (fun k => al k * cols.getD k (fun _ => 0) r)) = fun r => 1 * (fun r => sm n (fun k => al k * cols.getD k (fun _ => 0) r)) r + al n * (cols.getD n (fun _ => 0)) r := funext fun r => by
      show sm n _ + _ = _
      grind
    rw [e, de_lin _ _ _ _ _ _ _ hi, de_comb cols i hi al rows n (by omega)]
    have hg : cols.getD n (fun _ => 0) = cols[n]'(by omega) := by
      rw [List.getD_eq_getElem?_getD, List.getElem?_eq_getElem (by omega)]
      rfl
    by_cases h1 : i < n
    · rw [if_pos h1, if_pos (by omega)]
      have : de_det (cols.set i (cols.getD n (fun _ => 0))) rows = 0 := by
        refine de_alt' (u := cols.getD n (fun _ => 0)) _ i n rows (by omega) ?_ ?_
        · rw [List.getElem?_set_self hi]
        · rw [List.getElem?_set_ne (by omega), List.getElem?_eq_getElem (by omega), hg]
      rw [this]
      grind
    · rw [if_neg h1]
      by_cases h2 : i = n
      · subst h2
        rw [if_pos (by omega)]
        have : cols.set i (cols.getD i (fun _ => 0)) = cols := by
          rw [hg, List.set_getElem_self]
        rw [this]
        grind
      · rw [if_neg (by omega)]
        have : de_det (cols.set i (cols.getD n (fun _ => 0))) rows = 0 := by
          refine de_alt' (u := cols.getD n (fun _ => 0)) _ i n rows h2 ?_ ?_
          · rw [List.getElem?_set_self hi]
          · rw [List.getElem?_set_ne h2, List.getElem?_eq_getElem (by omega), hg]
        rw [this]
        grind
