/-! ===== NO NUMBER GETS TOO GREAT ===== -/
def lp_wt (q : Nat) : Int := if q % 2 = 0 then 6 else 1
theorem lp_wt1 (q : Nat) : 1 ≤ lp_wt q := by unfold lp_wt; split <;> omega
def lp_nm (m : Nat) (v : Nat → Int) (n : Int) : Prop := dn_S lp_wt v (List.range m) ≤ n
theorem dn_prod_rep (x : Int) : ∀ n : Nat, dn_prod (List.replicate n x) = x ^ n
  | 0 => by simp [dn_prod]
  | n + 1 => by
    show x * dn_prod (List.replicate n x) = x ^ (n + 1)
    rw [dn_prod_rep x n, Int.pow_succ, Int.mul_comm]
theorem dn_prod_set (x y : Int) : ∀ (n i : Nat), i < n → dn_prod ((List.replicate n x).set i y) = y * x ^ (n - 1)
  | 0, i, h => absurd h (by omega)
  | n + 1, 0, _ => by
    show y * dn_prod (List.replicate n x) = _
    rw [dn_prod_rep]
    rfl
  | n + 1, i + 1, h => by
    show x * dn_prod ((List.replicate n x).set i y) = _
    rw [dn_prod_set x y n i (by omega)]
    obtain ⟨k, rfl⟩ : ∃ k, n = k + 1 := ⟨n - 1, by omega⟩
    show x * (y * x ^ k) = y * x ^ (k + 1)
    rw [Int.pow_succ]
    grind
/-- the equations' numbers: two for each of at most four blocks -/
def lp_ev (m : Nat) : Prop := m = 0 ∨ m = 2 ∨ m = 4 ∨ m = 6 ∨ m = 8
theorem lp_small {m : Nat} (hm : lp_ev m) {cols : List (Nat → Int)} (hl : cols.length = m) (h : ∀ i, i < m → lp_nm m (cols.getD i (fun _ => 0)) 24) : ((de_det cols (List.range m)).natAbs : Int) ≤ 84934656 := by
  have := dn_det (wt := lp_wt) lp_wt1 cols (List.replicate m 24) (List.range m) (by simp [hl]) (fun i hi n hn => by
    rw [List.getElem?_replicate] at hn
    split at hn
    · cases hn
      have := h i (by omega)
      rw [List.getD_eq_getElem?_getD, List.getElem?_eq_getElem hi] at this
      exact this
    · cases hn) (fun n hn => by rw [(List.mem_replicate.mp hn).2]; decide)
  rw [dn_prod_rep] at this
  rcases hm with rfl | rfl | rfl | rfl | rfl
  · have e : dn_P lp_wt (List.range 0) = 1 := by decide
    rw [e] at this; have e2 : (24 : Int) ^ 0 = 1 := by decide
    omega
  · have e : dn_P lp_wt (List.range 2) = 6 := by decide
    rw [e] at this; have e2 : (24 : Int) ^ 2 = 576 := by decide
    omega
  · have e : dn_P lp_wt (List.range 4) = 36 := by decide
    rw [e] at this; have e2 : (24 : Int) ^ 4 = 331776 := by decide
    omega
  · have e : dn_P lp_wt (List.range 6) = 216 := by decide
    rw [e] at this; have e2 : (24 : Int) ^ 6 = 191102976 := by decide
    omega
  · have e : dn_P lp_wt (List.range 8) = 1296 := by decide
    rw [e] at this; have e2 : (24 : Int) ^ 8 = 110075314176 := by decide
    omega
theorem lp_great {m : Nat} (hm : lp_ev m) {cols : List (Nat → Int)} (hl : cols.length = m) {j : Nat} (hj : j < m) (h : ∀ i, i < m → i ≠ j → lp_nm m (cols.getD i (fun _ => 0)) 24) (hb : lp_nm m (cols.getD j (fun _ => 0)) 1284) : ((de_det cols (List.range m)).natAbs : Int) ≤ 4600000000 := by
  have := dn_det (wt := lp_wt) lp_wt1 cols ((List.replicate m 24).set j 1284) (List.range m) (by simp [hl]) (fun i hi n hn => by
    rw [List.getElem?_set] at hn
    by_cases q : j = i
    · rw [if_pos q] at hn
      split at hn
      · cases hn
        rw [List.getD_eq_getElem?_getD, q, List.getElem?_eq_getElem hi] at hb
        exact hb
      · cases hn
    · rw [if_neg q, List.getElem?_replicate] at hn
      split at hn
      · cases hn
        have := h i (by omega) (fun z => q z.symm)
        rw [List.getD_eq_getElem?_getD, List.getElem?_eq_getElem hi] at this
        exact this
      · cases hn) (fun n hn => by
    rcases List.mem_or_eq_of_mem_set hn with q | q
    · rw [(List.mem_replicate.mp q).2]; decide
    · rw [q]; decide)
  rw [dn_prod_set _ _ _ _ hj] at this
  rcases hm with rfl | rfl | rfl | rfl | rfl
  · omega
  · have e : dn_P lp_wt (List.range 2) = 6 := by decide
    rw [e] at this; have e2 : (24 : Int) ^ (2 - 1) = 24 := by decide
    omega
  · have e : dn_P lp_wt (List.range 4) = 36 := by decide
    rw [e] at this; have e2 : (24 : Int) ^ (4 - 1) = 13824 := by decide
    omega
  · have e : dn_P lp_wt (List.range 6) = 216 := by decide
    rw [e] at this; have e2 : (24 : Int) ^ (6 - 1) = 7962624 := by decide
    omega
  · have e : dn_P lp_wt (List.range 8) = 1296 := by decide
    rw [e] at this; have e2 : (24 : Int) ^ (8 - 1) = 4586471424 := by decide
    omega
theorem lp_un (m q : Nat) : lp_nm m (tb_un q) 24 := by
  have key : ∀ n, dn_S lp_wt (tb_un q) (List.range n) ≤ if q < n then 6 else 0 := by
    intro n
    induction n with
    | zero => simp [dn_S]
    | succ n ih =>
      have app : ∀ (l : List Nat) (x : Nat), dn_S lp_wt (tb_un q) (l ++ [x]) = dn_S lp_wt (tb_un q) l + lp_wt x * ((tb_un q x).natAbs : Int) := by
        intro l x
        induction l with
        | nil => simp [dn_S]
        | cons r l ih2 => show _ + dn_S _ _ (l ++ [x]) = _ + dn_S _ _ l + _; rw [ih2]; omega
      rw [List.range_succ, app]
      by_cases z : n = q
      · subst z
        rw [if_neg (by omega)] at ih
        rw [if_pos (by omega)]
        have h1 : tb_un n n = 1 := if_pos rfl
        have h2 : lp_wt n ≤ 6 := by unfold lp_wt; split <;> omega
        rw [h1]
        have : ((1 : Int).natAbs : Int) = 1 := rfl
        rw [this]
        omega
      · have h1 : tb_un q n = 0 := if_neg z
        rw [h1]
        have : ((0 : Int).natAbs : Int) = 0 := rfl
        rw [this, Int.mul_zero, Int.add_zero]
        by_cases z2 : q < n
        · rw [if_pos z2] at ih; rw [if_pos (by omega)]; exact ih
        · rw [if_neg z2] at ih; rw [if_neg (by omega)]; exact ih
  have := key m
  unfold lp_nm
  split at this <;> omega
def lp_nb (m N : Nat) (A : Nat → Nat → Int) (b : Nat → Int) : Prop := (∀ x, x < N → lp_nm m (A x) 24) ∧ lp_nm m b 1284
theorem natAbs_eps {ε x : Int} (h : ε * ε = 1) : (ε * x).natAbs = x.natAbs := by
  rw [Int.natAbs_mul]
  have : ε.natAbs * ε.natAbs = 1 := by rw [← Int.natAbs_mul, h]; rfl
  have : ε.natAbs = 1 := by
    rcases Nat.eq_zero_or_pos ε.natAbs with z | z
    · rw [z] at this; omega
    · rcases Nat.lt_or_ge 1 ε.natAbs with w | w
      · have := Nat.mul_lt_mul'' w w; omega
      · omega
  rw [this]
  omega
theorem tb_bd {m N : Nat} {A : Nat → Nat → Int} {b : Nat → Int} {T : tb_T} (hN : N ≤ 13) (hm : lp_ev m) (hnb : lp_nb m N A b) (h : tb_J m N A b T) : (T.1.natAbs : Int) ≤ 84934656 ∧ (∀ i j, i < m → j < N → ((T.2.1 i j).natAbs : Int) ≤ 84934656) ∧ ∀ i, i < m → ((T.2.2.1 i).natAbs : Int) ≤ 4600000000 := by
  obtain ⟨h1, h2, h3, h4⟩ := h
  have hbs : ∀ i, i < m → lp_nm m ((tb_bs m A T.2.2.2).getD i (fun _ => 0)) 24 := fun i hi => by
    rw [tb_bs_get hi]
    unfold tb_Ae
    rcases h1 i hi with z | z
    · rw [if_pos (by omega)]; exact hnb.1 _ z
    · rw [if_neg (by omega)]; exact lp_un m _
  have hset : ∀ i v, i < m → ∀ k, k < m → ((tb_bs m A T.2.2.2).set i v).getD k (fun _ => 0) = if k = i then v else (tb_bs m A T.2.2.2).getD k (fun _ => 0) := fun i v hi k hk => pv_getD_set (by rw [tb_bs_len]; exact hi)
  refine ⟨?_, fun i j hi hj => ?_, fun i hi => ?_⟩
  · obtain ⟨-, ε, e1, e2⟩ := h2
    rw [e2, natAbs_eps e1]
    exact lp_small hm (tb_bs_len m A _) hbs
  · obtain ⟨ε, e1, e2⟩ := pv_num (tb_bs_len m A _) h2 (h3 j hj)
    have e3 : T.2.1 i j = ε * de_det ((tb_bs m A T.2.2.2).set i (A j)) (List.range m) := e2 i hi
    rw [e3, natAbs_eps e1]
    refine lp_small hm (by rw [List.length_set, tb_bs_len]) (fun k hk => ?_)
    rw [hset i _ hi k hk]
    by_cases z : k = i
    · rw [if_pos z]; exact hnb.1 j hj
    · rw [if_neg z]; exact hbs k hk
  · obtain ⟨ε, e1, e2⟩ := pv_num (tb_bs_len m A _) h2 h4
    rw [e2 i hi, natAbs_eps e1]
    refine lp_great hm (by rw [List.length_set, tb_bs_len]) hi (fun k hk hn => ?_) ?_
    · rw [hset i _ hi k hk, if_neg hn]; exact hbs k hk
    · rw [hset i _ hi i hi, if_pos rfl]; exact hnb.2
