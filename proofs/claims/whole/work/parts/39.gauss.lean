/-! ===== THE REFERENCE's WAY: columns solved one after the other, rows changed places ===== -/
theorem de_swap2 (cols : List (Nat → Int)) (i j : Nat) (hi : i < cols.length) (hj : j < cols.length) (hij : i ≠ j) (rows : List Nat) (u v : Nat → Int) : de_det ((cols.set i u).set j v) rows = - de_det ((cols.set i v).set j u) rows := by
  have hl : ∀ w : Nat → Int, (cols.set i w).length = cols.length := fun w => List.length_set
  have z : ∀ w : Nat → Int, de_det ((cols.set i w).set j w) rows = 0 := fun w => by
    refine de_alt' (u := w) _ i j rows hij ?_ ?_
    · rw [List.getElem?_set_ne (fun q => hij q.symm), List.getElem?_set_self hi]
    · rw [List.getElem?_set_self (by rw [hl]; exact hj)]
  have lj : ∀ w : Nat → Int, de_det ((cols.set i w).set j (fun r => 1 * u r + 1 * v r)) rows = 1 * de_det ((cols.set i w).set j u) rows + 1 * de_det ((cols.set i w).set j v) rows := fun w => de_lin u v 1 1 _ j rows (by rw [hl]; exact hj)
  have li : ∀ w : Nat → Int, de_det ((cols.set i (fun r => 1 * u r + 1 * v r)).set j w) rows = 1 * de_det ((cols.set i u).set j w) rows + 1 * de_det ((cols.set i v).set j w) rows := fun w => by
    rw [List.set_comm _ _ hij, List.set_comm _ _ hij, List.set_comm _ _ hij]
    exact de_lin u v 1 1 _ i rows (by rw [List.length_set]; exact hi)
  have e := z (fun r => 1 * u r + 1 * v r)
  rw [lj, li, li, z u, z v] at e
  omega
/-- D and the cells (row, column; the m-th column is what is due) -/
abbrev gj_T : Type := Int × (Nat → Nat → Int)
def gj_sw (c : Nat → Nat → Int) (p k : Nat) : Nat → Nat → Int := fun i => if i = p then c k else if i = k then c p else c i
def gj_pv (D : Int) (c : Nat → Nat → Int) (k : Nat) : Nat → Nat → Int := fun i j => if i = k then c k j else (c k k * c i j - c i k * c k j) / D
def gj_I (m : Nat) (v : Nat → Nat → Int) (b : Nat → Int) (k : Nat) (D : Int) (c : Nat → Nat → Int) : Prop :=
  ∃ bs : List (Nat → Int), bs.length = m ∧ pv_DT bs (List.range m) D ∧ (∀ j, j < m → pv_CR m bs D (v j) (fun i => c i j)) ∧ pv_CR m bs D b (fun i => c i m) ∧ (∀ i, i < k → bs.getD i (fun _ => 0) = v i) ∧ ∀ i, i < m → lp_nm m (bs.getD i (fun _ => 0)) 24
section GJ
variable {m : Nat} {v : Nat → Nat → Int} {b : Nat → Int}
theorem gj_sw_I {k p : Nat} {D : Int} {c : Nat → Nat → Int} (h : gj_I m v b k D c) (hk : k < m) (hp : p < m) (hkp : k ≤ p) : gj_I m v b k D (gj_sw c p k) := by
  obtain ⟨bs, h1, ⟨h2, ε, h3, h4⟩, h5, h6, h7, h8⟩ := h
  by_cases e : p = k
  · subst e
    have : gj_sw c p p = c := funext fun i => by unfold gj_sw; by_cases z : i = p <;> simp [z]
    rw [this]
    exact ⟨bs, h1, ⟨h2, ε, h3, h4⟩, h5, h6, h7, h8⟩
  · have hg : ∀ i, ((bs.set k (bs.getD p (fun _ => 0))).set p (bs.getD k (fun _ => 0))).getD i (fun _ => 0) = if i = p then bs.getD k (fun _ => 0) else if i = k then bs.getD p (fun _ => 0) else bs.getD i (fun _ => 0) := fun i => by
      rw [pv_getD_set (by rw [List.length_set]; omega), pv_getD_set (by omega)]
    have hself : (bs.set k (bs.getD k (fun _ => 0))).set p (bs.getD p (fun _ => 0)) = bs := by
      have g1 : ∀ i, i < bs.length → bs.set i (bs.getD i (fun _ => 0)) = bs := fun i hi => by
        rw [List.getD_eq_getElem?_getD, List.getElem?_eq_getElem hi]
        show bs.set i bs[i] = bs
        rw [List.set_getElem_self]
      rw [g1 k (by omega), g1 p (by omega)]
    have cr : ∀ (x c1 : Nat → Int), pv_CR m bs D x c1 → pv_CR m ((bs.set k (bs.getD p (fun _ => 0))).set p (bs.getD k (fun _ => 0))) D x (fun i => if i = p then c1 k else if i = k then c1 p else c1 i) := by
      intro x c1 hc r
      rw [hc r]
      -- the two terms change places
      have s1 : ∀ f : Nat → Int, sm m f = sm m (fun i => if i = p ∨ i = k then 0 else f i) + (f p + f k) := fun f => by
        have : sm m f = sm m (fun i => if i = p ∨ i = k then 0 else f i) + (sm m (fun i => if i = p then f p else 0) + sm m (fun i => if i = k then f k else 0)) := by
          rw [← sm_add, ← sm_add]
          refine sm_congr fun i _ => ?_
          by_cases z1 : i = p
          · subst z1; simp [e]
          · by_cases z2 : i = k
            · subst z2; simp [z1]
            · simp [z1, z2]
        rw [this, sm_one (i := p) hp (fun i _ z => if_neg z), sm_one (i := k) hk (fun i _ z => if_neg z), if_pos rfl, if_pos rfl]
      rw [s1 (fun i => c1 i * bs.getD i (fun _ => 0) r), s1 (fun i => (if i = p then c1 k else if i = k then c1 p else c1 i) * ((bs.set k (bs.getD p (fun _ => 0))).set p (bs.getD k (fun _ => 0))).getD i (fun _ => 0) r)]
      have e1 : sm m (fun i => if i = p ∨ i = k then 0 else (if i = p then c1 k else if i = k then c1 p else c1 i) * ((bs.set k (bs.getD p (fun _ => 0))).set p (bs.getD k (fun _ => 0))).getD i (fun _ => 0) r) = sm m (fun i => if i = p ∨ i = k then 0 else c1 i * bs.getD i (fun _ => 0) r) := sm_congr fun i _ => by
        by_cases z1 : i = p
        · simp [z1]
        · by_cases z2 : i = k
          · simp [z2]
          · rw [hg i]; simp [z1, z2]
      rw [e1, hg p, hg k]
      simp only [if_true, if_neg (fun z : k = p => e z.symm)]
      omega
    refine ⟨(bs.set k (bs.getD p (fun _ => 0))).set p (bs.getD k (fun _ => 0)), by simp [h1], ⟨h2, - ε, by grind, ?_⟩, fun j hj => ?_, ?_, fun i hi => ?_, fun i hi => ?_⟩
    · rw [de_swap2 bs k p (by omega) (by omega) (fun z => e z.symm), hself, h4]
      grind
    · have := cr _ _ (h5 j hj)
      intro r
      rw [this r]
      refine sm_congr fun i _ => ?_
      congr 1
      dsimp only
      unfold gj_sw
      by_cases z1 : i = p
      · rw [if_pos z1, if_pos z1]
      · rw [if_neg z1, if_neg z1]
        by_cases z2 : i = k
        · rw [if_pos z2, if_pos z2]
        · rw [if_neg z2, if_neg z2]
    · have := cr _ _ h6
      intro r
      rw [this r]
      refine sm_congr fun i _ => ?_
      congr 1
      dsimp only
      unfold gj_sw
      by_cases z1 : i = p
      · rw [if_pos z1, if_pos z1]
      · rw [if_neg z1, if_neg z1]
        by_cases z2 : i = k
        · rw [if_pos z2, if_pos z2]
        · rw [if_neg z2, if_neg z2]
    · rw [hg i, if_neg (by omega), if_neg (by omega)]
      exact h7 i hi
    · rw [hg i]
      split
      · exact h8 k hk
      · split
        · exact h8 p hp
        · exact h8 i hi
theorem gj_pv_I {k : Nat} {D : Int} {c : Nat → Nat → Int} (h : gj_I m v b k D c) (hk : k < m) (hv : ∀ j, j < m → lp_nm m (v j) 24) (hp : c k k ≠ 0) : gj_I m v b (k + 1) (c k k) (gj_pv D c k) ∧ ∀ i j, i < m → i ≠ k → j ≤ m → D ∣ (c k k * c i j - c i k * c k j) := by
  obtain ⟨bs, h1, h2, h5, h6, h7, h8⟩ := h
  obtain ⟨s1, s2⟩ := pv_step h1 h2 (h5 k hk) hk hp
  have hg : ∀ i, (bs.set k (v k)).getD i (fun _ => 0) = if i = k then v k else bs.getD i (fun _ => 0) := fun i => pv_getD_set (by omega)
  have ex : ∀ i j, c i j * c k k - c i k * c k j = c k k * c i j - c i k * c k j := fun i j => by grind
  have cr : ∀ j x, pv_CR m bs D x (fun i => c i j) → pv_CR m (bs.set k (v k)) (c k k) x (fun i => gj_pv D c k i j) := by
    intro j x hc r
    have := (s2 x _ hc).2 r
    rw [this]
    refine sm_congr fun i _ => ?_
    unfold gj_pv
    by_cases z : i = k
    · simp [z]
    · simp only [z, if_false]
      rw [ex]
  refine ⟨⟨bs.set k (v k), by simp [h1], s1, fun j hj => cr j _ (h5 j hj), cr m _ h6, fun i hi => ?_, fun i hi => ?_⟩, fun i j hi hn hj => ?_⟩
  · rw [hg i]
    by_cases z : i = k
    · rw [if_pos z, z]
    · rw [if_neg z]; exact h7 i (by omega)
  · rw [hg i]
    by_cases z : i = k
    · rw [if_pos z]; exact hv k hk
    · rw [if_neg z]; exact h8 i hi
  · rw [← ex]
    by_cases z : j = m
    · rw [z]; exact (s2 _ _ h6).1 i hi hn
    · exact (s2 _ _ (h5 j (by omega))).1 i hi hn
theorem gj_bd {k : Nat} {D : Int} {c : Nat → Nat → Int} (hm : lp_ev m) (hv : ∀ j, j < m → lp_nm m (v j) 24) (hb : lp_nm m b 1284) (h : gj_I m v b k D c) : (D.natAbs : Int) ≤ 84934656 ∧ (∀ i j, i < m → j < m → ((c i j).natAbs : Int) ≤ 84934656) ∧ ∀ i, i < m → ((c i m).natAbs : Int) ≤ 4600000000 := by
  obtain ⟨bs, h1, h2, h5, h6, h7, h8⟩ := h
  have hset : ∀ i x, i < m → ∀ k, (bs.set i x).getD k (fun _ => 0) = if k = i then x else bs.getD k (fun _ => 0) := fun i x hi k => pv_getD_set (by omega)
  refine ⟨?_, fun i j hi hj => ?_, fun i hi => ?_⟩
  · obtain ⟨-, ε, e1, e2⟩ := h2
    rw [e2, natAbs_eps e1]
    exact lp_small hm h1 h8
  · obtain ⟨ε, e1, e2⟩ := pv_num h1 h2 (h5 j hj)
    have e3 : c i j = ε * de_det (bs.set i (v j)) (List.range m) := e2 i hi
    rw [e3, natAbs_eps e1]
    refine lp_small hm (by simp [h1]) (fun k hk => ?_)
    rw [hset i _ hi k]
    by_cases z : k = i
    · rw [if_pos z]; exact hv j hj
    · rw [if_neg z]; exact h8 k hk
  · obtain ⟨ε, e1, e2⟩ := pv_num h1 h2 h6
    have e3 : c i m = ε * de_det (bs.set i b) (List.range m) := e2 i hi
    rw [e3, natAbs_eps e1]
    refine lp_great hm (by simp [h1]) hi (fun k hk hn => ?_) ?_
    · rw [hset i _ hi k, if_neg hn]; exact h8 k hk
    · rw [hset i _ hi i, if_pos rfl]; exact hb
/-- no row is left for column k: the columns depend on one another -/
theorem gj_dep {k : Nat} {D : Int} {c : Nat → Nat → Int} (h : gj_I m v b k D c) (hk : k < m) (h0 : ∀ i, k ≤ i → i < m → c i k = 0) : ∃ al : Nat → Int, al k ≠ 0 ∧ ∀ q, sm m (fun i => al i * v i q) = 0 := by
  obtain ⟨bs, h1, h2, h5, h6, h7, h8⟩ := h
  refine ⟨fun i => if i < k then c i k else if i = k then - D else 0, ?_, fun q => ?_⟩
  · simp only [Nat.lt_irrefl, if_false, if_true]
    have := h2.1
    omega
  · have e := h5 k hk q
    have e1 : sm m (fun i => (if i < k then c i k else if i = k then - D else 0) * v i q) = sm m (fun i => c i k * bs.getD i (fun _ => 0) q) + sm m (fun i => if i = k then - (D * v k q) else 0) := by
      rw [← sm_add]
      refine sm_congr fun i hi => ?_
      by_cases z1 : i < k
      · rw [if_pos z1, if_neg (by omega), h7 i z1]; omega
      · rw [if_neg z1, h0 i (by omega) hi]
        by_cases z2 : i = k
        · subst z2; simp; grind
        · simp [z2]
    rw [e1, ← e, sm_one (i := k) hk (fun i _ z => if_neg z), if_pos rfl]
    omega
/-- all columns solved -/
theorem gj_end {D : Int} {c : Nat → Nat → Int} (h : gj_I m v b m D c) : D ≠ 0 ∧ ∀ q, D * b q = sm m (fun i => c i m * v i q) := by
  obtain ⟨bs, h1, h2, h5, h6, h7, h8⟩ := h
  refine ⟨h2.1, fun q => ?_⟩
  rw [h6 q]
  exact sm_congr fun i hi => by rw [h7 i hi]
theorem gj_0 (hv : ∀ j q, j < m → m ≤ q → v j q = 0) (hb : ∀ q, m ≤ q → b q = 0) : gj_I m v b 0 1 (fun i j => if j = m then b i else v j i) := by
  have hbs : ∀ k, k < m → ((List.range m).map (fun i => tb_un (0 + i))).getD k (fun _ => 0) = tb_un k := fun k hk => by
    rw [List.getD_eq_getElem?_getD, List.getElem?_map, List.getElem?_range hk]
    show tb_un (0 + k) = _
    rw [Nat.zero_add]
  have cr : ∀ x : Nat → Int, (∀ q, m ≤ q → x q = 0) → pv_CR m ((List.range m).map (fun i => tb_un (0 + i))) 1 x x := fun x hx r => by
    by_cases hr : r < m
    · rw [sm_one (i := r) hr (fun k hk hn => by
        rw [hbs k hk]
        unfold tb_un
        rw [if_neg (fun z => hn z.symm)]
        simp), hbs r hr]
      unfold tb_un
      rw [if_pos rfl]
      omega
    · rw [hx r (by omega), sm_congr (g := fun _ => 0) (fun k hk => by
        rw [hbs k hk]
        unfold tb_un
        rw [if_neg (by omega)]
        simp), sm_zero]
      rfl
  refine ⟨(List.range m).map (fun i => tb_un (0 + i)), by simp, ⟨by omega, 1, rfl, ?_⟩, fun j hj => ?_, ?_, fun i hi => absurd hi (by omega), fun i hi => ?_⟩
  · rw [tb_det1 0 (List.range m) (fun r _ => Nat.zero_le r) m (by simp)]
    rfl
  · have e : (fun i => if j = m then b i else v j i) = v j := funext fun i => if_neg (by omega)
    show pv_CR m _ 1 (v j) (fun i => if j = m then b i else v j i)
    rw [e]
    exact cr _ (fun q hq => hv j q hj hq)
  · have e : (fun i => if m = m then b i else v m i) = b := funext fun i => if_pos rfl
    show pv_CR m _ 1 b (fun i => if m = m then b i else v m i)
    rw [e]
    exact cr b hb
  · rw [hbs i hi]; exact lp_un m i
end GJ
