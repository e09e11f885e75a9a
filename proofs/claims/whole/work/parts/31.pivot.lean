/-! ===== ONE STEP ON WHOLE NUMBERS leaves no rest ===== -/
/-- the columns' relation: D times v is the sum of c k times the k-th of the basis -/
def pv_CR (m : Nat) (bs : List (Nat → Int)) (D : Int) (v : Nat → Int) (c : Nat → Int) : Prop := ∀ r, D * v r = sm m (fun k => c k * bs.getD k (fun _ => 0) r)
theorem pv_self {m : Nat} {bs : List (Nat → Int)} (hl : bs.length = m) {D : Int} {v c : Nat → Int} (h : pv_CR m bs D v c) (rows : List Nat) {i : Nat} (hi : i < m) : D * de_det (bs.set i v) rows = c i * de_det bs rows := by
  rw [← de_scale v D bs i rows (by omega)]
  have e : (fun r => D * v r) = fun r => sm m (fun k => c k * bs.getD k (fun _ => 0) r) := funext h
  rw [e, de_comb bs i (by omega) c rows m (by omega), if_pos hi]
theorem pv_getD_set {bs : List (Nat → Int)} {i k : Nat} {v d : Nat → Int} (hi : i < bs.length) : (bs.set i v).getD k d = if k = i then v else bs.getD k d := by
  rw [List.getD_eq_getElem?_getD, List.getElem?_set, List.getD_eq_getElem?_getD]
  by_cases h : k = i
  · subst h
    simp [hi]
  · rw [if_neg (fun q => h q.symm), if_neg h]
/-- the basis' number is, but for its sign, its determinant -/
def pv_DT (bs : List (Nat → Int)) (rows : List Nat) (D : Int) : Prop := D ≠ 0 ∧ ∃ ε : Int, ε * ε = 1 ∧ D = ε * de_det bs rows
theorem pv_num {m : Nat} {bs : List (Nat → Int)} (hl : bs.length = m) {D : Int} {rows : List Nat} (hD : pv_DT bs rows D) {v c : Nat → Int} (h : pv_CR m bs D v c) : ∃ ε : Int, ε * ε = 1 ∧ ∀ i, i < m → c i = ε * de_det (bs.set i v) rows := by
  obtain ⟨h0, ε, h1, h2⟩ := hD
  refine ⟨ε, h1, fun i hi => ?_⟩
  have e := pv_self hl h rows hi
  have e2 : D * (c i) = D * (ε * de_det (bs.set i v) rows) := by
    have : D * (ε * de_det (bs.set i v) rows) = ε * (c i * de_det bs rows) := by rw [← e]; grind
    rw [this]
    calc D * c i = (ε * de_det bs rows) * c i := by rw [← h2]
      _ = ε * (c i * de_det bs rows) := by grind
  exact Int.eq_of_mul_eq_mul_left h0 e2
theorem pv_step {m : Nat} {bs : List (Nat → Int)} (hl : bs.length = m) {D : Int} {rows : List Nat} (hD : pv_DT bs rows D) {vs cs : Nat → Int} (hs : pv_CR m bs D vs cs) {r0 : Nat} (hr : r0 < m) (hp : cs r0 ≠ 0) :
    pv_DT (bs.set r0 vs) rows (cs r0) ∧ ∀ (vj cj : Nat → Int), pv_CR m bs D vj cj → (∀ k, k < m → k ≠ r0 → D ∣ (cj k * cs r0 - cs k * cj r0)) ∧
      pv_CR m (bs.set r0 vs) (cs r0) vj (fun k => if k = r0 then cj r0 else (cj k * cs r0 - cs k * cj r0) / D) := by
  have h0 := hD.1
  have hDT : pv_DT (bs.set r0 vs) rows (cs r0) := by
    obtain ⟨ε, h1, h2⟩ := pv_num hl hD hs
    exact ⟨hp, ε, h1, h2 r0 hr⟩
  refine ⟨hDT, fun vj cj hj => ?_⟩
  have hl' : (bs.set r0 vs).length = m := by rw [List.length_set, hl]
  -- the relation times D and the pivot
  have hN : ∀ r, D * (cs r0 * vj r) = sm m (fun k => (if k = r0 then D * cj r0 else (cj k * cs r0 - cs k * cj r0)) * (bs.set r0 vs).getD k (fun _ => 0) r) := by
    intro r
    have e1 : D * (cs r0 * vj r) - cj r0 * (D * vs r) = sm m (fun k => (cj k * cs r0 - cs k * cj r0) * bs.getD k (fun _ => 0) r) := by
      have a1 := hj r
      have a2 := hs r
      have : D * (cs r0 * vj r) - cj r0 * (D * vs r) = cs r0 * (D * vj r) + (-cj r0) * (D * vs r) := by grind
      rw [this, a1, a2, ← sm_mul, ← sm_mul, ← sm_add]
      exact sm_congr fun k _ => by grind
    have e2 : sm m (fun k => (if k = r0 then D * cj r0 else (cj k * cs r0 - cs k * cj r0)) * (bs.set r0 vs).getD k (fun _ => 0) r) = sm m (fun k => (cj k * cs r0 - cs k * cj r0) * bs.getD k (fun _ => 0) r) + sm m (fun k => if k = r0 then D * cj r0 * vs r else 0) := by
      rw [← sm_add]
      refine sm_congr fun k hk => ?_
      rw [pv_getD_set (by omega)]
      by_cases e : k = r0
      · subst e
        simp only [if_true]
        grind
      · simp only [e, if_false]
        omega
    have e3 : sm m (fun k => if k = r0 then D * cj r0 * vs r else 0) = D * cj r0 * vs r := by
      rw [sm_one (i := r0) hr (fun k _ hn => by simp [hn])]
      simp
    rw [e2, e3, ← e1]
    grind
  have hdv : ∀ k, k < m → k ≠ r0 → D ∣ (cj k * cs r0 - cs k * cj r0) := by
    intro k hk hne
    obtain ⟨hp', ε, h1, h2⟩ := hDT
    have hcr : pv_CR m (bs.set r0 vs) (D * cs r0) vj (fun k => if k = r0 then D * cj r0 else (cj k * cs r0 - cs k * cj r0)) := fun r => by
      rw [← hN r]; grind
    have e := pv_self hl' hcr rows hk
    rw [if_neg hne] at e
    refine ⟨ε * de_det ((bs.set r0 vs).set k vj) rows, ?_⟩
    have e2 : cs r0 * (cj k * cs r0 - cs k * cj r0) = cs r0 * (D * (ε * de_det ((bs.set r0 vs).set k vj) rows)) := by
      calc cs r0 * (cj k * cs r0 - cs k * cj r0) = (ε * de_det (bs.set r0 vs) rows) * (cj k * cs r0 - cs k * cj r0) := by rw [← h2]
        _ = ε * ((cj k * cs r0 - cs k * cj r0) * de_det (bs.set r0 vs) rows) := by grind
        _ = ε * (D * cs r0 * de_det ((bs.set r0 vs).set k vj) rows) := by rw [← e]
        _ = _ := by grind
    exact Int.eq_of_mul_eq_mul_left hp' e2
  refine ⟨hdv, fun r => ?_⟩
  have e : D * (cs r0 * vj r) = D * sm m (fun k => (if k = r0 then cj r0 else (cj k * cs r0 - cs k * cj r0) / D) * (bs.set r0 vs).getD k (fun _ => 0) r) := by
    rw [hN r, ← sm_mul]
    refine sm_congr fun k hk => ?_
    by_cases e : k = r0
    · subst e
      simp only [if_true]
      grind
    · simp only [e, if_false]
      have := Int.mul_ediv_cancel' (hdv k hk e)
      calc _ = (D * ((cj k * cs r0 - cs k * cj r0) / D)) * (bs.set r0 vs).getD k (fun _ => 0) r := by rw [this]
        _ = _ := by grind
  exact Int.eq_of_mul_eq_mul_left h0 e
/-! ===== HOW GREAT A DETERMINANT CAN BE ===== -/
def dn_P (wt : Nat → Int) : List Nat → Int
  | [] => 1
  | r :: rs => wt r * dn_P wt rs
def dn_S (wt : Nat → Int) (u : Nat → Int) : List Nat → Int
  | [] => 0
  | r :: rs => wt r * (u r).natAbs + dn_S wt u rs
/-- t is the list without one of its numbers -/
def dn_R : List Nat → List Nat → Prop
  | _, [] => False
  | t, r :: rs => t = rs ∨ ∃ t', t = r :: t' ∧ dn_R t' rs
theorem dn_P_pos {wt : Nat → Int} (hw : ∀ r, 1 ≤ wt r) : ∀ rows, 1 ≤ dn_P wt rows
  | [] => by simp [dn_P]
  | r :: rs => by
    have h1 := hw r
    have h2 := dn_P_pos hw rs
    show 1 ≤ wt r * dn_P wt rs
    have := Int.mul_le_mul h1 h2 (by omega) (by omega)
    omega
theorem dn_S_nonneg {wt u : Nat → Int} (hw : ∀ r, 1 ≤ wt r) : ∀ rows, 0 ≤ dn_S wt u rows
  | [] => by simp [dn_S]
  | r :: rs => by
    have h1 := hw r
    have h2 := dn_S_nonneg (u := u) hw rs
    show 0 ≤ wt r * ((u r).natAbs : Int) + dn_S wt u rs
    have := Int.mul_nonneg (show 0 ≤ wt r by omega) (show (0 : Int) ≤ ((u r).natAbs : Int) by omega)
    omega
theorem dn_abs_sub (a b : Int) : ((a - b).natAbs : Int) ≤ (a.natAbs : Int) + (b.natAbs : Int) := by omega
theorem dn_E {wt u : Nat → Int} (hw : ∀ r, 1 ≤ wt r) {M : Int} : ∀ (rows : List Nat) (F : List Nat → Int), (∀ t, dn_R t rows → ((F t).natAbs : Int) * dn_P wt t ≤ M) → ((de_E u F rows).natAbs : Int) * dn_P wt rows ≤ dn_S wt u rows * M
  | [], F, _ => by simp [de_E, dn_S]
  | r :: rs, F, h => by
    have h1 : ((F rs).natAbs : Int) * dn_P wt rs ≤ M := h rs (Or.inl rfl)
    have hp := dn_P_pos hw rs
    have hwr := hw r
    have e : wt r * de_E u (fun t => F (r :: t)) rs = de_E u (fun t => wt r * F (r :: t)) rs := by
      have := de_E_lin u (wt r) 0 rs (fun t => F (r :: t)) (fun _ => 0)
      simp only [Int.zero_mul, Int.add_zero] at this
      exact this.symm
    have h2 := dn_E (u := u) hw (M := M) rs (fun t => wt r * F (r :: t)) (fun t ht => by
      have := h (r :: t) (Or.inr ⟨t, rfl, ht⟩)
      have e2 : ((wt r * F (r :: t)).natAbs : Int) = wt r * ((F (r :: t)).natAbs : Int) := by
        rw [Int.natAbs_mul, Int.natCast_mul]
        congr 1
        omega
      show ((wt r * F (r :: t)).natAbs : Int) * dn_P wt t ≤ M
      rw [e2]
      have e3 : dn_P wt (r :: t) = wt r * dn_P wt t := rfl
      rw [e3] at this
      grind)
    rw [← e] at h2
    have e2 : ((wt r * de_E u (fun t => F (r :: t)) rs).natAbs : Int) = wt r * ((de_E u (fun t => F (r :: t)) rs).natAbs : Int) := by
      rw [Int.natAbs_mul, Int.natCast_mul]
      congr 1
      omega
    rw [e2] at h2
    show ((u r * F rs - de_E u (fun t => F (r :: t)) rs).natAbs : Int) * (wt r * dn_P wt rs) ≤ (wt r * ((u r).natAbs : Int) + dn_S wt u rs) * M
    have h3 := dn_abs_sub (u r * F rs) (de_E u (fun t => F (r :: t)) rs)
    have e4 : ((u r * F rs).natAbs : Int) = ((u r).natAbs : Int) * ((F rs).natAbs : Int) := by rw [Int.natAbs_mul, Int.natCast_mul]
    rw [e4] at h3
    have hpp : 0 ≤ wt r * dn_P wt rs := Int.mul_nonneg (by omega) (by omega)
    have h4 := Int.mul_le_mul_of_nonneg_right h3 hpp
    have h5 : wt r * ((u r).natAbs : Int) * (((F rs).natAbs : Int) * dn_P wt rs) ≤ wt r * ((u r).natAbs : Int) * M := Int.mul_le_mul_of_nonneg_left h1 (Int.mul_nonneg (by omega) (by omega))
    have e5 : (((u r).natAbs : Int) * ((F rs).natAbs : Int) + ((de_E u (fun t => F (r :: t)) rs).natAbs : Int)) * (wt r * dn_P wt rs) = wt r * ((u r).natAbs : Int) * (((F rs).natAbs : Int) * dn_P wt rs) + wt r * ((de_E u (fun t => F (r :: t)) rs).natAbs : Int) * dn_P wt rs := by grind
    rw [e5] at h4
    have e6 : (wt r * ((u r).natAbs : Int) + dn_S wt u rs) * M = wt r * ((u r).natAbs : Int) * M + dn_S wt u rs * M := by grind
    rw [e6]
    omega
theorem dn_R_S {wt u : Nat → Int} (hw : ∀ r, 1 ≤ wt r) : ∀ (rows t : List Nat), dn_R t rows → dn_S wt u t ≤ dn_S wt u rows
  | [], t, h => h.elim
  | r :: rs, t, h => by
    have hwr := hw r
    have hn : 0 ≤ wt r * ((u r).natAbs : Int) := Int.mul_nonneg (by omega) (by omega)
    rcases h with rfl | ⟨t', rfl, h⟩
    · show dn_S wt u t ≤ wt r * ((u r).natAbs : Int) + dn_S wt u t
      omega
    · have := dn_R_S (u := u) hw rs t' h
      show wt r * ((u r).natAbs : Int) + dn_S wt u t' ≤ wt r * ((u r).natAbs : Int) + dn_S wt u rs
      omega
def dn_prod : List Int → Int
  | [] => 1
  | x :: xs => x * dn_prod xs
/-- |det| times the rows' weights is at most the product of the columns' norms -/
theorem dn_det {wt : Nat → Int} (hw : ∀ r, 1 ≤ wt r) : ∀ (cols : List (Nat → Int)) (ns : List Int) (rows : List Nat), cols.length = ns.length → (∀ i, (h : i < cols.length) → ∀ n, ns[i]? = some n → dn_S wt (cols[i]) rows ≤ n) → (∀ n ∈ ns, 0 ≤ n) → ((de_det cols rows).natAbs : Int) * dn_P wt rows ≤ dn_prod ns
  | [], [], [], _, _, _ => by simp [de_det, dn_P, dn_prod]
  | [], [], r :: rs, _, _, _ => by simp [de_det, dn_prod]
  | [], _ :: _, _, h, _, _ => absurd h (by simp)
  | _ :: _, [], _, h, _, _ => absurd h (by simp)
  | v :: cols, n :: ns, rows, hl, hb, hn => by
    have hns : ∀ x ∈ ns, 0 ≤ x := fun x hx => hn x (List.mem_cons_of_mem _ hx)
    have h1 := dn_E (u := v) hw (M := dn_prod ns) rows (fun t => de_det cols t) (fun t ht => dn_det hw cols ns t (by simpa using hl) (fun i hi x hx => Int.le_trans (dn_R_S hw rows t ht) (hb (i + 1) (by simpa using hi) x (by simpa using hx))) hns)
    have h2 : dn_S wt v rows ≤ n := hb 0 (by simp) n rfl
    have h3 : 0 ≤ dn_prod ns := by
      have : ∀ l : List Int, (∀ x ∈ l, 0 ≤ x) → 0 ≤ dn_prod l := by
        intro l
        induction l with
        | nil => intro _; simp [dn_prod]
        | cons x l ih => intro h; exact Int.mul_nonneg (h x List.mem_cons_self) (ih fun y hy => h y (List.mem_cons_of_mem _ hy))
      exact this ns hns
    show ((de_E v (fun t => de_det cols t) rows).natAbs : Int) * dn_P wt rows ≤ n * dn_prod ns
    exact Int.le_trans h1 (Int.mul_le_mul_of_nonneg_right h2 h3)
