/-! ===== THE STEPS END ===== -/
theorem fr_trans {s1 c1 s2 c2 s3 c3 : Int} (h1 : 0 < c1) (h2 : 0 < c2) (h3 : 0 < c3) (a : s1 * c2 ≤ s2 * c1) (b : s2 * c3 ≤ s3 * c2) : s1 * c3 ≤ s3 * c1 := by
  have e1 : s1 * c2 * c3 ≤ s2 * c1 * c3 := Int.mul_le_mul_of_nonneg_right a (Int.le_of_lt h3)
  have e2 : s2 * c3 * c1 ≤ s3 * c2 * c1 := Int.mul_le_mul_of_nonneg_right b (Int.le_of_lt h1)
  refine Int.le_of_mul_le_mul_right (a := c2) ?_ h2
  have a1 : s1 * c3 * c2 = s1 * c2 * c3 := by grind
  have a2 : s3 * c1 * c2 = s3 * c2 * c1 := by grind
  have a3 : s2 * c1 * c3 = s2 * c3 * c1 := by grind
  omega
theorem fr_trans_lt {s1 c1 s2 c2 s3 c3 : Int} (h1 : 0 < c1) (h2 : 0 < c2) (h3 : 0 < c3) (a : s1 * c2 < s2 * c1) (b : s2 * c3 ≤ s3 * c2) : s1 * c3 < s3 * c1 := by
  have e1 : s1 * c2 * c3 < s2 * c1 * c3 := Int.mul_lt_mul_of_pos_right a h3
  have e2 : s2 * c3 * c1 ≤ s3 * c2 * c1 := Int.mul_le_mul_of_nonneg_right b (Int.le_of_lt h1)
  refine Int.lt_of_mul_lt_mul_right (a := c2) ?_ (Int.le_of_lt h2)
  have a1 : s1 * c3 * c2 = s1 * c2 * c3 := by grind
  have a2 : s3 * c1 * c2 = s3 * c2 * c1 := by grind
  have a3 : s2 * c1 * c3 = s2 * c3 * c1 := by grind
  omega
theorem fr_trans_lt' {s1 c1 s2 c2 s3 c3 : Int} (h1 : 0 < c1) (h2 : 0 < c2) (h3 : 0 < c3) (a : s1 * c2 ≤ s2 * c1) (b : s2 * c3 < s3 * c2) : s1 * c3 < s3 * c1 := by
  have e1 : s1 * c2 * c3 ≤ s2 * c1 * c3 := Int.mul_le_mul_of_nonneg_right a (Int.le_of_lt h3)
  have e2 : s2 * c3 * c1 < s3 * c2 * c1 := Int.mul_lt_mul_of_pos_right b h1
  refine Int.lt_of_mul_lt_mul_right (a := c2) ?_ (Int.le_of_lt h2)
  have a1 : s1 * c3 * c2 = s1 * c2 * c3 := by grind
  have a2 : s3 * c1 * c2 = s3 * c2 * c1 := by grind
  have a3 : s2 * c1 * c3 = s2 * c3 * c1 := by grind
  omega
/-- the row that leaves first, by the rows in their order -/
def tb_lv (T : tb_T) (e : Nat) : Nat → Option Nat
  | 0 => none
  | i + 1 => match tb_lv T e i with
    | none => if 0 < T.2.1 i e then some i else none
    | some q => if 0 < T.2.1 i e ∧ (T.2.2.1 i * T.2.1 q e < T.2.2.1 q * T.2.1 i e ∨ (T.2.2.1 i * T.2.1 q e = T.2.2.1 q * T.2.1 i e ∧ T.2.2.2 i < T.2.2.2 q)) then some i else some q
theorem tb_lv_none {T : tb_T} {e : Nat} : ∀ {n : Nat}, tb_lv T e n = none → ∀ i, i < n → ¬ 0 < T.2.1 i e
  | 0, _, i, hi => absurd hi (by omega)
  | n + 1, h, i, hi => by
    unfold tb_lv at h
    split at h
    · rename_i h0
      by_cases q : 0 < T.2.1 n e
      · rw [if_pos q] at h; cases h
      · by_cases hin : i = n
        · rw [hin]; exact q
        · exact tb_lv_none h0 i (by omega)
    · split at h <;> cases h
theorem tb_lv_some {T : tb_T} {e : Nat} : ∀ {n l : Nat}, tb_lv T e n = some l → l < n ∧ 0 < T.2.1 l e ∧ ∀ i, i < n → 0 < T.2.1 i e → T.2.2.1 l * T.2.1 i e < T.2.2.1 i * T.2.1 l e ∨ (T.2.2.1 l * T.2.1 i e = T.2.2.1 i * T.2.1 l e ∧ T.2.2.2 l ≤ T.2.2.2 i)
  | 0, l, h => by cases h
  | n + 1, l, h => by
    unfold tb_lv at h
    split at h
    · rename_i h0
      by_cases q : 0 < T.2.1 n e
      · rw [if_pos q] at h
        cases h
        refine ⟨by omega, q, fun i hi hc => ?_⟩
        by_cases hin : i = n
        · subst hin; exact Or.inr ⟨rfl, Nat.le_refl _⟩
        · exact absurd hc (tb_lv_none h0 i (by omega))
      · rw [if_neg q] at h; cases h
    · rename_i k h0
      obtain ⟨a1, a2, a3⟩ := tb_lv_some h0
      by_cases q : 0 < T.2.1 n e ∧ (T.2.2.1 n * T.2.1 k e < T.2.2.1 k * T.2.1 n e ∨ (T.2.2.1 n * T.2.1 k e = T.2.2.1 k * T.2.1 n e ∧ T.2.2.2 n < T.2.2.2 k))
      · rw [if_pos q] at h
        cases h
        obtain ⟨q1, q2⟩ := q
        refine ⟨by omega, q1, fun i hi hc => ?_⟩
        by_cases hin : i = n
        · subst hin; exact Or.inr ⟨rfl, Nat.le_refl _⟩
        · rcases a3 i (by omega) hc with b | ⟨b1, b2⟩
          · rcases q2 with z | ⟨z, _⟩
            · exact Or.inl (fr_trans_lt q1 a2 hc z (Int.le_of_lt b))
            · exact Or.inl (fr_trans_lt' q1 a2 hc (Int.le_of_eq z) b)
          · rcases q2 with z | ⟨z, z2⟩
            · exact Or.inl (fr_trans_lt q1 a2 hc z (Int.le_of_eq b1))
            · refine Or.inr ⟨?_, by omega⟩
              have c1 := fr_trans q1 a2 hc (Int.le_of_eq z) (Int.le_of_eq b1)
              have c2 := fr_trans hc a2 q1 (Int.le_of_eq b1.symm) (Int.le_of_eq z.symm)
              omega
      · rw [if_neg q] at h
        cases h
        refine ⟨by omega, a2, fun i hi hc => ?_⟩
        by_cases hin : i = n
        · subst hin
          have q2 : ¬ (T.2.2.1 i * T.2.1 l e < T.2.2.1 l * T.2.1 i e ∨ (T.2.2.1 i * T.2.1 l e = T.2.2.1 l * T.2.1 i e ∧ T.2.2.2 i < T.2.2.2 l)) := fun z => q ⟨hc, z⟩
          omega
        · exact a3 i (by omega) hc
/-- the first variable by which the goal gets better -/
def tb_en (r : Nat → Int) : Nat → Option Nat
  | 0 => none
  | n + 1 => match tb_en r n with
    | some e => some e
    | none => if 0 < r n then some n else none
theorem tb_en_none {r : Nat → Int} : ∀ {n : Nat}, tb_en r n = none → ∀ x, x < n → r x ≤ 0
  | 0, _, x, hx => absurd hx (by omega)
  | n + 1, h, x, hx => by
    unfold tb_en at h
    split at h
    · cases h
    · rename_i h0
      by_cases q : 0 < r n
      · rw [if_pos q] at h; cases h
      · by_cases e : x = n
        · rw [e]; omega
        · exact tb_en_none h0 x (by omega)
theorem tb_en_some {r : Nat → Int} : ∀ {n e : Nat}, tb_en r n = some e → e < n ∧ 0 < r e ∧ ∀ x, x < e → r x ≤ 0
  | 0, e, h => by cases h
  | n + 1, e, h => by
    unfold tb_en at h
    split at h
    · rename_i k h0
      cases h
      obtain ⟨a1, a2, a3⟩ := tb_en_some h0
      exact ⟨by omega, a2, a3⟩
    · rename_i h0
      by_cases q : 0 < r n
      · rw [if_pos q] at h
        cases h
        exact ⟨by omega, q, fun x hx => tb_en_none h0 x hx⟩
      · rw [if_neg q] at h; cases h
/-- one step, if there is one -/
def tb_step (m N : Nat) (w : Nat → Int) (T : tb_T) : Option tb_T := match tb_en (tb_r m w T) N with
  | none => none
  | some e => match tb_lv T e m with
    | none => none
    | some l => some (tb_pv T l e)
section TE
variable {m N : Nat} {A : Nat → Nat → Int} {b : Nat → Int}
theorem tb_I_pv {T : tb_T} (hN : N ≤ 13) (h : tb_I m N A b T) {e l : Nat} (he : e < N) (hl : tb_lv T e m = some l) : tb_I m N A b (tb_pv T l e) := by
  obtain ⟨a1, a2, a3⟩ := tb_lv_some hl
  obtain ⟨hJ, hD, hs⟩ := h
  obtain ⟨j1, j2, j3⟩ := tb_J_pv hN hJ a1 he (by omega)
  refine ⟨j1, a2, fun i hi => ?_⟩
  show 0 ≤ (if i = l then T.2.2.1 l else (T.2.2.1 i * T.2.1 l e - T.2.1 i e * T.2.2.1 l) / T.1)
  by_cases q : i = l
  · rw [if_pos q]; exact hs l a1
  · rw [if_neg q]
    refine Int.ediv_nonneg ?_ (Int.le_of_lt hD)
    by_cases hc : 0 < T.2.1 i e
    · have := a3 i hi hc
      have e1 : T.2.1 i e * T.2.2.1 l = T.2.2.1 l * T.2.1 i e := Int.mul_comm _ _
      rcases this with z | ⟨z, _⟩ <;> omega
    · have e1 : 0 ≤ T.2.2.1 i * T.2.1 l e := Int.mul_nonneg (hs i hi) (Int.le_of_lt a2)
      have e2 : T.2.1 i e * T.2.2.1 l ≤ 0 := Int.mul_nonpos_of_nonpos_of_nonneg (by omega) (hs l a1)
      omega
theorem tb_st {T : tb_T} (hN : N ≤ 13) (h : tb_I m N A b T) (w : Nat → Int) {e l : Nat} (he : tb_en (tb_r m w T) N = some e) (hl : tb_lv T e m = some l) (ok : Nat → Prop) (hok : ∀ x, x < N → ok x) (hok2 : ∀ x, x < 13 → ok x → x < N) :
    bl_st m (13 + m) ok T.1 (tb_ce T) T.2.2.1 T.2.2.2 (tb_r m w T) (tb_v m w T) (tb_pv T l e).1 (tb_pv T l e).2.2.1 (tb_pv T l e).2.2.2 (tb_v m w (tb_pv T l e)) e l := by
  obtain ⟨e1, e2, e3⟩ := tb_en_some he
  obtain ⟨a1, a2, a3⟩ := tb_lv_some hl
  obtain ⟨hJ, hD, hs⟩ := h
  obtain ⟨j1, j2, j3⟩ := tb_J_pv hN hJ a1 e1 (by omega)
  have ce : ∀ i, tb_ce T i e = T.2.1 i e := fun i => by unfold tb_ce; rw [if_pos (by omega)]
  have hs1 : ∀ i, i < m → i ≠ l → (tb_pv T l e).2.2.1 i * T.1 = T.2.2.1 i * T.2.1 l e - T.2.1 i e * T.2.2.1 l := fun i hi hn => by
    show (if i = l then T.2.2.1 l else (T.2.2.1 i * T.2.1 l e - T.2.1 i e * T.2.2.1 l) / T.1) * T.1 = _
    rw [if_neg hn]
    exact Int.ediv_mul_cancel (j3 i hi hn)
  refine ⟨by omega, hok e e1, e2, fun x hx _ => e3 x hx, a1, by rw [ce]; exact a2, fun i hi hc => by rw [ce] at hc ⊢; rw [ce]; exact a3 i hi hc, by rw [ce]; rfl, fun i _ => rfl, fun i hi hn => by rw [ce, ce]; exact hs1 i hi hn, ?_, ?_⟩
  · show (if l = l then _ else _) = _
    rw [if_pos rfl]
  · -- the goal's value
    show tb_v m w (tb_pv T l e) * T.1 = tb_v m w T * T.2.1 l e - tb_r m w T e * T.2.2.1 l
    have g1 : tb_v m w (tb_pv T l e) * T.1 = sm m (fun i => T.2.1 l e * (w (T.2.2.2 i) * T.2.2.1 i)) + sm m (fun i => (- T.2.2.1 l) * (w (T.2.2.2 i) * tb_ce T i e)) + sm m (fun i => if i = l then w e * T.2.2.1 l * T.1 else 0) := by
      rw [← sm_add, ← sm_add]
      unfold tb_v
      rw [Int.mul_comm, ← sm_mul]
      refine sm_congr fun i hi => ?_
      by_cases q : i = l
      · subst q
        have : (tb_pv T i e).2.2.2 i = e := if_pos rfl
        rw [this, show (tb_pv T i e).2.2.1 i = T.2.2.1 i from if_pos rfl, ce]
        simp only [if_true]
        grind
      · have : (tb_pv T l e).2.2.2 i = T.2.2.2 i := if_neg q
        rw [this, if_neg q, ce]
        have h9 := hs1 i hi q
        calc T.1 * (w (T.2.2.2 i) * (tb_pv T l e).2.2.1 i) = w (T.2.2.2 i) * ((tb_pv T l e).2.2.1 i * T.1) := by grind
          _ = _ := by rw [h9]; grind
    rw [g1, sm_mul, sm_mul, sm_one (i := l) a1 (fun k _ hn => if_neg hn), if_pos rfl]
    unfold tb_v tb_r
    grind
/-! counting bases -/
def ct_m (P : Nat → Bool) : Nat → Nat
  | 0 => 0
  | n + 1 => ct_m P n + (if P n then 2 ^ n else 0)
theorem ct_m_lt (P : Nat → Bool) : ∀ n, ct_m P n < 2 ^ n
  | 0 => by simp [ct_m]
  | n + 1 => by
    have := ct_m_lt P n
    unfold ct_m
    rw [Nat.pow_succ]
    split <;> omega
theorem ct_m_inj (P Q : Nat → Bool) : ∀ n, ct_m P n = ct_m Q n → ∀ x, x < n → P x = Q x
  | 0, _, x, hx => absurd hx (by omega)
  | n + 1, h, x, hx => by
    have h1 := ct_m_lt P n
    have h2 := ct_m_lt Q n
    unfold ct_m at h
    have hn : P n = Q n := by
      cases hp : P n <;> cases hq : Q n <;> simp [hp, hq] at h ⊢ <;> omega
    by_cases e : x = n
    · rw [e]; exact hn
    · rw [hn] at h
      exact ct_m_inj P Q n (by omega) x (by omega)
def ct_c (P : Nat → Bool) : Nat → Nat
  | 0 => 0
  | n + 1 => ct_c P n + (if P n then 1 else 0)
theorem ct_c_le (P : Nat → Bool) : ∀ n, ct_c P n ≤ n
  | 0 => Nat.le_refl _
  | n + 1 => by have := ct_c_le P n; unfold ct_c; split <;> omega
theorem ct_c_mono {P Q : Nat → Bool} : ∀ n, (∀ x, x < n → Q x = true → P x = true) → ct_c Q n ≤ ct_c P n
  | 0, _ => Nat.le_refl _
  | n + 1, h => by
    have := ct_c_mono n (fun x hx => h x (by omega))
    have hn := h n (by omega)
    unfold ct_c
    cases hq : Q n <;> cases hp : P n <;> simp [hq, hp] at hn ⊢ <;> omega
theorem ct_c_eq {P Q : Nat → Bool} : ∀ n, (∀ x, x < n → Q x = true → P x = true) → ct_c Q n = ct_c P n → ∀ x, x < n → P x = Q x
  | 0, _, _, x, hx => absurd hx (by omega)
  | n + 1, h, he, x, hx => by
    have hm := ct_c_mono n (fun x hx => h x (by omega))
    have hn := h n (by omega)
    unfold ct_c at he
    have e1 : P n = Q n := by
      cases hq : Q n <;> cases hp : P n <;> simp [hq, hp] at hn he ⊢
      omega
    by_cases e : x = n
    · rw [e]; exact e1
    · rw [e1] at he
      exact ct_c_eq n (fun x hx => h x (by omega)) (by omega) x (by omega)
/-- THE STEPS END: of 73729 tableaus in a row, each the step of the one ahead, two would have the same basis -/
theorem tb_ends (hN : N ≤ 13) (hm : m ≤ 8) (w : Nat → Int) (T : Nat → tb_T) (h0 : tb_I m N A b (T 0)) (hst : ∀ k, k < 73728 → tb_step m N w (T k) = some (T (k + 1))) : False := by
  -- the steps' own facts
  have stp : ∀ k, k < 73728 → ∃ e l, tb_en (tb_r m w (T k)) N = some e ∧ tb_lv (T k) e m = some l ∧ T (k + 1) = tb_pv (T k) l e := by
    intro k hk
    have h := hst k hk
    unfold tb_step at h
    split at h
    · cases h
    · rename_i e he
      split at h
      · cases h
      · rename_i l hl
        exact ⟨e, l, he, hl, (Option.some.inj h).symm⟩
  have hI : ∀ k, k ≤ 73728 → tb_I m N A b (T k) := by
    intro k
    induction k with
    | zero => intro _; exact h0
    | succ k ih =>
      intro hk
      obtain ⟨e, l, h1, h2, h3⟩ := stp k (by omega)
      rw [h3]
      exact tb_I_pv hN (ih (by omega)) (tb_en_some h1).1 h2
  -- makeshift rows never come again
  have art : ∀ k, k < 73728 → ∀ i, i < m → (T (k + 1)).2.2.2 i = 13 + i → (T k).2.2.2 i = 13 + i := by
    intro k hk i hi h
    obtain ⟨e, l, h1, h2, h3⟩ := stp k hk
    rw [h3] at h
    have h : (if i = l then e else (T k).2.2.2 i) = 13 + i := h
    by_cases q : i = l
    · rw [if_pos q] at h
      have := (tb_en_some h1).1
      omega
    · rw [if_neg q] at h; exact h
  let P : Nat → Nat → Bool := fun k i => decide ((T k).2.2.2 i = 13 + i)
  let M : Nat → Nat → Bool := fun k x => decide (∃ i : Fin m, (T k).2.2.2 i = x)
  have hc : ∀ k, ct_c (P k) m * 8192 + ct_m (M k) 13 < 73728 := by
    intro k
    have h1 := ct_c_le (P k) m
    have h2 := ct_m_lt (M k) 13
    have : (2 : Nat) ^ 13 = 8192 := rfl
    omega
  obtain ⟨p, q, hpq, hq, he⟩ := ph_two 73728 (fun k => ct_c (P k) m * 8192 + ct_m (M k) 13) (fun k _ => hc k)
  have hm1 := ct_m_lt (M p) 13
  have hm2 := ct_m_lt (M q) 13
  have h13 : (2 : Nat) ^ 13 = 8192 := rfl
  have he : ct_c (P p) m * 8192 + ct_m (M p) 13 = ct_c (P q) m * 8192 + ct_m (M q) 13 := he
  have hcc : ct_c (P q) m = ct_c (P p) m := by omega
  have hmm : ct_m (M p) 13 = ct_m (M q) 13 := by omega
  have hsub : ∀ n k, k + n ≤ 73728 → ∀ i, i < m → P (k + n) i = true → P k i = true := by
    intro n
    induction n with
    | zero => intro k _ i _ h; exact h
    | succ n ih =>
      intro k hk i hi h
      have h : (T (k + (n + 1))).2.2.2 i = 13 + i := of_decide_eq_true h
      exact ih k (by omega) i hi (decide_eq_true (art (k + n) (by omega) i hi h))
  have hPc : ∀ k, p ≤ k → k ≤ q → ∀ i, i < m → ((T k).2.2.2 i = 13 + i ↔ (T p).2.2.2 i = 13 + i) := by
    intro k a1 a2 i hi
    have heq := ct_c_eq (P := P p) (Q := P q) m (fun x hx z => by
      have := hsub (q - p) p (by omega) x hx
      rw [show p + (q - p) = q by omega] at this
      exact this z) hcc i hi
    constructor
    · intro z
      have := hsub (k - p) p (by omega) i hi
      rw [show p + (k - p) = k by omega] at this
      exact of_decide_eq_true (this (decide_eq_true z))
    · intro z
      have z1 : P q i = true := by rw [← heq]; exact decide_eq_true z
      have := hsub (q - k) k (by omega) i hi
      rw [show k + (q - k) = q by omega] at this
      exact of_decide_eq_true (this z1)
  have hok : ∀ k, p ≤ k → k ≤ q → tb_ok N m (T k).2.2.2 = tb_ok N m (T p).2.2.2 := by
    intro k a1 a2
    funext x
    apply propext
    constructor
    · rintro (z | ⟨i, hi, z1, z2⟩)
      · exact Or.inl z
      · exact Or.inr ⟨i, hi, (hPc k a1 a2 i hi).mp z1, z2⟩
    · rintro (z | ⟨i, hi, z1, z2⟩)
      · exact Or.inl z
      · exact Or.inr ⟨i, hi, (hPc k a1 a2 i hi).mpr z1, z2⟩
  have hchoose : ∀ k, ∃ el : Nat × Nat, k < 73728 → tb_en (tb_r m w (T k)) N = some el.1 ∧ tb_lv (T k) el.1 m = some el.2 ∧ T (k + 1) = tb_pv (T k) el.2 el.1 := by
    intro k
    by_cases hk : k < 73728
    · obtain ⟨e, l, h1, h2, h3⟩ := stp k hk
      exact ⟨(e, l), fun _ => ⟨h1, h2, h3⟩⟩
    · exact ⟨(0, 0), fun z => absurd z hk⟩
  let E : Nat → Nat × Nat := fun k => Classical.choose (hchoose k)
  have hE : ∀ k, k < 73728 → tb_en (tb_r m w (T k)) N = some (E k).1 ∧ tb_lv (T k) (E k).1 m = some (E k).2 ∧ T (k + 1) = tb_pv (T k) (E k).2 (E k).1 := fun k hk => Classical.choose_spec (hchoose k) hk
  refine bl_main (m := m) (X := 13 + m) (Ae := tb_Ae A) (bb := b) (rows := List.range m) (ok := tb_ok N m (T p).2.2.2) (w := w) (D := fun k => (T k).1) (c := fun k => tb_ce (T k)) (s := fun k => (T k).2.2.1) (g := fun k => (T k).2.2.2) (r := fun k => tb_r m w (T k)) (v := fun k => tb_v m w (T k)) (e := fun k => (E k).1) (l := fun k => (E k).2) hpq
    (fun k a1 a2 => by rw [← hok k a1 a2]; exact tb_bl hN (hI k (by omega)) w) (fun k a1 a2 => ?_) (fun x => ?_)
  · obtain ⟨h1, h2, h3⟩ := hE k (by omega)
    rw [h3]
    refine tb_st hN (hI k (by omega)) w h1 h2 _ (fun x hx => Or.inl hx) (fun x hx z => ?_)
    rcases z with z | ⟨i, _, _, z⟩
    · exact z
    · omega
  · -- the same variables are in
    by_cases hx : x < 13
    · have := ct_m_inj (M p) (M q) 13 hmm x hx
      have a1 : M p x = true ↔ bl_in m ((T p).2.2.2) x := by
        show decide _ = true ↔ _
        rw [decide_eq_true_iff]
        exact ⟨fun ⟨i, hi⟩ => ⟨i.1, i.2, hi⟩, fun ⟨i, hi, z⟩ => ⟨⟨i, hi⟩, z⟩⟩
      have a2 : M q x = true ↔ bl_in m ((T q).2.2.2) x := by
        show decide _ = true ↔ _
        rw [decide_eq_true_iff]
        exact ⟨fun ⟨i, hi⟩ => ⟨i.1, i.2, hi⟩, fun ⟨i, hi, z⟩ => ⟨⟨i, hi⟩, z⟩⟩
      exact a1.symm.trans ((by rw [this]) : (M p x = true ↔ M q x = true)) |>.trans a2
    · constructor
      · rintro ⟨i, hi, z⟩
        have z : (T p).2.2.2 i = x := z
        have hj := (hI p (by omega)).1.1 i hi
        have z1 : (T p).2.2.2 i = 13 + i := by omega
        exact ⟨i, hi, by show (T q).2.2.2 i = x; rw [(hPc q (by omega) (Nat.le_refl _) i hi).mpr z1]; omega⟩
      · rintro ⟨i, hi, z⟩
        have z : (T q).2.2.2 i = x := z
        have hj := (hI q (by omega)).1.1 i hi
        have z1 : (T q).2.2.2 i = 13 + i := by omega
        exact ⟨i, hi, by show (T p).2.2.2 i = x; rw [(hPc q (by omega) (Nat.le_refl _) i hi).mp z1]; omega⟩
end TE
