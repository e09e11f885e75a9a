/-! ===== THE CLASS's TABLEAU IN ITS MEMORY: what it reads off it ===== -/
/-- the tableau T lies in the memories: m rows, N unknowns -/
def bp_R (m N : Nat) (T : tb_T) (σ : mS) (τ : mT) : Prop :=
  m ≤ 8 ∧ N ≤ 13 ∧ σ 15 3 = nI m ∧ σ 15 4 = nI N ∧ (τ 15 5).toInt = T.1 ∧ (∀ i, i < m → ∀ j, j < N → (τ (17 + i) j).toInt = T.2.1 i j) ∧ (∀ i, i < m → (τ (17 + i) 13).toInt = T.2.2.1 i) ∧ (∀ i, i < m → σ 25 i = nI (T.2.2.2 i) ∧ T.2.2.2 i < 22)
/-- its numbers are small -/
def bp_B (m N : Nat) (T : tb_T) : Prop := (T.1.natAbs : Int) ≤ 84934656 ∧ (∀ i j, i < m → j < N → ((T.2.1 i j).natAbs : Int) ≤ 84934656) ∧ ∀ i, i < m → ((T.2.2.1 i).natAbs : Int) ≤ 4600000000
section BB
variable {m N : Nat} {T : tb_T} {σ : mS} {τ : mT}
theorem bp_makeshift_l (R : bp_R m N T σ τ) (j : Nat) (hj : j < 14) (f : Nat → Int) (hf : ∀ i, i < m → f i = if 13 ≤ T.2.2.2 i then (τ (17 + i) j).toInt else 0) (hb : ∀ i, i < m → ((τ (17 + i) j).toInt.natAbs : Int) ≤ 4600000000) :
    ∀ (d k n : Nat) (acc : Int64), k + d = m → d < n → ((acc.toInt).natAbs : Int) ≤ 4600000000 * k → ∃ z, B_makeshift_l5 n (nI j) acc (nI k) σ τ = some (z, σ, τ) ∧ z.toInt = acc.toInt + (sm m f - sm k f) := by
  obtain ⟨hm, hN, r1, r2, r3, r4, r5, r6⟩ := R
  intro d
  induction d with
  | zero =>
    intro k n acc hk hn _
    obtain ⟨n, rfl⟩ : ∃ n', n = n' + 1 := ⟨n - 1, by omega⟩
    have : k = m := by omega
    subst this
    refine ⟨acc, ?_, by omega⟩
    unfold B_makeshift_l5
    rw [r1, if_pos (nI_le (Nat.le_refl _) (by omega))]
  | succ d ih =>
    intro k n acc hk hn ha
    obtain ⟨n, rfl⟩ : ∃ n', n = n' + 1 := ⟨n - 1, by omega⟩
    have hkm : k < m := by omega
    unfold B_makeshift_l5
    rw [r1, if_neg (nI_ge hkm (by omega)), if_neg (nin (show k < 8 by omega) (by omega)), ncl (show k < 2 ^ 31 by omega), (r6 k hkm).1, nl_13, nI_1]
    have hs : sm (k + 1) f = sm k f + f k := rfl
    by_cases hg : T.2.2.2 k < 13
    · rw [if_pos ((nI_ltI (by have := (r6 k hkm).2; omega) (by omega)).mpr hg)]
      obtain ⟨z, h1, h2⟩ := ih (k + 1) n acc (by omega) (by omega) (by omega)
      refine ⟨z, h1, ?_⟩
      have := hf k hkm
      rw [if_neg (by omega)] at this
      omega
    · rw [if_neg (fun q => hg ((nI_ltI (by have := (r6 k hkm).2; omega) (by omega)).mp q)), if_neg (nin (show j < 14 by omega) (by omega)), ncl (show j < 2 ^ 31 by omega)]
      have hbk := hb k hkm
      have e1 : (acc + τ (17 + k) j).toInt = acc.toInt + (τ (17 + k) j).toInt := l_add ha hbk (by omega)
      obtain ⟨z, h1, h2⟩ := ih (k + 1) n (acc + τ (17 + k) j) (by omega) (by omega) (by rw [e1]; omega)
      refine ⟨z, h1, ?_⟩
      have := hf k hkm
      rw [if_pos (by omega)] at this
      omega
/-- the sum over the makeshift rows, of a column: the goal's row -/
theorem bp_makeshift (R : bp_R m N T σ τ) (B : bp_B m N T) {j : Nat} (hj : j < N) : ∃ z, B_makeshift (nI j) σ τ = some (z, σ, τ) ∧ z.toInt = tb_r m tb_w1 T j := by
  have R' := R
  obtain ⟨hm, hN, r1, r2, r3, r4, r5, r6⟩ := R
  obtain ⟨z, h1, h2⟩ := bp_makeshift_l R' j (by omega) (fun i => if 13 ≤ T.2.2.2 i then (τ (17 + i) j).toInt else 0) (fun i _ => rfl) (fun i hi => by rw [r4 i hi j hj]; have := B.2.1 i j hi hj; omega) m 0 mc_F 0 (by omega) (by unfold mc_F; omega) (by decide)
  refine ⟨z, h1, ?_⟩
  rw [h2]
  have e0 : (0 : Int64).toInt = 0 := rfl
  rw [e0]
  unfold tb_r
  have hw : tb_w1 j = 0 := if_pos (by omega)
  rw [hw, Int.mul_zero, Int.sub_zero]
  show 0 + (sm m _ - 0) = _
  rw [Int.sub_zero, Int.zero_add]
  refine sm_congr fun i hi => ?_
  have hce : tb_ce T i j = T.2.1 i j := if_pos (by omega)
  rw [hce, r4 i hi j hj]
  unfold tb_w1
  by_cases q : T.2.2.2 i < 13
  · rw [if_pos q, if_neg (by omega)]; omega
  · rw [if_neg q, if_pos (by omega)]; omega
theorem bp_makeshiftS (R : bp_R m N T σ τ) (B : bp_B m N T) : ∃ z, B_makeshift (13 : Int32) σ τ = some (z, σ, τ) ∧ z.toInt = tb_v m tb_w1 T := by
  have R' := R
  obtain ⟨hm, hN, r1, r2, r3, r4, r5, r6⟩ := R
  obtain ⟨z, h1, h2⟩ := bp_makeshift_l R' 13 (by omega) (fun i => if 13 ≤ T.2.2.2 i then (τ (17 + i) 13).toInt else 0) (fun i _ => rfl) (fun i hi => by rw [r5 i hi]; exact B.2.2 i hi) m 0 mc_F 0 (by omega) (by unfold mc_F; omega) (by decide)
  refine ⟨z, h1, ?_⟩
  rw [h2]
  have e0 : (0 : Int64).toInt = 0 := rfl
  rw [e0]
  unfold tb_v
  show 0 + (sm m _ - 0) = _
  rw [Int.sub_zero, Int.zero_add]
  refine sm_congr fun i hi => ?_
  rw [r5 i hi]
  unfold tb_w1
  by_cases q : T.2.2.2 i < 13
  · rw [if_pos q, if_neg (by omega)]; omega
  · rw [if_neg q, if_pos (by omega)]; omega
/-- an answer that is a number or -1 -/
def opt32 (o : Option Nat) : Int32 := match o with
  | some k => nI k
  | none => -1
/-- the first from k on -/
theorem tb_en_from {r : Nat → Int} {N : Nat} : ∀ {k e : Nat}, (∀ x, x < k → r x ≤ 0) → k ≤ e → e < N → 0 < r e → (∀ x, k ≤ x → x < e → r x ≤ 0) → tb_en r N = some e := by
  intro k e h1 h2 h3 h4 h5
  cases h : tb_en r N with
  | none => have := tb_en_none h e h3; omega
  | some e' =>
    obtain ⟨a1, a2, a3⟩ := tb_en_some h
    congr 1
    rcases Nat.lt_trichotomy e e' with z | z | z
    · have := a3 e z; omega
    · exact z.symm
    · by_cases q : e' < k
      · have := h1 e' q; omega
      · have := h5 e' (by omega) z; omega
theorem tb_en_all {r : Nat → Int} {N : Nat} (h : ∀ x, x < N → r x ≤ 0) : tb_en r N = none := by
  cases h1 : tb_en r N with
  | none => rfl
  | some e => obtain ⟨a1, a2, _⟩ := tb_en_some h1; have := h e a1; omega
theorem bp_first_l (R : bp_R m N T σ τ) (B : bp_B m N T) : ∀ (d k n : Nat), k + d = N → d < n → (∀ x, x < k → tb_r m tb_w1 T x ≤ 0) → B_firstThatLessensMakeshift_l2 n (nI k) σ τ = some (opt32 (tb_en (tb_r m tb_w1 T) N), σ, τ) := by
  have R' := R
  obtain ⟨hm, hN, r1, r2, r3, r4, r5, r6⟩ := R
  intro d
  induction d with
  | zero =>
    intro k n hk hn h
    obtain ⟨n, rfl⟩ : ∃ n', n = n' + 1 := ⟨n - 1, by omega⟩
    have : k = N := by omega
    subst this
    unfold B_firstThatLessensMakeshift_l2
    rw [r2, if_pos (nI_le (Nat.le_refl _) (by omega)), tb_en_all h]
    rfl
  | succ d ih =>
    intro k n hk hn h
    obtain ⟨n, rfl⟩ : ∃ n', n = n' + 1 := ⟨n - 1, by omega⟩
    have hkN : k < N := by omega
    unfold B_firstThatLessensMakeshift_l2
    obtain ⟨z, h1, h2⟩ := bp_makeshift R' B hkN
    rw [r2, if_neg (nI_ge hkN (by omega)), h1, ob_some]
    by_cases hz : z.toInt ≤ 0
    · rw [if_pos ((lc_le0 z).mpr hz), nI_1]
      refine ih (k + 1) n (by omega) (by omega) (fun x hx => ?_)
      by_cases q : x = k
      · rw [q]; omega
      · exact h x (by omega)
    · rw [if_neg (fun q => hz ((lc_le0 z).mp q)), tb_en_from (k := k) h (Nat.le_refl _) hkN (by omega) (fun x a b => by omega)]
      rfl
theorem bp_first (R : bp_R m N T σ τ) (B : bp_B m N T) : B_firstThatLessensMakeshift σ τ = some (opt32 (tb_en (tb_r m tb_w1 T) N), σ, τ) := by
  unfold B_firstThatLessensMakeshift
  exact bp_first_l R B N 0 mc_F (by omega) (by have := R.2.1; unfold mc_F; omega) (fun x hx => by omega)
theorem bp_ahead (R : bp_R m N T σ τ) (B : bp_B m N T) {i q e : Nat} (hi : i < m) (hq : q < m) (he : e < N) : B_leavesAhead (nI i) (nI q) (nI e) σ τ = some (if T.2.2.1 i * T.2.1 q e < T.2.2.1 q * T.2.1 i e ∨ (T.2.2.1 i * T.2.1 q e = T.2.2.1 q * T.2.1 i e ∧ T.2.2.2 i < T.2.2.2 q) then 1 else 0, σ, τ) := by
  obtain ⟨hm, hN, r1, r2, r3, r4, r5, r6⟩ := R
  obtain ⟨b1, b2, b3⟩ := B
  unfold B_leavesAhead
  rw [if_neg (nin (show i < 8 by omega) (by omega)), if_neg (nin (show q < 8 by omega) (by omega)), if_neg (nin (show e < 14 by omega) (by omega)), ncl (show i < 2 ^ 31 by omega), ncl (show q < 2 ^ 31 by omega), ncl (show e < 2 ^ 31 by omega)]
  have e1 : (τ (17 + i) 13 * τ (17 + q) e).toInt = T.2.2.1 i * T.2.1 q e := by
    rw [l_mul (a := 4600000000) (b := 84934656) (by rw [r5 i hi]; exact b3 i hi) (by rw [r4 q hq e he]; exact b2 q e hq he) (by decide), r5 i hi, r4 q hq e he]
  have e2 : (τ (17 + q) 13 * τ (17 + i) e).toInt = T.2.2.1 q * T.2.1 i e := by
    rw [l_mul (a := 4600000000) (b := 84934656) (by rw [r5 q hq]; exact b3 q hq) (by rw [r4 i hi e he]; exact b2 i e hi he) (by decide), r5 q hq, r4 i hi e he]
  by_cases h1 : T.2.2.1 i * T.2.1 q e < T.2.2.1 q * T.2.1 i e
  · rw [if_pos ((lc_lt _ _).mpr (by rw [e1, e2]; exact h1)), if_pos (Or.inl h1)]
  · rw [if_neg (fun z => h1 (by have := (lc_lt _ _).mp z; rw [e1, e2] at this; exact this))]
    by_cases h2 : T.2.2.1 i * T.2.1 q e = T.2.2.1 q * T.2.1 i e
    · rw [if_pos ((lc_eq _ _).mpr (by rw [e1, e2]; exact h2)), (r6 i hi).1, (r6 q hq).1]
      have g1 := (r6 i hi).2
      have g2 := (r6 q hq).2
      by_cases h3 : T.2.2.2 q ≤ T.2.2.2 i
      · rw [if_pos (nI_le h3 (by omega)), if_neg (by omega)]
      · rw [if_neg (nI_ge (by omega) (by omega)), if_pos (Or.inr ⟨h2, by omega⟩)]
    · rw [if_neg (fun z => h2 (by have := (lc_eq _ _).mp z; rw [e1, e2] at this; exact this)), if_neg (by omega)]
theorem bp_leaving_l (R : bp_R m N T σ τ) (B : bp_B m N T) {e : Nat} (he : e < N) : ∀ (d k n : Nat), k + d = m → d < n → B_leavingRow_l18 n (nI e) (opt32 (tb_lv T e k)) (nI k) σ τ = some (opt32 (tb_lv T e m), σ, τ) := by
  have R' := R
  obtain ⟨hm, hN, r1, r2, r3, r4, r5, r6⟩ := R
  intro d
  induction d with
  | zero =>
    intro k n hk hn
    obtain ⟨n, rfl⟩ : ∃ n', n = n' + 1 := ⟨n - 1, by omega⟩
    have : k = m := by omega
    subst this
    unfold B_leavingRow_l18
    rw [r1, if_pos (nI_le (Nat.le_refl _) (by omega))]
  | succ d ih =>
    intro k n hk hn
    obtain ⟨n, rfl⟩ : ∃ n', n = n' + 1 := ⟨n - 1, by omega⟩
    have hkm : k < m := by omega
    unfold B_leavingRow_l18
    rw [r1, if_neg (nI_ge hkm (by omega)), if_neg (nin (show k < 8 by omega) (by omega)), if_neg (nin (show e < 14 by omega) (by omega)), ncl (show k < 2 ^ 31 by omega), ncl (show e < 2 ^ 31 by omega), nI_1]
    have step : tb_lv T e (k + 1) = match tb_lv T e k with
      | none => if 0 < T.2.1 k e then some k else none
      | some q => if 0 < T.2.1 k e ∧ (T.2.2.1 k * T.2.1 q e < T.2.2.1 q * T.2.1 k e ∨ (T.2.2.1 k * T.2.1 q e = T.2.2.1 q * T.2.1 k e ∧ T.2.2.2 k < T.2.2.2 q)) then some k else some q := rfl
    have hc := r4 k hkm e he
    by_cases h0 : T.2.1 k e ≤ 0
    · rw [if_pos ((lc_le0 _).mpr (by rw [hc]; exact h0))]
      have hs : tb_lv T e (k + 1) = tb_lv T e k := by
        rw [step]
        cases hq : tb_lv T e k with
        | none => exact if_neg (by omega)
        | some q => exact if_neg (fun z => by omega)
      rw [← hs]
      exact ih (k + 1) n (by omega) (by omega)
    · rw [if_neg (fun z => h0 (by rw [← hc]; exact (lc_le0 _).mp z))]
      cases hq : tb_lv T e k with
      | none =>
        rw [if_pos (show opt32 none < 0 by decide)]
        have hs : tb_lv T e (k + 1) = some k := by rw [step, hq]; exact if_pos (by omega)
        have := ih (k + 1) n (by omega) (by omega)
        rw [hs] at this
        exact this
      | some q =>
        have hqm := (tb_lv_some hq).1
        rw [if_neg (show ¬ opt32 (some q) < 0 from nI_pos (by omega))]
        show ob (B_leavesAhead (nI k) (nI q) (nI e) σ τ) _ = _
        rw [bp_ahead R' B hkm (by omega) he, ob_some]
        by_cases h1 : T.2.2.1 k * T.2.1 q e < T.2.2.1 q * T.2.1 k e ∨ (T.2.2.1 k * T.2.1 q e = T.2.2.1 q * T.2.1 k e ∧ T.2.2.2 k < T.2.2.2 q)
        · rw [if_pos h1, if_neg (by decide)]
          have hs : tb_lv T e (k + 1) = some k := by rw [step, hq]; exact if_pos ⟨by omega, h1⟩
          have := ih (k + 1) n (by omega) (by omega)
          rw [hs] at this
          exact this
        · rw [if_neg h1, if_pos rfl]
          have hs : tb_lv T e (k + 1) = some q := by rw [step, hq]; exact if_neg (fun z => h1 z.2)
          have := ih (k + 1) n (by omega) (by omega)
          rw [hs] at this
          exact this
theorem bp_leaving (R : bp_R m N T σ τ) (B : bp_B m N T) {e : Nat} (he : e < N) : B_leavingRow (nI e) σ τ = some (opt32 (tb_lv T e m), σ, τ) := by
  unfold B_leavingRow
  have h1 := R.1
  have h2 := R.2.1
  rw [if_neg (nI_pos (by omega)), R.2.2.2.1, if_pos (nI_lt he (by omega))]
  exact bp_leaving_l R B he m 0 mc_F (by omega) (by unfold mc_F; omega)
theorem bp_leaving_no (σ : mS) (τ : mT) : B_leavingRow (-1) σ τ = some (-1, σ, τ) := by
  unfold B_leavingRow
  rw [if_pos (by decide)]
/-- the row that gives a variable -/
def tb_row (m : Nat) (g : Nat → Nat) (u : Nat) : Option Nat := tb_en (fun i => if g i = u then 1 else 0) m
theorem tb_row_some {g : Nat → Nat} {u k : Nat} (h : tb_row m g u = some k) : k < m ∧ g k = u := by
  obtain ⟨a1, a2, _⟩ := tb_en_some h
  refine ⟨a1, ?_⟩
  by_cases q : g k = u
  · exact q
  · rw [if_neg q] at a2; omega
theorem tb_row_none {g : Nat → Nat} {u : Nat} (h : tb_row m g u = none) : ∀ i, i < m → g i ≠ u := by
  intro i hi q
  have := tb_en_none h i hi
  rw [if_pos q] at this
  omega
theorem bp_gives_l (R : bp_R m N T σ τ) {u : Nat} (hu : u < 22) : ∀ (d k n : Nat), k + d = m → d < n → (∀ x, x < k → T.2.2.2 x ≠ u) → B_rowThatGives_l2 n (nI u) (nI k) σ τ = some (opt32 (tb_row m T.2.2.2 u), σ, τ) := by
  obtain ⟨hm, hN, r1, r2, r3, r4, r5, r6⟩ := R
  intro d
  induction d with
  | zero =>
    intro k n hk hn h
    obtain ⟨n, rfl⟩ : ∃ n', n = n' + 1 := ⟨n - 1, by omega⟩
    have : k = m := by omega
    subst this
    unfold B_rowThatGives_l2
    have : tb_row k T.2.2.2 u = none := tb_en_all fun x hx => by rw [if_neg (h x hx)]; omega
    rw [r1, if_pos (nI_le (Nat.le_refl _) (by omega)), this]
    rfl
  | succ d ih =>
    intro k n hk hn h
    obtain ⟨n, rfl⟩ : ∃ n', n = n' + 1 := ⟨n - 1, by omega⟩
    have hkm : k < m := by omega
    unfold B_rowThatGives_l2
    rw [r1, if_neg (nI_ge hkm (by omega)), if_neg (nin (show k < 8 by omega) (by omega)), ncl (show k < 2 ^ 31 by omega), (r6 k hkm).1, nI_1]
    have hg := (r6 k hkm).2
    by_cases q : T.2.2.2 k = u
    · rw [if_pos (by rw [q])]
      have : tb_row m T.2.2.2 u = some k := tb_en_from (k := 0) (fun x hx => absurd hx (by omega)) (Nat.zero_le _) hkm (by rw [if_pos q]; omega) (fun x _ hx => by rw [if_neg (h x hx)]; omega)
      rw [this]
      rfl
    · rw [if_neg (fun z => q ((nI_eq (by omega) (by omega)).mp z))]
      refine ih (k + 1) n (by omega) (by omega) (fun x hx => ?_)
      by_cases z : x = k
      · rw [z]; exact q
      · exact h x (by omega)
theorem bp_gives (R : bp_R m N T σ τ) {u : Nat} (hu : u < 22) : B_rowThatGives (nI u) σ τ = some (opt32 (tb_row m T.2.2.2 u), σ, τ) := by
  unfold B_rowThatGives
  exact bp_gives_l R hu m 0 mc_F (by omega) (by have := R.1; unfold mc_F; omega) (fun x hx => by omega)
end BB
