/-! ===== WHAT THE STEPS COME TO ===== -/
def tb_run (m N : Nat) (w : Nat → Int) : Nat → tb_T → tb_T
  | 0, T => T
  | n + 1, T => match tb_step m N w T with
    | none => T
    | some T1 => tb_run m N w n T1
/-- pushes (each over t) that meet the equations -/
def lp_sol (N : Nat) (A : Nat → Nat → Int) (b : Nat → Int) (y : Nat → Int) (t : Int) : Prop := 0 < t ∧ (∀ x, x < N → 0 ≤ y x) ∧ ∀ q, sm N (fun x => y x * A x q) = t * b q
def lp_fe (N : Nat) (A : Nat → Nat → Int) (b : Nat → Int) : Prop := ∃ y t, lp_sol N A b y t
/-- the makeshift unit columns by the basis -/
def tb_U (m : Nat) (A : Nat → Nat → Int) (T : tb_T) : Prop := ∀ q, q < m → ∃ cq, pv_CR m (tb_bs m A T.2.2.2) T.1 (tb_un q) cq
def tb_w1 : Nat → Int := fun x => if x < 13 then 0 else 1
section TG
variable {m N : Nat} {A : Nat → Nat → Int} {b : Nat → Int}
theorem tb_step_I {T T1 : tb_T} (hN : N ≤ 13) (h : tb_I m N A b T) {w : Nat → Int} (hs : tb_step m N w T = some T1) : tb_I m N A b T1 := by
  unfold tb_step at hs
  split at hs
  · cases hs
  · rename_i e he
    split at hs
    · cases hs
    · rename_i l hl
      cases hs
      exact tb_I_pv hN h (tb_en_some he).1 hl
theorem tb_U_pv {T : tb_T} (hN : N ≤ 13) (h : tb_J m N A b T) (hU : tb_U m A T) {l e : Nat} (hl : l < m) (he : e < N) (hp : T.2.1 l e ≠ 0) : tb_U m A (tb_pv T l e) := by
  intro q hq
  obtain ⟨cq, hc⟩ := hU q hq
  obtain ⟨h1, h2, h3, h4⟩ := h
  have eA : A e = tb_Ae A e := by unfold tb_Ae; rw [if_pos (by omega)]
  obtain ⟨s1, s2⟩ := pv_step (tb_bs_len m A T.2.2.2) h2 (h3 e he) hl hp
  have := (s2 _ _ hc).2
  rw [eA, tb_bs_set hl] at this
  exact ⟨_, this⟩
theorem tb_U_neg {T : tb_T} (hU : tb_U m A T) : tb_U m A (tb_neg T) := by
  intro q hq
  obtain ⟨cq, hc⟩ := hU q hq
  refine ⟨fun k => - cq k, fun r => ?_⟩
  show - T.1 * tb_un q r = sm m (fun k => - cq k * (tb_bs m A T.2.2.2).getD k (fun _ => 0) r)
  rw [sm_congr (g := fun k => (-1) * (cq k * (tb_bs m A T.2.2.2).getD k (fun _ => 0) r)) (fun k _ => by grind), sm_mul, ← hc r]
  grind
theorem tb_step_U {T T1 : tb_T} (hN : N ≤ 13) (h : tb_I m N A b T) (hU : tb_U m A T) {w : Nat → Int} (hs : tb_step m N w T = some T1) : tb_U m A T1 := by
  unfold tb_step at hs
  split at hs
  · cases hs
  · rename_i e he
    split at hs
    · cases hs
    · rename_i l hl
      cases hs
      have := tb_lv_some hl
      exact tb_U_pv hN h.1 hU this.1 (tb_en_some he).1 (by omega)
/-- a run keeps what a step keeps -/
theorem tb_run_keep {w : Nat → Int} (P : tb_T → Prop) (hP : ∀ T T1, P T → tb_step m N w T = some T1 → P T1) : ∀ (n : Nat) (T : tb_T), P T → P (tb_run m N w n T)
  | 0, T, h => h
  | n + 1, T, h => by
    unfold tb_run
    split
    · exact h
    · rename_i T1 h1
      exact tb_run_keep P hP n T1 (hP T T1 h h1)
/-- the k-th tableau on the way -/
def tb_seq (m N : Nat) (w : Nat → Int) (T : tb_T) : Nat → tb_T
  | 0 => T
  | k + 1 => (tb_step m N w (tb_seq m N w T k)).getD (tb_seq m N w T k)
theorem tb_seq_succ {w : Nat → Int} {T T1 : tb_T} (h : tb_step m N w T = some T1) : ∀ k, tb_seq m N w T (k + 1) = tb_seq m N w T1 k
  | 0 => by show (tb_step m N w T).getD T = T1; rw [h]; rfl
  | k + 1 => by
    show (tb_step m N w (tb_seq m N w T (k + 1))).getD (tb_seq m N w T (k + 1)) = _
    rw [tb_seq_succ h k]
    rfl
theorem tb_run_seq {w : Nat → Int} : ∀ (n : Nat) (T : tb_T), (∀ k, k < n → tb_step m N w (tb_seq m N w T k) ≠ none) ∨ tb_step m N w (tb_run m N w n T) = none
  | 0, T => Or.inl fun k hk => absurd hk (by omega)
  | n + 1, T => by
    unfold tb_run
    split
    · rename_i h; exact Or.inr h
    · rename_i T1 h
      rcases tb_run_seq n T1 with g | g
      · refine Or.inl fun k hk => ?_
        match k with
        | 0 => show tb_step m N w T ≠ none; rw [h]; simp
        | k + 1 => rw [tb_seq_succ h k]; exact g k (by omega)
      · exact Or.inr g
theorem tb_run_stops (hN : N ≤ 13) (hm : m ≤ 8) (w : Nat → Int) {T : tb_T} (h : tb_I m N A b T) {n : Nat} (hn : 73728 ≤ n) : tb_step m N w (tb_run m N w n T) = none := by
  rcases tb_run_seq (m := m) (N := N) (w := w) n T with g | g
  · exfalso
    refine tb_ends hN hm w (tb_seq m N w T) h (fun k hk => ?_)
    show _ = some ((tb_step m N w (tb_seq m N w T k)).getD (tb_seq m N w T k))
    cases hs : tb_step m N w (tb_seq m N w T k) with
    | none => exact absurd hs (g k (by omega))
    | some z => rfl
  · exact g
/-! where nothing gets better -/
theorem tb_ext {T : tb_T} (w : Nat → Int) (hN : N ≤ 13) (h : tb_I m N A b T) {y : Nat → Int} {t : Int} (hy : ∀ q, sm N (fun x => y x * A x q) = t * b q) : T.1 * sm N (fun x => w x * y x) = t * tb_v m w T - sm N (fun x => tb_r m w T x * y x) := by
  have hb := (tb_bl hN h w).2.2.2.2.2.2.2.1 (fun x => if x < N then y x else 0) t (fun x _ hn => by
    rw [if_neg]
    exact fun z => hn (Or.inl z))
  have ext : ∀ (f : Nat → Int) (n : Nat), N ≤ n → (∀ x, ¬ x < N → f x = 0) → sm n f = sm N f := by
    intro f n hn hf
    induction n with
    | zero => rw [show N = 0 by omega]
    | succ n ih =>
      by_cases q : N = n + 1
      · rw [q]
      · show sm n f + f n = _
        rw [ih (by omega), hf n (by omega)]
        omega
  have e1 : ∀ q, sm (13 + m) (fun x => (if x < N then y x else 0) * tb_Ae A x q) = t * b q := fun q => by
    rw [ext _ _ (by omega) (fun x hx => by simp [hx]), ← hy q]
    refine sm_congr fun x hx => ?_
    rw [if_pos hx]
    unfold tb_Ae
    rw [if_pos (by omega)]
  have e2 := hb e1
  rw [ext _ _ (by omega) (fun x hx => by simp [hx]), ext (fun x => tb_r m w T x * _) _ (by omega) (fun x hx => by simp [hx])] at e2
  rw [sm_congr (f := fun x => w x * (if x < N then y x else 0)) (g := fun x => w x * y x) (fun x hx => by rw [if_pos hx]), sm_congr (f := fun x => tb_r m w T x * (if x < N then y x else 0)) (g := fun x => tb_r m w T x * y x) (fun x hx => by rw [if_pos hx])] at e2
  exact e2
theorem sm_nonpos : ∀ {n : Nat} {f : Nat → Int}, (∀ k, k < n → f k ≤ 0) → sm n f ≤ 0
  | 0, _, _ => by simp [sm]
  | n + 1, f, h => by
    unfold sm
    have h1 := sm_nonpos (n := n) (fun k hk => h k (by omega))
    have h2 := h n (by omega)
    omega
/-- no variable makes the goal better: t times its value here is at most D times its value at any pushes -/
theorem tb_best {T : tb_T} (w : Nat → Int) (hN : N ≤ 13) (h : tb_I m N A b T) (hen : tb_en (tb_r m w T) N = none) {y : Nat → Int} {t : Int} (hy : lp_sol N A b y t) : t * tb_v m w T ≤ T.1 * sm N (fun x => w x * y x) := by
  have e := tb_ext w hN h hy.2.2
  have : sm N (fun x => tb_r m w T x * y x) ≤ 0 := sm_nonpos fun x hx => Int.mul_nonpos_of_nonpos_of_nonneg (tb_en_none hen x hx) (hy.2.1 x hx)
  omega
/-- the point of a tableau -/
def tb_pt (m : Nat) (T : tb_T) (x : Nat) : Int := sm m (fun i => if T.2.2.2 i = x then T.2.2.1 i else 0)
theorem tb_pt_at {T : tb_T} (h : tb_J m N A b T) {i : Nat} (hi : i < m) : tb_pt m T (T.2.2.2 i) = T.2.2.1 i := by
  unfold tb_pt
  rw [sm_one (i := i) hi (fun k hk hn => if_neg (fun q => hn (tb_inj h k i hk hi q))), if_pos rfl]
theorem tb_pt_0 {T : tb_T} {x : Nat} (hx : ∀ i, i < m → T.2.2.2 i ≠ x) : tb_pt m T x = 0 := by
  unfold tb_pt
  rw [sm_congr (g := fun _ => 0) (fun k hk => if_neg (hx k hk)), sm_zero]
/-- a tableau of which all makeshift rows are 0 shows pushes -/
theorem tb_sol {T : tb_T} (hN : N ≤ 13) (h : tb_I m N A b T) (h0 : ∀ i, i < m → ¬ T.2.2.2 i < N → T.2.2.1 i = 0) : lp_sol N A b (tb_pt m T) T.1 := by
  obtain ⟨hJ, hD, hs⟩ := h
  refine ⟨hD, fun x _ => sm_nonneg fun i hi => ?_, fun q => ?_⟩
  · by_cases z : T.2.2.2 i = x
    · rw [if_pos z]; exact hs i hi
    · rw [if_neg z]; exact Int.le_refl _
  · rw [hJ.2.2.2 q]
    have e1 : sm m (fun k => T.2.2.1 k * (tb_bs m A T.2.2.2).getD k (fun _ => 0) q) = sm m (fun k => if T.2.2.2 k < N then T.2.2.1 k * A (T.2.2.2 k) q else 0) := by
      refine sm_congr fun k hk => ?_
      rw [tb_bs_get hk]
      by_cases z : T.2.2.2 k < N
      · rw [if_pos z]
        unfold tb_Ae
        rw [if_pos (by omega)]
      · rw [if_neg z, h0 k hk z]; simp
    rw [e1]
    have e2 : sm N (fun x => tb_pt m T x * A x q) = sm N (fun x => sm m (fun i => if T.2.2.2 i = x then T.2.2.1 i * A x q else 0)) := by
      refine sm_congr fun x _ => ?_
      unfold tb_pt
      rw [Int.mul_comm, ← sm_mul]
      exact sm_congr fun i _ => by by_cases z : T.2.2.2 i = x <;> simp [z, Int.mul_comm]
    rw [e2, sm_swap]
    refine sm_congr fun i hi => ?_
    by_cases z : T.2.2.2 i < N
    · rw [if_pos z, sm_one (i := T.2.2.2 i) z (fun x _ hn => if_neg (fun y => hn y.symm)), if_pos rfl]
    · rw [if_neg z, sm_congr (g := fun _ => 0) (fun x hx => if_neg (by omega)), sm_zero]
/-! the start: the makeshift variables alone -/
def tb_0 (A : Nat → Nat → Int) (b : Nat → Int) : tb_T := (1, fun i j => A j i, b, fun i => 13 + i)
theorem tb_det1 : ∀ (k : Nat) (rows : List Nat), (∀ r ∈ rows, k ≤ r) → ∀ n, rows = (List.range n).map (fun i => k + i) → de_det ((List.range n).map (fun i => tb_un (k + i))) rows = 1 := by
  intro k rows hk n
  induction n generalizing k rows with
  | zero => intro h; subst h; rfl
  | succ n ih =>
    intro h
    rw [List.range_succ_eq_map, List.map_cons, List.map_map] at h ⊢
    subst h
    have e1 : ((fun i => k + i) ∘ Nat.succ) = fun i => (k + 1) + i := funext fun i => by show k + (i + 1) = k + 1 + i; omega
    have e2 : ((fun i => tb_un (k + i)) ∘ Nat.succ) = fun i => tb_un ((k + 1) + i) := funext fun i => by show tb_un (k + (i + 1)) = _; congr 1; omega
    rw [e1, e2]
    have ez : ∀ (F : List Nat → Int) (rs : List Nat), (∀ r ∈ rs, k + 1 ≤ r) → de_E (tb_un (k + 0)) F rs = 0 := by
      intro F rs
      induction rs generalizing F with
      | nil => intro _; rfl
      | cons r rs ih2 =>
        intro hr
        have : tb_un (k + 0) r = 0 := if_neg (by have := hr r List.mem_cons_self; omega)
        unfold de_E
        rw [this, ih2 _ (fun z hz => hr z (List.mem_cons_of_mem _ hz))]
        simp
    have hr : ∀ r ∈ (List.range n).map (fun i => k + 1 + i), k + 1 ≤ r := fun r hr => by
      obtain ⟨i, _, rfl⟩ := List.mem_map.mp hr
      omega
    show tb_un (k + 0) (k + 0) * _ - de_E _ _ _ = 1
    rw [ez _ _ hr, show tb_un (k + 0) (k + 0) = 1 from if_pos rfl]
    have := ih (k + 1) _ hr rfl
    show 1 * de_det _ _ - 0 = 1
    rw [this]
    rfl
theorem tb_0_I (hN : N ≤ 13) (hA : ∀ x q, x < N → m ≤ q → A x q = 0) (hb : ∀ q, m ≤ q → b q = 0) (hb0 : ∀ q, q < m → 0 ≤ b q) : tb_I m N A b (tb_0 A b) ∧ tb_U m A (tb_0 A b) := by
  have hbs : ∀ k, k < m → (tb_bs m A (fun i => 13 + i)).getD k (fun _ => 0) = tb_un k := fun k hk => by
    rw [tb_bs_get hk]
    unfold tb_Ae
    rw [if_neg (by omega)]
    congr 1
    omega
  have cr : ∀ v : Nat → Int, (∀ q, m ≤ q → v q = 0) → pv_CR m (tb_bs m A (fun i => 13 + i)) 1 v v := fun v hv r => by
    by_cases hr : r < m
    · rw [sm_one (i := r) hr (fun k hk hn => by
        rw [hbs k hk]
        unfold tb_un
        rw [if_neg (fun z => hn z.symm)]
        simp), hbs r hr]
      unfold tb_un
      rw [if_pos rfl]
      omega
    · rw [hv r (by omega), sm_congr (g := fun _ => 0) (fun k hk => by
        rw [hbs k hk]
        unfold tb_un
        rw [if_neg (by omega)]
        simp), sm_zero]
      rfl
  refine ⟨⟨⟨fun i _ => Or.inr rfl, ⟨by show (1 : Int) ≠ 0; omega, 1, rfl, ?_⟩, fun j hj => cr _ (fun q hq => hA j q hj hq), cr b hb⟩, by show (0 : Int) < 1; omega, hb0⟩, fun q hq => ⟨_, cr (tb_un q) (fun r hr => if_neg (by omega))⟩⟩
  have e : tb_bs m A (tb_0 A b).2.2.2 = (List.range m).map (fun i => tb_un (0 + i)) := by
    unfold tb_bs
    apply List.map_congr_left
    intro i _
    show tb_Ae A (13 + i) = _
    unfold tb_Ae
    rw [if_neg (by omega)]
    congr 1
    omega
  show (1 : Int) = 1 * _
  rw [e, tb_det1 0 (List.range m) (fun r _ => Nat.zero_le r) m (by simp)]
  rfl
/-- the makeshift goal at its end: 0, and there are pushes; else there are none -/
theorem tb_p1_en {T : tb_T} (h : tb_step m N tb_w1 T = none) (hN : N ≤ 13) : tb_en (tb_r m tb_w1 T) N = none := by
  unfold tb_step at h
  split at h
  · assumption
  · rename_i e he
    exfalso
    split at h
    · rename_i hl
      obtain ⟨e1, e2, e3⟩ := tb_en_some he
      have hn := tb_lv_none hl
      have : tb_r m tb_w1 T e ≤ 0 := by
        unfold tb_r
        have h1 : tb_w1 e = 0 := if_pos (by omega)
        rw [h1, Int.mul_zero, Int.sub_zero]
        refine sm_nonpos fun i hi => ?_
        have h2 : tb_ce T i e = T.2.1 i e := if_pos (by omega)
        rw [h2]
        have h3 := hn i hi
        have h4 : 0 ≤ tb_w1 (T.2.2.2 i) := by unfold tb_w1; split <;> omega
        exact Int.mul_nonpos_of_nonneg_of_nonpos h4 (by omega)
      omega
    · cases h
theorem tb_p1 {T : tb_T} (hN : N ≤ 13) (h : tb_I m N A b T) (hst : tb_step m N tb_w1 T = none) : (lp_fe N A b ↔ tb_v m tb_w1 T = 0) ∧ (tb_v m tb_w1 T = 0 → ∀ i, i < m → ¬ T.2.2.2 i < N → T.2.2.1 i = 0) := by
  have hz : tb_v m tb_w1 T = 0 → ∀ i, i < m → ¬ T.2.2.2 i < N → T.2.2.1 i = 0 := by
    intro hv i hi hn
    have hnn : ∀ k, k < m → 0 ≤ tb_w1 (T.2.2.2 k) * T.2.2.1 k := fun k hk => Int.mul_nonneg (by unfold tb_w1; split <;> omega) (h.2.2 k hk)
    have : ∀ n, n ≤ m → sm n (fun i => tb_w1 (T.2.2.2 i) * T.2.2.1 i) ≤ 0 → ∀ i, i < n → tb_w1 (T.2.2.2 i) * T.2.2.1 i = 0 := by
      intro n
      induction n with
      | zero => intro _ _ i hi; exact absurd hi (by omega)
      | succ n ih =>
        intro hn hs i hi
        have h1 := hnn n (by omega)
        have h2 : 0 ≤ sm n (fun i => tb_w1 (T.2.2.2 i) * T.2.2.1 i) := sm_nonneg fun k hk => hnn k (by omega)
        have hs : sm n (fun i => tb_w1 (T.2.2.2 i) * T.2.2.1 i) + tb_w1 (T.2.2.2 n) * T.2.2.1 n ≤ 0 := hs
        by_cases z : i = n
        · subst z; omega
        · exact ih (by omega) (by omega) i (by omega)
    have h1 := this m (Nat.le_refl _) (Int.le_of_eq hv) i hi
    have hg : ¬ T.2.2.2 i < 13 := by
      rcases h.1.1 i hi with z | z
      · exact absurd z hn
      · omega
    have h2 : tb_w1 (T.2.2.2 i) = 1 := if_neg hg
    rw [h2] at h1
    omega
  refine ⟨⟨fun ⟨y, t, hy⟩ => ?_, fun hv => ⟨_, _, tb_sol hN h (hz hv)⟩⟩, hz⟩
  have e := tb_best tb_w1 hN h (tb_p1_en hst hN) hy
  rw [sm_congr (f := fun x => tb_w1 x * y x) (g := fun _ => 0) (fun x hx => by
    have : tb_w1 x = 0 := if_pos (by omega)
    rw [this]; simp), sm_zero, Int.mul_zero] at e
  have h2 : 0 ≤ tb_v m tb_w1 T := sm_nonneg fun k hk => Int.mul_nonneg (by unfold tb_w1; split <;> omega) (h.2.2 k hk)
  by_cases z : tb_v m tb_w1 T = 0
  · exact z
  · have := Int.mul_pos hy.1 (show 0 < tb_v m tb_w1 T by omega)
    omega
end TG
