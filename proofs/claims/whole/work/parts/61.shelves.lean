/-! ===== SHELVES: WHAT WAS KEPT ===== -/
section SH
variable {τ : mT}
theorem takes_36_l {o : Nat} (ho : o + 21 ≤ 126) : ∀ (d k m : Nat) (σ : mS), k + d = 21 → d < m → ∃ σ', Q_takes_36_l2 m (nI o) (nI k) σ τ = some (σ', τ) ∧ (∀ i, k ≤ i → i < 21 → σ' 35 i = σ 36 (o + i)) ∧ (∀ i, i < k → σ' 35 i = σ 35 i) ∧ ∀ a, a ≠ 35 → σ' a = σ a := by
  intro d
  induction d with
  | zero =>
    intro k m σ hk hm
    obtain ⟨m, rfl⟩ : ∃ m', m = m' + 1 := ⟨m - 1, by omega⟩
    refine ⟨σ, ?_, fun i a b => by omega, fun _ _ => rfl, fun _ _ => rfl⟩
    unfold Q_takes_36_l2
    rw [show (21 : Int32) = nI 21 from rfl, if_pos (nI_le (by omega) (by omega))]
  | succ d ih =>
    intro k m σ hk hm
    obtain ⟨m, rfl⟩ : ∃ m', m = m' + 1 := ⟨m - 1, by omega⟩
    unfold Q_takes_36_l2
    rw [show (21 : Int32) = nI 21 from rfl, if_neg (nI_ge (show k < 21 by omega) (by omega)), nI_add, if_neg (nin (show o + k < 126 by omega) (by decide)), if_neg (nin (show k < 21 by omega) (by decide)), ncl (show o + k < 2 ^ 31 by omega), ncl (show k < 2 ^ 31 by omega), mw_eq, nI_1]
    obtain ⟨σ', e1, e2, e3, e4⟩ := ih (k + 1) m (u2 σ 35 k (σ 36 (o + k))) (by omega) (by omega)
    refine ⟨σ', e1, fun i a b => ?_, fun i a => by rw [e3 i (by omega), u2_off _ _ (Or.inr (by omega))], fun a ha => by rw [e4 a ha, u2_ne _ _ _ ha]⟩
    by_cases z : i = k
    · subst z; rw [e3 i (by omega), u2_at]
    · rw [e2 i (by omega) b, u2_ne _ _ _ (by decide)]
theorem takes_36_ok {o : Nat} (ho : o + 21 ≤ 126) (σ : mS) {n : Nat} {f : Nat → Nat} (hn : n ≤ 4) (h : pl_Q n f (σ 36) o) : ∃ σ', Q_takes_36 (nI o) σ τ = some (σ', τ) ∧ pl_Q n f (σ' 35) 0 ∧ ∀ a, a ≠ 35 → σ' a = σ a := by
  obtain ⟨σ', e1, e2, e3, e4⟩ := takes_36_l (τ := τ) ho 21 0 mc_F σ (by omega) (by unfold mc_F; omega)
  exact ⟨σ', e1, h.eq hn (fun i hi => by rw [Nat.zero_add]; exact e2 i (Nat.zero_le _) hi), e4⟩
theorem takes_37_l {o : Nat} (ho : o + 21 ≤ 42) : ∀ (d k m : Nat) (σ : mS), k + d = 21 → d < m → ∃ σ', Q_takes_37_l2 m (nI o) (nI k) σ τ = some (σ', τ) ∧ (∀ i, k ≤ i → i < 21 → σ' 35 i = σ 37 (o + i)) ∧ (∀ i, i < k → σ' 35 i = σ 35 i) ∧ ∀ a, a ≠ 35 → σ' a = σ a := by
  intro d
  induction d with
  | zero =>
    intro k m σ hk hm
    obtain ⟨m, rfl⟩ : ∃ m', m = m' + 1 := ⟨m - 1, by omega⟩
    refine ⟨σ, ?_, fun i a b => by omega, fun _ _ => rfl, fun _ _ => rfl⟩
    unfold Q_takes_37_l2
    rw [show (21 : Int32) = nI 21 from rfl, if_pos (nI_le (by omega) (by omega))]
  | succ d ih =>
    intro k m σ hk hm
    obtain ⟨m, rfl⟩ : ∃ m', m = m' + 1 := ⟨m - 1, by omega⟩
    unfold Q_takes_37_l2
    rw [show (21 : Int32) = nI 21 from rfl, if_neg (nI_ge (show k < 21 by omega) (by omega)), nI_add, if_neg (nin (show o + k < 42 by omega) (by decide)), if_neg (nin (show k < 21 by omega) (by decide)), ncl (show o + k < 2 ^ 31 by omega), ncl (show k < 2 ^ 31 by omega), mw_eq, nI_1]
    obtain ⟨σ', e1, e2, e3, e4⟩ := ih (k + 1) m (u2 σ 35 k (σ 37 (o + k))) (by omega) (by omega)
    refine ⟨σ', e1, fun i a b => ?_, fun i a => by rw [e3 i (by omega), u2_off _ _ (Or.inr (by omega))], fun a ha => by rw [e4 a ha, u2_ne _ _ _ ha]⟩
    by_cases z : i = k
    · subst z; rw [e3 i (by omega), u2_at]
    · rw [e2 i (by omega) b, u2_ne _ _ _ (by decide)]
theorem takes_37_ok {o : Nat} (ho : o + 21 ≤ 42) (σ : mS) {n : Nat} {f : Nat → Nat} (hn : n ≤ 4) (h : pl_Q n f (σ 37) o) : ∃ σ', Q_takes_37 (nI o) σ τ = some (σ', τ) ∧ pl_Q n f (σ' 35) 0 ∧ ∀ a, a ≠ 35 → σ' a = σ a := by
  obtain ⟨σ', e1, e2, e3, e4⟩ := takes_37_l (τ := τ) ho 21 0 mc_F σ (by omega) (by unfold mc_F; omega)
  exact ⟨σ', e1, h.eq hn (fun i hi => by rw [Nat.zero_add]; exact e2 i (Nat.zero_le _) hi), e4⟩
theorem takes_48_l {o : Nat} (ho : o + 21 ≤ 21) : ∀ (d k m : Nat) (σ : mS), k + d = 21 → d < m → ∃ σ', Q_takes_48_l2 m (nI o) (nI k) σ τ = some (σ', τ) ∧ (∀ i, k ≤ i → i < 21 → σ' 35 i = σ 48 (o + i)) ∧ (∀ i, i < k → σ' 35 i = σ 35 i) ∧ ∀ a, a ≠ 35 → σ' a = σ a := by
  intro d
  induction d with
  | zero =>
    intro k m σ hk hm
    obtain ⟨m, rfl⟩ : ∃ m', m = m' + 1 := ⟨m - 1, by omega⟩
    refine ⟨σ, ?_, fun i a b => by omega, fun _ _ => rfl, fun _ _ => rfl⟩
    unfold Q_takes_48_l2
    rw [show (21 : Int32) = nI 21 from rfl, if_pos (nI_le (by omega) (by omega))]
  | succ d ih =>
    intro k m σ hk hm
    obtain ⟨m, rfl⟩ : ∃ m', m = m' + 1 := ⟨m - 1, by omega⟩
    unfold Q_takes_48_l2
    rw [show (21 : Int32) = nI 21 from rfl, if_neg (nI_ge (show k < 21 by omega) (by omega)), nI_add, if_neg (nin (show o + k < 21 by omega) (by decide)), if_neg (nin (show k < 21 by omega) (by decide)), ncl (show o + k < 2 ^ 31 by omega), ncl (show k < 2 ^ 31 by omega), mw_eq, nI_1]
    obtain ⟨σ', e1, e2, e3, e4⟩ := ih (k + 1) m (u2 σ 35 k (σ 48 (o + k))) (by omega) (by omega)
    refine ⟨σ', e1, fun i a b => ?_, fun i a => by rw [e3 i (by omega), u2_off _ _ (Or.inr (by omega))], fun a ha => by rw [e4 a ha, u2_ne _ _ _ ha]⟩
    by_cases z : i = k
    · subst z; rw [e3 i (by omega), u2_at]
    · rw [e2 i (by omega) b, u2_ne _ _ _ (by decide)]
theorem takes_48_ok {o : Nat} (ho : o + 21 ≤ 21) (σ : mS) {n : Nat} {f : Nat → Nat} (hn : n ≤ 4) (h : pl_Q n f (σ 48) o) : ∃ σ', Q_takes_48 (nI o) σ τ = some (σ', τ) ∧ pl_Q n f (σ' 35) 0 ∧ ∀ a, a ≠ 35 → σ' a = σ a := by
  obtain ⟨σ', e1, e2, e3, e4⟩ := takes_48_l (τ := τ) ho 21 0 mc_F σ (by omega) (by unfold mc_F; omega)
  exact ⟨σ', e1, h.eq hn (fun i hi => by rw [Nat.zero_add]; exact e2 i (Nat.zero_le _) hi), e4⟩
theorem lays_37_l {o : Nat} (ho : o + 21 ≤ 42) : ∀ (d k m : Nat) (σ : mS), k + d = 21 → d < m → ∃ σ', Q_lays_37_l2 m (nI o) (nI k) σ τ = some (σ', τ) ∧ (∀ i, k ≤ i → i < 21 → σ' 37 (o + i) = σ 35 i) ∧ (∀ j, j < o + k ∨ o + 21 ≤ j → σ' 37 j = σ 37 j) ∧ ∀ a, a ≠ 37 → σ' a = σ a := by
  intro d
  induction d with
  | zero =>
    intro k m σ hk hm
    obtain ⟨m, rfl⟩ : ∃ m', m = m' + 1 := ⟨m - 1, by omega⟩
    refine ⟨σ, ?_, fun i a b => by omega, fun _ _ => rfl, fun _ _ => rfl⟩
    unfold Q_lays_37_l2
    rw [show (21 : Int32) = nI 21 from rfl, if_pos (nI_le (by omega) (by omega))]
  | succ d ih =>
    intro k m σ hk hm
    obtain ⟨m, rfl⟩ : ∃ m', m = m' + 1 := ⟨m - 1, by omega⟩
    unfold Q_lays_37_l2
    rw [show (21 : Int32) = nI 21 from rfl, if_neg (nI_ge (show k < 21 by omega) (by omega)), nI_add, if_neg (nin (show k < 21 by omega) (by decide)), if_neg (nin (show o + k < 42 by omega) (by decide)), ncl (show o + k < 2 ^ 31 by omega), ncl (show k < 2 ^ 31 by omega), mw_eq, nI_1]
    obtain ⟨σ', e1, e2, e3, e4⟩ := ih (k + 1) m (u2 σ 37 (o + k) (σ 35 k)) (by omega) (by omega)
    refine ⟨σ', e1, fun i a b => ?_, fun j hj => by rw [e3 j (by omega), u2_off _ _ (Or.inr (by omega))], fun a ha => by rw [e4 a ha, u2_ne _ _ _ ha]⟩
    by_cases z : i = k
    · subst z; rw [e3 _ (by omega), u2_at]
    · rw [e2 i (by omega) b, u2_ne _ _ _ (by decide)]
theorem lays_37_ok {o : Nat} (ho : o + 21 ≤ 42) (σ : mS) {n : Nat} {f : Nat → Nat} (hn : n ≤ 4) (h : pl_Q n f (σ 35) 0) : ∃ σ', Q_lays_37 (nI o) σ τ = some (σ', τ) ∧ pl_Q n f (σ' 37) o ∧ (∀ j, j < o ∨ o + 21 ≤ j → σ' 37 j = σ 37 j) ∧ ∀ a, a ≠ 37 → σ' a = σ a := by
  obtain ⟨σ', e1, e2, e3, e4⟩ := lays_37_l (τ := τ) ho 21 0 mc_F σ (by omega) (by unfold mc_F; omega)
  exact ⟨σ', e1, h.eq hn (fun i hi => by rw [Nat.zero_add]; exact e2 i (Nat.zero_le _) hi), e3, e4⟩
theorem lays_48_l {o : Nat} (ho : o + 21 ≤ 21) : ∀ (d k m : Nat) (σ : mS), k + d = 21 → d < m → ∃ σ', Q_lays_48_l2 m (nI o) (nI k) σ τ = some (σ', τ) ∧ (∀ i, k ≤ i → i < 21 → σ' 48 (o + i) = σ 35 i) ∧ (∀ j, j < o + k ∨ o + 21 ≤ j → σ' 48 j = σ 48 j) ∧ ∀ a, a ≠ 48 → σ' a = σ a := by
  intro d
  induction d with
  | zero =>
    intro k m σ hk hm
    obtain ⟨m, rfl⟩ : ∃ m', m = m' + 1 := ⟨m - 1, by omega⟩
    refine ⟨σ, ?_, fun i a b => by omega, fun _ _ => rfl, fun _ _ => rfl⟩
    unfold Q_lays_48_l2
    rw [show (21 : Int32) = nI 21 from rfl, if_pos (nI_le (by omega) (by omega))]
  | succ d ih =>
    intro k m σ hk hm
    obtain ⟨m, rfl⟩ : ∃ m', m = m' + 1 := ⟨m - 1, by omega⟩
    unfold Q_lays_48_l2
    rw [show (21 : Int32) = nI 21 from rfl, if_neg (nI_ge (show k < 21 by omega) (by omega)), nI_add, if_neg (nin (show k < 21 by omega) (by decide)), if_neg (nin (show o + k < 21 by omega) (by decide)), ncl (show o + k < 2 ^ 31 by omega), ncl (show k < 2 ^ 31 by omega), mw_eq, nI_1]
    obtain ⟨σ', e1, e2, e3, e4⟩ := ih (k + 1) m (u2 σ 48 (o + k) (σ 35 k)) (by omega) (by omega)
    refine ⟨σ', e1, fun i a b => ?_, fun j hj => by rw [e3 j (by omega), u2_off _ _ (Or.inr (by omega))], fun a ha => by rw [e4 a ha, u2_ne _ _ _ ha]⟩
    by_cases z : i = k
    · subst z; rw [e3 _ (by omega), u2_at]
    · rw [e2 i (by omega) b, u2_ne _ _ _ (by decide)]
theorem lays_48_ok {o : Nat} (ho : o + 21 ≤ 21) (σ : mS) {n : Nat} {f : Nat → Nat} (hn : n ≤ 4) (h : pl_Q n f (σ 35) 0) : ∃ σ', Q_lays_48 (nI o) σ τ = some (σ', τ) ∧ pl_Q n f (σ' 48) o ∧ (∀ j, j < o ∨ o + 21 ≤ j → σ' 48 j = σ 48 j) ∧ ∀ a, a ≠ 48 → σ' a = σ a := by
  obtain ⟨σ', e1, e2, e3, e4⟩ := lays_48_l (τ := τ) ho 21 0 mc_F σ (by omega) (by unfold mc_F; omega)
  exact ⟨σ', e1, h.eq hn (fun i hi => by rw [Nat.zero_add]; exact e2 i (Nat.zero_le _) hi), e3, e4⟩
/-! the past -/
theorem keeps50 {k : Nat} (hk : k < 6) : ∀ (d i m : Nat) (σ : mS), i + d = 21 → d < m → σ 34 2 = nI k → ∃ σ', Q_keeps_l50 m (nI i) σ τ = some (σ', τ) ∧ σ' 34 2 = nI (k + 1) ∧ (∀ j, i ≤ j → j < 21 → σ' 36 (21 * k + j) = σ 48 j) ∧ (∀ j, j < 21 * k + i → σ' 36 j = σ 36 j) ∧ (∀ a, a ≠ 34 → a ≠ 36 → σ' a = σ a) ∧ ∀ j, j ≠ 2 → σ' 34 j = σ 34 j := by
  intro d
  induction d with
  | zero =>
    intro i m σ hi hm h2
    obtain ⟨m, rfl⟩ : ∃ m', m = m' + 1 := ⟨m - 1, by omega⟩
    refine ⟨u2 σ 34 2 (nI (k + 1)), ?_, u2_at _ _ _ _, fun j a b => by omega, fun j _ => by rw [u2_ne _ _ _ (by decide)], fun a h1 _ => u2_ne _ _ _ h1, fun j hj => u2_off _ _ (Or.inr hj)⟩
    unfold Q_keeps_l50
    rw [show (21 : Int32) = nI 21 from rfl, if_pos (nI_le (by omega) (by omega)), h2, nI_1, mw_eq]
  | succ d ih =>
    intro i m σ hi hm h2
    obtain ⟨m, rfl⟩ : ∃ m', m = m' + 1 := ⟨m - 1, by omega⟩
    unfold Q_keeps_l50
    rw [show (21 : Int32) = nI 21 from rfl, if_neg (nI_ge (show i < 21 by omega) (by omega)), if_neg (nin (show i < 21 by omega) (by decide)), h2, pk_mul, nI_add, if_neg (nin (show 21 * k + i < 126 by omega) (by decide)), ncl (show 21 * k + i < 2 ^ 31 by omega), ncl (show i < 2 ^ 31 by omega), mw_eq, nI_1]
    obtain ⟨σ', e1, e2, e3, e4, e5, e6⟩ := ih (i + 1) m (u2 σ 36 (21 * k + i) (σ 48 i)) (by omega) (by omega) (by rw [u2_ne _ _ _ (by decide)]; exact h2)
    refine ⟨σ', e1, e2, fun j a b => ?_, fun j hj => by rw [e4 j (by omega), u2_off _ _ (Or.inr (by omega))], fun a h1 h3 => by rw [e5 a h1 h3, u2_ne _ _ _ h3], fun j hj => by rw [e6 j hj, u2_ne _ _ _ (by decide)]⟩
    by_cases z : j = i
    · subst z; rw [e4 _ (by omega), u2_at]
    · rw [e3 j (by omega) b, u2_ne _ _ _ (by decide)]
theorem keeps11 : ∀ (d i m : Nat) (σ : mS), i + d = 105 → d < m → σ 34 2 = nI 6 → ∃ s1, Q_keeps_l11 m (nI i) σ τ = Q_keeps_l50 mc_F 0 s1 τ ∧ s1 34 2 = nI 5 ∧ (∀ j, i ≤ j → j < 105 → s1 36 j = σ 36 (j + 21)) ∧ (∀ j, j < i → s1 36 j = σ 36 j) ∧ (∀ a, a ≠ 34 → a ≠ 36 → s1 a = σ a) ∧ ∀ j, j ≠ 2 → s1 34 j = σ 34 j := by
  intro d
  induction d with
  | zero =>
    intro i m σ hi hm h2
    obtain ⟨m, rfl⟩ : ∃ m', m = m' + 1 := ⟨m - 1, by omega⟩
    refine ⟨u2 σ 34 2 (nI 5), ?_, u2_at _ _ _ _, fun j a b => by omega, fun j _ => by rw [u2_ne _ _ _ (by decide)], fun a h1 _ => u2_ne _ _ _ h1, fun j hj => u2_off _ _ (Or.inr hj)⟩
    unfold Q_keeps_l11
    rw [show (105 : Int32) = nI 105 from rfl, if_pos (nI_le (by omega) (by omega)), h2, show (nI 6 : Int32) - 1 = nI 5 from rfl, mw_eq]
  | succ d ih =>
    intro i m σ hi hm h2
    obtain ⟨m, rfl⟩ : ∃ m', m = m' + 1 := ⟨m - 1, by omega⟩
    unfold Q_keeps_l11
    rw [show (105 : Int32) = nI 105 from rfl, if_neg (nI_ge (show i < 105 by omega) (by omega)), show (21 : Int32) = nI 21 from rfl, nI_add, if_neg (nin (show i + 21 < 126 by omega) (by decide)), if_neg (nin (show i < 126 by omega) (by decide)), ncl (show i + 21 < 2 ^ 31 by omega), ncl (show i < 2 ^ 31 by omega), mw_eq, nI_1]
    obtain ⟨σ', e1, e2, e3, e4, e5, e6⟩ := ih (i + 1) m (u2 σ 36 i (σ 36 (i + 21))) (by omega) (by omega) (by rw [u2_ne _ _ _ (by decide)]; exact h2)
    refine ⟨σ', e1, e2, fun j a b => ?_, fun j hj => by rw [e4 j (by omega), u2_off _ _ (Or.inr (by omega))], fun a h1 h3 => by rw [e5 a h1 h3, u2_ne _ _ _ h3], fun j hj => by rw [e6 j hj, u2_ne _ _ _ (by decide)]⟩
    by_cases z : j = i
    · subst z; rw [e4 _ (by omega), u2_at]
    · rw [e3 j (by omega) b, u2_off _ _ (Or.inr (by omega))]
abbrev pT : Type := Nat × (Nat → Nat)
def hs_C (σ : mS) (k : Nat) (P : Nat → pT) : Prop := σ 1 8 = nI k ∧ ∀ j, j < k → pl_C (P j).1 (P j).2 (σ 30) (21 * j)
def hs_Q (σ : mS) (k : Nat) (P : Nat → pT) : Prop := σ 34 2 = nI k ∧ ∀ j, j < k → pl_Q (P j).1 (P j).2 (σ 36) (21 * j)
def hs_V (k : Nat) (P : Nat → pT) : Prop := k ≤ 6 ∧ ∀ j, j < k → pl_V (P j).1 (P j).2
def ps_k (k : Nat) : Nat := if k = 6 then 6 else k + 1
def ps_P (k : Nat) (P : Nat → pT) (p : pT) (j : Nat) : pT := if k = 6 then (if j = 5 then p else P (j + 1)) else (if j = k then p else P j)
theorem hs_V_push {k : Nat} {P : Nat → pT} {p : pT} (h : hs_V k P) (V : pl_V p.1 p.2) : hs_V (ps_k k) (ps_P k P p) := by
  obtain ⟨h1, h2⟩ := h
  unfold hs_V ps_k ps_P
  by_cases e : k = 6
  · rw [if_pos e]
    refine ⟨by omega, fun j hj => ?_⟩
    rw [if_pos e]
    by_cases z : j = 5
    · rw [if_pos z]; exact V
    · rw [if_neg z]; exact h2 _ (by omega)
  · rw [if_neg e]
    refine ⟨by omega, fun j hj => ?_⟩
    rw [if_neg e]
    by_cases z : j = k
    · rw [if_pos z]; exact V
    · rw [if_neg z]; exact h2 _ (by omega)
theorem keeps_ok {σ : mS} {k : Nat} {P : Nat → pT} {p : pT} (hV : hs_V k P) (V : pl_V p.1 p.2) (h : hs_Q σ k P) (ha : pl_Q p.1 p.2 (σ 48) 0) : ∃ σ', Q_keeps σ τ = some (σ', τ) ∧ hs_Q σ' (ps_k k) (ps_P k P p) ∧ (∀ a, a ≠ 34 → a ≠ 36 → σ' a = σ a) ∧ ∀ j, j ≠ 2 → σ' 34 j = σ 34 j := by
  obtain ⟨hk, hV⟩ := hV
  obtain ⟨h1, h2⟩ := h
  unfold Q_keeps
  by_cases e : k = 6
  · subst e
    rw [h1, if_pos (by rfl)]
    obtain ⟨s1, a1, a2, a3, a4, a5, a6⟩ := keeps11 (τ := τ) 105 0 mc_F σ (by omega) (by unfold mc_F; omega) h1
    have a1 : Q_keeps_l11 mc_F 0 σ τ = Q_keeps_l50 mc_F 0 s1 τ := a1
    obtain ⟨σ', b1, b2, b3, b4, b5, b6⟩ := keeps50 (τ := τ) (k := 5) (by decide) 21 0 mc_F s1 (by omega) (by unfold mc_F; omega) a2
    have b1 : Q_keeps_l50 mc_F 0 s1 τ = some (σ', τ) := b1
    refine ⟨σ', by rw [a1, b1], ⟨b2, fun j hj => ?_⟩, fun a x1 x2 => by rw [b5 a x1 x2, a5 a x1 x2], fun j hj => by rw [b6 j hj, a6 j hj]⟩
    have hj : j < 6 := hj
    unfold ps_P
    rw [if_pos rfl]
    by_cases z : j = 5
    · rw [if_pos z, z]
      exact ha.eq V.1 (fun i hi => by rw [Nat.zero_add, b3 i (Nat.zero_le _) hi, a5 48 (by decide) (by decide)])
    · rw [if_neg z]
      exact (h2 (j + 1) (by omega)).eq (hV _ (by omega)).1 (fun i hi => by rw [b4 _ (by omega), a3 _ (Nat.zero_le _) (by omega)]; exact congrArg (σ 36) (by omega))
  · rw [h1, show (6 : Int32) = nI 6 from rfl, if_neg (fun z => e ((nI_eq (by omega) (by decide)).mp z))]
    obtain ⟨σ', b1, b2, b3, b4, b5, b6⟩ := keeps50 (τ := τ) (k := k) (by omega) 21 0 mc_F σ (by omega) (by unfold mc_F; omega) h1
    have b1 : Q_keeps_l50 mc_F 0 σ τ = some (σ', τ) := b1
    refine ⟨σ', b1, ?_, b5, b6⟩
    unfold ps_k
    rw [if_neg e]
    refine ⟨b2, fun j hj => ?_⟩
    rw [show ps_P k P p j = if j = k then p else P j from if_neg e]
    by_cases z : j = k
    · rw [if_pos z, z]
      exact ha.eq V.1 (fun i hi => by rw [Nat.zero_add, b3 i (Nat.zero_le _) hi])
    · rw [if_neg z]
      exact (h2 j (by omega)).eq (hV _ (by omega)).1 (fun i hi => by rw [b4 _ (by omega)])
theorem i21 (k : Nat) : nI k * (21 : Int32) = nI (21 * k) := by rw [show (21 : Int32) = nI 21 from rfl, pk_mul, Nat.mul_comm]
theorem rem21 {σ : mS} {k : Nat} (hk : k < 6) (h1 : σ 1 8 = nI k) : R_remember_b21 σ τ = some (u2 (u1 σ 30 (va_cpy (σ 3) (σ 30) 0 (21 * k) 21)) 1 8 (nI (k + 1)), τ) := by
  have w : R_within (nI k) 0 (6 - 1) σ τ = some (1, σ, τ) := wi_in (j := k) (a := 0) (b := 5) (by omega) (by omega) (by decide) σ τ
  unfold R_remember_b21 S_write_29_2
  rw [h1, w, ob_some, if_neg (by decide), i21, if_neg (nI_pos (by omega)), ncl (show 21 * k < 2 ^ 31 by omega), if_neg (by omega), mw_eq, ov_some, u1_ne _ _ (by decide), h1, nI_1, mw_eq]
theorem remember_ok {σ : mS} {k : Nat} {P : Nat → pT} {p : pT} (hV : hs_V k P) (V : pl_V p.1 p.2) (h : hs_C σ k P) (ha : pl_C p.1 p.2 (σ 3) 0) : ∃ σ', R_remember σ τ = some (σ', τ) ∧ hs_C σ' (ps_k k) (ps_P k P p) ∧ ∀ a, a ≠ 1 → a ≠ 30 → σ' a = σ a := by
  obtain ⟨hk, hV⟩ := hV
  obtain ⟨h1, h2⟩ := h
  unfold R_remember
  by_cases e : k = 6
  · subst e
    rw [h1, show (6 : Int32) = nI 6 from rfl, if_neg (nI_nlt (by decide) (by decide))]
    have fg : S_forgetFirst_29 σ τ = some (u1 σ 30 (va_cpy (σ 30) (σ 30) 21 0 105), τ) := by
      unfold S_forgetFirst_29
      rw [show ((6 : Int32) - 1) * 21 = nI 105 from rfl, if_neg (nI_pos (by decide)), ncl (by decide), if_neg (by decide), if_neg (by decide), mw_eq]
    rw [fg, ov_some, mw_eq, show (5 : Int32) = nI 5 from rfl, rem21 (k := 5) (by decide) (u2_at _ _ _ _)]
    refine ⟨_, rfl, ⟨u2_at _ _ _ _, fun j hj => ?_⟩, fun a a1 a2 => by rw [u2_ne _ _ _ a1, u1_ne _ _ a2, u2_ne _ _ _ a1, u1_ne _ _ a2]⟩
    have hj : j < 6 := hj
    rw [u2_ne _ _ _ (by decide), u1_same, u2_ne _ _ _ (by decide), u2_ne _ _ _ (by decide), u1_same, u1_ne _ _ (by decide)]
    unfold ps_P
    rw [if_pos rfl]
    by_cases z : j = 5
    · rw [if_pos z, z]
      exact pl_C.cpy V.1 ha
    · rw [if_neg z]
      exact (h2 (j + 1) (by omega)).eq (hV _ (by omega)).1 (fun i hi => by rw [pk_cpy_out (by omega), pk_cpy_in (by omega) (by omega)]; exact congrArg (σ 30) (by omega))
  · rw [h1, show (6 : Int32) = nI 6 from rfl, if_pos (nI_lt (by omega) (by decide)), rem21 (k := k) (by omega) h1]
    refine ⟨_, rfl, ?_, fun a a1 a2 => by rw [u2_ne _ _ _ a1, u1_ne _ _ a2]⟩
    unfold ps_k
    rw [if_neg e]
    refine ⟨u2_at _ _ _ _, fun j hj => ?_⟩
    rw [u2_ne _ _ _ (by decide), u1_same, show ps_P k P p j = if j = k then p else P j from if_neg e]
    by_cases z : j = k
    · rw [if_pos z, z]
      exact pl_C.cpy V.1 ha
    · rw [if_neg z]
      exact (h2 j (by omega)).eq (hV _ (by omega)).1 (fun i hi => by rw [pk_cpy_out (by omega)])
/-- laid aside and kept -/
theorem lay_keep {σ : mS} {k : Nat} {P : Nat → pT} {p : pT} (hV : hs_V k P) (V : pl_V p.1 p.2) (h : hs_Q σ k P) (ha : pl_Q p.1 p.2 (σ 35) 0) : ∃ s1 σ', Q_lays_48 0 σ τ = some (s1, τ) ∧ Q_keeps s1 τ = some (σ', τ) ∧ hs_Q σ' (ps_k k) (ps_P k P p) ∧ (∀ a, a ≠ 34 → a ≠ 36 → a ≠ 48 → σ' a = σ a) ∧ ∀ j, j ≠ 2 → σ' 34 j = σ 34 j := by
  obtain ⟨s1, e1, e2, e3, e4⟩ := lays_48_ok (τ := τ) (o := 0) (by decide) σ V.1 ha
  obtain ⟨σ', k1, k2, k3, k4⟩ := keeps_ok (τ := τ) (σ := s1) hV V ⟨by rw [e4 34 (by decide)]; exact h.1, fun j hj => by rw [e4 36 (by decide)]; exact h.2 j hj⟩ e2
  exact ⟨s1, σ', e1, k1, k2, fun a a1 a2 a3 => by rw [k3 a a1 a2, e4 a a3], fun j hj => by rw [k4 j hj, e4 34 (by decide)]⟩
end SH
