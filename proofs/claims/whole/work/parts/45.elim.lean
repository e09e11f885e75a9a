/-! ===== THE REFERENCE's ELIMINATION IN ITS MEMORY ===== -/
theorem n9 (i j : Nat) : (9 : Int32) * nI i + nI j = nI (9 * i + j) := by rw [show (9 : Int32) = nI 9 from rfl, pk_mul, nI_add]
theorem n16 (i j : Nat) : (16 : Int32) * nI i + nI j = nI (16 * i + j) := by rw [show (16 : Int32) = nI 16 from rfl, pk_mul, nI_add]
section EL
variable {m : Nat} {σ : mS}
theorem swaps_l (hm : m ≤ 8) (hσ : σ 34 13 = nI m) {p q : Nat} (hp : p < 8) (hq : q < 8) : ∀ (d k n : Nat) (τ : mT), k + d = m + 1 → d < n →
    ∃ τ', Q_swaps_l2 n (nI p) (nI q) (nI k) σ τ = some (σ, τ') ∧ (∀ j, k ≤ j → j ≤ m → τ' 47 (9 * p + j) = τ 47 (9 * q + j) ∧ τ' 47 (9 * q + j) = τ 47 (9 * p + j)) ∧ (∀ x, (∀ j, k ≤ j → j ≤ m → x ≠ 9 * p + j ∧ x ≠ 9 * q + j) → τ' 47 x = τ 47 x) ∧ ∀ a, a ≠ 47 → τ' a = τ a := by
  intro d
  induction d with
  | zero =>
    intro k n τ hk hn
    obtain ⟨n, rfl⟩ : ∃ n', n = n' + 1 := ⟨n - 1, by omega⟩
    refine ⟨τ, ?_, fun j a b => by omega, fun x _ => rfl, fun a _ => rfl⟩
    unfold Q_swaps_l2
    rw [hσ, if_pos (nI_lt (by omega) (by omega))]
  | succ d ih =>
    intro k n τ hk hn
    obtain ⟨n, rfl⟩ : ∃ n', n = n' + 1 := ⟨n - 1, by omega⟩
    have hkm : k ≤ m := by omega
    unfold Q_swaps_l2
    rw [hσ, if_neg (nI_nlt hkm (by omega)), n9, n9, if_neg (nin (show 9 * p + k < 72 by omega) (by omega)), if_neg (nin (show 9 * q + k < 72 by omega) (by omega)), ncl (show 9 * p + k < 2 ^ 31 by omega), ncl (show 9 * q + k < 2 ^ 31 by omega), mw_eq, mw_eq, nI_1]
    obtain ⟨τ', e1, e2, e3, e4⟩ := ih (k + 1) n (u2L (u2L τ 47 (9 * p + k) (τ 47 (9 * q + k))) 47 (9 * q + k) (τ 47 (9 * p + k))) (by omega) (by omega)
    refine ⟨τ', e1, fun j a b => ?_, fun x hx => ?_, fun a ha => ?_⟩
    · by_cases z : j = k
      · subst z
        have h1 := e3 (9 * p + j) (fun j' a' b' => ⟨by omega, by omega⟩)
        have h2 := e3 (9 * q + j) (fun j' a' b' => ⟨by omega, by omega⟩)
        rw [h1, h2]
        by_cases hpq : p = q
        · subst hpq
          rw [u2L_at]
          exact ⟨rfl, rfl⟩
        · rw [u2L_off _ _ (Or.inr (by omega)), u2L_at, u2L_at]
          exact ⟨rfl, rfl⟩
      · obtain ⟨h1, h2⟩ := e2 j (by omega) b
        rw [h1, h2, u2L_off _ _ (Or.inr (by omega)), u2L_off _ _ (Or.inr (by omega)), u2L_off _ _ (Or.inr (by omega)), u2L_off _ _ (Or.inr (by omega))]
        exact ⟨rfl, rfl⟩
    · rw [e3 x (fun j a b => hx j (by omega) b), u2L_off _ _ (Or.inr (hx k (Nat.le_refl _) hkm).2), u2L_off _ _ (Or.inr (hx k (Nat.le_refl _) hkm).1)]
    · rw [e4 a ha, u2L_ne _ _ _ ha, u2L_ne _ _ _ ha]
theorem clears_l (hm : m ≤ 8) (hσ : σ 34 13 = nI m) {i k : Nat} (hi : i < 8) (hk8 : k < 8) (hik : i ≠ k) (D by_ own : Int64) (hD : D ≠ 0) : ∀ (d j0 n : Nat) (τ : mT), j0 + d = m + 1 → d < n →
    ∃ τ', Q_clears_l29 n (nI i) (nI k) D by_ own (nI j0) σ τ = some (σ, τ') ∧ (∀ j, j0 ≤ j → j ≤ m → τ' 47 (9 * i + j) = (by_ * τ 47 (9 * i + j) - own * τ 47 (9 * k + j)) / D) ∧ (∀ x, (∀ j, j0 ≤ j → j ≤ m → x ≠ 9 * i + j) → τ' 47 x = τ 47 x) ∧ ∀ a, a ≠ 47 → τ' a = τ a := by
  intro d
  induction d with
  | zero =>
    intro j0 n τ hk hn
    obtain ⟨n, rfl⟩ : ∃ n', n = n' + 1 := ⟨n - 1, by omega⟩
    refine ⟨τ, ?_, fun j a b => by omega, fun x _ => rfl, fun a _ => rfl⟩
    unfold Q_clears_l29
    rw [hσ, if_pos (nI_lt (by omega) (by omega))]
  | succ d ih =>
    intro j0 n τ hk hn
    obtain ⟨n, rfl⟩ : ∃ n', n = n' + 1 := ⟨n - 1, by omega⟩
    have hkm : j0 ≤ m := by omega
    unfold Q_clears_l29
    rw [hσ, if_neg (nI_nlt hkm (by omega)), n9, n9, if_neg (nin (show 9 * i + j0 < 72 by omega) (by omega)), if_neg (nin (show 9 * k + j0 < 72 by omega) (by omega)), if_neg hD, ncl (show 9 * i + j0 < 2 ^ 31 by omega), ncl (show 9 * k + j0 < 2 ^ 31 by omega), mw_eq, nI_1]
    obtain ⟨τ', e1, e2, e3, e4⟩ := ih (j0 + 1) n (u2L τ 47 (9 * i + j0) ((by_ * τ 47 (9 * i + j0) - own * τ 47 (9 * k + j0)) / D)) (by omega) (by omega)
    refine ⟨τ', e1, fun j a b => ?_, fun x hx => ?_, fun a ha => ?_⟩
    · by_cases z : j = j0
      · subst z
        rw [e3 (9 * i + j) (fun j' a' b' => by omega), u2L_at]
      · rw [e2 j (by omega) b, u2L_off _ _ (Or.inr (by omega)), u2L_off _ _ (Or.inr (by omega))]
    · rw [e3 x (fun j a b => hx j (by omega) b), u2L_off _ _ (Or.inr (hx j0 (Nat.le_refl _) hkm))]
    · rw [e4 a ha, u2L_ne _ _ _ ha]
/-- the cells as whole numbers -/
def gr_c (τ : mT) : Nat → Nat → Int := fun i j => (τ 47 (9 * i + j)).toInt
/-- all rows but the k-th are cleared -/
theorem solves_in (hm : m ≤ 8) (hσ : σ 34 13 = nI m) {k : Nat} (hk : k < m) (D : Int64) (hD : D ≠ 0) (k10 : Int64 → Int32 → mS → mT → Option (Int32 × mS × mT)) : ∀ (d i0 n : Nat) (τ : mT), i0 + d = m → d < n →
    ∃ τ', Q_solves_l47 k10 n D (nI k) (nI i0) σ τ = k10 (τ 47 (9 * k + k)) (nI (k + 1)) σ τ' ∧ (∀ i, i0 ≤ i → i < m → i ≠ k → ∀ j, j ≤ m → τ' 47 (9 * i + j) = (τ 47 (9 * k + k) * τ 47 (9 * i + j) - τ 47 (9 * i + k) * τ 47 (9 * k + j)) / D) ∧ (∀ i, i < i0 ∨ i = k → i < m → ∀ j, j ≤ m → τ' 47 (9 * i + j) = τ 47 (9 * i + j)) ∧ ∀ a, a ≠ 47 → τ' a = τ a := by
  intro d
  induction d with
  | zero =>
    intro i0 n τ hi hn
    obtain ⟨n, rfl⟩ : ∃ n', n = n' + 1 := ⟨n - 1, by omega⟩
    have : i0 = m := by omega
    subst this
    refine ⟨τ, ?_, fun i a b => by omega, fun i _ _ j _ => rfl, fun a _ => rfl⟩
    unfold Q_solves_l47
    rw [hσ, if_pos (nI_le (Nat.le_refl _) (by omega)), n9, if_neg (nin (show 9 * k + k < 72 by omega) (by omega)), ncl (show 9 * k + k < 2 ^ 31 by omega), nI_1]
  | succ d ih =>
    intro i0 n τ hi hn
    obtain ⟨n, rfl⟩ : ∃ n', n = n' + 1 := ⟨n - 1, by omega⟩
    have him : i0 < m := by omega
    unfold Q_solves_l47
    rw [hσ, if_neg (nI_ge him (by omega)), nI_1]
    by_cases q : i0 = k
    · rw [if_pos (by rw [q])]
      obtain ⟨τ', e1, e2, e3, e4⟩ := ih (i0 + 1) n τ (by omega) (by omega)
      exact ⟨τ', e1, fun i a b c => e2 i (by omega) b c, fun i a b => e3 i (by omega) b, e4⟩
    · rw [if_neg (fun z => q ((nI_eq (by omega) (by omega)).mp z))]
      unfold Q_clears
      rw [n9, n9, if_neg (nin (show 9 * k + k < 72 by omega) (by omega)), if_neg (nin (show 9 * i0 + k < 72 by omega) (by omega)), ncl (show 9 * k + k < 2 ^ 31 by omega), ncl (show 9 * i0 + k < 2 ^ 31 by omega)]
      obtain ⟨τ1, c1, c2, c3, c4⟩ := clears_l hm hσ (show i0 < 8 by omega) (show k < 8 by omega) q D (τ 47 (9 * k + k)) (τ 47 (9 * i0 + k)) hD (m + 1) 0 mc_F τ (by omega) (by unfold mc_F; omega)
      have c1 : Q_clears_l29 mc_F (nI i0) (nI k) D (τ 47 (9 * k + k)) (τ 47 (9 * i0 + k)) 0 σ τ = some (σ, τ1) := c1
      rw [c1, ov_some]
      have keep : ∀ i, i < m → i ≠ i0 → ∀ j, j ≤ m → τ1 47 (9 * i + j) = τ 47 (9 * i + j) := fun i hi hn j hj => c3 _ (fun j' _ b' => by omega)
      obtain ⟨τ', e1, e2, e3, e4⟩ := ih (i0 + 1) n τ1 (by omega) (by omega)
      rw [keep k (by omega) (fun z => q z.symm) k (by omega)] at e1
      refine ⟨τ', e1, fun i a b c j hj => ?_, fun i a b j hj => ?_, fun a ha => by rw [e4 a ha, c4 a ha]⟩
      · by_cases z : i = i0
        · subst z
          rw [e3 i (by omega) b j hj, c2 j (Nat.zero_le _) hj]
        · rw [e2 i (by omega) b c j hj, keep k (by omega) (fun z => q z.symm) k (by omega), keep i b z j hj, keep i b z k (by omega), keep k (by omega) (fun z => q z.symm) j hj]
      · rw [e3 i (by omega) b j hj]
        by_cases z : i = i0
        · omega
        · exact keep i b z j hj
/-- the first row from k on that has something in column k; -9 -/
def gj_find (c : Nat → Nat → Int) (k : Nat) (m : Nat) : Option Nat := tb_en (fun i => if k ≤ i ∧ c i k ≠ 0 then 1 else 0) m
def opt9 (o : Option Nat) : Int32 := match o with
  | some k => nI k
  | none => -9
theorem pivot_ql (hm : m ≤ 8) (hσ : σ 34 13 = nI m) (τ : mT) {k : Nat} (hk : k < m) : ∀ (d n : Nat) (f : Option Nat), k + d ≤ m → d < n → (∀ i, i < m → k + d ≤ i → (f = none → gr_c τ i k = 0)) → (∀ p, f = some p → k + d ≤ p ∧ p < m ∧ gr_c τ p k ≠ 0 ∧ ∀ i, k + d ≤ i → i < p → gr_c τ i k = 0) →
    Q_pivot_l10 n (nI k) (opt9 f) (nI (k + d) - 1) σ τ = some (opt9 (gj_find (gr_c τ) k m), σ, τ) := by
  intro d
  induction d with
  | zero =>
    intro n f hd hn h1 h2
    obtain ⟨n, rfl⟩ : ∃ n', n = n' + 1 := ⟨n - 1, by omega⟩
    unfold Q_pivot_l10
    have hlt : nI (k + 0) - 1 < nI k := by
      rw [Int32.lt_iff_toInt_lt, Kit.i32_sub (by rw [nI_toInt (by omega)]; show _ ≤ _ - (1 : Int); omega) (by rw [nI_toInt (by omega)]; show _ - (1 : Int) < _; omega), nI_toInt (by omega), nI_toInt (by omega)]
      show _ - (1 : Int) < _
      omega
    rw [if_pos hlt]
    have : f = gj_find (gr_c τ) k m := by
      cases f with
      | none =>
        refine (tb_en_all fun x hx => ?_).symm
        rw [if_neg]
        · exact Int.le_refl _
        · rintro ⟨a, b⟩; exact b (h1 x hx (by omega) rfl)
      | some p =>
        obtain ⟨a1, a2, a3, a4⟩ := h2 p rfl
        refine (tb_en_from (k := 0) (fun x hx => absurd hx (by omega)) (Nat.zero_le _) a2 (by rw [if_pos ⟨by omega, a3⟩]; omega) (fun x _ hx => ?_)).symm
        rw [if_neg]
        · exact Int.le_refl _
        · rintro ⟨a, b⟩; exact b (a4 x (by omega) hx)
    rw [this]
  | succ d ih =>
    intro n f hd hn h1 h2
    obtain ⟨n, rfl⟩ : ∃ n', n = n' + 1 := ⟨n - 1, by omega⟩
    have e0 : nI (k + (d + 1)) - 1 = nI (k + d) := by rw [show k + (d + 1) = (k + d) + 1 by omega]; exact nI_pred _
    have e1 : nI (k + d) + (-1 : Int32) = nI (k + d) - 1 := by rw [Int32.sub_eq_add_neg]
    unfold Q_pivot_l10
    rw [e0, if_neg (nI_nlt (by omega) (by omega)), n9, if_neg (nin (show 9 * (k + d) + k < 72 by omega) (by omega)), ncl (show 9 * (k + d) + k < 2 ^ 31 by omega), e1]
    by_cases hz : gr_c τ (k + d) k = 0
    · rw [if_pos ((lc_eq0 _).mpr hz)]
      refine ih n f (by omega) (by omega) (fun i a b c => ?_) (fun p hp => ?_)
      · by_cases z : i = k + d
        · rw [z]; exact hz
        · exact h1 i a (by omega) c
      · obtain ⟨a1, a2, a3, a4⟩ := h2 p hp
        refine ⟨by omega, a2, a3, fun i b c => ?_⟩
        by_cases z : i = k + d
        · rw [z]; exact hz
        · exact a4 i (by omega) c
    · rw [if_neg (fun q => hz ((lc_eq0 _).mp q))]
      refine ih n (some (k + d)) (by omega) (by omega) (fun i a b c => by cases c) (fun p hp => ?_)
      cases hp
      exact ⟨Nat.le_refl _, by omega, hz, fun i b c => by omega⟩
theorem pivot_q (hm : m ≤ 8) (hσ : σ 34 13 = nI m) (τ : mT) {k : Nat} (hk : k < m) : Q_pivot (nI k) σ τ = some (opt9 (gj_find (gr_c τ) k m), σ, τ) := by
  unfold Q_pivot
  rw [hσ]
  have := pivot_ql hm hσ τ hk (m - k) mc_F none (by omega) (by unfold mc_F; omega) (fun i a b _ => by omega) (fun p hp => by cases hp)
  rw [show k + (m - k) = m by omega] at this
  exact this
end EL
