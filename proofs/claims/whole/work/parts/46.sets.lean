/-! ===== SETS OF COLUMNS AS BITS ===== -/
def bN (S k : Nat) : Bool := decide (S / 2 ^ k % 2 = 1)
theorem sh_ok : ∀ k : Fin 31, ((nI k.1 &&& 31).toBitVec.smod 32).toNat = k.1 := by decide +kernel
theorem bit_ok {S k : Nat} (hS : S < 2 ^ 31) (hk : k < 31) : (nI S >>> (nI k &&& 31)) &&& (1 : Int32) = nI (if bN S k then 1 else 0) := by
  rw [pk_shrN hS _ k (sh_ok ⟨k, hk⟩), pk_andN (Nat.lt_of_le_of_lt (Nat.div_le_self _ _) (by omega)) 1 (by decide)]
  unfold bN
  congr 1
  have : S / 2 ^ k % 2 ^ 1 < 2 := Nat.mod_lt _ (by decide)
  have e : (2 : Nat) ^ 1 = 2 := rfl
  rw [e] at this ⊢
  by_cases h : S / 2 ^ k % 2 = 1
  · simp [h]
  · simp [h]; omega
theorem has_ok {S k : Nat} (hS : S < 2 ^ 31) (hk : k < 31) (σ : mS) (τ : mT) : Q_has (nI S) (nI k) σ τ = some (nI (if bN S k then 1 else 0), σ, τ) := by
  unfold Q_has
  rw [bit_ok hS hk]
  cases h : bN S k
  · rw [if_neg (by decide)]; rfl
  · rw [if_pos (by rfl)]; rfl
theorem ones_l {S : Nat} (hS : S < 2 ^ 31) (σ : mS) (τ : mT) : ∀ (d k n : Nat), k + d = 16 → d < n → Q_ones_l4 n (nI S) (nI (ct_c (bN S) k)) (nI k) σ τ = some (nI (ct_c (bN S) 16), σ, τ) := by
  intro d
  induction d with
  | zero =>
    intro k n hk hn
    obtain ⟨n, rfl⟩ : ∃ n', n = n' + 1 := ⟨n - 1, by omega⟩
    have : k = 16 := by omega
    subst this
    unfold Q_ones_l4
    rw [if_pos (by decide)]
  | succ d ih =>
    intro k n hk hn
    obtain ⟨n, rfl⟩ : ∃ n', n = n' + 1 := ⟨n - 1, by omega⟩
    unfold Q_ones_l4
    rw [show (16 : Int32) = nI 16 from rfl, if_neg (nI_ge (by omega) (by omega)), bit_ok hS (by omega), nI_add, nI_1]
    exact ih (k + 1) n (by omega) (by omega)
theorem ones_ok {S : Nat} (hS : S < 2 ^ 31) (σ : mS) (τ : mT) : Q_ones (nI S) σ τ = some (nI (ct_c (bN S) 16), σ, τ) := ones_l hS σ τ 16 0 mc_F rfl (by unfold mc_F; omega)
theorem bN_out {S N k : Nat} (hS : S < 2 ^ N) (hk : N ≤ k) : bN S k = false := by
  unfold bN
  have : S / 2 ^ k = 0 := Nat.div_eq_of_lt (Nat.lt_of_lt_of_le hS (Nat.pow_le_pow_right (by decide) hk))
  rw [this]
  rfl
theorem ct_c_ext (P : Nat → Bool) {N : Nat} : ∀ {n : Nat}, N ≤ n → (∀ k, N ≤ k → P k = false) → ct_c P n = ct_c P N := by
  intro n
  induction n with
  | zero => intro h _; rw [show N = 0 by omega]
  | succ n ih =>
    intro h hf
    by_cases e : N = n + 1
    · rw [e]
    · show ct_c P n + (if P n then 1 else 0) = _
      rw [ih (by omega) hf, hf n (by omega)]
      rfl
/-- the number of a set has the set's bits -/
theorem bN_mk (P : Nat → Bool) : ∀ (n c : Nat), c < n → bN (ct_m P n) c = P c
  | 0, c, h => absurd h (by omega)
  | n + 1, c, h => by
    have hx := ct_m_lt P n
    unfold bN
    show decide ((ct_m P n + (if P n then 2 ^ n else 0)) / 2 ^ c % 2 = 1) = P c
    by_cases e : c = n
    · subst e
      cases hp : P c
      · simp only [if_neg (show ¬ (false = true) by decide), Nat.add_zero]
        rw [Nat.div_eq_of_lt hx]
        rfl
      · simp only [if_true]
        rw [Nat.add_div_right _ (Nat.two_pow_pos c), Nat.div_eq_of_lt hx]
        rfl
    · have ih := bN_mk P n c (by omega)
      unfold bN at ih
      rw [← ih]
      congr 1
      cases hp : P n
      · simp
      · simp only [if_true]
        have e1 : (2 : Nat) ^ n = 2 ^ c * (2 * 2 ^ (n - c - 1)) := by
          rw [← Nat.mul_assoc, ← Nat.pow_succ, ← Nat.pow_add]
          congr 1
          omega
        rw [e1, Nat.add_mul_div_left _ _ (Nat.two_pow_pos c), Nat.add_mul_mod_self_left]
theorem ct_c_congr {P Q : Nat → Bool} : ∀ {n : Nat}, (∀ c, c < n → P c = Q c) → ct_c P n = ct_c Q n
  | 0, _ => rfl
  | n + 1, h => by
    show ct_c P n + (if P n then 1 else 0) = ct_c Q n + (if Q n then 1 else 0)
    rw [ct_c_congr (n := n) (fun c hc => h c (by omega)), h n (by omega)]
/-! the columns of a set in their order -/
def sl (P : Nat → Bool) (N j : Nat) : Nat := (tb_en (fun c => if P c = true ∧ ct_c P c = j then 1 else 0) N).getD 0
theorem ct_c_le' (P : Nat → Bool) : ∀ {a b : Nat}, a ≤ b → ct_c P a ≤ ct_c P b := by
  intro a b h
  induction b with
  | zero => rw [show a = 0 by omega]; exact Nat.le_refl _
  | succ b ih =>
    by_cases e : a = b + 1
    · rw [e]; exact Nat.le_refl _
    · have := ih (by omega)
      show _ ≤ ct_c P b + (if P b then 1 else 0)
      omega
theorem sl_ex (P : Nat → Bool) (j : Nat) : ∀ N : Nat, j < ct_c P N → ∃ c, c < N ∧ P c = true ∧ ct_c P c = j
  | 0, hj => absurd hj (by show ¬ j < 0; omega)
  | N + 1, hj => by
    by_cases h : j < ct_c P N
    · obtain ⟨c, h1, h2⟩ := sl_ex P j N h
      exact ⟨c, by omega, h2⟩
    · have hj : j < ct_c P N + (if P N then 1 else 0) := hj
      cases hp : P N
      · rw [hp] at hj; simp at hj; omega
      · rw [hp] at hj; simp at hj
        exact ⟨N, by omega, hp, by omega⟩
theorem sl_ok {P : Nat → Bool} {j : Nat} : ∀ {N : Nat}, j < ct_c P N → sl P N j < N ∧ P (sl P N j) = true ∧ ct_c P (sl P N j) = j := by
  intro N hj
  have hex := sl_ex P j N hj
  obtain ⟨c, h1, h2, h3⟩ := hex
  unfold sl
  cases h : tb_en (fun c => if P c = true ∧ ct_c P c = j then 1 else 0) N with
  | none =>
    have := tb_en_none h c h1
    rw [if_pos ⟨h2, h3⟩] at this
    omega
  | some e =>
    obtain ⟨a1, a2, _⟩ := tb_en_some h
    show e < N ∧ P e = true ∧ ct_c P e = j
    by_cases q : P e = true ∧ ct_c P e = j
    · exact ⟨a1, q⟩
    · rw [if_neg q] at a2; omega
theorem sl_ct {P : Nat → Bool} {N c : Nat} (hc : c < N) (hp : P c = true) : ct_c P c < ct_c P N ∧ sl P N (ct_c P c) = c := by
  have h1 : ct_c P (c + 1) ≤ ct_c P N := ct_c_le' P (by omega)
  have h2 : ct_c P (c + 1) = ct_c P c + 1 := by show ct_c P c + (if P c then 1 else 0) = _; rw [hp]; rfl
  have h3 : ct_c P c < ct_c P N := by omega
  refine ⟨h3, ?_⟩
  obtain ⟨a1, a2, a3⟩ := sl_ok h3
  rcases Nat.lt_trichotomy (sl P N (ct_c P c)) c with z | z | z
  · have := ct_c_le' P (show sl P N (ct_c P c) + 1 ≤ c by omega)
    have e : ct_c P (sl P N (ct_c P c) + 1) = ct_c P (sl P N (ct_c P c)) + 1 := by show _ + (if P _ then 1 else 0) = _; rw [a2]; rfl
    omega
  · exact z
  · have := ct_c_le' P (show c + 1 ≤ sl P N (ct_c P c) by omega)
    omega
/-! ===== FILLS ===== -/
section FI
variable {m N : Nat} {σ : mS}
theorem fills_in (hm : m ≤ 8) (hN : N ≤ 13) (h13 : σ 34 13 = nI m) {S j c : Nat} (hj : j < m) (hc : c < N) (k4 : Int32 → Int32 → Int32 → mS → mT → Option (mS × mT)) : ∀ (d i0 n : Nat) (τ : mT), i0 + d = m → d < n →
    ∃ τ', Q_fills_l23 k4 n (nI S) (nI j) (nI c) (nI i0) σ τ = k4 (nI S) (nI (j + 1)) (nI (c + 1)) σ τ' ∧ (∀ i, i0 ≤ i → i < m → τ' 47 (9 * i + j) = τ 45 (16 * i + c)) ∧ (∀ x, (∀ i, i0 ≤ i → i < m → x ≠ 9 * i + j) → τ' 47 x = τ 47 x) ∧ ∀ a, a ≠ 47 → τ' a = τ a := by
  intro d
  induction d with
  | zero =>
    intro i0 n τ hi hn
    obtain ⟨n, rfl⟩ : ∃ n', n = n' + 1 := ⟨n - 1, by omega⟩
    refine ⟨τ, ?_, fun i a b => by omega, fun x _ => rfl, fun a _ => rfl⟩
    unfold Q_fills_l23
    rw [h13, if_pos (nI_le (by omega) (by omega)), nI_1, nI_1]
  | succ d ih =>
    intro i0 n τ hi hn
    obtain ⟨n, rfl⟩ : ∃ n', n = n' + 1 := ⟨n - 1, by omega⟩
    unfold Q_fills_l23
    rw [h13, if_neg (nI_ge (by omega) (by omega)), n16, n9, if_neg (nin (show 16 * i0 + c < 128 by omega) (by omega)), if_neg (nin (show 9 * i0 + j < 72 by omega) (by omega)), ncl (show 16 * i0 + c < 2 ^ 31 by omega), ncl (show 9 * i0 + j < 2 ^ 31 by omega), mw_eq, nI_1]
    obtain ⟨τ', e1, e2, e3, e4⟩ := ih (i0 + 1) n (u2L τ 47 (9 * i0 + j) (τ 45 (16 * i0 + c))) (by omega) (by omega)
    refine ⟨τ', e1, fun i a b => ?_, fun x hx => ?_, fun a ha => by rw [e4 a ha, u2L_ne _ _ _ ha]⟩
    · by_cases z : i = i0
      · subst z
        rw [e3 _ (fun i' a' b' => by omega), u2L_at]
      · rw [e2 i (by omega) b, u2L_ne _ _ _ (by omega)]
    · rw [e3 x (fun i a b => hx i (by omega) b), u2L_off _ _ (Or.inr (hx i0 (Nat.le_refl _) (by omega)))]
theorem fills_due (hm : m ≤ 8) (h13 : σ 34 13 = nI m) : ∀ (d i0 n : Nat) (τ : mT), i0 + d = m → d < n →
    ∃ τ', Q_fills_l73 n (nI i0) σ τ = some (σ, τ') ∧ (∀ i, i0 ≤ i → i < m → τ' 47 (9 * i + m) = τ 46 i) ∧ (∀ x, (∀ i, i0 ≤ i → i < m → x ≠ 9 * i + m) → τ' 47 x = τ 47 x) ∧ ∀ a, a ≠ 47 → τ' a = τ a := by
  intro d
  induction d with
  | zero =>
    intro i0 n τ hi hn
    obtain ⟨n, rfl⟩ : ∃ n', n = n' + 1 := ⟨n - 1, by omega⟩
    refine ⟨τ, ?_, fun i a b => by omega, fun x _ => rfl, fun a _ => rfl⟩
    unfold Q_fills_l73
    rw [h13, if_pos (nI_le (by omega) (by omega))]
  | succ d ih =>
    intro i0 n τ hi hn
    obtain ⟨n, rfl⟩ : ∃ n', n = n' + 1 := ⟨n - 1, by omega⟩
    unfold Q_fills_l73
    rw [h13, if_neg (nI_ge (by omega) (by omega)), if_neg (nin (show i0 < 8 by omega) (by omega)), n9, if_neg (nin (show 9 * i0 + m < 72 by omega) (by omega)), ncl (show i0 < 2 ^ 31 by omega), ncl (show 9 * i0 + m < 2 ^ 31 by omega), mw_eq, nI_1]
    obtain ⟨τ', e1, e2, e3, e4⟩ := ih (i0 + 1) n (u2L τ 47 (9 * i0 + m) (τ 46 i0)) (by omega) (by omega)
    refine ⟨τ', e1, fun i a b => ?_, fun x hx => ?_, fun a ha => by rw [e4 a ha, u2L_ne _ _ _ ha]⟩
    · by_cases z : i = i0
      · subst z
        rw [e3 _ (fun i' a' b' => by omega), u2L_at]
      · rw [e2 i (by omega) b, u2L_ne _ _ _ (by omega)]
    · rw [e3 x (fun i a b => hx i (by omega) b), u2L_off _ _ (Or.inr (hx i0 (Nat.le_refl _) (by omega)))]
theorem fills_l (hm : m ≤ 8) (hN : N ≤ 13) (h13 : σ 34 13 = nI m) (h14 : σ 34 14 = nI N) {S : Nat} (hS : S < 2 ^ 31) (hct : ct_c (bN S) N = m) : ∀ (d c n : Nat) (τ : mT), c + d = N → d < n →
    ∃ τ', Q_fills_l4 n (nI S) (nI (ct_c (bN S) c)) (nI c) σ τ = some (σ, τ') ∧ (∀ c', c ≤ c' → c' < N → bN S c' = true → ∀ i, i < m → τ' 47 (9 * i + ct_c (bN S) c') = τ 45 (16 * i + c')) ∧ (∀ i, i < m → τ' 47 (9 * i + m) = τ 46 i) ∧ (∀ i j, i < m → j < ct_c (bN S) c → τ' 47 (9 * i + j) = τ 47 (9 * i + j)) ∧ ∀ a, a ≠ 47 → τ' a = τ a := by
  intro d
  induction d with
  | zero =>
    intro c n τ hc hn
    obtain ⟨n, rfl⟩ : ∃ n', n = n' + 1 := ⟨n - 1, by omega⟩
    have : c = N := by omega
    subst this
    unfold Q_fills_l4
    rw [h14, if_pos (nI_le (Nat.le_refl _) (by omega))]
    obtain ⟨τ', e1, e2, e3, e4⟩ := fills_due hm h13 m 0 mc_F τ (by omega) (by unfold mc_F; omega)
    exact ⟨τ', e1, fun c' a b => by omega, fun i hi => e2 i (Nat.zero_le _) hi, fun i j hi hj => e3 _ (fun i' _ b' => by omega), e4⟩
  | succ d ih =>
    intro c n τ hc hn
    obtain ⟨n, rfl⟩ : ∃ n', n = n' + 1 := ⟨n - 1, by omega⟩
    have hcN : c < N := by omega
    unfold Q_fills_l4
    rw [h14, if_neg (nI_ge hcN (by omega)), has_ok hS (by omega), ob_some]
    have hs : ct_c (bN S) (c + 1) = ct_c (bN S) c + (if bN S c then 1 else 0) := rfl
    cases hb : bN S c with
    | false =>
      rw [hb] at hs
      rw [if_pos (by rfl), nI_1]
      have hs : ct_c (bN S) (c + 1) = ct_c (bN S) c := hs
      obtain ⟨τ', e1, e2, e3, e4, e5⟩ := ih (c + 1) n τ (by omega) (by omega)
      rw [hs] at e1 e4
      refine ⟨τ', e1, fun c' a b z => ?_, e3, e4, e5⟩
      by_cases q : c' = c
      · rw [q, hb] at z; cases z
      · exact e2 c' (by omega) b z
    | true =>
      rw [hb] at hs
      rw [if_neg (by decide)]
      have hs : ct_c (bN S) (c + 1) = ct_c (bN S) c + 1 := hs
      have hjm : ct_c (bN S) c < m := by
        have := (sl_ct (P := bN S) hcN hb).1
        omega
      obtain ⟨τ1, f1, f2, f3, f4⟩ := fills_in (σ := σ) hm hN h13 (S := S) hjm hcN (Q_fills_l4 n) m 0 mc_F τ (by omega) (by unfold mc_F; omega)
      have f1 : Q_fills_l23 (Q_fills_l4 n) mc_F (nI S) (nI (ct_c (bN S) c)) (nI c) 0 σ τ = Q_fills_l4 n (nI S) (nI (ct_c (bN S) c + 1)) (nI (c + 1)) σ τ1 := f1
      rw [f1, ← hs]
      obtain ⟨τ', e1, e2, e3, e4, e5⟩ := ih (c + 1) n τ1 (by omega) (by omega)
      refine ⟨τ', e1, fun c' a b z i hi => ?_, fun i hi => by rw [e3 i hi, f4 46 (by omega)], fun i j hi hj => ?_, fun a ha => by rw [e5 a ha, f4 a ha]⟩
      · by_cases q : c' = c
        · subst q
          rw [e4 i _ hi (by omega), f2 i (Nat.zero_le _) hi]
        · rw [e2 c' (by omega) b z i hi, f4 45 (by omega)]
      · rw [e4 i j hi (by omega), f3 _ (fun i' _ b' => by omega)]
/-! ===== SOLVES ===== -/
theorem gj_congr {v : Nat → Nat → Int} {b : Nat → Int} {k : Nat} {D : Int} {c c' : Nat → Nat → Int} (h : gj_I m v b k D c) (he : ∀ i j, i < m → j ≤ m → c' i j = c i j) : gj_I m v b k D c' := by
  obtain ⟨bs, h1, h2, h5, h6, h7, h8⟩ := h
  refine ⟨bs, h1, h2, fun j hj r => ?_, fun r => ?_, h7, h8⟩
  · rw [h5 j hj r]
    exact sm_congr fun i hi => by dsimp only; rw [he i j hi (by omega)]
  · rw [h6 r]
    exact sm_congr fun i hi => by dsimp only; rw [he i m hi (Nat.le_refl _)]
/-- columns that depend on one another -/
def lp_dep (m : Nat) (v : Nat → Nat → Int) : Prop := ∃ (al : Nat → Int) (i : Nat), i < m ∧ al i ≠ 0 ∧ ∀ q, sm m (fun i => al i * v i q) = 0
theorem solves_l (hm : m ≤ 8) (h13 : σ 34 13 = nI m) (hev : lp_ev m) {v : Nat → Nat → Int} {b : Nat → Int} (hv : ∀ j, j < m → lp_nm m (v j) 24) (hb : lp_nm m b 1284) : ∀ (d k n : Nat) (D : Int64) (τ : mT), k + d = m → d < n → gj_I m v b k D.toInt (gr_c τ) → (k = 0 ∨ gr_c τ (k - 1) (k - 1) = D.toInt) →
    ∃ r τ', Q_solves_l10 n D (nI k) σ τ = some (r, σ, τ') ∧ (∀ a, a ≠ 47 → τ' a = τ a) ∧ ((r = 1 ∧ ∃ D' : Int, gj_I m v b m D' (gr_c τ') ∧ (m = 0 → D' = D.toInt) ∧ (m = 0 ∨ gr_c τ' (m - 1) (m - 1) = D')) ∨ (r = 0 ∧ lp_dep m v)) := by
  intro d
  induction d with
  | zero =>
    intro k n D τ hk hn h hd
    obtain ⟨n, rfl⟩ : ∃ n', n = n' + 1 := ⟨n - 1, by omega⟩
    have : k = m := by omega
    subst this
    refine ⟨1, τ, ?_, fun a _ => rfl, Or.inl ⟨rfl, D.toInt, h, fun _ => rfl, hd⟩⟩
    unfold Q_solves_l10
    rw [h13, if_pos (nI_le (Nat.le_refl _) (by omega))]
  | succ d ih =>
    intro k n D τ hk hn h hd
    obtain ⟨n, rfl⟩ : ∃ n', n = n' + 1 := ⟨n - 1, by omega⟩
    have hkm : k < m := by omega
    unfold Q_solves_l10
    rw [h13, if_neg (nI_ge hkm (by omega)), pivot_q hm h13 τ hkm, ob_some]
    cases hf : gj_find (gr_c τ) k m with
    | none =>
      rw [if_pos (show opt9 none = -9 from rfl)]
      refine ⟨0, τ, rfl, fun a _ => rfl, Or.inr ⟨rfl, ?_⟩⟩
      have h0 : ∀ i, k ≤ i → i < m → gr_c τ i k = 0 := fun i a b => by
        by_cases z : gr_c τ i k = 0
        · exact z
        · have := tb_en_none hf i b
          rw [if_pos ⟨a, z⟩] at this
          omega
      obtain ⟨al, a1, a2⟩ := gj_dep h hkm h0
      exact ⟨al, k, hkm, a1, a2⟩
    | some p =>
      obtain ⟨p1, p2, _⟩ := tb_en_some hf
      have hp : k ≤ p ∧ gr_c τ p k ≠ 0 := by
        by_cases z : k ≤ p ∧ gr_c τ p k ≠ 0
        · exact z
        · rw [if_neg z] at p2; omega
      have hn9 : ¬ opt9 (some p) = (-9 : Int32) := fun z => by
        have : (nI p).toInt = (-9 : Int32).toInt := by rw [← z]; rfl
        rw [nI_toInt (by omega)] at this
        have e : (-9 : Int32).toInt = -9 := by decide
        omega
      rw [if_neg hn9]
      obtain ⟨τ1, s1, s2, s3, s4⟩ := swaps_l (σ := σ) hm h13 (show p < 8 by omega) (show k < 8 by omega) (m + 1) 0 mc_F τ (by omega) (by unfold mc_F; omega)
      have s1 : Q_swaps (nI p) (nI k) σ τ = some (σ, τ1) := s1
      show ∃ r τ', ov (Q_swaps (nI p) (nI k) σ τ) _ = _ ∧ _
      rw [s1, ov_some]
      have esw : ∀ i j, i < m → j ≤ m → gr_c τ1 i j = gj_sw (gr_c τ) p k i j := fun i j hi hj => by
        unfold gj_sw gr_c
        by_cases z1 : i = p
        · subst z1
          rw [if_pos rfl, (s2 j (Nat.zero_le _) hj).1]
        · rw [if_neg z1]
          by_cases z2 : i = k
          · subst z2
            rw [if_pos rfl, (s2 j (Nat.zero_le _) hj).2]
          · rw [if_neg z2, s3 _ (fun j' _ b' => ⟨by omega, by omega⟩)]
      have g1 : gj_I m v b k D.toInt (gr_c τ1) := gj_congr (gj_sw_I h hkm p1 hp.1) esw
      have hpv : gr_c τ1 k k ≠ 0 := by
        rw [esw k k hkm (by omega)]
        unfold gj_sw
        by_cases z : k = p
        · rw [if_pos z]; rw [← z] at hp; exact hp.2
        · rw [if_neg z, if_pos rfl]; exact hp.2
      have hD0 : D ≠ 0 := fun z => by
        obtain ⟨bs, _, ⟨q, _⟩, _⟩ := g1
        rw [z] at q
        exact q rfl
      obtain ⟨τ2, t1, t2, t3, t4⟩ := solves_in (σ := σ) hm h13 hkm D hD0 (Q_solves_l10 n) m 0 mc_F τ1 (by omega) (by unfold mc_F; omega)
      have t1 : Q_solves_l47 (Q_solves_l10 n) mc_F D (nI k) 0 σ τ1 = Q_solves_l10 n (τ1 47 (9 * k + k)) (nI (k + 1)) σ τ2 := t1
      rw [t1]
      obtain ⟨g2, g3⟩ := gj_pv_I g1 hkm hv hpv
      obtain ⟨b1, b2, b3⟩ := gj_bd hev hv hb g1
      have bd : ∀ i j, i < m → j ≤ m → ((gr_c τ1 i j).natAbs : Int) ≤ 4600000000 := fun i j hi hj => by
        by_cases z : j = m
        · rw [z]; exact b3 i hi
        · have := b2 i j hi (by omega); omega
      have epv : ∀ i j, i < m → j ≤ m → gr_c τ2 i j = gj_pv D.toInt (gr_c τ1) k i j := fun i j hi hj => by
        unfold gj_pv
        by_cases z : i = k
        · subst z
          rw [if_pos rfl]
          unfold gr_c
          rw [t3 i (Or.inr rfl) hi j hj]
        · rw [if_neg z]
          have dv := g3 i j hi z hj
          show (τ2 47 (9 * i + j)).toInt = _
          rw [t2 i (Nat.zero_le _) hi z j hj]
          have cm : τ1 47 (9 * k + k) * τ1 47 (9 * i + j) - τ1 47 (9 * i + k) * τ1 47 (9 * k + j) = τ1 47 (9 * i + j) * τ1 47 (9 * k + k) - τ1 47 (9 * i + k) * τ1 47 (9 * k + j) := by rw [Int64.mul_comm]
          rw [cm, l_step (S := 4600000000) (C := 84934656) (bd i j hi hj) (b2 k k hkm hkm) (b2 i k hi hkm) (bd k j hkm hj) (by decide) (by decide) (by decide) (by
            have e : (τ1 47 (9 * i + j)).toInt * (τ1 47 (9 * k + k)).toInt - (τ1 47 (9 * i + k)).toInt * (τ1 47 (9 * k + j)).toInt = gr_c τ1 k k * gr_c τ1 i j - gr_c τ1 i k * gr_c τ1 k j := by unfold gr_c; rw [Int.mul_comm (τ1 47 (9 * k + k)).toInt]
            rw [e]; exact dv)]
          unfold gr_c
          rw [Int.mul_comm (τ1 47 (9 * k + k)).toInt]
      obtain ⟨r, τ', e1, e2, e3⟩ := ih (k + 1) n (τ1 47 (9 * k + k)) τ2 (by omega) (by omega) (gj_congr g2 epv) (Or.inr (by
        show gr_c τ2 k k = _
        rw [epv k k hkm (by omega)]
        unfold gj_pv
        rw [if_pos rfl]
        rfl))
      refine ⟨r, τ', e1, fun a ha => by rw [e2 a ha, t4 a ha, s4 a ha], ?_⟩
      rcases e3 with ⟨e3, D', e4, e5, e6⟩ | e3
      · exact Or.inl ⟨e3, D', e4, fun z => by omega, e6⟩
      · exact Or.inr e3
end FI
