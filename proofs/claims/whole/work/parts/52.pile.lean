/-! ===== A PILE IN MEMORY ===== -/
theorem i_or (a b : Nat) : nI a ||| nI b = nI (a ||| b) := by
  apply Int32.toBitVec_inj.1
  show BitVec.ofNat 32 a ||| BitVec.ofNat 32 b = BitVec.ofNat 32 (a ||| b)
  apply BitVec.eq_of_getLsbD_eq
  intro i hi
  simp [hi]
theorem i_shl {k : Nat} (h : k < 31) : (1 : Int32) <<< (nI k &&& 31) = nI (2 ^ k) := by
  have : 2 ^ k < 2 ^ 31 := Nat.pow_lt_pow_right (by decide) h
  rw [show (1 : Int32) = nI 1 from rfl, pk_shlN _ k (sh_ok ⟨k, h⟩) (by omega), Nat.one_mul]
theorem i_orbit {x k : Nat} (h : k < 31) (hx : x < 2 ^ k) : nI x ||| ((1 : Int32) <<< (nI k &&& 31)) = nI (x + 2 ^ k) := by
  rw [i_shl h, i_or, Nat.or_comm]
  have := Nat.two_pow_add_eq_or_of_lt hx 1
  rw [Nat.mul_one] at this
  rw [← this, Nat.add_comm]
theorem i_jmax {a b : Nat} (ha : a < 2 ^ 31) (hb : b < 2 ^ 31) : jmax (nI a) (nI b) = nI (max a b) := by
  unfold jmax
  by_cases h : a < b
  · rw [if_pos (nI_lt h hb), Nat.max_eq_right (by omega)]
  · rw [if_neg (nI_nlt (by omega) ha), Nat.max_eq_left (by omega)]
theorem i_jmin {a b : Nat} (ha : a < 2 ^ 31) (hb : b < 2 ^ 31) : jmin (nI a) (nI b) = nI (min a b) := by
  unfold jmin
  by_cases h : b < a
  · rw [if_pos (nI_lt h ha), Nat.min_eq_right (by omega)]
  · rw [if_neg (nI_nlt (by omega) hb), Nat.min_eq_left (by omega)]
/-- a number within bounds, or not: alike for class and reference -/
theorem wi_ok (x : Int32) (a : Nat) {b : Nat} (ha : a < 2 ^ 31) (hb : b < 2 ^ 31) : (∃ j, a ≤ j ∧ j ≤ b ∧ x = nI j ∧ ∀ σ τ, R_within x (nI a) (nI b) σ τ = some (1, σ, τ)) ∨ (∀ σ τ, R_within x (nI a) (nI b) σ τ = some (0, σ, τ)) := by
  by_cases h1 : x < nI a
  · exact Or.inr fun σ τ => by unfold R_within; rw [if_pos h1]
  · by_cases h2 : nI b < x
    · exact Or.inr fun σ τ => by unfold R_within; rw [if_neg h1, if_pos h2]
    · have hx : ¬ x < 0 := fun z => h1 (by
        rw [Int32.lt_iff_toInt_lt] at z ⊢
        rw [nI_toInt ha]
        have : (0 : Int32).toInt = 0 := by decide
        omega)
      obtain ⟨j, hj, rfl⟩ := nI_of hx
      refine Or.inl ⟨j, ?_, ?_, rfl, fun σ τ => by unfold R_within; rw [if_neg h1, if_neg h2]⟩
      · rcases Nat.lt_or_ge j a with z | z
        · exact absurd (nI_lt z ha) h1
        · exact z
      · rcases Nat.lt_or_ge b j with z | z
        · exact absurd (nI_lt z hj) h2
        · exact z
theorem wi_in {j a b : Nat} (h1 : a ≤ j) (h2 : j ≤ b) (hb : b < 2 ^ 31) (σ : mS) (τ : mT) : R_within (nI j) (nI a) (nI b) σ τ = some (1, σ, τ) := by
  unfold R_within
  rw [if_neg (nI_nlt h1 (by omega)), if_neg (nI_nlt h2 hb)]
theorem wi_pred (x : Int32) {n : Nat} (hn : n < 2 ^ 31) : (∃ j, j < n ∧ x = nI j ∧ ∀ σ τ, R_within x 0 (nI n - 1) σ τ = some (1, σ, τ)) ∨ (∀ σ τ, R_within x 0 (nI n - 1) σ τ = some (0, σ, τ)) := by
  cases n with
  | zero =>
    refine Or.inr fun σ τ => ?_
    unfold R_within
    by_cases h : x < 0
    · rw [if_pos h]
    · rw [if_neg h, if_pos]
      rw [Int32.lt_iff_toInt_lt] at h ⊢
      have e1 : (0 : Int32).toInt = 0 := by decide
      have e2 : (nI 0 - 1).toInt = -1 := by decide
      omega
  | succ k =>
    rw [nI_pred]
    rcases wi_ok x 0 (b := k) (by decide) (by omega) with ⟨j, _, h, e, w⟩ | w
    · exact Or.inl ⟨j, by omega, e, w⟩
    · exact Or.inr w
theorem wi_pin {j n : Nat} (h : j < n) (hn : n < 2 ^ 31) (σ : mS) (τ : mT) : R_within (nI j) 0 (nI n - 1) σ τ = some (1, σ, τ) := by
  obtain ⟨k, rfl⟩ : ∃ k, n = k + 1 := ⟨n - 1, by omega⟩
  rw [nI_pred]
  exact wi_in (Nat.zero_le _) (by omega) (by omega) σ τ
theorem qw_eq : Q_within = R_within := rfl
def pl_V (n : Nat) (f : Nat → Nat) : Prop := n ≤ 4 ∧ ∀ b, b < n → f (5 * b) ≤ 9 ∧ 1 ≤ f (5 * b + 1) ∧ f (5 * b + 1) ≤ 3 ∧ 1 ≤ f (5 * b + 2) ∧ f (5 * b + 2) ≤ 9 ∧ f (5 * b + 3) ≤ 20 ∧ f (5 * b + 4) ≤ 2 * f (5 * b + 1)
/-- the class's way and the reference's way to hold a pile -/
def pl_C (n : Nat) (f : Nat → Nat) (F : Nat → Int32) (o : Nat) : Prop := F (o + 20) = nI n ∧ ∀ i, i < 5 * n → F (o + i) = nI (f i)
def pl_Q (n : Nat) (f : Nat → Nat) (F : Nat → Int32) (o : Nat) : Prop := F o = nI n ∧ ∀ i, i < 5 * n → F (o + (1 + i)) = nI (f i)
theorem pl_V.small {n : Nat} {f : Nat → Nat} (h : pl_V n f) {b k : Nat} (hb : b < n) (hk : k < 5) : f (5 * b + k) ≤ 20 := by
  obtain ⟨h1, h2, h3, h4, h5, h6, h7⟩ := h.2 b hb
  have : k = 0 ∨ k = 1 ∨ k = 2 ∨ k = 3 ∨ k = 4 := by omega
  rcases this with e | e | e | e | e <;> subst e
  · rw [Nat.add_zero]; omega
  · omega
  · omega
  · omega
  · omega
def pl_add (n : Nat) (f : Nat → Nat) (l h w : Nat) : Nat → Nat := fun i => if i < 5 * n then f i else if i = 5 * n then l else if i = 5 * n + 1 then h else if i = 5 * n + 2 then w else 0
def pl_del (f : Nat → Nat) (b : Nat) : Nat → Nat := fun i => if i < 5 * b then f i else f (i + 5)
def pl_set (f : Nat → Nat) (i v : Nat) : Nat → Nat := fun j => if j = i then v else f j
theorem pl_add_lo {n : Nat} {f : Nat → Nat} {l h w i : Nat} (hi : i < 5 * n) : pl_add n f l h w i = f i := if_pos hi
theorem pl_add_V {n : Nat} {f : Nat → Nat} (V : pl_V n f) (hn : n < 4) {l h w : Nat} (h1 : l ≤ 9) (h2 : 1 ≤ h) (h3 : h ≤ 3) (h4 : 1 ≤ w) (h5 : w ≤ 9) : pl_V (n + 1) (pl_add n f l h w) := by
  refine ⟨by omega, fun b hb => ?_⟩
  by_cases e : b = n
  · subst e
    have a0 : pl_add b f l h w (5 * b) = l := by unfold pl_add; rw [if_neg (by omega), if_pos rfl]
    have a1 : pl_add b f l h w (5 * b + 1) = h := by unfold pl_add; rw [if_neg (by omega), if_neg (by omega), if_pos rfl]
    have a2 : pl_add b f l h w (5 * b + 2) = w := by unfold pl_add; rw [if_neg (by omega), if_neg (by omega), if_neg (by omega), if_pos rfl]
    have a3 : pl_add b f l h w (5 * b + 3) = 0 := by unfold pl_add; rw [if_neg (by omega), if_neg (by omega), if_neg (by omega), if_neg (by omega)]
    have a4 : pl_add b f l h w (5 * b + 4) = 0 := by unfold pl_add; rw [if_neg (by omega), if_neg (by omega), if_neg (by omega), if_neg (by omega)]
    rw [a0, a1, a2, a3, a4]
    omega
  · rw [pl_add_lo (by omega), pl_add_lo (by omega), pl_add_lo (by omega), pl_add_lo (by omega), pl_add_lo (by omega)]
    exact V.2 b (by omega)
theorem pl_del_V {n : Nat} {f : Nat → Nat} (V : pl_V n f) {b : Nat} (hb : b < n) : pl_V (n - 1) (pl_del f b) := by
  refine ⟨by have := V.1; omega, fun c hc => ?_⟩
  unfold pl_del
  by_cases e : c < b
  · rw [if_pos (by omega), if_pos (by omega), if_pos (by omega), if_pos (by omega), if_pos (by omega)]
    exact V.2 c (by omega)
  · rw [if_neg (by omega), if_neg (by omega), if_neg (by omega), if_neg (by omega), if_neg (by omega)]
    have := V.2 (c + 1) (by omega)
    exact this
theorem pl_w_V {n : Nat} {f : Nat → Nat} (V : pl_V n f) {b w : Nat} (hb : b < n) (h4 : 1 ≤ w) (h5 : w ≤ 9) : pl_V n (pl_set f (5 * b + 2) w) := by
  refine ⟨V.1, fun c hc => ?_⟩
  obtain ⟨a1, a2, a3, a4, a5, a6, a7⟩ := V.2 c hc
  unfold pl_set
  rw [if_neg (show ¬ 5 * c = 5 * b + 2 by omega), if_neg (show ¬ 5 * c + 1 = 5 * b + 2 by omega), if_neg (show ¬ 5 * c + 3 = 5 * b + 2 by omega), if_neg (show ¬ 5 * c + 4 = 5 * b + 2 by omega)]
  refine ⟨a1, a2, a3, ?_, ?_, a6, a7⟩
  · split <;> omega
  · split <;> omega
theorem pl_l_V {n : Nat} {f : Nat → Nat} (V : pl_V n f) {b l s : Nat} (hb : b < n) (h4 : l ≤ 20) (h5 : s ≤ 2 * f (5 * b + 1)) : pl_V n (pl_set (pl_set f (5 * b + 3) l) (5 * b + 4) s) := by
  refine ⟨V.1, fun c hc => ?_⟩
  obtain ⟨a1, a2, a3, a4, a5, a6, a7⟩ := V.2 c hc
  unfold pl_set
  rw [if_neg (show ¬ 5 * c = 5 * b + 4 by omega), if_neg (show ¬ 5 * c = 5 * b + 3 by omega), if_neg (show ¬ 5 * c + 1 = 5 * b + 4 by omega), if_neg (show ¬ 5 * c + 1 = 5 * b + 3 by omega), if_neg (show ¬ 5 * c + 2 = 5 * b + 4 by omega), if_neg (show ¬ 5 * c + 2 = 5 * b + 3 by omega), if_neg (show ¬ 5 * c + 3 = 5 * b + 4 by omega), if_neg (show ¬ 5 * c + 4 = 5 * b + 3 by omega)]
  refine ⟨a1, a2, a3, a4, a5, ?_, ?_⟩
  · split <;> omega
  · split
    · rename_i z
      have : c = b := by omega
      subst this
      exact h5
    · exact a7
theorem pl_C.cpy {n : Nat} {f : Nat → Nat} {F G : Nat → Int32} {o o' : Nat} (hn : n ≤ 4) (h : pl_C n f F o) : pl_C n f (va_cpy F G o o' 21) o' := by
  refine ⟨?_, fun i hi => ?_⟩
  · rw [pk_cpy_in (by omega) (by omega), show o + (o' + 20 - o') = o + 20 by omega]; exact h.1
  · rw [pk_cpy_in (by omega) (by omega), show o + (o' + i - o') = o + i by omega]; exact h.2 i hi
theorem pl_C.eq {n : Nat} {f : Nat → Nat} {F G : Nat → Int32} {o o' : Nat} (hn : n ≤ 4) (h : pl_C n f F o) (e : ∀ i, i < 21 → G (o' + i) = F (o + i)) : pl_C n f G o' := ⟨by rw [e 20 (by omega)]; exact h.1, fun i hi => by rw [e i (by omega)]; exact h.2 i hi⟩
theorem pl_Q.eq {n : Nat} {f : Nat → Nat} {F G : Nat → Int32} {o o' : Nat} (hn : n ≤ 4) (h : pl_Q n f F o) (e : ∀ i, i < 21 → G (o' + i) = F (o + i)) : pl_Q n f G o' := ⟨by have := e 0 (by omega); rw [Nat.add_zero, Nat.add_zero] at this; rw [this]; exact h.1, fun i hi => by rw [e (1 + i) (by omega)]; exact h.2 i hi⟩
theorem pl_C.at {n : Nat} {f : Nat → Nat} {F : Nat → Int32} (h : pl_C n f F 0) {i : Nat} (hi : i < 5 * n) : F i = nI (f i) := by have := h.2 i hi; rw [Nat.zero_add] at this; exact this
theorem pl_C.n {n : Nat} {f : Nat → Nat} {F : Nat → Int32} (h : pl_C n f F 0) : F 20 = nI n := h.1
theorem pl_Q.at {n : Nat} {f : Nat → Nat} {F : Nat → Int32} (h : pl_Q n f F 0) {i : Nat} (hi : i < 5 * n) : F (i + 1) = nI (f i) := by have := h.2 i hi; rw [Nat.zero_add, Nat.add_comm] at this; exact this
theorem pl_C.of {n : Nat} {f : Nat → Nat} {F : Nat → Int32} (h1 : F 20 = nI n) (h2 : ∀ i, i < 5 * n → F i = nI (f i)) : pl_C n f F 0 := ⟨h1, fun i hi => by rw [Nat.zero_add]; exact h2 i hi⟩
theorem pl_Q.of {n : Nat} {f : Nat → Nat} {F : Nat → Int32} (h1 : F 0 = nI n) (h2 : ∀ i, i < 5 * n → F (i + 1) = nI (f i)) : pl_Q n f F 0 := ⟨h1, fun i hi => by rw [Nat.zero_add, Nat.add_comm]; exact h2 i hi⟩
theorem n5 (b k : Nat) : nI b * (5 : Int32) + nI k = nI (5 * b + k) := by rw [show (5 : Int32) = nI 5 from rfl, pk_mul, nI_add, Nat.mul_comm]
theorem m5 (b k : Nat) : (5 : Int32) * nI b + nI k = nI (5 * b + k) := by rw [show (5 : Int32) = nI 5 from rfl, pk_mul, nI_add]
section PL
variable {n : Nat} {f : Nat → Nat} {σ : mS} {τ : mT}
/-- is there such a block: alike for class and reference -/
theorem has_case (x : Int32) (hn : n ≤ 4) : (∃ b, b < n ∧ x = nI b ∧ (∀ σ τ, σ 3 20 = nI n → P_has_2 x σ τ = some (1, σ, τ)) ∧ ∀ σ τ, σ 35 0 = nI n → Q_isBlock x σ τ = some (1, σ, τ)) ∨ ((∀ σ τ, σ 3 20 = nI n → P_has_2 x σ τ = some (0, σ, τ)) ∧ ∀ σ τ, σ 35 0 = nI n → Q_isBlock x σ τ = some (0, σ, τ)) := by
  rcases wi_pred x (n := n) (by omega) with ⟨j, hj, e, w⟩ | w
  · refine Or.inl ⟨j, hj, e, fun σ τ hs => ?_, fun σ τ hs => ?_⟩
    · unfold P_has_2
      rw [e, hs, if_neg (nI_pos (by omega)), if_neg (nI_ge hj (by omega)), show (4 : Int32) = nI 4 from rfl, if_neg (nI_ge (by omega) (by omega))]
    · unfold Q_isBlock
      rw [hs, qw_eq, w, ob_some, if_neg (by decide)]
  · refine Or.inr ⟨fun σ τ hs => ?_, fun σ τ hs => ?_⟩
    · unfold P_has_2
      by_cases h1 : x < 0
      · rw [if_pos h1]
      · obtain ⟨j, hj, rfl⟩ := nI_of h1
        rw [if_neg h1, hs]
        by_cases h2 : n ≤ j
        · rw [if_pos (nI_le h2 hj)]
        · have := (wi_pin (show j < n by omega) (by omega) σ τ).symm.trans (w σ τ)
          injection this with this
          injection this with this
          exact absurd this (by decide)
    · unfold Q_isBlock
      rw [hs, qw_eq, w, ob_some, if_neg (by decide)]
theorem P_has_2_ok (hn : n ≤ 4) (h : σ 3 20 = nI n) {b : Nat} (hb : b < n) : P_has_2 (nI b) σ τ = some (1, σ, τ) := by
  unfold P_has_2
  rw [h, if_neg (nI_pos (by omega)), if_neg (nI_ge hb (by omega)), show (4 : Int32) = nI 4 from rfl, if_neg (nI_ge (by omega) (by omega))]
theorem P_get_2_ok (hn : n ≤ 4) (h : pl_C n f (σ 3) 0) {b k : Nat} (hb : b < n) (hk : k < 5) : P_get_2 (nI b) (nI k) σ τ = some (nI (f (5 * b + k)), σ, τ) := by
  unfold P_get_2
  have w : R_within (nI k) 0 4 σ τ = some (1, σ, τ) := wi_in (j := k) (a := 0) (b := 4) (by omega) (by omega) (by decide) σ τ
  rw [P_has_2_ok hn h.n hb, ob_some, if_neg (by decide), w, ob_some, if_neg (by decide), n5, if_neg (nin (show 5 * b + k < 21 by omega) (by decide)), ncl (by omega), h.at (by omega)]
theorem P_set_2_ok (hn : n ≤ 4) (h : σ 3 20 = nI n) {b k : Nat} (hb : b < n) (hk : k < 5) (v : Int32) : P_set_2 (nI b) (nI k) v σ τ = some (u2 σ 3 (5 * b + k) v, τ) := by
  unfold P_set_2
  have w : R_within (nI k) 0 4 σ τ = some (1, σ, τ) := wi_in (j := k) (a := 0) (b := 4) (by omega) (by omega) (by decide) σ τ
  rw [P_has_2_ok hn h hb, ob_some, if_neg (by decide), w, ob_some, if_neg (by decide), n5, if_neg (nin (show 5 * b + k < 21 by omega) (by decide)), ncl (by omega), mw_eq]
theorem P_add_2_ok (hn : n < 4) (h : pl_C n f (σ 3) 0) (l hh w : Nat) : ∃ σ', P_add_2 (nI l) (nI hh) (nI w) σ τ = some (σ', τ) ∧ pl_C (n + 1) (pl_add n f l hh w) (σ' 3) 0 ∧ ∀ a, a ≠ 3 → σ' a = σ a := by
  have hs : ∀ (s : mS) (k : Nat) (v : Int32), s 3 20 = nI (n + 1) → k < 5 → P_set_2 (nI n) (nI k) v s τ = some (u2 s 3 (5 * n + k) v, τ) ∧ u2 s 3 (5 * n + k) v 3 20 = nI (n + 1) := fun s k v e hk => ⟨P_set_2_ok (by omega) e (by omega) hk v, by rw [u2_off _ _ (Or.inr (by omega))]; exact e⟩
  have e0 : u2 σ 3 20 (nI (n + 1)) 3 20 = nI (n + 1) := u2_at _ _ _ _
  obtain ⟨a0, b0⟩ := hs _ 0 (nI l) e0 (by omega)
  obtain ⟨a1, b1⟩ := hs _ 1 (nI hh) b0 (by omega)
  obtain ⟨a2, b2⟩ := hs _ 2 (nI w) b1 (by omega)
  obtain ⟨a3, b3⟩ := hs _ 3 0 b2 (by omega)
  obtain ⟨a4, b4⟩ := hs _ 4 0 b3 (by omega)
  refine ⟨_, ?_, pl_C.of b4 (fun i hi => ?_), fun a ha => ?_⟩
  · unfold P_add_2 P_size_2
    rw [ob_some, h.n, show (4 : Int32) = nI 4 from rfl, if_pos (nI_lt hn (by decide)), nI_1, mw_eq]
    show ov (P_set_2 (nI n) (nI 0) (nI l) (u2 σ 3 20 (nI (n + 1))) τ) _ = _
    rw [a0, ov_some]
    show ov (P_set_2 (nI n) (nI 1) (nI hh) _ τ) _ = _
    rw [a1, ov_some]
    show ov (P_set_2 (nI n) (nI 2) (nI w) _ τ) _ = _
    rw [a2, ov_some]
    show ov (P_set_2 (nI n) (nI 3) 0 _ τ) _ = _
    rw [a3, ov_some]
    show ov (P_set_2 (nI n) (nI 4) 0 _ τ) _ = _
    rw [a4, ov_some]
  · unfold pl_add
    by_cases c4 : i = 5 * n + 4
    · rw [c4, u2_at, if_neg (by omega), if_neg (by omega), if_neg (by omega), if_neg (by omega)]; rfl
    rw [u2_off _ _ (Or.inr c4)]
    by_cases c3 : i = 5 * n + 3
    · rw [c3, u2_at, if_neg (by omega), if_neg (by omega), if_neg (by omega), if_neg (by omega)]; rfl
    rw [u2_off _ _ (Or.inr c3)]
    by_cases c2 : i = 5 * n + 2
    · rw [c2, u2_at, if_neg (by omega), if_neg (by omega), if_neg (by omega), if_pos rfl]
    rw [u2_off _ _ (Or.inr c2)]
    by_cases c1 : i = 5 * n + 1
    · rw [c1, u2_at, if_neg (by omega), if_neg (by omega), if_pos rfl]
    rw [u2_off _ _ (Or.inr c1)]
    by_cases c0 : i = 5 * n + 0
    · rw [c0, u2_at, if_neg (by omega), if_pos (by omega)]
    rw [u2_off _ _ (Or.inr c0), u2_off _ _ (Or.inr (by omega)), if_pos (by omega), h.at (by omega)]
  · rw [u2_ne _ _ _ ha, u2_ne _ _ _ ha, u2_ne _ _ _ ha, u2_ne _ _ _ ha, u2_ne _ _ _ ha, u2_ne _ _ _ ha]
theorem P_takeOut_2_ok (hn : n ≤ 4) (h : pl_C n f (σ 3) 0) {b : Nat} (hb : b < n) : ∃ σ', P_takeOut_2 (nI b) σ τ = some (σ', τ) ∧ pl_C (n - 1) (pl_del f b) (σ' 3) 0 ∧ ∀ a, a ≠ 3 → σ' a = σ a := by
  obtain ⟨k, rfl⟩ : ∃ k, n = k + 1 := ⟨n - 1, by omega⟩
  apply Exists.intro
  refine And.intro ?_ (And.intro ?_ ?_)
  · unfold P_takeOut_2 P_size_2
    rw [P_has_2_ok hn h.n hb, ob_some, if_neg (by decide), ob_some, h.n, nI_pred, pk_sub (show b ≤ k by omega), nI_1, show (5 : Int32) = nI 5 from rfl, pk_mul, pk_mul, pk_mul, if_neg (nI_pos (by omega)), if_neg (nI_pos (by omega)), if_neg (nI_pos (by omega)), ncl (by omega), ncl (by omega), ncl (by omega), if_neg (by omega), if_neg (by omega), mw_eq, mw_eq]
  · show pl_C k _ _ 0
    refine pl_C.of ?_ fun i hi => ?_
    · rw [u2_at, u1_same, pk_cpy_out (by omega), h.n, nI_pred]
    · rw [u2_off _ _ (Or.inr (by omega)), u1_same]
      unfold pl_del
      by_cases e : i < 5 * b
      · rw [if_pos e, pk_cpy_out (by omega), h.at (by omega)]
      · rw [if_neg e, pk_cpy_in (by omega) (by omega), h.at (by omega)]
        congr 2
        omega
  · intro a ha
    rw [u2_ne _ _ _ ha, u1_ne _ _ ha]
theorem P_has_4_ok (hn : n ≤ 4) (h : σ 5 20 = nI n) {b : Nat} (hb : b < n) : P_has_4 (nI b) σ τ = some (1, σ, τ) := by
  unfold P_has_4
  rw [h, if_neg (nI_pos (by omega)), if_neg (nI_ge hb (by omega)), show (4 : Int32) = nI 4 from rfl, if_neg (nI_ge (by omega) (by omega))]
theorem P_get_4_ok (hn : n ≤ 4) (h : pl_C n f (σ 5) 0) {b k : Nat} (hb : b < n) (hk : k < 5) : P_get_4 (nI b) (nI k) σ τ = some (nI (f (5 * b + k)), σ, τ) := by
  unfold P_get_4
  have w : R_within (nI k) 0 4 σ τ = some (1, σ, τ) := wi_in (j := k) (a := 0) (b := 4) (by omega) (by omega) (by decide) σ τ
  rw [P_has_4_ok hn h.n hb, ob_some, if_neg (by decide), w, ob_some, if_neg (by decide), n5, if_neg (nin (show 5 * b + k < 21 by omega) (by decide)), ncl (by omega), h.at (by omega)]
theorem P_set_4_ok (hn : n ≤ 4) (h : σ 5 20 = nI n) {b k : Nat} (hb : b < n) (hk : k < 5) (v : Int32) : P_set_4 (nI b) (nI k) v σ τ = some (u2 σ 5 (5 * b + k) v, τ) := by
  unfold P_set_4
  have w : R_within (nI k) 0 4 σ τ = some (1, σ, τ) := wi_in (j := k) (a := 0) (b := 4) (by omega) (by omega) (by decide) σ τ
  rw [P_has_4_ok hn h hb, ob_some, if_neg (by decide), w, ob_some, if_neg (by decide), n5, if_neg (nin (show 5 * b + k < 21 by omega) (by decide)), ncl (by omega), mw_eq]
theorem P_add_4_ok (hn : n < 4) (h : pl_C n f (σ 5) 0) (l hh w : Nat) : ∃ σ', P_add_4 (nI l) (nI hh) (nI w) σ τ = some (σ', τ) ∧ pl_C (n + 1) (pl_add n f l hh w) (σ' 5) 0 ∧ ∀ a, a ≠ 5 → σ' a = σ a := by
  have hs : ∀ (s : mS) (k : Nat) (v : Int32), s 5 20 = nI (n + 1) → k < 5 → P_set_4 (nI n) (nI k) v s τ = some (u2 s 5 (5 * n + k) v, τ) ∧ u2 s 5 (5 * n + k) v 5 20 = nI (n + 1) := fun s k v e hk => ⟨P_set_4_ok (by omega) e (by omega) hk v, by rw [u2_off _ _ (Or.inr (by omega))]; exact e⟩
  have e0 : u2 σ 5 20 (nI (n + 1)) 5 20 = nI (n + 1) := u2_at _ _ _ _
  obtain ⟨a0, b0⟩ := hs _ 0 (nI l) e0 (by omega)
  obtain ⟨a1, b1⟩ := hs _ 1 (nI hh) b0 (by omega)
  obtain ⟨a2, b2⟩ := hs _ 2 (nI w) b1 (by omega)
  obtain ⟨a3, b3⟩ := hs _ 3 0 b2 (by omega)
  obtain ⟨a4, b4⟩ := hs _ 4 0 b3 (by omega)
  refine ⟨_, ?_, pl_C.of b4 (fun i hi => ?_), fun a ha => ?_⟩
  · unfold P_add_4 P_size_4
    rw [ob_some, h.n, show (4 : Int32) = nI 4 from rfl, if_pos (nI_lt hn (by decide)), nI_1, mw_eq]
    show ov (P_set_4 (nI n) (nI 0) (nI l) (u2 σ 5 20 (nI (n + 1))) τ) _ = _
    rw [a0, ov_some]
    show ov (P_set_4 (nI n) (nI 1) (nI hh) _ τ) _ = _
    rw [a1, ov_some]
    show ov (P_set_4 (nI n) (nI 2) (nI w) _ τ) _ = _
    rw [a2, ov_some]
    show ov (P_set_4 (nI n) (nI 3) 0 _ τ) _ = _
    rw [a3, ov_some]
    show ov (P_set_4 (nI n) (nI 4) 0 _ τ) _ = _
    rw [a4, ov_some]
  · unfold pl_add
    by_cases c4 : i = 5 * n + 4
    · rw [c4, u2_at, if_neg (by omega), if_neg (by omega), if_neg (by omega), if_neg (by omega)]; rfl
    rw [u2_off _ _ (Or.inr c4)]
    by_cases c3 : i = 5 * n + 3
    · rw [c3, u2_at, if_neg (by omega), if_neg (by omega), if_neg (by omega), if_neg (by omega)]; rfl
    rw [u2_off _ _ (Or.inr c3)]
    by_cases c2 : i = 5 * n + 2
    · rw [c2, u2_at, if_neg (by omega), if_neg (by omega), if_neg (by omega), if_pos rfl]
    rw [u2_off _ _ (Or.inr c2)]
    by_cases c1 : i = 5 * n + 1
    · rw [c1, u2_at, if_neg (by omega), if_neg (by omega), if_pos rfl]
    rw [u2_off _ _ (Or.inr c1)]
    by_cases c0 : i = 5 * n + 0
    · rw [c0, u2_at, if_neg (by omega), if_pos (by omega)]
    rw [u2_off _ _ (Or.inr c0), u2_off _ _ (Or.inr (by omega)), if_pos (by omega), h.at (by omega)]
  · rw [u2_ne _ _ _ ha, u2_ne _ _ _ ha, u2_ne _ _ _ ha, u2_ne _ _ _ ha, u2_ne _ _ _ ha, u2_ne _ _ _ ha]
theorem P_takeOut_4_ok (hn : n ≤ 4) (h : pl_C n f (σ 5) 0) {b : Nat} (hb : b < n) : ∃ σ', P_takeOut_4 (nI b) σ τ = some (σ', τ) ∧ pl_C (n - 1) (pl_del f b) (σ' 5) 0 ∧ ∀ a, a ≠ 5 → σ' a = σ a := by
  obtain ⟨k, rfl⟩ : ∃ k, n = k + 1 := ⟨n - 1, by omega⟩
  apply Exists.intro
  refine And.intro ?_ (And.intro ?_ ?_)
  · unfold P_takeOut_4 P_size_4
    rw [P_has_4_ok hn h.n hb, ob_some, if_neg (by decide), ob_some, h.n, nI_pred, pk_sub (show b ≤ k by omega), nI_1, show (5 : Int32) = nI 5 from rfl, pk_mul, pk_mul, pk_mul, if_neg (nI_pos (by omega)), if_neg (nI_pos (by omega)), if_neg (nI_pos (by omega)), ncl (by omega), ncl (by omega), ncl (by omega), if_neg (by omega), if_neg (by omega), mw_eq, mw_eq]
  · show pl_C k _ _ 0
    refine pl_C.of ?_ fun i hi => ?_
    · rw [u2_at, u1_same, pk_cpy_out (by omega), h.n, nI_pred]
    · rw [u2_off _ _ (Or.inr (by omega)), u1_same]
      unfold pl_del
      by_cases e : i < 5 * b
      · rw [if_pos e, pk_cpy_out (by omega), h.at (by omega)]
      · rw [if_neg e, pk_cpy_in (by omega) (by omega), h.at (by omega)]
        congr 2
        omega
  · intro a ha
    rw [u2_ne _ _ _ ha, u1_ne _ _ ha]
/-! the reference's -/
theorem Q_get_ok (hn : n ≤ 4) (h : pl_Q n f (σ 35) 0) {b k : Nat} (hb : b < n) (hk : k < 5) : Q_get (nI b) (nI (k + 1)) σ τ = some (nI (f (5 * b + k)), σ, τ) := by
  unfold Q_get
  rw [m5, if_neg (nin (show 5 * b + (k + 1) < 21 by omega) (by decide)), ncl (by omega), show 5 * b + (k + 1) = 5 * b + k + 1 by omega, h.at (by omega)]
theorem Q_appends_ok (hn : n < 4) (h : pl_Q n f (σ 35) 0) (l hh w : Nat) : ∃ σ', Q_appends (nI l) (nI hh) (nI w) σ τ = some (σ', τ) ∧ pl_Q (n + 1) (pl_add n f l hh w) (σ' 35) 0 ∧ ∀ a, a ≠ 35 → σ' a = σ a := by
  have z : ∀ k, 5 * n + (k + 1) ≠ 0 := fun k => by omega
  apply Exists.intro
  refine And.intro ?_ (And.intro ?_ ?_)
  · unfold Q_appends
    rw [h.1, show (1 : Int32) = nI (0 + 1) from rfl, show (2 : Int32) = nI (1 + 1) from rfl, show (3 : Int32) = nI (2 + 1) from rfl, show (4 : Int32) = nI (3 + 1) from rfl]
    rw [m5, m5, m5, m5, show (5 : Int32) * nI n + 5 = nI (5 * n + (4 + 1)) from m5 n (4 + 1)]
    rw [if_neg (nin (show 5 * n + (0 + 1) < 21 by omega) (by decide)), ncl (by omega), mw_eq, if_neg (nin (show 5 * n + (1 + 1) < 21 by omega) (by decide)), ncl (by omega), mw_eq, if_neg (nin (show 5 * n + (2 + 1) < 21 by omega) (by decide)), ncl (by omega), mw_eq, if_neg (nin (show 5 * n + (3 + 1) < 21 by omega) (by decide)), ncl (by omega), mw_eq, if_neg (nin (show 5 * n + (4 + 1) < 21 by omega) (by decide)), ncl (by omega), mw_eq, mw_eq]
  · refine pl_Q.of ?_ fun i hi => ?_
    · rw [u2_at, u2_off _ _ (Or.inr (z 4).symm), u2_off _ _ (Or.inr (z 3).symm), u2_off _ _ (Or.inr (z 2).symm), u2_off _ _ (Or.inr (z 1).symm), u2_off _ _ (Or.inr (z 0).symm), h.1, nI_add]
    · rw [u2_off _ _ (Or.inr (by omega))]
      unfold pl_add
      by_cases c4 : i = 5 * n + 4
      · rw [c4, u2_at, if_neg (by omega), if_neg (by omega), if_neg (by omega), if_neg (by omega)]; rfl
      rw [u2_off _ _ (Or.inr (by omega))]
      by_cases c3 : i = 5 * n + 3
      · rw [c3, u2_at, if_neg (by omega), if_neg (by omega), if_neg (by omega), if_neg (by omega)]; rfl
      rw [u2_off _ _ (Or.inr (by omega))]
      by_cases c2 : i = 5 * n + 2
      · rw [c2, u2_at, if_neg (by omega), if_neg (by omega), if_neg (by omega), if_pos rfl]
      rw [u2_off _ _ (Or.inr (by omega))]
      by_cases c1 : i = 5 * n + 1
      · rw [c1, u2_at, if_neg (by omega), if_neg (by omega), if_pos rfl]
      rw [u2_off _ _ (Or.inr (by omega))]
      by_cases c0 : i = 5 * n + 0
      · rw [c0, u2_at, if_neg (by omega), if_pos (by omega)]
      rw [u2_off _ _ (Or.inr (by omega)), if_pos (by omega), h.at (by omega)]
  · intro a ha
    rw [u2_ne _ _ _ ha, u2_ne _ _ _ ha, u2_ne _ _ _ ha, u2_ne _ _ _ ha, u2_ne _ _ _ ha, u2_ne _ _ _ ha]
theorem Q_removes_l (hn : n ≤ 3) : ∀ (d i k : Nat) (σ : mS), i + d = 5 * n → d < k → σ 35 0 = nI (n + 1) →
    ∃ σ', Q_removes_l6 k (nI (i + 1)) σ τ = some (σ', τ) ∧ σ' 35 0 = nI n ∧ (∀ j, j < i → σ' 35 (j + 1) = σ 35 (j + 1)) ∧ (∀ j, i ≤ j → j < 5 * n → σ' 35 (j + 1) = σ 35 (j + 5 + 1)) ∧ ∀ a, a ≠ 35 → σ' a = σ a := by
  intro d
  induction d with
  | zero =>
    intro i k σ hi hk h0
    obtain ⟨k, rfl⟩ : ∃ k', k = k' + 1 := ⟨k - 1, by omega⟩
    refine ⟨u2 σ 35 0 (nI n), ?_, u2_at _ _ _ _, fun j _ => u2_off _ _ (Or.inr (by omega)), fun j a b => by omega, fun a ha => u2_ne _ _ _ ha⟩
    unfold Q_removes_l6
    rw [h0, nI_pred, show (5 : Int32) = nI 5 from rfl, pk_mul, if_pos (nI_lt (by omega) (by omega)), mw_eq]
  | succ d ih =>
    intro i k σ hi hk h0
    obtain ⟨k, rfl⟩ : ∃ k', k = k' + 1 := ⟨k - 1, by omega⟩
    unfold Q_removes_l6
    rw [h0, nI_pred, show (5 : Int32) = nI 5 from rfl, pk_mul, if_neg (nI_nlt (by omega) (by omega)), nI_add, if_neg (nin (show i + 1 + 5 < 21 by omega) (by decide)), if_neg (nin (show i + 1 < 21 by omega) (by decide)), ncl (by omega), ncl (by omega), mw_eq, nI_1]
    obtain ⟨σ', e1, e2, e3, e4, e5⟩ := ih (i + 1) k (u2 σ 35 (i + 1) (σ 35 (i + 1 + 5))) (by omega) (by omega) (by rw [u2_off _ _ (Or.inr (by omega))]; exact h0)
    refine ⟨σ', e1, e2, fun j hj => ?_, fun j a b => ?_, fun a ha => by rw [e5 a ha, u2_ne _ _ _ ha]⟩
    · rw [e3 j (by omega), u2_off _ _ (Or.inr (by omega))]
    · by_cases z : j = i
      · subst z
        rw [e3 j (by omega), u2_at]
      · rw [e4 j (by omega) b, u2_off _ _ (Or.inr (by omega))]
theorem Q_removes_ok (hn : n ≤ 4) (h : pl_Q n f (σ 35) 0) {b : Nat} (hb : b < n) : ∃ σ', Q_removes (nI b) σ τ = some (σ', τ) ∧ pl_Q (n - 1) (pl_del f b) (σ' 35) 0 ∧ ∀ a, a ≠ 35 → σ' a = σ a := by
  obtain ⟨k, rfl⟩ : ∃ k, n = k + 1 := ⟨n - 1, by omega⟩
  obtain ⟨σ', e1, e2, e3, e4, e5⟩ := Q_removes_l (τ := τ) (n := k) (by omega) (5 * k - 5 * b) (5 * b) mc_F σ (by omega) (by unfold mc_F; omega) h.1
  refine ⟨σ', ?_, pl_Q.of e2 fun i hi => ?_, e5⟩
  · unfold Q_removes
    rw [show (1 : Int32) = nI 1 from rfl, m5]
    exact e1
  · unfold pl_del
    have hi : i < 5 * k := hi
    by_cases z : i < 5 * b
    · rw [if_pos z, e3 i z, h.at (by omega)]
    · rw [if_neg z, e4 i (by omega) hi, h.at (by omega)]
end PL
