/-! ===== HOLD: ALIKE ===== -/
def cnt (x : Nat) : Nat := ct_c (bN x) 16
def zbc (p : Int32) : Int32 := match Z_bitCount p sg0 ta0 with
  | some (a, _, _) => a
  | none => 0
theorem bc_dec : ∀ x : Fin 16, zbc (nI x.1) = nI (cnt x.1) := by decide +kernel
theorem bc_ok {x : Nat} (hx : x < 16) (σ : mS) (τ : mT) : Z_bitCount (nI x) σ τ = some (nI (cnt x), σ, τ) := by
  rw [← bc_dec ⟨x, hx⟩]
  rfl
theorem cnt_all : ∀ n : Fin 5, cnt (2 ^ n.1 - 1) = n.1 := by decide +kernel
theorem cnt_le (x : Nat) : cnt x ≤ 16 := ct_c_le _ 16
/-- of those that may be held: the fewest, the lowest of them -/
def hd_S (n : Nat) (p : Nat → Prop) (s r : Nat) : Prop := (r = 2 ^ n - 1 ∧ ∀ x, x < s → cnt x < n → ¬ p x) ∨ (r < s ∧ cnt r < n ∧ p r ∧ ∀ x, x < s → p x → cnt r < cnt x ∨ (cnt r = cnt x ∧ r ≤ x))
theorem hd_U {n : Nat} {p : Nat → Prop} {s r r' : Nat} (h : hd_S n p s r) (h' : hd_S n p s r') : r = r' := by
  rcases h with ⟨a1, a2⟩ | ⟨a1, a2, a3, a4⟩
  · rcases h' with ⟨b1, _⟩ | ⟨b1, b2, b3, _⟩
    · rw [a1, b1]
    · exact absurd b3 (a2 r' b1 b2)
  · rcases h' with ⟨_, b2⟩ | ⟨b1, b2, b3, b4⟩
    · exact absurd a3 (b2 r a1 a2)
    · have c1 := a4 r' b1 b3
      have c2 := b4 r a1 a3
      omega
section HO
variable {n : Nat} {f : Nat → Nat}
theorem hold_in (V : pl_V n f) {few : Nat} (hf : few < 2 ^ 31) (k10 : Int32 → Int32 → mS → mT → Option (Int32 × mS × mT)) : ∀ (d y m : Nat) (σ : mS) (τ : mT), y + d = 2 ^ n → d < m → pl_C n f (σ 3) 0 →
    (∃ x σ' τ', y ≤ x ∧ x < 2 ^ n ∧ cnt x = few ∧ rest f n (Hh x) ∧ (∀ z, y ≤ z → z < x → cnt z = few → ¬ rest f n (Hh z)) ∧ R_hold_l17 k10 m (nI n) (nI few) (nI y) σ τ = some (nI x, σ', τ') ∧ cl_G σ σ') ∨ (∃ σ' τ', (∀ z, y ≤ z → z < 2 ^ n → cnt z = few → ¬ rest f n (Hh z)) ∧ R_hold_l17 k10 m (nI n) (nI few) (nI y) σ τ = k10 (nI n) (nI (few + 1)) σ' τ' ∧ cl_G σ σ') := by
  have hn := V.1
  obtain ⟨p1, p2⟩ := pw4 hn
  intro d
  induction d with
  | zero =>
    intro y m σ τ hy hm C
    obtain ⟨m, rfl⟩ : ∃ m', m = m' + 1 := ⟨m - 1, by omega⟩
    refine Or.inr ⟨σ, τ, fun z a b => by omega, ?_, cl_G.rf⟩
    unfold R_hold_l17
    rw [i_shl (by omega), if_pos (nI_le (by omega) (by omega)), nI_1]
  | succ d ih =>
    intro y m σ τ hy hm C
    obtain ⟨m, rfl⟩ : ∃ m', m = m' + 1 := ⟨m - 1, by omega⟩
    have hy2 : y < 2 ^ n := by omega
    have hc := cnt_le y
    unfold R_hold_l17
    rw [i_shl (by omega), if_neg (nI_ge hy2 (by omega)), bc_ok (by omega), ob_some, nI_1]
    by_cases z : cnt y = few
    · rw [if_pos (by rw [z])]
      obtain ⟨r, s1, t1, a1, a2, a3⟩ := bal_2 (τ := τ) V C (show y < 16 by omega)
      rw [a1, ob_some]
      rcases a3 with ⟨a3, a4⟩ | ⟨a3, a4⟩
      · rw [a3, if_neg (by decide)]
        exact Or.inl ⟨y, s1, t1, Nat.le_refl _, hy2, z, a4, fun w b1 b2 => by omega, rfl, a2.g⟩
      · rw [a3, if_pos rfl]
        rcases ih (y + 1) m s1 t1 (by omega) (by omega) (by rw [a2 3 (by omega)]; exact C) with ⟨x, s2, t2, b1, b2, b3, b4, b5, b6, b7⟩ | ⟨s2, t2, b1, b2, b3⟩
        · exact Or.inl ⟨x, s2, t2, by omega, b2, b3, b4, fun w c1 c2 c3 => by
            by_cases e : w = y
            · rw [e]; exact a4
            · exact b5 w (by omega) c2 c3, b6, a2.g.tr b7⟩
        · exact Or.inr ⟨s2, t2, fun w c1 c2 c3 => by
            by_cases e : w = y
            · rw [e]; exact a4
            · exact b1 w (by omega) c2 c3, b2, a2.g.tr b3⟩
    · rw [if_neg (fun q => z ((nI_eq (by omega) hf).mp q))]
      rcases ih (y + 1) m σ τ (by omega) (by omega) C with ⟨x, s2, t2, b1, b2, b3, b4, b5, b6, b7⟩ | ⟨s2, t2, b1, b2, b3⟩
      · exact Or.inl ⟨x, s2, t2, by omega, b2, b3, b4, fun w c1 c2 c3 => by
          by_cases e : w = y
          · rw [e] at c3; exact absurd c3 z
          · exact b5 w (by omega) c2 c3, b6, b7⟩
      · exact Or.inr ⟨s2, t2, fun w c1 c2 c3 => by
          by_cases e : w = y
          · rw [e] at c3; exact absurd c3 z
          · exact b1 w (by omega) c2 c3, b2, b3⟩
theorem hold_C (V : pl_V n f) : ∀ (d few m : Nat) (σ : mS) (τ : mT), few + d = n → d < m → pl_C n f (σ 3) 0 → (∀ y, y < 2 ^ n → cnt y < few → ¬ rest f n (Hh y)) → ∃ x σ' τ', hd_S n (fun y => rest f n (Hh y)) (2 ^ n) x ∧ R_hold_l10 m (nI n) (nI few) σ τ = some (nI x, σ', τ') ∧ cl_G σ σ' := by
  have hn := V.1
  obtain ⟨p1, p2⟩ := pw4 hn
  intro d
  induction d with
  | zero =>
    intro few m σ τ hf hm C hB
    obtain ⟨m, rfl⟩ : ∃ m', m = m' + 1 := ⟨m - 1, by omega⟩
    have : few = n := by omega
    subst this
    refine ⟨2 ^ few - 1, σ, τ, Or.inl ⟨rfl, hB⟩, ?_, cl_G.rf⟩
    unfold R_hold_l10
    rw [if_pos (nI_le (Nat.le_refl _) (by omega)), i_shl (by omega), show (1 : Int32) = nI 1 from rfl, pk_sub p1]
  | succ d ih =>
    intro few m σ τ hf hm C hB
    obtain ⟨m, rfl⟩ : ∃ m', m = m' + 1 := ⟨m - 1, by omega⟩
    unfold R_hold_l10
    rw [if_neg (nI_ge (show few < n by omega) (by omega))]
    rcases hold_in V (show few < 2 ^ 31 by omega) (R_hold_l10 m) (2 ^ n) 0 mc_F σ τ (by omega) (by unfold mc_F; omega) C with ⟨x, s1, t1, b1, b2, b3, b4, b5, b6, b7⟩ | ⟨s1, t1, b1, b2, b3⟩
    · refine ⟨x, s1, t1, Or.inr ⟨b2, by omega, b4, fun y hy py => ?_⟩, b6, b7⟩
      have h1 : ¬ cnt y < few := fun q => hB y hy q py
      by_cases e : cnt y = few
      · right
        refine ⟨by omega, ?_⟩
        rcases Nat.lt_or_ge y x with q | q
        · exact absurd py (b5 y (Nat.zero_le _) q e)
        · exact q
      · left; omega
    · have b2 : R_hold_l17 (R_hold_l10 m) mc_F (nI n) (nI few) 0 σ τ = R_hold_l10 m (nI n) (nI (few + 1)) s1 t1 := b2
      obtain ⟨x, s2, t2, c1, c2, c3⟩ := ih (few + 1) m s1 t1 (by omega) (by omega) (by rw [b3 3 (by omega)]; exact C) (fun y hy hc => by
        by_cases e : cnt y = few
        · exact b1 y (Nat.zero_le _) hy e
        · exact hB y hy (by omega))
      exact ⟨x, s2, t2, c1, by rw [b2]; exact c2, b3.tr c3⟩
theorem hold_Q (V : pl_V n f) : ∀ (d s r m : Nat) (σ : mS) (τ : mT), s + d = 2 ^ n → d < m → pl_Q n f (σ 35) 0 → r < 16 → hd_S n (fun y => rest f n (Hh y)) s r → ∃ x σ' τ', hd_S n (fun y => rest f n (Hh y)) (2 ^ n) x ∧ Q_hold_l7 m (nI r) (nI s) σ τ = some (nI x, σ', τ') ∧ qf_G σ σ' ∧ pl_Q n f (σ' 35) 0 := by
  have hn := V.1
  obtain ⟨p1, p2⟩ := pw4 hn
  intro d
  induction d with
  | zero =>
    intro s r m σ τ hs hm Q hr hI
    obtain ⟨m, rfl⟩ : ∃ m', m = m' + 1 := ⟨m - 1, by omega⟩
    have : s = 2 ^ n := by omega
    subst this
    refine ⟨r, σ, τ, hI, ?_, qf_G.rf, Q⟩
    unfold Q_hold_l7
    rw [Q_all_ok hn Q.1, ob_some, if_pos (nI_lt (by omega) (by omega))]
  | succ d ih =>
    intro s r m σ τ hs hm Q hr hI
    obtain ⟨m, rfl⟩ : ∃ m', m = m' + 1 := ⟨m - 1, by omega⟩
    have hs2 : s < 2 ^ n := by omega
    have hc1 := cnt_le s
    have hc2 := cnt_le r
    have call := cnt_all ⟨n, by omega⟩
    have call : cnt (2 ^ n - 1) = n := call
    unfold Q_hold_l7
    rw [Q_all_ok hn Q.1, ob_some, if_neg (nI_nlt (by omega) (by omega)), ones_ok (by omega), ob_some, ones_ok (by omega), ob_some, nI_1]
    show ∃ x σ' τ', _ ∧ (if nI (cnt r) ≤ nI (cnt s) then _ else _) = _ ∧ _
    have sp : ∀ x, x < s + 1 → x < s ∨ x = s := fun x h => by omega
    by_cases z : cnt r ≤ cnt s
    · rw [if_pos (nI_le z (by omega))]
      refine ih (s + 1) r m σ τ (by omega) (by omega) Q hr ?_
      rcases hI with ⟨a1, a2⟩ | ⟨a1, a2, a3, a4⟩
      · refine Or.inl ⟨a1, fun x hx hc => ?_⟩
        rcases sp x hx with q | q
        · exact a2 x q hc
        · rw [a1] at z; rw [q] at hc; omega
      · refine Or.inr ⟨by omega, a2, a3, fun x hx px => ?_⟩
        rcases sp x hx with q | q
        · exact a4 x q px
        · rw [q]; omega
    · rw [if_neg (nI_ge (by omega) (by omega)), Q_all_ok hn Q.1, ob_some]
      obtain ⟨o1, o2⟩ := all_ok ⟨n, by omega⟩ ⟨s, by omega⟩ hs2
      have o1 : nI (2 ^ n - 1) &&& (nI s ^^^ (-1 : Int32)) = nI (2 ^ n - 1 - s) := o1
      obtain ⟨r', s1, t1, b1, b2, b3⟩ := qbal (τ := τ) V Q (show 2 ^ n - 1 - s < 16 by omega) (H := Hh s) (fun b hb => o2 ⟨b, by omega⟩ hb)
      have Q1 : pl_Q n f (s1 35) 0 := by rw [b2.1 35 (by omega)]; exact Q
      rw [o1, b1, ob_some]
      rcases b3 with ⟨b3, b4⟩ | ⟨b3, b4⟩
      · rw [b3, if_neg (by decide)]
        obtain ⟨x, s2, t2, c1, c2, c3, c4⟩ := ih (s + 1) s m s1 t1 (by omega) (by omega) Q1 (by omega) (by
          rcases hI with ⟨a1, a2⟩ | ⟨a1, a2, a3, a4⟩
          · rw [a1] at z
            refine Or.inr ⟨by omega, by omega, b4, fun x hx px => ?_⟩
            rcases sp x hx with q | q
            · left
              have : ¬ cnt x < n := fun w => a2 x q w px
              omega
            · rw [q]; omega
          · refine Or.inr ⟨by omega, by omega, b4, fun x hx px => ?_⟩
            rcases sp x hx with q | q
            · have := a4 x q px; omega
            · rw [q]; omega)
        exact ⟨x, s2, t2, c1, c2, b2.g.tr c3, c4⟩
      · rw [b3, if_pos rfl]
        obtain ⟨x, s2, t2, c1, c2, c3, c4⟩ := ih (s + 1) r m s1 t1 (by omega) (by omega) Q1 hr (by
          rcases hI with ⟨a1, a2⟩ | ⟨a1, a2, a3, a4⟩
          · refine Or.inl ⟨a1, fun x hx hc => ?_⟩
            rcases sp x hx with q | q
            · exact a2 x q hc
            · rw [q]; exact b4
          · refine Or.inr ⟨by omega, a2, a3, fun x hx px => ?_⟩
            rcases sp x hx with q | q
            · exact a4 x q px
            · rw [q] at px; exact absurd px b4)
        exact ⟨x, s2, t2, c1, c2, b2.g.tr c3, c4⟩
theorem al_hold {σ : mS} {τ : mT} (h : Rel σ) : alike R_hold Q_hold σ τ := by
  refine ask h fun n f V C Q => ?_
  have hn := V.1
  obtain ⟨p1, p2⟩ := pw4 hn
  obtain ⟨x, s1, t1, a1, a2, a3⟩ := hold_C V n 0 mc_F σ τ (by omega) (by unfold mc_F; omega) C (fun y _ hc => absurd hc (by omega))
  have Q1 : pl_Q n f (s1 35) 0 := by rw [a3 35 (by omega)]; exact Q
  obtain ⟨x', s2, t2, b1, b2, b3, b4⟩ := hold_Q V (2 ^ n) 0 (2 ^ n - 1) mc_F s1 t1 (by omega) (by unfold mc_F; omega) Q1 (by omega) (Or.inl ⟨rfl, fun y hy => absurd hy (by omega)⟩)
  have e := hd_U a1 b1
  subst e
  have a2 : R_hold_l10 mc_F (nI n) 0 σ τ = some (nI x, s1, t1) := a2
  have b2 : Q_hold_l7 mc_F (nI (2 ^ n - 1)) 0 s1 t1 = some (nI x, s2, t2) := b2
  refine ⟨nI x, s1, t1, s2, t2, ?_, ?_, a3, b3, b4⟩
  · unfold R_hold P_size_2
    rw [ob_some, C.n]; exact a2
  · unfold Q_hold
    rw [Q_all_ok hn Q1.1, ob_some]; exact b2
end HO
