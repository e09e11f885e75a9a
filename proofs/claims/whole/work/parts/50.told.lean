/-! ===== LEAST TERMS ARE ALIKE ===== -/
theorem fr_red {p d p' d' : Nat} (hd : 0 < d) (hd' : 0 < d') (h : p * d' = p' * d) : p / Nat.gcd p d = p' / Nat.gcd p' d' ∧ d / Nat.gcd p d = d' / Nat.gcd p' d' := by
  have g1 : 0 < Nat.gcd p d := Nat.gcd_pos_of_pos_right _ hd
  have g2 : 0 < Nat.gcd p' d' := Nat.gcd_pos_of_pos_right _ hd'
  have c1 : Nat.Coprime (p / Nat.gcd p d) (d / Nat.gcd p d) := Nat.coprime_div_gcd_div_gcd g1
  have c2 : Nat.Coprime (p' / Nat.gcd p' d') (d' / Nat.gcd p' d') := Nat.coprime_div_gcd_div_gcd g2
  have e1 : p / Nat.gcd p d * Nat.gcd p d = p := Nat.div_mul_cancel (Nat.gcd_dvd_left _ _)
  have e2 : d / Nat.gcd p d * Nat.gcd p d = d := Nat.div_mul_cancel (Nat.gcd_dvd_right _ _)
  have e3 : p' / Nat.gcd p' d' * Nat.gcd p' d' = p' := Nat.div_mul_cancel (Nat.gcd_dvd_left _ _)
  have e4 : d' / Nat.gcd p' d' * Nat.gcd p' d' = d' := Nat.div_mul_cancel (Nat.gcd_dvd_right _ _)
  generalize p / Nat.gcd p d = a at *
  generalize d / Nat.gcd p d = c at *
  generalize p' / Nat.gcd p' d' = a' at *
  generalize d' / Nat.gcd p' d' = c' at *
  generalize Nat.gcd p d = g at *
  generalize Nat.gcd p' d' = g' at *
  subst e1 e2 e3 e4
  have k : a * c' = a' * c := by
    have : (a * c') * (g * g') = (a' * c) * (g * g') := by
      have z1 : (a * c') * (g * g') = a * g * (c' * g') := by grind
      have z2 : (a' * c) * (g * g') = a' * g' * (c * g) := by grind
      rw [z1, z2, h]
    exact Nat.eq_of_mul_eq_mul_right (Nat.mul_pos g1 g2) this
  have d1 : c ∣ c' := c1.symm.dvd_of_dvd_mul_left (by rw [k]; exact Nat.dvd_mul_left _ _)
  have d2 : c' ∣ c := c2.symm.dvd_of_dvd_mul_left (by rw [← k]; exact Nat.dvd_mul_left _ _)
  have e : c = c' := Nat.dvd_antisymm d1 d2
  subst e
  have hc : 0 < c := Nat.pos_of_ne_zero (fun z => by subst z; simp at hd)
  exact ⟨Nat.eq_of_mul_eq_mul_right hc k, rfl⟩
theorem common_l (σ : mS) (τ : mT) : ∀ (t a c n : Nat), c < 2 ^ t → 2 * t < n → 0 < a ∨ 0 < c → a < 2 ^ 62 → c < 2 ^ 62 → Q_common_l6 n (lN a) (lN c) σ τ = some (lN (Nat.gcd a c), σ, τ) := by
  have c0 : ∀ (a n : Nat), 0 < n → 0 < a → a < 2 ^ 62 → Q_common_l6 n (lN a) (lN 0) σ τ = some (lN a, σ, τ) := fun a n hn h1 h2 => by
    obtain ⟨n, rfl⟩ : ∃ n', n = n' + 1 := ⟨n - 1, by omega⟩
    unfold Q_common_l6
    rw [if_pos ((lc_eq0 _).mpr (by rw [pk_lT (by omega)]; rfl))]
  have one : ∀ (a c n : Nat), 0 < c → a < 2 ^ 62 → c < 2 ^ 62 → Q_common_l6 (n + 1) (lN a) (lN c) σ τ = Q_common_l6 n (lN c) (lN (a % c)) σ τ := fun a c n hc h1 h2 => by
    rw [Q_common_l6, if_neg (fun z => by have := (lc_eq0 _).mp z; rw [pk_lT (by omega)] at this; omega), if_neg (fun z => by
      have : (lN c).toInt = 0 := by rw [z]; rfl
      rw [pk_lT (by omega)] at this
      omega), pk_lRem (by omega) hc (by omega)]
  intro t
  induction t with
  | zero =>
    intro a c n hc hn hp ha _
    have : c = 0 := by simpa using hc
    subst this
    rw [Nat.gcd_zero_right]
    exact c0 a n (by omega) (by omega) ha
  | succ t ih =>
    intro a c n hc hn hp ha hc2
    by_cases h0 : c = 0
    · subst h0
      rw [Nat.gcd_zero_right]
      exact c0 a n (by omega) (by omega) ha
    · obtain ⟨n, rfl⟩ : ∃ n', n = n' + 2 := ⟨n - 2, by omega⟩
      have hlt := Nat.mod_lt a (show 0 < c by omega)
      rw [one a c (n + 1) (by omega) ha hc2]
      have g1 : Nat.gcd a c = Nat.gcd c (a % c) := by rw [Nat.gcd_comm a c, Nat.gcd_rec, Nat.gcd_comm]
      rw [g1]
      by_cases h1 : a % c = 0
      · rw [h1, Nat.gcd_zero_right]
        exact c0 c (n + 1) (by omega) (by omega) hc2
      · rw [one c (a % c) n (by omega) hc2 (by omega)]
        have g2 : Nat.gcd c (a % c) = Nat.gcd (a % c) (c % (a % c)) := by rw [Nat.gcd_comm c, Nat.gcd_rec, Nat.gcd_comm]
        rw [g2]
        have b1 := Nat.mod_lt c (show 0 < a % c by omega)
        have b2 : c % (a % c) + (a % c) ≤ c := by
          have e := Nat.div_add_mod c (a % c)
          have : 1 ≤ c / (a % c) := (Nat.one_le_div_iff (by omega)).mpr (by omega)
          have := Nat.mul_le_mul_left (a % c) this
          omega
        have b3 : c % (a % c) < 2 ^ t := by
          rw [Nat.pow_succ] at hc
          omega
        exact ih (a % c) (c % (a % c)) n b3 (by omega) (Or.inl (by omega)) (by omega) (by omega)
theorem told_33 (σ : mS) (τ : mT) {wh up low : Nat} (hw : wh < 4) (h0 : 0 < low) (hu : up ≤ 4600000000) (hl : low ≤ 84934656) : Q_told_b33 (nI wh) (lN up) (lN low) σ τ = some (lN (if wh % 2 = 0 then up / Nat.gcd up low else low / Nat.gcd up low), σ, τ) := by
  unfold Q_told_b33 Q_common
  have hg : 0 < Nat.gcd up low := Nat.gcd_pos_of_pos_right _ h0
  have hg2 : Nat.gcd up low ≤ low := Nat.le_of_dvd h0 (Nat.gcd_dvd_right _ _)
  have hne : ¬ lN (Nat.gcd up low) = 0 := fun z => by
    have : (lN (Nat.gcd up low)).toInt = 0 := by rw [z]; rfl
    rw [pk_lT (by omega)] at this
    omega
  rw [common_l σ τ 62 low up mc_F (by omega) (by unfold mc_F; omega) (Or.inl h0) (by omega) (by omega), ob_some, Nat.gcd_comm low up, if_neg hne, if_neg hne, pk_lDiv (by omega) hg (by omega), pk_lDiv (by omega) hg (by omega), show (2 : Int32) = nI 2 from rfl, pk_rem (by omega) (by decide) (by decide)]
  by_cases z : wh % 2 = 0
  · rw [z, if_pos (by rfl), if_pos rfl]
  · rw [if_neg (nI_ne0 (by omega) (by omega)), if_neg z]
theorem told_ok (σ : mS) (τ : mT) {wh up low : Nat} (hw : wh < 4) (h0 : 0 < low) (hu : up ≤ 4600000000) (hl : low ≤ 84934656) (e1 : τ 34 (if wh < 2 then 19 else 21) = lN up) (e2 : τ 34 (if wh < 2 then 20 else 22) = lN low) : Q_told (nI wh) σ τ = some (lN (if wh % 2 = 0 then up / Nat.gcd up low else low / Nat.gcd up low), σ, τ) := by
  unfold Q_told
  by_cases z : wh < 2
  · rw [if_pos z] at e1 e2
    rw [show (2 : Int32) = nI 2 from rfl, if_neg (nI_ge z (by decide)), e1]
    unfold Q_told_b16
    rw [show (2 : Int32) = nI 2 from rfl, if_neg (nI_ge z (by decide)), e2]
    exact told_33 σ τ hw h0 hu hl
  · rw [if_neg z] at e1 e2
    rw [show (2 : Int32) = nI 2 from rfl, if_pos (nI_le (by omega) (by omega)), e1]
    unfold Q_told_b16
    rw [show (2 : Int32) = nI 2 from rfl, if_pos (nI_le (by omega) (by omega)), e2]
    exact told_33 σ τ hw h0 hu hl
section TO
variable {m N : Nat} {A : Nat → Nat → Int} {b : Nat → Int} {σ : mS} {τ : mT}
/-- the told fraction is the one of pushes T, if these are as small (as great) as the found ones -/
theorem told_as (K : lp_ok m N A b) {u : Nat} (hu : u < N) {wh : Nat} (hw : wh < 4) {T : tb_T} (hT : lp_cn m N A b T) (hv : qv N A b (some u) (τ 34 (if wh < 2 then 19 else 21)).toInt (τ 34 (if wh < 2 then 20 else 22)).toInt) (he : (τ 34 (if wh < 2 then 19 else 21)).toInt * T.1 = tb_pt m T u * (τ 34 (if wh < 2 then 20 else 22)).toInt) :
    Q_told (nI wh) σ τ = some (lN (if wh % 2 = 0 then lp_num m T u else lp_den m T u), σ, τ) := by
  obtain ⟨y, a1, a2, a3, a4, a5⟩ := hv
  have l0 := a1.1
  obtain ⟨up, e1⟩ : ∃ up : Nat, (τ 34 (if wh < 2 then 19 else 21)).toInt = (up : Int) := ⟨_, (Int.toNat_of_nonneg a3).symm⟩
  obtain ⟨low, e2⟩ : ∃ low : Nat, (τ 34 (if wh < 2 then 20 else 22)).toInt = (low : Int) := ⟨_, (Int.toNat_of_nonneg (by omega)).symm⟩
  rw [told_ok σ τ (up := up) (low := low) hw (by omega) (by omega) (by omega) (lN_of e1 (by omega)) (lN_of e2 (by omega))]
  have t1 := hT.1.2.1
  have t2 : 0 ≤ tb_pt m T u := (hT.sol K.1).2.1 u hu
  have hh : up * T.1.toNat = (tb_pt m T u).toNat * low := by
    rw [e1, e2] at he
    apply Int.ofNat.inj
    show ((up * T.1.toNat : Nat) : Int) = (((tb_pt m T u).toNat * low : Nat) : Int)
    rw [Int.natCast_mul, Int.natCast_mul, Int.toNat_of_nonneg t2, Int.toNat_of_nonneg (by omega)]
    exact he
  obtain ⟨f1, f2⟩ := fr_red (show 0 < low by omega) (show 0 < T.1.toNat by omega) hh
  unfold lp_num lp_den
  rw [← f1, ← f2]
end TO
