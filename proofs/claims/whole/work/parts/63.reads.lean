/-! ===== THE CLASS READS ===== -/
def tx_V (L : Nat) (tx : Nat → Nat) : Prop := L ≤ 120 ∧ ∀ i, i < L → tx i ≤ 255
def tC (L : Nat) (tx : Nat → Nat) (σ : mS) : Prop := σ 27 1 = nI L ∧ ∀ i, i < L → σ 28 i = nI (tx i)
def tF (σ σ' : mS) (p : Nat) : Prop := σ' 27 2 = nI p ∧ (∀ a, a ≠ 27 → σ' a = σ a) ∧ ∀ j, j ≠ 2 → σ' 27 j = σ 27 j
theorem tF.tr {σ σ1 σ2 : mS} {p q : Nat} (h : tF σ σ1 p) (h' : tF σ1 σ2 q) : tF σ σ2 q := ⟨h'.1, fun a ha => (h'.2.1 a ha).trans (h.2.1 a ha), fun j hj => (h'.2.2 j hj).trans (h.2.2 j hj)⟩
theorem tC.fr {L : Nat} {tx : Nat → Nat} {σ σ' : mS} {p : Nat} (h : tC L tx σ) (F : tF σ σ' p) : tC L tx σ' := ⟨by rw [F.2.2 1 (by decide)]; exact h.1, fun i hi => by rw [F.2.1 28 (by decide)]; exact h.2 i hi⟩
theorem tF_u2 (σ : mS) (p : Nat) : tF σ (u2 σ 27 2 (nI p)) p := ⟨u2_at _ _ _ _, fun a ha => u2_ne _ _ _ ha, fun j hj => u2_off _ _ (Or.inr hj)⟩
def nx (L : Nat) (tx : Nat → Nat) (p : Nat) : Int32 := if p < L then nI (tx p) else -1
section RD
variable {L : Nat} {tx : Nat → Nat} {τ : mT}
theorem nx_eq (hV : tx_V L tx) {p c : Nat} (hc : c < 2 ^ 31) : nx L tx p = nI c ↔ p < L ∧ tx p = c := by
  unfold nx
  by_cases h : p < L
  · have := hV.2 p h
    rw [if_pos h, nI_eq (by omega) hc]
    exact ⟨fun z => ⟨h, z⟩, fun z => z.2⟩
  · rw [if_neg h]
    refine ⟨fun z => ?_, fun z => absurd z.1 h⟩
    have : (nI c).toInt = (-1 : Int32).toInt := by rw [← z]
    rw [nI_toInt hc] at this
    have e : (-1 : Int32).toInt = -1 := by decide
    omega
theorem next_ok {σ : mS} (hV : tx_V L tx) (h : tC L tx σ) {p : Nat} (hp : p ≤ L) (h2 : σ 27 2 = nI p) : T_next σ τ = some (nx L tx p, σ, τ) := by
  have hL := hV.1
  unfold T_next nx
  rw [h2, h.1, if_neg (nI_pos (by omega))]
  by_cases z : p < L
  · rw [if_neg (nI_ge z (by omega)), show (120 : Int32) = nI 120 from rfl, if_neg (nI_ge (show p < 120 by omega) (by decide)), if_neg (nin (show p < 120 by omega) (by decide)), ncl (show p < 2 ^ 31 by omega), h.2 p z, if_pos z]
  · rw [if_pos (nI_le (by omega) (by omega)), if_neg z]
theorem skip_l (hV : tx_V L tx) : ∀ (d p m : Nat) (σ : mS), p + d = L → d < m → tC L tx σ → σ 27 2 = nI p → ∃ σ', T_skipBlanks_l0 m σ τ = some (σ', τ) ∧ tF σ σ' (skp L tx p) := by
  have hL := hV.1
  intro d
  induction d with
  | zero =>
    intro p m σ hp hm h h2
    obtain ⟨m, rfl⟩ : ∃ m', m = m' + 1 := ⟨m - 1, by omega⟩
    refine ⟨σ, ?_, ?_, fun _ _ => rfl, fun _ _ => rfl⟩
    · unfold T_skipBlanks_l0
      rw [h.1, h2, if_pos (nI_le (by omega) (by omega))]
    · rw [skp_self (fun z => by omega)]; exact h2
  | succ d ih =>
    intro p m σ hp hm h h2
    obtain ⟨m, rfl⟩ : ∃ m', m = m' + 1 := ⟨m - 1, by omega⟩
    have hpL : p < L := by omega
    unfold T_skipBlanks_l0
    rw [h.1, h2, if_neg (nI_ge hpL (by omega)), next_ok hV h (by omega) h2, ob_some]
    have e : nx L tx p = (32 : Int32) ↔ p < L ∧ tx p = 32 := nx_eq hV (c := 32) (by decide)
    by_cases z : tx p = 32
    · rw [if_pos (e.mpr ⟨hpL, z⟩), mw_eq, h2, nI_1]
      have F0 := tF_u2 σ (p + 1)
      obtain ⟨σ', e1, e2⟩ := ih (p + 1) m (u2 σ 27 2 (nI (p + 1))) (by omega) (by omega) (h.fr F0) F0.1
      rw [skp_eq, if_pos ⟨hpL, z⟩]
      exact ⟨σ', e1, F0.tr e2⟩
    · rw [if_neg (fun q => z (e.mp q).2)]
      refine ⟨σ, rfl, ?_, fun _ _ => rfl, fun _ _ => rfl⟩
      rw [skp_self (fun _ => z)]; exact h2
theorem skip_ok {σ : mS} (hV : tx_V L tx) (h : tC L tx σ) {p : Nat} (hp : p ≤ L) (h2 : σ 27 2 = nI p) : ∃ σ', T_skipBlanks σ τ = some (σ', τ) ∧ tF σ σ' (skp L tx p) := skip_l hV (L - p) p mc_F σ (by omega) (by have := hV.1; unfold mc_F; omega) h h2
/-- bounds of a number, as they are asked -/
def wiB (lo : Nat) (hi : Int32) (h : Nat) : Prop := h ≤ 99 ∧ ∀ v, v < 1000 → ∀ σ τ, R_within (nI v) (nI lo) hi σ τ = some (if lo ≤ v ∧ v < h then 1 else 0, σ, τ)
theorem wiB_n (lo : Nat) {k : Nat} (hl : lo < 1000) (hk : k < 99) : wiB lo (nI k) (k + 1) := by
  refine ⟨by omega, fun v hv σ τ => ?_⟩
  unfold R_within
  by_cases h1 : v < lo
  · rw [if_pos (nI_lt h1 (by omega)), if_neg (fun z => by omega)]
  · rw [if_neg (nI_nlt (by omega) (by omega))]
    by_cases h2 : k < v
    · rw [if_pos (nI_lt h2 (by omega)), if_neg (fun z => by omega)]
    · rw [if_neg (nI_nlt (by omega) (by omega)), if_pos ⟨by omega, by omega⟩]
theorem wiB_p {n : Nat} (hn : n ≤ 4) : wiB 0 (nI n - 1) n := by
  cases n with
  | zero =>
    refine ⟨by decide, fun v hv σ τ => ?_⟩
    unfold R_within
    rw [if_neg (nI_nlt (Nat.zero_le _) (by omega)), if_pos, if_neg (fun z => by omega)]
    rw [Int32.lt_iff_toInt_lt, nI_toInt (by omega)]
    have e2 : (nI 0 - 1).toInt = -1 := by decide
    omega
  | succ k => rw [nI_pred]; exact wiB_n 0 (by decide) (by omega)
theorem fig_ok (c : Nat) (hc : c ≤ 255) (σ : mS) : T_isFigure (nI c) σ τ = some (if 48 ≤ c ∧ c ≤ 57 then 1 else 0, σ, τ) := by
  have w := (wiB_n 48 (k := 57) (by decide) (by decide)).2 c (by omega) σ τ
  have w : R_within (nI c) 48 57 σ τ = some (if 48 ≤ c ∧ c < 57 + 1 then 1 else 0, σ, τ) := w
  unfold T_isFigure
  rw [w, ob_some]
  by_cases z : 48 ≤ c ∧ c ≤ 57
  · rw [if_pos (show 48 ≤ c ∧ c < 57 + 1 by omega), if_pos z, if_neg (by decide)]
  · rw [if_neg (show ¬ (48 ≤ c ∧ c < 57 + 1) by omega), if_neg z, if_neg (by decide)]
theorem num_l (hV : tx_V L tx) (lo hi : Int32) (s : Nat) (z : Int32) : ∀ (d p m v : Nat) (σ : mS), p + d = L → d < m → tC L tx σ → σ 27 2 = nI p → v ≤ 999 → ∃ σ', T_readNumber_l28 m lo hi (nI s) z (nI (min v 100)) σ τ = T_readNumber_b82 lo hi (nI s) z (nI (min (dgp L tx p v).1 100)) σ' τ ∧ tF σ σ' (dgp L tx p v).2 := by
  have hL := hV.1
  intro d
  induction d with
  | zero =>
    intro p m v σ hp hm h h2 hv
    obtain ⟨m, rfl⟩ : ∃ m', m = m' + 1 := ⟨m - 1, by omega⟩
    refine ⟨σ, ?_, ?_, fun _ _ => rfl, fun _ _ => rfl⟩
    · rw [dgp_eq, if_neg (fun q => by have := q.1; omega)]
      unfold T_readNumber_l28
      rw [h.1, h2, if_pos (nI_le (by omega) (by omega))]
    · rw [dgp_eq, if_neg (fun q => by have := q.1; omega)]; exact h2
  | succ d ih =>
    intro p m v σ hp hm h h2 hv
    obtain ⟨m, rfl⟩ : ∃ m', m = m' + 1 := ⟨m - 1, by omega⟩
    have hpL : p < L := by omega
    have ht := hV.2 p hpL
    unfold T_readNumber_l28
    rw [h.1, h2, if_neg (nI_ge hpL (by omega)), next_ok hV h (by omega) h2, ob_some, show nx L tx p = nI (tx p) from if_pos hpL, fig_ok _ ht, ob_some]
    by_cases q : 48 ≤ tx p ∧ tx p ≤ 57
    · rw [if_pos q, if_neg (by decide), next_ok hV h (by omega) h2, ob_some, show nx L tx p = nI (tx p) from if_pos hpL, mw_eq, h2, nI_1]
      have F0 := tF_u2 σ (p + 1)
      have e : jmin ((10 : Int32) * nI (min v 100) + nI (tx p) - 48) 100 = nI (min (dgv v (tx p)) 100) := by
        rw [show (10 : Int32) = nI 10 from rfl, show (48 : Int32) = nI 48 from rfl, show (100 : Int32) = nI 100 from rfl, pk_mul, nI_add, pk_sub (by omega), i_jmin (by omega) (by decide)]
        congr 1
        unfold dgv
        split <;> omega
      rw [e]
      obtain ⟨σ', e1, e2⟩ := ih (p + 1) m (dgv v (tx p)) (u2 σ 27 2 (nI (p + 1))) (by omega) (by omega) (h.fr F0) F0.1 (by unfold dgv; split <;> omega)
      rw [dgp_eq, if_pos ⟨hpL, q⟩]
      exact ⟨σ', e1, F0.tr e2⟩
    · rw [if_neg q, if_pos (by rfl)]
      rw [dgp_eq, if_neg (fun r => q r.2)]
      exact ⟨σ, rfl, h2, fun _ _ => rfl, fun _ _ => rfl⟩
def o1 (o : Option Nat) : Int32 := match o with
  | none => -1
  | some v => nI v
theorem num_end {σ σ2 : mS} (hL : L ≤ 120) {s e c v lo hh : Nat} {hi z : Int32} (hB : wiB lo hi hh) (F2 : tF σ σ2 e) (h1 : s ≤ e) (h2 : e ≤ L) (hv : v ≤ 999) (hz : (z = 0 ∧ (c ≠ 48 ∨ e = s)) ∨ (z = 1 ∧ c = 48)) : ∃ σ', T_readNumber_b82 (nI lo) hi (nI s) z (nI (min v 100)) σ2 τ = some (o1 (nuR lo hh s c v e).1, σ', τ) ∧ tF σ σ' (nuR lo hh s c v e).2 := by
  have bad : ¬ (e ≠ s ∧ (e = s + 1 ∨ c ≠ 48) ∧ lo ≤ v ∧ v < hh) → ∃ σ', T_readNumber_b127 (nI s) σ2 τ = some (o1 (nuR lo hh s c v e).1, σ', τ) ∧ tF σ σ' (nuR lo hh s c v e).2 := fun hn => by
    unfold nuR
    rw [if_neg hn]
    exact ⟨_, by unfold T_readNumber_b127; rw [mw_eq]; rfl, F2.tr (tF_u2 σ2 s)⟩
  have h99 := hB.1
  have b101 : (e = s ∨ e = s + 1 ∨ c ≠ 48) → ∃ σ', T_readNumber_b101 (nI lo) hi (nI s) (nI (min v 100)) σ2 τ = some (o1 (nuR lo hh s c v e).1, σ', τ) ∧ tF σ σ' (nuR lo hh s c v e).2 := fun hc => by
    unfold T_readNumber_b101 T_readNumber_b102
    rw [F2.1]
    by_cases q : e = s
    · rw [if_pos (by rw [q])]; exact bad (fun r => r.1 q)
    · rw [if_neg (fun r => q ((nI_eq (by omega) (by omega)).mp r)), if_pos rfl, hB.2 _ (by omega), ob_some]
      by_cases r : lo ≤ v ∧ v < hh
      · rw [if_pos (show lo ≤ min v 100 ∧ min v 100 < hh by omega), if_neg (by decide), show min v 100 = v by omega]
        unfold nuR
        rw [if_pos ⟨q, by omega, r⟩]
        exact ⟨σ2, rfl, F2⟩
      · rw [if_neg (show ¬ (lo ≤ min v 100 ∧ min v 100 < hh) by omega), if_pos rfl]
        exact bad (fun w => r w.2.2)
  unfold T_readNumber_b82
  rcases hz with ⟨z1, z2⟩ | ⟨z1, z2⟩
  · rw [if_pos z1]
    exact b101 (by omega)
  · rw [if_neg (by rw [z1]; decide), F2.1, pk_sub h1, show (1 : Int32) = nI 1 from rfl]
    by_cases q : e - s ≤ 1
    · rw [if_pos (nI_le q (by decide))]
      exact b101 (by omega)
    · rw [if_neg (nI_ge (by omega) (by omega))]
      unfold T_readNumber_b102
      rw [F2.1, if_neg (fun r => by have := (nI_eq (by omega) (by omega)).mp r; omega), if_neg (by decide)]
      exact bad (fun w => by omega)
theorem num_ok {σ : mS} (hV : tx_V L tx) (h : tC L tx σ) {p : Nat} (hp : p ≤ L) (h2 : σ 27 2 = nI p) {lo hh : Nat} {hi : Int32} (hB : wiB lo hi hh) : ∃ σ', T_readNumber (nI lo) hi σ τ = some (o1 (nu L tx lo hh p).1, σ', τ) ∧ tF σ σ' (nu L tx lo hh p).2 := by
  have hL := hV.1
  obtain ⟨σ1, s1, s2⟩ := skip_ok (τ := τ) hV h hp h2
  have b1 := skp_le L tx (L - p) p (by omega)
  unfold nu
  generalize skp L tx p = s at s2 b1
  have h1 := h.fr s2
  have b2 := dgp_le L tx (L - s) s 0 (by omega) (by decide)
  have key : ∀ z : Int32, (z = 0 ∧ ¬ (s < L ∧ tx s = 48)) ∨ (z = 1 ∧ s < L ∧ tx s = 48) → ∃ σ', T_readNumber_l28 mc_F (nI lo) hi (nI s) z 0 σ1 τ = some (o1 (nuR lo hh s (tx s) (dgp L tx s 0).1 (dgp L tx s 0).2).1, σ', τ) ∧ tF σ σ' (nuR lo hh s (tx s) (dgp L tx s 0).1 (dgp L tx s 0).2).2 := fun z hz => by
    obtain ⟨σ2, n1, n2⟩ := num_l (τ := τ) hV (nI lo) hi s z (L - s) s mc_F 0 σ1 (by omega) (by unfold mc_F; omega) h1 s2.1 (by decide)
    have n1 : T_readNumber_l28 mc_F (nI lo) hi (nI s) z 0 σ1 τ = T_readNumber_b82 (nI lo) hi (nI s) z (nI (min (dgp L tx s 0).1 100)) σ2 τ := n1
    rw [n1]
    refine num_end hL hB (s2.tr n2) b2.1 b2.2.1 b2.2.2 ?_
    rcases hz with ⟨z1, z2⟩ | ⟨z1, z2⟩
    · refine Or.inl ⟨z1, ?_⟩
      by_cases q : s < L
      · exact Or.inl (fun r => z2 ⟨q, r⟩)
      · right
        rw [dgp_eq, if_neg (fun r => q r.1)]
    · exact Or.inr ⟨z1, z2.2⟩
  unfold T_readNumber
  rw [s1, ov_some, s2.1, next_ok hV h1 (by omega) s2.1, ob_some]
  have e : nx L tx s = (48 : Int32) ↔ s < L ∧ tx s = 48 := nx_eq hV (c := 48) (by decide)
  by_cases z : s < L ∧ tx s = 48
  · rw [if_pos (e.mpr z)]
    exact key 1 (Or.inr ⟨rfl, z⟩)
  · rw [if_neg (fun q => z (e.mp q))]
    exact key 0 (Or.inl ⟨rfl, z⟩)
/-! the class's items -/
theorem o1_neg : ¬ (0 : Int32) ≤ o1 none := by decide
theorem o1_neg' : o1 none < (0 : Int32) := by decide
/-- what reading an item leaves: the place, the pile that is read -/
def iF (σ σ' : mS) (r : itT) : Prop := σ' 27 2 = nI r.2.1 ∧ (r.1 = true → pl_C r.2.2.1 r.2.2.2 (σ' 5) 0) ∧ (∀ a, a ≠ 27 → a ≠ 5 → σ' a = σ a) ∧ ∀ j, j ≠ 2 → σ' 27 j = σ 27 j
theorem iF_bad {σ σ' : mS} {q n : Nat} {f : Nat → Nat} (F : tF σ σ' q) : iF σ σ' (false, q, n, f) := ⟨F.1, (fun z => by cases z), fun a h1 _ => F.2.1 a h1, F.2.2⟩
theorem end_ok {σ s : mS} (hV : tx_V L tx) {q : Nat} (hq : q ≤ L) (F : tF σ s q) (h : tC L tx σ) : ∃ s', T_readEnd s τ = some (if skp L tx q < L ∧ tx (skp L tx q) = 59 then 1 else 0, s', τ) ∧ tF σ s' (if skp L tx q < L ∧ tx (skp L tx q) = 59 then skp L tx q + 1 else skp L tx q) := by
  have hL := hV.1
  have hs := h.fr F
  obtain ⟨s1, e1, e2⟩ := skip_ok (τ := τ) hV hs hq F.1
  have b1 := skp_le L tx (L - q) q (by omega)
  unfold T_readEnd
  rw [e1, ov_some, next_ok hV (hs.fr e2) b1.2.1 e2.1, ob_some]
  have e : nx L tx (skp L tx q) = (59 : Int32) ↔ skp L tx q < L ∧ tx (skp L tx q) = 59 := nx_eq hV (c := 59) (by decide)
  by_cases z : skp L tx q < L ∧ tx (skp L tx q) = 59
  · rw [if_pos (e.mpr z), if_pos z, if_pos z, mw_eq, e2.1, nI_1]
    exact ⟨_, rfl, (F.tr e2).tr (tF_u2 s1 _)⟩
  · rw [if_neg (fun w => z (e.mp w)), if_neg z, if_neg z]
    exact ⟨s1, rfl, F.tr e2⟩
theorem opos {v : Nat} (h : v < 1000) : (0 : Int32) ≤ nI v := nI_pos' (by omega)
theorem rblock_ok {σ : mS} (hV : tx_V L tx) (h : tC L tx σ) {n : Nat} {f : Nat → Nat} (V : pl_V n f) (C : pl_C n f (σ 5) 0) {s : Nat} (hs : s < L) (h2 : σ 27 2 = nI s) : ∃ σ', T_readBlock_4 σ τ = some (if (it_b L tx n f s).1 then 1 else 0, σ', τ) ∧ iF σ σ' (it_b L tx n f s) := by
  have hL := hV.1
  have hn := V.1
  unfold T_readBlock_4 P_size_4
  rw [ob_some, C.n, show (4 : Int32) = nI 4 from rfl]
  unfold it_b
  by_cases h4 : n = 4
  · rw [if_neg (nI_nlt (by omega) (by omega)), if_pos h4]
    exact ⟨σ, rfl, h2, (fun z => by cases z), fun _ _ _ => rfl, fun _ _ => rfl⟩
  · rw [if_pos (nI_lt (by omega) (by decide)), if_neg h4, mw_eq, h2, nI_1]
    have F0 := tF_u2 σ (s + 1)
    obtain ⟨s1, a1, a2⟩ := num_ok (τ := τ) hV (h.fr F0) (show s + 1 ≤ L by omega) F0.1 (wiB_n 0 (k := 9) (by decide) (by decide))
    have a1 : T_readNumber 0 9 (u2 σ 27 2 (nI (s + 1))) τ = some (o1 (nu L tx 0 10 (s + 1)).1, s1, τ) := a1
    have F1 := F0.tr a2
    rw [a1, ob_some]
    obtain ⟨w1, w2, w3⟩ := nu_le (L := L) (tx := tx) (lo := 0) (h := 10) (p := s + 1) (by omega)
    unfold it_b1
    change tF σ s1 (nu L tx 0 10 (s + 1)).2 at F1
    cases e1 : (nu L tx 0 10 (s + 1)).1 with
    | none =>
      rw [if_neg o1_neg]
      exact ⟨s1, rfl, iF_bad F1⟩
    | some l =>
      have w4 := w3 l e1
      generalize (nu L tx 0 10 (s + 1)).2 = q1 at F1 w1 w2
      show ∃ σ', (if (0 : Int32) ≤ nI l then _ else _) = some (if (it_b2 L tx n f l (nu L tx 1 4 q1)).1 then 1 else 0, σ', τ) ∧ iF σ σ' (it_b2 L tx n f l (nu L tx 1 4 q1))
      rw [if_pos (opos (by omega))]
      obtain ⟨s2, b1, b2⟩ := num_ok (τ := τ) hV (h.fr F1) w2 F1.1 (wiB_n 1 (k := 3) (by decide) (by decide))
      have b1 : T_readNumber 1 3 s1 τ = some (o1 (nu L tx 1 4 q1).1, s2, τ) := b1
      have F2 := F1.tr b2
      change tF σ s2 (nu L tx 1 4 q1).2 at F2
      rw [b1, ob_some]
      obtain ⟨x1, x2, x3⟩ := nu_le (L := L) (tx := tx) (lo := 1) (h := 4) (p := q1) w2
      unfold it_b2
      cases e2 : (nu L tx 1 4 q1).1 with
      | none =>
        rw [if_neg o1_neg]
        exact ⟨s2, rfl, iF_bad F2⟩
      | some hh =>
        have x4 := x3 hh e2
        generalize (nu L tx 1 4 q1).2 = q2 at F2 x1 x2
        show ∃ σ', (if (0 : Int32) ≤ nI hh then _ else _) = some (if (it_b3 L tx n f l hh (nu L tx 1 10 q2)).1 then 1 else 0, σ', τ) ∧ iF σ σ' (it_b3 L tx n f l hh (nu L tx 1 10 q2))
        rw [if_pos (opos (by omega))]
        obtain ⟨s3, c1, c2⟩ := num_ok (τ := τ) hV (h.fr F2) x2 F2.1 (wiB_n 1 (k := 9) (by decide) (by decide))
        have c1 : T_readNumber 1 9 s2 τ = some (o1 (nu L tx 1 10 q2).1, s3, τ) := c1
        have F3 := F2.tr c2
        change tF σ s3 (nu L tx 1 10 q2).2 at F3
        rw [c1, ob_some]
        obtain ⟨y1, y2, y3⟩ := nu_le (L := L) (tx := tx) (lo := 1) (h := 10) (p := q2) x2
        unfold it_b3
        cases e3 : (nu L tx 1 10 q2).1 with
        | none =>
          rw [if_pos o1_neg']
          exact ⟨s3, rfl, iF_bad F3⟩
        | some w =>
          have y4 := y3 w e3
          generalize (nu L tx 1 10 q2).2 = q3 at F3 y1 y2
          show ∃ σ', (if nI w < (0 : Int32) then _ else _) = some (if (it_end L tx q3 n f (n + 1) (pl_add n f l hh w)).1 then 1 else 0, σ', τ) ∧ iF σ σ' (it_end L tx q3 n f (n + 1) (pl_add n f l hh w))
          rw [if_neg (nI_pos (by omega))]
          obtain ⟨s4, d1, d2⟩ := end_ok (τ := τ) hV y2 F3 h
          rw [d1, ob_some]
          unfold it_end
          by_cases z : skp L tx q3 < L ∧ tx (skp L tx q3) = 59
          · rw [if_pos z] at d2
            rw [if_pos z, if_pos z, if_neg (by decide)]
            obtain ⟨s5, g1, g2, g3⟩ := P_add_4_ok (σ := s4) (τ := τ) (show n < 4 by omega) (by rw [d2.2.1 5 (by decide)]; exact C) l hh w
            show ∃ σ', ov (P_add_4 (nI l) (nI hh) (nI w) s4 τ) _ = _ ∧ _
            rw [g1, ov_some]
            exact ⟨s5, rfl, by rw [g3 27 (by decide)]; exact d2.1, fun _ => g2, fun a h1 h3 => by rw [g3 a h3, d2.2.1 a h1], fun j hj => by rw [g3 27 (by decide), d2.2.2 j hj]⟩
          · rw [if_neg z] at d2
            rw [if_neg z, if_neg z, if_pos rfl]
            exact ⟨s4, rfl, iF_bad d2⟩
theorem rload_ok {σ : mS} (hV : tx_V L tx) (h : tC L tx σ) {n : Nat} {f : Nat → Nat} (V : pl_V n f) (C : pl_C n f (σ 5) 0) {s : Nat} (hs : s < L) (h2 : σ 27 2 = nI s) : ∃ σ', T_readLoad_4 σ τ = some (if (it_l L tx n f s).1 then 1 else 0, σ', τ) ∧ iF σ σ' (it_l L tx n f s) := by
  have hL := hV.1
  have hn := V.1
  unfold T_readLoad_4 P_size_4
  rw [mw_eq, h2, nI_1, ob_some]
  unfold it_l
  have F0 := tF_u2 σ (s + 1)
  rw [F0.2.1 5 (by decide), C.n]
  obtain ⟨s1, a1, a2⟩ := num_ok (τ := τ) hV (h.fr F0) (show s + 1 ≤ L by omega) F0.1 (wiB_p hn)
  have a1 : T_readNumber 0 (nI n - 1) (u2 σ 27 2 (nI (s + 1))) τ = some (o1 (nu L tx 0 n (s + 1)).1, s1, τ) := a1
  have F1 := F0.tr a2
  rw [a1, ob_some]
  obtain ⟨w1, w2, w3⟩ := nu_le (L := L) (tx := tx) (lo := 0) (h := n) (p := s + 1) (by omega)
  unfold it_l1
  change tF σ s1 (nu L tx 0 n (s + 1)).2 at F1
  cases e1 : (nu L tx 0 n (s + 1)).1 with
  | none =>
    rw [if_neg o1_neg]
    exact ⟨s1, rfl, iF_bad F1⟩
  | some b =>
    have w4 := w3 b e1
    have hb := w4.2
    have hh3 := (V.2 b hb).2.2.1
    generalize (nu L tx 0 n (s + 1)).2 = q1 at F1 w1 w2
    show ∃ σ', (if (0 : Int32) ≤ nI b then _ else _) = some (if (it_l2 L tx n f b (nu L tx 0 (2 * f (5 * b + 1) + 1) q1)).1 then 1 else 0, σ', τ) ∧ iF σ σ' (it_l2 L tx n f b (nu L tx 0 (2 * f (5 * b + 1) + 1) q1))
    rw [if_pos (opos (by omega))]
    have gt : P_get_4 (nI b) 1 s1 τ = some (nI (f (5 * b + 1)), s1, τ) := P_get_4_ok (k := 1) hn (by rw [F1.2.1 5 (by decide)]; exact C) hb (by omega)
    show ∃ σ', ob (P_get_4 (nI b) 1 s1 τ) _ = _ ∧ _
    rw [gt, ob_some, show (2 : Int32) = nI 2 from rfl, pk_mul]
    obtain ⟨s2, b1, b2⟩ := num_ok (τ := τ) hV (h.fr F1) w2 F1.1 (wiB_n 0 (k := 2 * f (5 * b + 1)) (by decide) (by omega))
    have b1 : T_readNumber 0 (nI (2 * f (5 * b + 1))) s1 τ = some (o1 (nu L tx 0 (2 * f (5 * b + 1) + 1) q1).1, s2, τ) := b1
    have F2 := F1.tr b2
    rw [b1, ob_some]
    obtain ⟨x1, x2, x3⟩ := nu_le (L := L) (tx := tx) (lo := 0) (h := 2 * f (5 * b + 1) + 1) (p := q1) w2
    unfold it_l2
    cases e2 : (nu L tx 0 (2 * f (5 * b + 1) + 1) q1).1 with
    | none =>
      rw [if_neg o1_neg]
      exact ⟨s2, rfl, iF_bad F2⟩
    | some sp =>
      have x4 := x3 sp e2
      generalize (nu L tx 0 (2 * f (5 * b + 1) + 1) q1).2 = q2 at F2 x1 x2
      show ∃ σ', (if (0 : Int32) ≤ nI sp then _ else _) = some (if (it_l3 L tx n f b sp (nu L tx 0 21 q2)).1 then 1 else 0, σ', τ) ∧ iF σ σ' (it_l3 L tx n f b sp (nu L tx 0 21 q2))
      rw [if_pos (opos (by omega))]
      obtain ⟨s3, c1, c2⟩ := num_ok (τ := τ) hV (h.fr F2) x2 F2.1 (wiB_n 0 (k := 20) (by decide) (by decide))
      have c1 : T_readNumber 0 20 s2 τ = some (o1 (nu L tx 0 21 q2).1, s3, τ) := c1
      have F3 := F2.tr c2
      change tF σ s3 (nu L tx 0 21 q2).2 at F3
      rw [c1, ob_some]
      obtain ⟨y1, y2, y3⟩ := nu_le (L := L) (tx := tx) (lo := 0) (h := 21) (p := q2) x2
      unfold it_l3
      cases e3 : (nu L tx 0 21 q2).1 with
      | none =>
        rw [if_pos o1_neg']
        exact ⟨s3, rfl, iF_bad F3⟩
      | some l =>
        have y4 := y3 l e3
        generalize (nu L tx 0 21 q2).2 = q3 at F3 y1 y2
        show ∃ σ', (if nI l < (0 : Int32) then _ else _) = some (if (it_end L tx q3 n f n (pl_set (pl_set f (5 * b + 3) l) (5 * b + 4) sp)).1 then 1 else 0, σ', τ) ∧ iF σ σ' (it_end L tx q3 n f n (pl_set (pl_set f (5 * b + 3) l) (5 * b + 4) sp))
        rw [if_neg (nI_pos (by omega))]
        obtain ⟨s4, d1, d2⟩ := end_ok (τ := τ) hV y2 F3 h
        rw [d1, ob_some]
        unfold it_end
        by_cases z : skp L tx q3 < L ∧ tx (skp L tx q3) = 59
        · rw [if_pos z] at d2
          rw [if_pos z, if_pos z, if_neg (by decide)]
          have C4 : pl_C n f (s4 5) 0 := by rw [d2.2.1 5 (by decide)]; exact C
          have g1 : P_set_4 (nI b) 4 (nI sp) s4 τ = some (u2 s4 5 (5 * b + 4) (nI sp), τ) := P_set_4_ok (k := 4) hn C4.n hb (by omega) _
          have g2 : P_set_4 (nI b) 3 (nI l) (u2 s4 5 (5 * b + 4) (nI sp)) τ = some (u2 (u2 s4 5 (5 * b + 4) (nI sp)) 5 (5 * b + 3) (nI l), τ) := P_set_4_ok (k := 3) hn (by rw [u2_off _ _ (Or.inr (by omega))]; exact C4.n) hb (by omega) _
          show ∃ σ', ov (P_set_4 (nI b) 4 (nI sp) s4 τ) _ = _ ∧ _
          rw [g1, ov_some]
          show ∃ σ', ov (P_set_4 (nI b) 3 (nI l) _ τ) _ = _ ∧ _
          rw [g2, ov_some]
          refine ⟨_, rfl, by rw [u2_ne _ _ _ (by decide), u2_ne _ _ _ (by decide)]; exact d2.1, fun _ => pl_C.of ?_ (fun i hi => ?_), fun a h1 h3 => by rw [u2_ne _ _ _ h3, u2_ne _ _ _ h3, d2.2.1 a h1], fun j hj => by rw [u2_ne _ _ _ (by decide), u2_ne _ _ _ (by decide), d2.2.2 j hj]⟩
          · rw [u2_off _ _ (Or.inr (by omega)), u2_off _ _ (Or.inr (by omega))]; exact C4.n
          · show _ = nI (pl_set (pl_set f (5 * b + 3) l) (5 * b + 4) sp i)
            unfold pl_set
            by_cases i3 : i = 5 * b + 3
            · rw [i3, u2_at, if_neg (by omega), if_pos rfl]
            · rw [u2_off _ _ (Or.inr i3)]
              by_cases i4 : i = 5 * b + 4
              · rw [i4, u2_at, if_pos rfl]
              · rw [u2_off _ _ (Or.inr i4), if_neg i4, if_neg i3]
                exact C4.at hi
        · rw [if_neg z] at d2
          rw [if_neg z, if_neg z, if_pos rfl]
          exact ⟨s4, rfl, iF_bad d2⟩
end RD
