/-! ===== THE REFERENCE READS ===== -/
def qC (L : Nat) (tx : Nat → Nat) (σ : mS) : Prop := σ 34 6 = nI L ∧ ∀ i, i < L → σ 39 i = nI (tx i)
/-- only the place and the mark have changed -/
def qg (σ σ' : mS) : Prop := (∀ a, a ≠ 34 → σ' a = σ a) ∧ ∀ j, j ≠ 23 → j ≠ 24 → σ' 34 j = σ 34 j
theorem qg.rf {σ : mS} : qg σ σ := ⟨fun _ _ => rfl, fun _ _ _ => rfl⟩
theorem qg.tr {σ σ1 σ2 : mS} (h : qg σ σ1) (h' : qg σ1 σ2) : qg σ σ2 := ⟨fun a ha => (h'.1 a ha).trans (h.1 a ha), fun j hj h2 => (h'.2 j hj h2).trans (h.2 j hj h2)⟩
theorem qC.fr {L : Nat} {tx : Nat → Nat} {σ σ' : mS} (h : qC L tx σ) (F : qg σ σ') : qC L tx σ' := ⟨by rw [F.2 6 (by decide) (by decide)]; exact h.1, fun i hi => by rw [F.1 39 (by decide)]; exact h.2 i hi⟩
theorem qg_23 (σ : mS) (v : Int32) : qg σ (u2 σ 34 23 v) := ⟨fun a ha => u2_ne _ _ _ ha, fun j hj _ => u2_off _ _ (Or.inr hj)⟩
theorem qg_24 (σ : mS) (v : Int32) : qg σ (u2 σ 34 24 v) := ⟨fun a ha => u2_ne _ _ _ ha, fun j _ hj => u2_off _ _ (Or.inr hj)⟩
section QR
variable {L : Nat} {tx : Nat → Nat} {τ : mT}
theorem qskip_l (hV : tx_V L tx) : ∀ (d p m : Nat) (σ : mS), p + d = L → d < m → qC L tx σ → σ 34 23 = nI p → ∃ σ', Q_skips_l0 m σ τ = some (σ', τ) ∧ σ' 34 23 = nI (skp L tx p) ∧ σ' 34 24 = nI (skp L tx p) ∧ qg σ σ' := by
  have hL := hV.1
  have fin : ∀ (σ : mS) (q : Nat), σ 34 23 = nI q → ∃ σ', Q_skips_b38 σ τ = some (σ', τ) ∧ σ' 34 23 = nI q ∧ σ' 34 24 = nI q ∧ qg σ σ' := fun σ q h => ⟨u2 σ 34 24 (nI q), by unfold Q_skips_b38; rw [mw_eq, h], by rw [u2_off _ _ (Or.inr (by decide))]; exact h, u2_at _ _ _ _, qg_24 _ _⟩
  intro d
  induction d with
  | zero =>
    intro p m σ hp hm h h2
    obtain ⟨m, rfl⟩ : ∃ m', m = m' + 1 := ⟨m - 1, by omega⟩
    unfold Q_skips_l0
    rw [h.1, h2, if_pos (nI_le (by omega) (by omega)), skp_self (fun z => by omega)]
    exact fin σ p h2
  | succ d ih =>
    intro p m σ hp hm h h2
    obtain ⟨m, rfl⟩ : ∃ m', m = m' + 1 := ⟨m - 1, by omega⟩
    have hpL : p < L := by omega
    have ht := hV.2 p hpL
    unfold Q_skips_l0
    rw [h.1, h2, if_neg (nI_ge hpL (by omega)), if_neg (nin (show p < 120 by omega) (by decide)), ncl (show p < 2 ^ 31 by omega), h.2 p hpL, show (32 : Int32) = nI 32 from rfl, nI_1]
    by_cases z : tx p = 32
    · rw [if_pos (by rw [z]), mw_eq]
      obtain ⟨σ', e1, e2, e3, e4⟩ := ih (p + 1) m (u2 σ 34 23 (nI (p + 1))) (by omega) (by omega) (h.fr (qg_23 _ _)) (u2_at _ _ _ _)
      rw [skp_eq, if_pos ⟨hpL, z⟩]
      exact ⟨σ', e1, e2, e3, (qg_23 _ _).tr e4⟩
    · rw [if_neg (fun q => z ((nI_eq (by omega) (by decide)).mp q)), skp_self (fun _ => z)]
      exact fin σ p h2
theorem qskip_ok {σ : mS} (hV : tx_V L tx) (h : qC L tx σ) {p : Nat} (hp : p ≤ L) (h2 : σ 34 23 = nI p) : ∃ σ', Q_skips σ τ = some (σ', τ) ∧ σ' 34 23 = nI (skp L tx p) ∧ σ' 34 24 = nI (skp L tx p) ∧ qg σ σ' := qskip_l hV (L - p) p mc_F σ (by omega) (by have := hV.1; unfold mc_F; omega) h h2
theorem pass_ok {σ : mS} (hV : tx_V L tx) (h : qC L tx σ) {p : Nat} (hp : p ≤ L) (h2 : σ 34 23 = nI p) {c : Nat} (hc : c ≤ 255) : ∃ σ', Q_passes (nI c) σ τ = some (if skp L tx p < L ∧ tx (skp L tx p) = c then 1 else 0, σ', τ) ∧ σ' 34 23 = nI (if skp L tx p < L ∧ tx (skp L tx p) = c then skp L tx p + 1 else skp L tx p) ∧ σ' 34 24 = nI (skp L tx p) ∧ qg σ σ' := by
  have hL := hV.1
  obtain ⟨s1, e1, e2, e3, e4⟩ := qskip_ok (τ := τ) hV h hp h2
  have b1 := skp_le L tx (L - p) p (by omega)
  generalize skp L tx p = s at e2 e3 b1
  have h1 := h.fr e4
  have no : ∃ σ', Q_passes_b32 s1 τ = some (0, σ', τ) ∧ σ' 34 23 = nI s ∧ σ' 34 24 = nI s ∧ qg σ σ' := by
    refine ⟨u2 s1 34 23 (nI s), ?_, u2_at _ _ _ _, by rw [u2_off _ _ (Or.inr (by decide))]; exact e3, e4.tr (qg_23 _ _)⟩
    unfold Q_passes_b32 Q_passes_b33
    rw [if_pos rfl, mw_eq, e2, show (0 : Int32) = nI 0 from rfl, nI_add, if_neg (by decide)]
    rfl
  unfold Q_passes
  rw [e1, ov_some, h1.1, e2]
  by_cases z : s < L
  · have ht := hV.2 s z
    rw [if_neg (nI_ge z (by omega)), if_neg (nin (show s < 120 by omega) (by decide)), ncl (show s < 2 ^ 31 by omega), h1.2 s z]
    by_cases q : tx s = c
    · rw [if_pos (by rw [q]), if_pos ⟨z, q⟩, if_pos ⟨z, q⟩]
      refine ⟨u2 s1 34 23 (nI (s + 1)), ?_, u2_at _ _ _ _, by rw [u2_off _ _ (Or.inr (by decide))]; exact e3, e4.tr (qg_23 _ _)⟩
      unfold Q_passes_b33
      rw [if_neg (by decide), mw_eq, e2, nI_1, if_neg (by decide)]
    · rw [if_neg (fun r => q ((nI_eq (by omega) (by omega)).mp r)), if_neg (fun r => q r.2), if_neg (fun r => q r.2)]
      exact no
  · rw [if_pos (nI_le (by omega) (by omega)), if_neg (fun r => z r.1), if_neg (fun r => z r.1)]
    exact no
theorem qfig_ok {σ : mS} (hV : tx_V L tx) (h : qC L tx σ) {p : Nat} (hp : p ≤ L) (h2 : σ 34 23 = nI p) : Q_isFigure σ τ = some (if isF L tx p then 1 else 0, σ, τ) := by
  have hL := hV.1
  unfold Q_isFigure
  rw [h.1, h2]
  by_cases z : p < L
  · have ht := hV.2 p z
    have w := (wiB_n 48 (k := 57) (by decide) (by decide)).2 (tx p) (by omega) σ τ
    have w : R_within (nI (tx p)) 48 57 σ τ = some (if 48 ≤ tx p ∧ tx p < 57 + 1 then 1 else 0, σ, τ) := w
    rw [if_neg (nI_ge z (by omega)), if_neg (nin (show p < 120 by omega) (by decide)), ncl (show p < 2 ^ 31 by omega), h.2 p z, qw_eq, w, ob_some]
    by_cases q : 48 ≤ tx p ∧ tx p ≤ 57
    · rw [if_pos (show 48 ≤ tx p ∧ tx p < 57 + 1 by omega), if_neg (by decide), if_pos ⟨z, q⟩]
    · rw [if_neg (show ¬ (48 ≤ tx p ∧ tx p < 57 + 1) by omega), if_pos rfl, if_neg (fun r => q r.2)]
  · rw [if_pos (nI_le (by omega) (by omega)), if_neg (fun r => z r.1)]
def q_fin (x1 x2 x3 x4 : Int32) (σ : mS) (τ : mT) : Option (Int32 × mS × mT) :=
  if x4 ≤ 0 then (Q_number_b105 x3 σ τ) else (if (99 : Int32) < x3 then (Q_number_b105 x3 σ τ) else (if x4 = (1 : Int32) then (Q_number_b92 x1 x2 x3 σ τ) else (if (σ 34 24) < 0 ∨ 120 ≤ (σ 34 24).toNatClampNeg then none else if (σ 39 (σ 34 24).toNatClampNeg) = (48 : Int32) then (Q_number_b105 x3 σ τ) else (Q_number_b92 x1 x2 x3 σ τ))))
theorem qnum_l (hV : tx_V L tx) (lo hi : Int32) (s : Nat) : ∀ (d p m v : Nat) (σ : mS), p + d = L → d < m → qC L tx σ → σ 34 23 = nI p → s ≤ p → v ≤ 999 → ∃ σ', Q_number_l9 m lo hi (nI v) (nI (p - s)) σ τ = q_fin lo hi (nI (dgp L tx p v).1) (nI ((dgp L tx p v).2 - s)) σ' τ ∧ σ' 34 23 = nI (dgp L tx p v).2 ∧ σ' 34 24 = σ 34 24 ∧ qg σ σ' := by
  have hL := hV.1
  intro d
  induction d with
  | zero =>
    intro p m v σ hp hm h h2 hs hv
    obtain ⟨m, rfl⟩ : ∃ m', m = m' + 1 := ⟨m - 1, by omega⟩
    have nf : ¬ isF L tx p := fun q => by have := q.1; omega
    rw [dgp_eq, if_neg nf]
    refine ⟨σ, ?_, h2, rfl, qg.rf⟩
    unfold Q_number_l9
    rw [qfig_ok hV h (by omega) h2, ob_some, if_neg nf, if_pos rfl]
    rfl
  | succ d ih =>
    intro p m v σ hp hm h h2 hs hv
    obtain ⟨m, rfl⟩ : ∃ m', m = m' + 1 := ⟨m - 1, by omega⟩
    unfold Q_number_l9
    rw [qfig_ok hV h (by omega) h2, ob_some]
    by_cases nf : isF L tx p
    · have hpL := nf.1
      have ht := hV.2 p hpL
      have nf2 := nf.2
      rw [if_pos nf, if_neg (by decide), dgp_eq, if_pos nf]
      have e44 : ∀ x : Nat, x = dgv v (tx p) → ∃ σ', Q_number_b44 (Q_number_l9 m) lo hi (nI (p - s)) (nI x) σ τ = q_fin lo hi (nI (dgp L tx (p + 1) (dgv v (tx p))).1) (nI ((dgp L tx (p + 1) (dgv v (tx p))).2 - s)) σ' τ ∧ σ' 34 23 = nI (dgp L tx (p + 1) (dgv v (tx p))).2 ∧ σ' 34 24 = σ 34 24 ∧ qg σ σ' := fun x hx => by
        unfold Q_number_b44
        rw [mw_eq, h2, nI_1, nI_1, hx, show p - s + 1 = p + 1 - s by omega]
        obtain ⟨σ', c1, c2, c3, c4⟩ := ih (p + 1) m (dgv v (tx p)) (u2 σ 34 23 (nI (p + 1))) (by omega) (by omega) (h.fr (qg_23 _ _)) (u2_at _ _ _ _) (by omega) (by unfold dgv; split <;> omega)
        exact ⟨σ', c1, c2, by rw [c3, u2_off _ _ (Or.inr (by decide))], (qg_23 _ _).tr c4⟩
      rw [show (99 : Int32) = nI 99 from rfl]
      by_cases q : 99 < v
      · rw [if_neg (nI_ge q (by omega))]
        exact e44 100 (by unfold dgv; rw [if_pos q])
      · rw [if_pos (nI_le (by omega) (by decide)), h2, if_neg (nin (show p < 120 by omega) (by decide)), ncl (show p < 2 ^ 31 by omega), h.2 p hpL, show (10 : Int32) = nI 10 from rfl, show (48 : Int32) = nI 48 from rfl, pk_mul, nI_add, pk_sub (by omega)]
        exact e44 _ (by unfold dgv; rw [if_neg q]; omega)
    · rw [if_neg nf, if_pos rfl, dgp_eq, if_neg nf]
      exact ⟨σ, rfl, h2, rfl, qg.rf⟩
theorem qnum_end {σ : mS} (hV : tx_V L tx) (h : qC L tx σ) {s e v lo hh : Nat} {hi : Int32} (hB : wiB lo hi hh) (hm : σ 34 24 = nI s) (h1 : s ≤ e) (h2 : e ≤ L) (hs : e ≠ s → s < L) (hv : v ≤ 999) : q_fin (nI lo) hi (nI v) (nI (e - s)) σ τ = some (o1 (nuR lo hh s (tx s) v e).1, σ, τ) := by
  have hL := hV.1
  have h99 := hB.1
  have bad : ¬ (e ≠ s ∧ (e = s + 1 ∨ tx s ≠ 48) ∧ lo ≤ v ∧ v < hh) → Q_number_b105 (nI v) σ τ = some (o1 (nuR lo hh s (tx s) v e).1, σ, τ) := fun hn => by
    unfold nuR Q_number_b105 Q_number_b106
    rw [if_neg hn, if_pos rfl]
    rfl
  have b92 : e ≠ s → (e = s + 1 ∨ tx s ≠ 48) → Q_number_b92 (nI lo) hi (nI v) σ τ = some (o1 (nuR lo hh s (tx s) v e).1, σ, τ) := fun a1 a2 => by
    unfold Q_number_b92
    rw [qw_eq, hB.2 v (by omega), ob_some]
    by_cases r : lo ≤ v ∧ v < hh
    · rw [if_pos r, if_neg (by decide)]
      unfold Q_number_b106
      rw [if_neg (by decide)]
      unfold nuR
      rw [if_pos ⟨a1, a2, r⟩]
      rfl
    · rw [if_neg r, if_pos rfl]
      exact bad (fun w => r w.2.2)
  unfold q_fin
  by_cases q : e = s
  · have e0 : e - s = 0 := by omega
    rw [e0, if_pos (by decide)]
    exact bad (fun w => w.1 q)
  · rw [if_neg (nI_nle (by omega) (by omega)), show (99 : Int32) = nI 99 from rfl]
    by_cases q2 : 99 < v
    · rw [if_pos (nI_lt q2 (by omega))]
      exact bad (fun w => by omega)
    · rw [if_neg (nI_nlt (by omega) (by decide)), show (1 : Int32) = nI 1 from rfl]
      by_cases q3 : e = s + 1
      · rw [if_pos (by rw [q3]; congr 1; omega)]
        exact b92 q (Or.inl q3)
      · have hsL := hs q
        have ht := hV.2 s hsL
        rw [if_neg (fun w => by have := (nI_eq (by omega) (by decide)).mp w; omega), hm, if_neg (nin (show s < 120 by omega) (by decide)), ncl (show s < 2 ^ 31 by omega), h.2 s hsL, show (48 : Int32) = nI 48 from rfl]
        by_cases q4 : tx s = 48
        · rw [if_pos (by rw [q4])]
          exact bad (fun w => by omega)
        · rw [if_neg (fun w => q4 ((nI_eq (by omega) (by decide)).mp w))]
          exact b92 q (Or.inr q4)
/-- behind a number: its end is the place, or the token's begin is the mark -/
def qn (σ σ' : mS) (r : Option Nat × Nat) : Prop := qg σ σ' ∧ (r.1 = none → σ' 34 24 = nI r.2) ∧ ∀ v, r.1 = some v → σ' 34 23 = nI r.2
theorem qnum_ok {σ : mS} (hV : tx_V L tx) (h : qC L tx σ) {p : Nat} (hp : p ≤ L) (h2 : σ 34 23 = nI p) {lo hh : Nat} {hi : Int32} (hB : wiB lo hi hh) : ∃ σ', Q_number (nI lo) hi σ τ = some (o1 (nu L tx lo hh p).1, σ', τ) ∧ qn σ σ' (nu L tx lo hh p) := by
  have hL := hV.1
  obtain ⟨s1, e1, e2, e3, e4⟩ := qskip_ok (τ := τ) hV h hp h2
  have b1 := skp_le L tx (L - p) p (by omega)
  unfold nu
  generalize skp L tx p = s at e2 e3 b1
  have h1 := h.fr e4
  have b2 := dgp_le L tx (L - s) s 0 (by omega) (by decide)
  obtain ⟨σ', c1, c2, c3, c4⟩ := qnum_l (τ := τ) hV (nI lo) hi s (L - s) s mc_F 0 s1 (by omega) (by unfold mc_F; omega) h1 e2 (Nat.le_refl _) (by decide)
  rw [Nat.sub_self] at c1
  have c1 : Q_number_l9 mc_F (nI lo) hi 0 0 s1 τ = q_fin (nI lo) hi (nI (dgp L tx s 0).1) (nI ((dgp L tx s 0).2 - s)) σ' τ := c1
  have hs : (dgp L tx s 0).2 ≠ s → s < L := fun w => by
    apply Classical.byContradiction
    intro q
    refine w ?_
    rw [dgp_eq, if_neg (fun r => q r.1)]
  refine ⟨σ', ?_, e4.tr c4, ?_, ?_⟩
  · unfold Q_number
    rw [e1, ov_some, c1]
    exact qnum_end hV (h1.fr c4) hB (by rw [c3]; exact e3) b2.1 b2.2.1 hs b2.2.2
  · unfold nuR
    split
    · intro w; cases w
    · intro _; show σ' 34 24 = nI s; rw [c3]; exact e3
  · unfold nuR
    split
    · intro v _; exact c2
    · intro v w; cases w
/-! the reference's items -/
def qi (σ σ' : mS) (r : itT) : Prop := (r.1 = true → σ' 34 23 = nI r.2.1 ∧ pl_Q r.2.2.1 r.2.2.2 (σ' 35) 0) ∧ (r.1 = false → σ' 34 24 = nI r.2.1) ∧ (∀ a, a ≠ 34 → a ≠ 35 → σ' a = σ a) ∧ ∀ j, j ≠ 23 → j ≠ 24 → σ' 34 j = σ 34 j
theorem qi_bad {σ σ' : mS} {q n : Nat} {f : Nat → Nat} (F : qg σ σ') (h : σ' 34 24 = nI q) : qi σ σ' (false, q, n, f) := ⟨(fun z => by cases z), (fun _ => h), fun a h1 _ => F.1 a h1, F.2⟩
theorem qblock_ok {σ : mS} (hV : tx_V L tx) (h : qC L tx σ) {n : Nat} {f : Nat → Nat} (V : pl_V n f) (C : pl_Q n f (σ 35) 0) {s : Nat} (hs : s < L) (h2 : σ 34 23 = nI (s + 1)) (hm : σ 34 24 = nI s) : ∃ σ', Q_readsBlock σ τ = some (if (it_b L tx n f s).1 then 1 else 0, σ', τ) ∧ qi σ σ' (it_b L tx n f s) := by
  have hL := hV.1
  have hn := V.1
  unfold Q_readsBlock
  rw [C.1, show (4 : Int32) = nI 4 from rfl]
  unfold it_b
  by_cases h4 : n = 4
  · rw [if_pos (by rw [h4]), if_pos h4]
    exact ⟨σ, rfl, qi_bad qg.rf hm⟩
  · rw [if_neg (fun q => h4 ((nI_eq (by omega) (by decide)).mp q)), if_neg h4]
    obtain ⟨s1, a1, F1, m1, p1⟩ := qnum_ok (τ := τ) hV h (show s + 1 ≤ L by omega) h2 (wiB_n 0 (k := 9) (by decide) (by decide))
    change (nu L tx 0 10 (s + 1)).1 = none → s1 34 24 = nI (nu L tx 0 10 (s + 1)).2 at m1
    change ∀ v, (nu L tx 0 10 (s + 1)).1 = some v → s1 34 23 = nI (nu L tx 0 10 (s + 1)).2 at p1
    have a1 : Q_number 0 9 σ τ = some (o1 (nu L tx 0 10 (s + 1)).1, s1, τ) := a1
    rw [a1, ob_some]
    obtain ⟨w1, w2, w3⟩ := nu_le (L := L) (tx := tx) (lo := 0) (h := 10) (p := s + 1) (by omega)
    unfold it_b1
    cases e1 : (nu L tx 0 10 (s + 1)).1 with
    | none =>
      rw [if_neg o1_neg]
      unfold Q_readsBlock_b34
      rw [if_neg (by decide)]
      unfold Q_readsBlock_b50
      rw [if_pos (by decide)]
      exact ⟨s1, rfl, qi_bad F1 (m1 e1)⟩
    | some l =>
      have w4 := w3 l e1
      have p1 := p1 l e1
      generalize (nu L tx 0 10 (s + 1)).2 = q1 at p1 w1 w2
      show ∃ σ', (if (0 : Int32) ≤ nI l then _ else _) = some (if (it_b2 L tx n f l (nu L tx 1 4 q1)).1 then 1 else 0, σ', τ) ∧ qi σ σ' (it_b2 L tx n f l (nu L tx 1 4 q1))
      rw [if_pos (opos (by omega))]
      obtain ⟨s2, b1, F2, m2, p2⟩ := qnum_ok (τ := τ) hV (h.fr F1) w2 p1 (wiB_n 1 (k := 3) (by decide) (by decide))
      change (nu L tx 1 4 q1).1 = none → s2 34 24 = nI (nu L tx 1 4 q1).2 at m2
      change ∀ v, (nu L tx 1 4 q1).1 = some v → s2 34 23 = nI (nu L tx 1 4 q1).2 at p2
      have b1 : Q_number 1 3 s1 τ = some (o1 (nu L tx 1 4 q1).1, s2, τ) := b1
      have F2 := F1.tr F2
      show ∃ σ', ob (Q_number 1 3 s1 τ) _ = _ ∧ _
      rw [b1, ob_some]
      obtain ⟨x1, x2, x3⟩ := nu_le (L := L) (tx := tx) (lo := 1) (h := 4) (p := q1) w2
      unfold it_b2
      cases e2 : (nu L tx 1 4 q1).1 with
      | none =>
        unfold Q_readsBlock_b34
        rw [if_neg o1_neg]
        unfold Q_readsBlock_b50
        rw [if_pos (by decide)]
        exact ⟨s2, rfl, qi_bad F2 (m2 e2)⟩
      | some hh =>
        have x4 := x3 hh e2
        have p2 := p2 hh e2
        generalize (nu L tx 1 4 q1).2 = q2 at p2 x1 x2
        show ∃ σ', Q_readsBlock_b34 (nI l) (nI hh) s2 τ = some (if (it_b3 L tx n f l hh (nu L tx 1 10 q2)).1 then 1 else 0, σ', τ) ∧ qi σ σ' (it_b3 L tx n f l hh (nu L tx 1 10 q2))
        unfold Q_readsBlock_b34
        rw [if_pos (opos (by omega))]
        obtain ⟨s3, c1, F3, m3, p3⟩ := qnum_ok (τ := τ) hV (h.fr F2) x2 p2 (wiB_n 1 (k := 9) (by decide) (by decide))
        change (nu L tx 1 10 q2).1 = none → s3 34 24 = nI (nu L tx 1 10 q2).2 at m3
        change ∀ v, (nu L tx 1 10 q2).1 = some v → s3 34 23 = nI (nu L tx 1 10 q2).2 at p3
        have c1 : Q_number 1 9 s2 τ = some (o1 (nu L tx 1 10 q2).1, s3, τ) := c1
        have F3 := F2.tr F3
        rw [c1, ob_some]
        obtain ⟨y1, y2, y3⟩ := nu_le (L := L) (tx := tx) (lo := 1) (h := 10) (p := q2) x2
        unfold it_b3 Q_readsBlock_b50
        cases e3 : (nu L tx 1 10 q2).1 with
        | none =>
          rw [if_pos o1_neg']
          exact ⟨s3, rfl, qi_bad F3 (m3 e3)⟩
        | some w =>
          have y4 := y3 w e3
          have p3 := p3 w e3
          generalize (nu L tx 1 10 q2).2 = q3 at p3 y1 y2
          show ∃ σ', (if nI w < (0 : Int32) then _ else _) = some (if (it_end L tx q3 n f (n + 1) (pl_add n f l hh w)).1 then 1 else 0, σ', τ) ∧ qi σ σ' (it_end L tx q3 n f (n + 1) (pl_add n f l hh w))
          rw [if_neg (nI_pos (by omega))]
          obtain ⟨s4, d1, d2, d3, F4⟩ := pass_ok (τ := τ) hV (h.fr F3) y2 p3 (c := 59) (by decide)
          have d1 : Q_passes 59 s3 τ = some (if skp L tx q3 < L ∧ tx (skp L tx q3) = 59 then 1 else 0, s4, τ) := d1
          have F4 := F3.tr F4
          rw [d1, ob_some]
          unfold it_end
          by_cases z : skp L tx q3 < L ∧ tx (skp L tx q3) = 59
          · rw [if_pos z] at d2
            rw [if_pos z, if_pos z, if_neg (by decide)]
            obtain ⟨s5, g1, g2, g3⟩ := Q_appends_ok (σ := s4) (τ := τ) (show n < 4 by omega) (by rw [F4.1 35 (by decide)]; exact C) l hh w
            show ∃ σ', ov (Q_appends (nI l) (nI hh) (nI w) s4 τ) _ = _ ∧ _
            rw [g1, ov_some]
            exact ⟨s5, rfl, fun _ => ⟨by rw [g3 34 (by decide)]; exact d2, g2⟩, (fun z => by cases z), fun a h1 h3 => by rw [g3 a h3, F4.1 a h1], fun j hj hj2 => by rw [g3 34 (by decide), F4.2 j hj hj2]⟩
          · rw [if_neg z, if_neg z, if_pos rfl]
            exact ⟨s4, rfl, qi_bad F4 d3⟩
theorem qload_ok {σ : mS} (hV : tx_V L tx) (h : qC L tx σ) {n : Nat} {f : Nat → Nat} (V : pl_V n f) (C : pl_Q n f (σ 35) 0) {s : Nat} (hs : s < L) (h2 : σ 34 23 = nI (s + 1)) : ∃ σ', Q_readsLoad σ τ = some (if (it_l L tx n f s).1 then 1 else 0, σ', τ) ∧ qi σ σ' (it_l L tx n f s) := by
  have hL := hV.1
  have hn := V.1
  unfold Q_readsLoad
  rw [C.1]
  unfold it_l
  obtain ⟨s1, a1, F1, m1, p1⟩ := qnum_ok (τ := τ) hV h (show s + 1 ≤ L by omega) h2 (wiB_p hn)
  have a1 : Q_number 0 (nI n - 1) σ τ = some (o1 (nu L tx 0 n (s + 1)).1, s1, τ) := a1
  rw [a1, ob_some]
  obtain ⟨w1, w2, w3⟩ := nu_le (L := L) (tx := tx) (lo := 0) (h := n) (p := s + 1) (by omega)
  unfold it_l1
  cases e1 : (nu L tx 0 n (s + 1)).1 with
  | none =>
    rw [if_neg o1_neg]
    unfold Q_readsLoad_b35
    rw [if_neg (by decide)]
    unfold Q_readsLoad_b51
    rw [if_pos (by decide)]
    exact ⟨s1, rfl, qi_bad F1 (m1 e1)⟩
  | some b =>
    have w4 := w3 b e1
    have hb := w4.2
    have hh3 := (V.2 b hb).2.2.1
    have p1 := p1 b e1
    generalize (nu L tx 0 n (s + 1)).2 = q1 at p1 w1 w2
    show ∃ σ', (if (0 : Int32) ≤ nI b then _ else _) = some (if (it_l2 L tx n f b (nu L tx 0 (2 * f (5 * b + 1) + 1) q1)).1 then 1 else 0, σ', τ) ∧ qi σ σ' (it_l2 L tx n f b (nu L tx 0 (2 * f (5 * b + 1) + 1) q1))
    rw [if_pos (opos (by omega))]
    have gt : Q_get (nI b) 2 s1 τ = some (nI (f (5 * b + 1)), s1, τ) := Q_get_ok (k := 1) hn (by rw [F1.1 35 (by decide)]; exact C) hb (by omega)
    show ∃ σ', ob (Q_get (nI b) 2 s1 τ) _ = _ ∧ _
    rw [gt, ob_some, show (2 : Int32) = nI 2 from rfl, pk_mul]
    obtain ⟨s2, b1, F2, m2, p2⟩ := qnum_ok (τ := τ) hV (h.fr F1) w2 p1 (wiB_n 0 (k := 2 * f (5 * b + 1)) (by decide) (by omega))
    have b1 : Q_number 0 (nI (2 * f (5 * b + 1))) s1 τ = some (o1 (nu L tx 0 (2 * f (5 * b + 1) + 1) q1).1, s2, τ) := b1
    have F2 := F1.tr F2
    rw [b1, ob_some]
    obtain ⟨x1, x2, x3⟩ := nu_le (L := L) (tx := tx) (lo := 0) (h := 2 * f (5 * b + 1) + 1) (p := q1) w2
    unfold it_l2 Q_readsLoad_b35
    cases e2 : (nu L tx 0 (2 * f (5 * b + 1) + 1) q1).1 with
    | none =>
      rw [if_neg o1_neg]
      unfold Q_readsLoad_b51
      rw [if_pos (by decide)]
      exact ⟨s2, rfl, qi_bad F2 (m2 e2)⟩
    | some sp =>
      have x4 := x3 sp e2
      have p2 := p2 sp e2
      generalize (nu L tx 0 (2 * f (5 * b + 1) + 1) q1).2 = q2 at p2 x1 x2
      show ∃ σ', (if (0 : Int32) ≤ nI sp then _ else _) = some (if (it_l3 L tx n f b sp (nu L tx 0 21 q2)).1 then 1 else 0, σ', τ) ∧ qi σ σ' (it_l3 L tx n f b sp (nu L tx 0 21 q2))
      rw [if_pos (opos (by omega))]
      obtain ⟨s3, c1, F3, m3, p3⟩ := qnum_ok (τ := τ) hV (h.fr F2) x2 p2 (wiB_n 0 (k := 20) (by decide) (by decide))
      change (nu L tx 0 21 q2).1 = none → s3 34 24 = nI (nu L tx 0 21 q2).2 at m3
      change ∀ v, (nu L tx 0 21 q2).1 = some v → s3 34 23 = nI (nu L tx 0 21 q2).2 at p3
      have c1 : Q_number 0 20 s2 τ = some (o1 (nu L tx 0 21 q2).1, s3, τ) := c1
      have F3 := F2.tr F3
      rw [c1, ob_some]
      obtain ⟨y1, y2, y3⟩ := nu_le (L := L) (tx := tx) (lo := 0) (h := 21) (p := q2) x2
      unfold it_l3 Q_readsLoad_b51
      cases e3 : (nu L tx 0 21 q2).1 with
      | none =>
        rw [if_pos o1_neg']
        exact ⟨s3, rfl, qi_bad F3 (m3 e3)⟩
      | some l =>
        have y4 := y3 l e3
        have p3 := p3 l e3
        generalize (nu L tx 0 21 q2).2 = q3 at p3 y1 y2
        show ∃ σ', (if nI l < (0 : Int32) then _ else _) = some (if (it_end L tx q3 n f n (pl_set (pl_set f (5 * b + 3) l) (5 * b + 4) sp)).1 then 1 else 0, σ', τ) ∧ qi σ σ' (it_end L tx q3 n f n (pl_set (pl_set f (5 * b + 3) l) (5 * b + 4) sp))
        rw [if_neg (nI_pos (by omega))]
        obtain ⟨s4, d1, d2, d3, F4⟩ := pass_ok (τ := τ) hV (h.fr F3) y2 p3 (c := 59) (by decide)
        have d1 : Q_passes 59 s3 τ = some (if skp L tx q3 < L ∧ tx (skp L tx q3) = 59 then 1 else 0, s4, τ) := d1
        have F4 := F3.tr F4
        rw [d1, ob_some]
        unfold it_end
        by_cases z : skp L tx q3 < L ∧ tx (skp L tx q3) = 59
        · rw [if_pos z] at d2
          rw [if_pos z, if_pos z, if_neg (by decide)]
          have C4 : pl_Q n f (s4 35) 0 := by rw [F4.1 35 (by decide)]; exact C
          have i4 : (5 : Int32) * o1 (some b) + 4 = nI (5 * b + 4) := m5 b 4
          have i5 : (5 : Int32) * o1 (some b) + 5 = nI (5 * b + 5) := m5 b 5
          rw [i4, i5, if_neg (nin (show 5 * b + 4 < 21 by omega) (by decide)), ncl (show 5 * b + 4 < 2 ^ 31 by omega), mw_eq, if_neg (nin (show 5 * b + 5 < 21 by omega) (by decide)), ncl (show 5 * b + 5 < 2 ^ 31 by omega), mw_eq]
          refine ⟨_, rfl, fun _ => ⟨by rw [u2_ne _ _ _ (by decide), u2_ne _ _ _ (by decide)]; exact d2, pl_Q.of ?_ (fun i hi => ?_)⟩, (fun z => by cases z), fun a h1 h3 => by rw [u2_ne _ _ _ h3, u2_ne _ _ _ h3, F4.1 a h1], fun j hj hj2 => by rw [u2_ne _ _ _ (by decide), u2_ne _ _ _ (by decide), F4.2 j hj hj2]⟩
          · rw [u2_off _ _ (Or.inr (by omega)), u2_off _ _ (Or.inr (by omega))]; exact C4.1
          · show _ = nI (pl_set (pl_set f (5 * b + 3) l) (5 * b + 4) sp i)
            unfold pl_set
            by_cases j4 : i = 5 * b + 4
            · rw [j4, u2_at, if_pos rfl]
              rfl
            · rw [u2_off _ _ (Or.inr (by omega)), if_neg j4]
              by_cases j3 : i = 5 * b + 3
              · rw [j3, u2_at, if_pos rfl]
                rfl
              · rw [u2_off _ _ (Or.inr (by omega)), if_neg j3]
                exact C4.at hi
        · rw [if_neg z, if_neg z, if_pos rfl]
          exact ⟨s4, rfl, qi_bad F4 d3⟩
end QR
