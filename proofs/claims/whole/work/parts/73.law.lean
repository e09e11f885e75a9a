/-! ===== EVERY RUN OF CALLS ===== -/
theorem Rel_0 : Rel sg0 := by
  refine ⟨⟨0, fun _ => 0, ⟨by decide, fun b hb => absurd hb (by omega)⟩, ⟨rfl, fun i hi => absurd hi (by omega)⟩, ⟨rfl, fun i hi => absurd hi (by omega)⟩⟩, ⟨0, fun _ => 0, ⟨by decide, fun i hi => absurd hi (by omega)⟩, ⟨rfl, fun i hi => absurd hi (by omega)⟩, ⟨rfl, fun i hi => absurd hi (by omega)⟩⟩, ⟨0, fun _ => (0, fun _ => 0), ⟨by decide, fun j hj => absurd hj (by omega)⟩, ⟨rfl, fun j hj => absurd hj (by omega)⟩, ⟨rfl, fun j hj => absurd hj (by omega)⟩⟩, fun i _ => Or.inl ⟨rfl, rfl⟩⟩
section LW
variable {σ : mS} {τ : mT}
theorem al_step {R Q : mS → mT → Option (Int32 × mS × mT)} {K : mS → mT → Option (Int32 × mS × mT)} (h : alike R Q σ τ) (k : ∀ s t, Rel s → ∃ s' t', K s t = some (1, s', t')) : ∃ s' t', (ob (R σ τ) fun r5 σ5 τ5 => ob (Q σ5 τ5) fun r6 σ6 τ6 => if r5 = r6 then K σ6 τ6 else some ((0 : Int32), σ6, τ6)) = some (1, s', t') := by
  obtain ⟨r, s1, t1, s2, t2, h1, h2, h3⟩ := h
  rw [h1, ob_some, h2, ob_some, if_pos rfl]
  exact k s2 t2 h3
theorem al_stepL {R Q : mS → mT → Option (Int64 × mS × mT)} {K : mS → mT → Option (Int32 × mS × mT)} (h : alike R Q σ τ) (k : ∀ s t, Rel s → ∃ s' t', K s t = some (1, s', t')) : ∃ s' t', (ob (R σ τ) fun r5 σ5 τ5 => ob (Q σ5 τ5) fun r6 σ6 τ6 => if lg_cmp r5 r6 = 0 then K σ6 τ6 else some ((0 : Int32), σ6, τ6)) = some (1, s', t') := by
  obtain ⟨r, s1, t1, s2, t2, h1, h2, h3⟩ := h
  rw [h1, ob_some, h2, ob_some, if_pos ((lc_eq _ _).mpr rfl)]
  exact k s2 t2 h3
end LW
theorem law_l (sL : Nat) (sX : Nat → Int32) (hL : sL ≤ 2048) : ∀ (d i n : Nat) (σ : mS) (τ : mT), sL < i + 4 * d + 4 → d < n → i ≤ sL + 4 → Rel σ → ∃ σ' τ', L_law_l18 sL sX n (nI i) σ τ = some (1, σ', τ') := by
  have stop : ∀ i, i ≤ sL + 4 → (Int32.ofNat sL - (4 : Int32) < nI i ↔ sL < i + 4) := fun i hi => by
    have e1 : (Int32.ofNat sL - (4 : Int32)).toInt = (sL : Int) - 4 := pk_sub_toInt (a := sL) (b := 4) (by omega) (by decide)
    rw [Int32.lt_iff_toInt_lt, e1, nI_toInt (by omega)]
    omega
  intro d
  induction d with
  | zero =>
    intro i n σ τ hi hn hb h
    obtain ⟨n, rfl⟩ : ∃ n', n = n' + 1 := ⟨n - 1, by omega⟩
    unfold L_law_l18
    rw [if_pos ((stop i hb).mpr (by omega))]
    exact ⟨σ, τ, rfl⟩
  | succ d ih =>
    intro i n σ τ hi hn hb h
    obtain ⟨n, rfl⟩ : ∃ n', n = n' + 1 := ⟨n - 1, by omega⟩
    unfold L_law_l18
    by_cases z : sL < i + 4
    · rw [if_pos ((stop i hb).mpr z)]
      exact ⟨σ, τ, rfl⟩
    · have a1 : nI i + (1 : Int32) = nI (i + 1) := nI_1 i
      have a2 : nI i + (2 : Int32) = nI (i + 2) := nI_add i 2
      have a3 : nI i + (3 : Int32) = nI (i + 3) := nI_add i 3
      have a4 : nI i + (4 : Int32) = nI (i + 4) := nI_add i 4
      have k : ∀ s t, Rel s → ∃ s' t', L_law_l18 sL sX n (nI (i + 4)) s t = some (1, s', t') := fun s t hs => ih (i + 4) n s t (by omega) (by omega) (by omega) hs
      rw [if_neg (fun q => z ((stop i hb).mp q)), if_neg (nin (show i < sL by omega) (by omega)), a1, a2, a3, a4]
      have n1 := nin (show i + 1 < sL by omega) (by omega)
      have n2 := nin (show i + 2 < sL by omega) (by omega)
      have n3 := nin (show i + 3 < sL by omega) (by omega)
      generalize sX (nI (i + 1)).toNatClampNeg = x1
      generalize sX (nI (i + 2)).toNatClampNeg = x2
      generalize sX (nI (i + 3)).toNatClampNeg = x3
      generalize sX (nI i).toNatClampNeg &&& (31 : Int32) = op
      by_cases c0 : op = 0
      · rw [if_pos c0, if_neg n1]; exact al_step (al_type h x1) k
      rw [if_neg c0]
      by_cases c1 : op = 1
      · rw [if_pos c1]; exact al_step (al_clear h) k
      rw [if_neg c1]
      by_cases c2 : op = 2
      · rw [if_pos c2]; exact al_step (al_tells h) k
      rw [if_neg c2]
      by_cases c3 : op = 3
      · rw [if_pos c3, if_neg n1, if_neg n2, if_neg n3]; exact al_step (al_drops h x1 x2 x3) k
      rw [if_neg c3]
      by_cases c4 : op = 4
      · rw [if_pos c4, if_neg n1]; exact al_step (al_lifts h x1) k
      rw [if_neg c4]
      by_cases c5 : op = 5
      · rw [if_pos c5, if_neg n1, if_neg n2]; exact al_step (al_weighs h x1 x2) k
      rw [if_neg c5]
      by_cases c6 : op = 6
      · rw [if_pos c6, if_neg n1, if_neg n2, if_neg n3]; exact al_step (al_loads h x1 x2 x3) k
      rw [if_neg c6]
      by_cases c7 : op = 7
      · rw [if_pos c7]; exact al_step (al_undo h) k
      rw [if_neg c7]
      by_cases c8 : op = 8
      · rw [if_pos c8, if_neg n1, if_neg n2]; exact al_step (al_block h x1 x2) k
      rw [if_neg c8]
      by_cases c9 : op = 9
      · rw [if_pos c9, if_neg n1, if_neg n2]; exact al_step (al_contact h x1 x2) k
      rw [if_neg c9]
      by_cases c10 : op = 10
      · rw [if_pos c10]; exact al_step (al_rests h) k
      rw [if_neg c10]
      by_cases c11 : op = 11
      · rw [if_pos c11, if_neg n1, if_neg n2]; exact al_stepL (al_bounds h x1 x2) k
      rw [if_neg c11]
      by_cases c12 : op = 12
      · rw [if_pos c12, if_neg n1, if_neg n2, if_neg n3]; exact al_stepL (al_bears h x1 x2 x3) k
      rw [if_neg c12]
      by_cases c13 : op = 13
      · rw [if_pos c13, if_neg n1, if_neg n2]; exact al_step (al_where h x1 x2) k
      rw [if_neg c13]
      by_cases c14 : op = 14
      · rw [if_pos c14, if_neg n1]; exact al_step (al_weights h x1) k
      rw [if_neg c14]
      by_cases c15 : op = 15
      · rw [if_pos c15]; exact al_step (al_key h) k
      rw [if_neg c15]
      by_cases c16 : op = 16
      · rw [if_pos c16]; exact al_step (al_hold h) k
      rw [if_neg c16]
      by_cases c17 : op = 17
      · rw [if_pos c17, if_neg n1]; exact al_step (al_keep h x1) k
      rw [if_neg c17]
      by_cases c18 : op = 18
      · rw [if_pos c18, if_neg n1]; exact al_step (al_back h x1) k
      rw [if_neg c18]
      by_cases c19 : op = 19
      · rw [if_pos c19, if_neg n1]; exact al_step (al_count h x1) k
      rw [if_neg c19]
      exact k σ τ h
theorem law_pure (sL : Nat) (sX : Nat → Int32) (hL : sL ≤ 2048) : ∃ σ' τ', L_law_l18 sL sX mc_F 0 sg0 ta0 = some (1, σ', τ') :=
  law_l sL sX hL 512 0 mc_F sg0 ta0 (by omega) (by unfold mc_F; omega) (by omega) Rel_0
