/-! ===== THE WHOLE TEXT, BY THE CLASS ===== -/
section IN
variable {L : Nat} {tx : Nat → Nat} {τ : mT}
def jF (σ σ' : mS) : Prop := (∀ a, a ≠ 27 → a ≠ 5 → σ' a = σ a) ∧ ∀ j, j ≠ 2 → σ' 27 j = σ 27 j
theorem jF.tr {σ σ1 σ2 : mS} (h : jF σ σ1) (h' : jF σ1 σ2) : jF σ σ2 := ⟨fun a h1 h2 => (h'.1 a h1 h2).trans (h.1 a h1 h2), fun j hj => (h'.2 j hj).trans (h.2 j hj)⟩
theorem tF.j {σ σ' : mS} {p : Nat} (h : tF σ σ' p) : jF σ σ' := ⟨fun a h1 _ => h.2.1 a h1, h.2.2⟩
theorem tC.jf {σ σ' : mS} (h : tC L tx σ) (F : jF σ σ') : tC L tx σ' := ⟨by rw [F.2 1 (by decide)]; exact h.1, fun i hi => by rw [F.1 28 (by decide) (by decide)]; exact h.2 i hi⟩
theorem ritem_ok {σ : mS} (hV : tx_V L tx) (h : tC L tx σ) {n : Nat} {f : Nat → Nat} (V : pl_V n f) (C : pl_C n f (σ 5) 0) {s : Nat} (hs : s < L) (h2 : σ 27 2 = nI s) : ∃ σ', T_readItem_4 σ τ = some (if (it_x L tx n f s).1 then 1 else 0, σ', τ) ∧ iF σ σ' (it_x L tx n f s) := by
  unfold T_readItem_4
  rw [next_ok hV h (by omega) h2, ob_some]
  have e1 : nx L tx s = (98 : Int32) ↔ s < L ∧ tx s = 98 := nx_eq hV (c := 98) (by decide)
  have e2 : nx L tx s = (108 : Int32) ↔ s < L ∧ tx s = 108 := nx_eq hV (c := 108) (by decide)
  have ok : ∀ b : Bool, ¬ (¬ (if b = true then (1 : Int32) else 0) &&& 1 = (if b = true then (1 : Int32) else 0)) := by decide
  unfold it_x
  by_cases z1 : tx s = 98
  · obtain ⟨σ', a1, a2⟩ := rblock_ok (τ := τ) hV h V C hs h2
    rw [if_pos (e1.mpr ⟨hs, z1⟩), a1, ob_some, if_pos z1, if_neg (ok _)]
    exact ⟨σ', rfl, a2⟩
  · rw [if_neg (fun q => z1 (e1.mp q).2), if_neg z1]
    by_cases z2 : tx s = 108
    · obtain ⟨σ', a1, a2⟩ := rload_ok (τ := τ) hV h V C hs h2
      rw [if_pos (e2.mpr ⟨hs, z2⟩), a1, ob_some, if_pos z2, if_neg (ok _)]
      exact ⟨σ', rfl, a2⟩
    · rw [if_neg (fun q => z2 (e2.mp q).2), if_neg z2]
      exact ⟨σ, rfl, h2, (fun z => by cases z), fun _ _ _ => rfl, fun _ _ => rfl⟩
/-- what comes of reading -/
def rd_E (L : Nat) (R : Option (Nat × Nat × (Nat → Nat)) × Nat) (k0 : Nat → Nat → (Nat → Nat) → Prop) (k1 : Nat → Prop) : Prop := (∃ items n f, R.1 = some (items, n, f) ∧ items ≤ 120 ∧ pl_V n f ∧ k0 items n f) ∨ (R.1 = none ∧ R.2 ≤ L ∧ k1 R.2)
theorem into_l (hV : tx_V L tx) : ∀ (k items n : Nat) (f : Nat → Nat) (p m : Nat) (σ : mS), L < p + k → p ≤ L → items ≤ p → k < m → tC L tx σ → σ 27 2 = nI p → pl_V n f → pl_C n f (σ 5) 0 →
    ∃ σ', jF σ σ' ∧ rd_E L (rd L tx k items n f p) (fun i n' f' => T_readInto_4_l11 m (nI items) σ τ = some (nI i, σ', τ) ∧ pl_C n' f' (σ' 5) 0) (fun q => T_readInto_4_l11 m (nI items) σ τ = some (-1, σ', τ) ∧ σ' 27 2 = nI q) := by
  have hL := hV.1
  intro k
  induction k with
  | zero =>
    intro items n f p m σ hk hp
    omega
  | succ k ih =>
    intro items n f p m σ hk hp hi hm h h2 V C
    obtain ⟨m, rfl⟩ : ∃ m', m = m' + 1 := ⟨m - 1, by omega⟩
    obtain ⟨s1, e1, e2⟩ := skip_ok (τ := τ) hV h hp h2
    have b1 := skp_le L tx (L - p) p (by omega)
    have h1 := h.fr e2
    have l1 : s1 27 1 = nI L := h1.1
    unfold T_readInto_4_l11 rd
    rw [show (120 : Int32) = nI 120 from rfl, if_neg (nI_nlt (by omega) (by decide)), e1, ov_some, e2.1, l1]
    generalize skp L tx p = s at e2 b1
    by_cases z : s < L
    · rw [if_pos (nI_lt z (by omega)), if_pos z]
      have C1 : pl_C n f (s1 5) 0 := by rw [e2.2.1 5 (by decide)]; exact C
      obtain ⟨s2, a1, a2⟩ := ritem_ok (τ := τ) hV h1 V C1 z e2.1
      have G := it_x_G (L := L) (tx := tx) V z
      rw [a1, ob_some]
      rcases hr : it_x L tx n f s with ⟨r1, q, n', f'⟩
      rw [hr] at a2 G
      have F2 : jF σ s2 := e2.j.tr ⟨a2.2.2.1, a2.2.2.2⟩
      cases r1 with
      | false =>
        refine ⟨s2, F2, Or.inr ⟨rfl, G.2.1, ?_, a2.1⟩⟩
        show (if (0 : Int32) = 0 then _ else _) = _
        rw [if_pos rfl]
      | true =>
        have g3 := G.2.2 rfl
        have g4 : s < q := g3.1
        have g5 : q ≤ L := G.2.1
        obtain ⟨σ', c1, c2⟩ := ih (items + 1) n' f' q m s2 (by omega) g5 (by omega) (by omega) (h.jf F2) a2.1 g3.2 (a2.2.1 rfl)
        refine ⟨σ', F2.tr c1, ?_⟩
        show rd_E L (rd L tx k (items + 1) n' f' q) (fun i n'' f'' => (if (1 : Int32) = 0 then _ else T_readInto_4_l11 m (nI items + 1) s2 τ) = _ ∧ _) (fun q' => (if (1 : Int32) = 0 then _ else T_readInto_4_l11 m (nI items + 1) s2 τ) = _ ∧ _)
        rw [if_neg (by decide), nI_1]
        exact c2
    · rw [if_neg (nI_nlt (by omega) (by omega)), if_neg z]
      exact ⟨s1, e2.j, Or.inl ⟨items, n, f, rfl, by omega, V, rfl, by rw [e2.2.1 5 (by decide)]; exact C⟩⟩
theorem into_ok {σ : mS} (hV : tx_V L tx) (h : tC L tx σ) : ∃ σ', jF σ σ' ∧ rd_E L (rd L tx (L + 1) 0 0 (fun _ => 0) 0) (fun i n' f' => T_readInto_4 σ τ = some (nI i, σ', τ) ∧ pl_C n' f' (σ' 5) 0) (fun q => T_readInto_4 σ τ = some (-1, σ', τ) ∧ σ' 27 2 = nI q) := by
  have hL := hV.1
  have F0 : jF σ (u2 (u2 σ 5 20 0) 27 2 0) := ⟨fun a h1 h2 => by rw [u2_ne _ _ _ h1, u2_ne _ _ _ h2], fun j hj => by rw [u2_off _ _ (Or.inr hj), u2_ne _ _ _ (by decide)]⟩
  obtain ⟨σ', c1, c2⟩ := into_l (τ := τ) hV (L + 1) 0 0 (fun _ => 0) 0 mc_F (u2 (u2 σ 5 20 0) 27 2 0) (by omega) (by omega) (by omega) (by unfold mc_F; omega) (h.jf F0) (u2_at _ _ _ _) ⟨by decide, fun b hb => absurd hb (by omega)⟩ (pl_C.of (by rw [u2_ne _ _ _ (by decide), u2_at]; rfl) (fun i hi => absurd hi (by omega)))
  refine ⟨σ', F0.tr c1, ?_⟩
  unfold T_readInto_4 P_empty_4
  rw [mw_eq, ov_some, mw_eq]
  exact c2
end IN
