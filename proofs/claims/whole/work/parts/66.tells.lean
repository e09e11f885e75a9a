/-! ===== TELLING: ALIKE ===== -/
def qJ (σ σ' : mS) : Prop := (∀ a, a ≠ 34 → a ≠ 35 → σ' a = σ a) ∧ ∀ j, j ≠ 23 → j ≠ 24 → j ≠ 25 → σ' 34 j = σ 34 j
theorem qJ.tr {σ σ1 σ2 : mS} (h : qJ σ σ1) (h' : qJ σ1 σ2) : qJ σ σ2 := ⟨fun a h1 h2 => (h'.1 a h1 h2).trans (h.1 a h1 h2), fun j h1 h2 h3 => (h'.2 j h1 h2 h3).trans (h.2 j h1 h2 h3)⟩
theorem qg.j {σ σ' : mS} (h : qg σ σ') : qJ σ σ' := ⟨fun a h1 _ => h.1 a h1, fun j h1 h2 _ => h.2 j h1 h2⟩
theorem qi.j {σ σ' : mS} {r : itT} (h : qi σ σ' r) : qJ σ σ' := ⟨h.2.2.1, fun j h1 h2 _ => h.2.2.2 j h1 h2⟩
theorem qC.jf {L : Nat} {tx : Nat → Nat} {σ σ' : mS} (h : qC L tx σ) (F : qJ σ σ') : qC L tx σ' := ⟨by rw [F.2 6 (by decide) (by decide) (by decide)]; exact h.1, fun i hi => by rw [F.1 39 (by decide) (by decide)]; exact h.2 i hi⟩
section TE
variable {L : Nat} {tx : Nat → Nat} {τ : mT}
theorem qreads_l (hV : tx_V L tx) : ∀ (k items n : Nat) (f : Nat → Nat) (p m : Nat) (σ : mS), L < p + k → p ≤ L → items ≤ p → k < m → qC L tx σ → σ 34 23 = nI (skp L tx p) → σ 34 25 = nI items → pl_V n f → pl_Q n f (σ 35) 0 →
    ∃ σ', qJ σ σ' ∧ rd_E L (rd L tx k items n f p) (fun i n' f' => Q_reads_l21 m σ τ = some (1, σ', τ) ∧ σ' 34 25 = nI i ∧ pl_Q n' f' (σ' 35) 0) (fun q => Q_reads_l21 m σ τ = some (0, σ', τ) ∧ σ' 34 24 = nI q) := by
  have hL := hV.1
  intro k
  induction k with
  | zero =>
    intro items n f p m σ hk hp
    omega
  | succ k ih =>
    intro items n f p m σ hk hp hi hm h h2 h25 V C
    obtain ⟨m, rfl⟩ : ∃ m', m = m' + 1 := ⟨m - 1, by omega⟩
    have b1 := skp_le L tx (L - p) p (by omega)
    unfold Q_reads_l21 rd
    rw [h.1, h2]
    generalize skp L tx p = s at h2 b1
    by_cases z : s < L
    · have ss : skp L tx s = s := skp_self b1.2.2
      rw [if_neg (nI_ge z (by omega)), if_pos z]
      have G := it_x_G (L := L) (tx := tx) V z
      -- behind an item
      have b69 : ∀ (s2 : mS) (r : itT), it_x L tx n f s = r → qi σ s2 r → ∃ σ', qJ σ σ' ∧ rd_E L (match r with | (true, q, n', f') => rd L tx k (items + 1) n' f' q | (false, q, _, _) => (none, q)) (fun i n' f' => Q_reads_b69 (Q_reads_l21 m) (if r.1 then 1 else 0) s2 τ = some (1, σ', τ) ∧ σ' 34 25 = nI i ∧ pl_Q n' f' (σ' 35) 0) (fun q => Q_reads_b69 (Q_reads_l21 m) (if r.1 then 1 else 0) s2 τ = some (0, σ', τ) ∧ σ' 34 24 = nI q) := fun s2 r hr hq => by
        rw [hr] at G
        unfold Q_reads_b69
        rcases r with ⟨r1, q, n', f'⟩
        have Fj := hq.j
        cases r1 with
        | false =>
          refine ⟨s2, Fj, Or.inr ⟨rfl, G.2.1, ?_, hq.2.1 rfl⟩⟩
          exact if_pos rfl
        | true =>
          have g3 := G.2.2 rfl
          have g4 : s < q := g3.1
          have g5 : q ≤ L := G.2.1
          obtain ⟨q1, q2⟩ := hq.1 rfl
          have e25 : s2 34 25 = nI items := by rw [hq.2.2.2 25 (by decide) (by decide)]; exact h25
          have F3 : qJ s2 (u2 s2 34 25 (nI (items + 1))) := ⟨fun a h1 _ => u2_ne _ _ _ h1, fun j _ _ h3 => u2_off _ _ (Or.inr h3)⟩
          obtain ⟨s4, c1, c2, c3, c4⟩ := qskip_ok (τ := τ) (σ := u2 s2 34 25 (nI (items + 1))) hV (h.jf (Fj.tr F3)) g5 (by rw [u2_off _ _ (Or.inr (by decide))]; exact q1)
          have F4 := (Fj.tr F3).tr c4.j
          obtain ⟨σ', d1, d2⟩ := ih (items + 1) n' f' q m s4 (by omega) g5 (by omega) (by omega) (h.jf F4) c2 (by rw [c4.2 25 (by decide) (by decide), u2_at]) g3.2 (by rw [c4.1 35 (by decide), u2_ne _ _ _ (by decide)]; exact q2)
          refine ⟨σ', F4.tr d1, ?_⟩
          show rd_E L (rd L tx k (items + 1) n' f' q) (fun i n'' f'' => (if (1 : Int32) = 0 then _ else mw (u2 s2 34 25 (s2 34 25 + 1)) _) = _ ∧ _) (fun q' => (if (1 : Int32) = 0 then _ else mw (u2 s2 34 25 (s2 34 25 + 1)) _) = _ ∧ _)
          rw [if_neg (by decide), mw_eq, e25, nI_1, c1, ov_some]
          exact d2
      obtain ⟨s1, e1, e2, e3, e4⟩ := pass_ok (τ := τ) hV h (show s ≤ L by omega) h2 (c := 98) (by decide)
      rw [ss] at e1 e2 e3
      have e1 : Q_passes 98 σ τ = some (if s < L ∧ tx s = 98 then 1 else 0, s1, τ) := e1
      have C1 : pl_Q n f (s1 35) 0 := by rw [e4.1 35 (by decide)]; exact C
      have lift : ∀ {s2 s3 : mS} {r : itT}, qg σ s2 → qi s2 s3 r → qi σ s3 r := fun F hq => ⟨hq.1, hq.2.1, fun a x1 x2 => by rw [hq.2.2.1 a x1 x2, F.1 a x1], fun j x1 x2 => by rw [hq.2.2.2 j x1 x2, F.2 j x1 x2]⟩
      by_cases t1 : tx s = 98
      · rw [if_pos (show s < L ∧ tx s = 98 from ⟨z, t1⟩)] at e1 e2
        rw [e1, ob_some, if_neg (by decide)]
        obtain ⟨s2, a1, a2⟩ := qblock_ok (τ := τ) hV (h.fr e4) V C1 z e2 e3
        have hx : it_x L tx n f s = it_b L tx n f s := if_pos t1
        rw [a1, ob_some, hx]
        exact b69 s2 (it_b L tx n f s) hx (lift e4 a2)
      · rw [if_neg (show ¬ (s < L ∧ tx s = 98) from fun w => t1 w.2)] at e1 e2
        rw [e1, ob_some, if_pos rfl]
        obtain ⟨s2, f1, f2, f3, f4⟩ := pass_ok (τ := τ) hV (h.fr e4) (show s ≤ L by omega) e2 (c := 108) (by decide)
        rw [ss] at f1 f2 f3
        have f1 : Q_passes 108 s1 τ = some (if s < L ∧ tx s = 108 then 1 else 0, s2, τ) := f1
        have F2 := e4.tr f4
        by_cases t2 : tx s = 108
        · rw [if_pos (show s < L ∧ tx s = 108 from ⟨z, t2⟩)] at f1 f2
          rw [f1, ob_some, if_neg (by decide)]
          obtain ⟨s3, a1, a2⟩ := qload_ok (τ := τ) hV (h.fr F2) V (by rw [f4.1 35 (by decide)]; exact C1) z f2
          have hx : it_x L tx n f s = it_l L tx n f s := by unfold it_x; rw [if_neg t1, if_pos t2]
          have key := b69 s3 (it_l L tx n f s) hx (lift F2 a2)
          rw [a1, ob_some, hx]
          generalize it_l L tx n f s = r at key
          unfold Q_reads_b68
          cases hr : r.1 with
          | false =>
            rw [hr] at key
            simp only [Bool.false_eq_true, if_false, if_true] at key ⊢
            exact key
          | true =>
            rw [hr] at key
            simp only [if_true] at key ⊢
            rw [if_neg (by decide)]
            exact key
        · rw [if_neg (show ¬ (s < L ∧ tx s = 108) from fun w => t2 w.2)] at f1
          rw [f1, ob_some, if_pos rfl]
          have hx : it_x L tx n f s = (false, s, n, f) := by unfold it_x; rw [if_neg t1, if_neg t2]
          rw [hx]
          exact b69 s2 (false, s, n, f) hx (qi_bad F2 f3)
    · rw [if_pos (nI_le (by omega) (by omega)), if_neg z]
      exact ⟨σ, ⟨fun _ _ _ => rfl, fun _ _ _ _ => rfl⟩, Or.inl ⟨items, n, f, rfl, by omega, V, rfl, h25, C⟩⟩
theorem qreads_ok {σ : mS} (hV : tx_V L tx) (h : qC L tx σ) : ∃ σ', qJ σ σ' ∧ rd_E L (rd L tx (L + 1) 0 0 (fun _ => 0) 0) (fun i n' f' => Q_reads σ τ = some (1, σ', τ) ∧ σ' 34 25 = nI i ∧ pl_Q n' f' (σ' 35) 0) (fun q => Q_reads σ τ = some (0, σ', τ) ∧ σ' 34 24 = nI q) := by
  have hL := hV.1
  have F0 : qJ σ (u2 (u2 (u2 σ 34 23 0) 34 25 0) 35 0 0) := ⟨fun a h1 h2 => by rw [u2_ne _ _ _ h2, u2_ne _ _ _ h1, u2_ne _ _ _ h1], fun j j1 _ j3 => by rw [u2_ne _ _ _ (by decide), u2_off _ _ (Or.inr j3), u2_off _ _ (Or.inr j1)]⟩
  obtain ⟨s1, c1, c2, c3, c4⟩ := qskip_ok (τ := τ) (σ := u2 (u2 (u2 σ 34 23 0) 34 25 0) 35 0 0) (p := 0) hV (h.jf F0) (by omega) (by rw [u2_ne _ _ _ (by decide), u2_off _ _ (Or.inr (by decide)), u2_at]; rfl)
  have F1 := F0.tr c4.j
  obtain ⟨σ', d1, d2⟩ := qreads_l (τ := τ) hV (L + 1) 0 0 (fun _ => 0) 0 mc_F s1 (by omega) (by omega) (by omega) (by unfold mc_F; omega) (h.jf F1) c2 (by rw [c4.2 25 (by decide) (by decide), u2_ne _ _ _ (by decide), u2_at]; rfl) ⟨by decide, fun b hb => absurd hb (by omega)⟩ (pl_Q.of (by rw [c4.1 35 (by decide), u2_at]; rfl) (fun i hi => absurd hi (by omega)))
  refine ⟨σ', F1.tr d1, ?_⟩
  unfold Q_reads
  rw [mw_eq, mw_eq, mw_eq, c1, ov_some]
  exact d2
end TE
