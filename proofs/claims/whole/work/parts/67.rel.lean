/-! ===== CLASS AND REFERENCE STAND ALIKE ===== -/
def rl_P (σ : mS) : Prop := ∃ n f, pl_V n f ∧ pl_C n f (σ 3) 0 ∧ pl_Q n f (σ 35) 0
def rl_T (σ : mS) : Prop := ∃ L tx, tx_V L tx ∧ tC L tx σ ∧ qC L tx σ
def rl_H (σ : mS) : Prop := ∃ k P, hs_V k P ∧ hs_C σ k P ∧ hs_Q σ k P
def rl_I (σ : mS) : Prop := ∀ i, i < 2 → (σ 33 i = 0 ∧ σ 38 i = 0) ∨ (σ 33 i = 1 ∧ σ 38 i = 1 ∧ ∃ n f, pl_V n f ∧ pl_C n f (σ 32) (21 * i) ∧ pl_Q n f (σ 37) (21 * i))
def Rel (σ : mS) : Prop := rl_P σ ∧ rl_T σ ∧ rl_H σ ∧ rl_I σ
theorem rl_T.fr {σ σ' : mS} (h : rl_T σ) (h1 : σ' 27 1 = σ 27 1) (h2 : σ' 28 = σ 28) (h3 : σ' 34 6 = σ 34 6) (h4 : σ' 39 = σ 39) : rl_T σ' := by
  unfold rl_T tC qC at *
  rw [h1, h2, h3, h4]
  exact h
theorem rl_H.fr {σ σ' : mS} (h : rl_H σ) (h1 : σ' 1 8 = σ 1 8) (h2 : σ' 30 = σ 30) (h3 : σ' 34 2 = σ 34 2) (h4 : σ' 36 = σ 36) : rl_H σ' := by
  unfold rl_H hs_C hs_Q at *
  rw [h1, h2, h3, h4]
  exact h
theorem rl_I.fr {σ σ' : mS} (h : rl_I σ) (h1 : σ' 33 = σ 33) (h2 : σ' 38 = σ 38) (h3 : σ' 32 = σ 32) (h4 : σ' 37 = σ 37) : rl_I σ' := by
  unfold rl_I at *
  rw [h1, h2, h3, h4]
  exact h
def upd_n (tx : Nat → Nat) (L j : Nat) : Nat → Nat := fun i => if i = L then j else tx i
/-- both answer alike, and stand alike behind it -/
def alike {α : Type} (R Q : mS → mT → Option (α × mS × mT)) (σ : mS) (τ : mT) : Prop := ∃ r σ1 τ1 σ2 τ2, R σ τ = some (r, σ1, τ1) ∧ Q σ1 τ1 = some (r, σ2, τ2) ∧ Rel σ2
/-- what a question leaves as it was -/
def cl_G (σ σ' : mS) : Prop := ∀ a, a < 5 ∨ 26 < a → σ' a = σ a
def qf_G (σ σ' : mS) : Prop := (∀ a, a < 34 ∨ (35 < a ∧ a < 40) → σ' a = σ a) ∧ σ' 34 2 = σ 34 2 ∧ σ' 34 6 = σ 34 6
theorem cl_F.g {σ σ' : mS} (h : cl_F σ σ') : cl_G σ σ' := fun a ha => h a (by omega)
theorem cl_G.tr {σ σ1 σ2 : mS} (h : cl_G σ σ1) (h' : cl_G σ1 σ2) : cl_G σ σ2 := fun a ha => (h' a ha).trans (h a ha)
theorem qf_F.g {σ σ' : mS} (h : qf_F σ σ') : qf_G σ σ' := ⟨fun a ha => h.1 a (by omega), h.2⟩
theorem qf_G.tr {σ σ1 σ2 : mS} (h : qf_G σ σ1) (h' : qf_G σ1 σ2) : qf_G σ σ2 := ⟨fun a ha => (h'.1 a ha).trans (h.1 a ha), h'.2.1.trans h.2.1, h'.2.2.trans h.2.2⟩
theorem qf_G.rf {σ : mS} : qf_G σ σ := ⟨fun _ _ => rfl, rfl, rfl⟩
theorem cl_G.rf {σ : mS} : cl_G σ σ := fun _ _ => rfl
theorem Rel.q {σ σ1 σ2 : mS} (h : Rel σ) (F : cl_G σ σ1) (G : qf_G σ1 σ2) {n : Nat} {f : Nat → Nat} (V : pl_V n f) (C : pl_C n f (σ 3) 0) (Q : pl_Q n f (σ2 35) 0) : Rel σ2 := by
  have e : ∀ a, (a < 5 ∨ 26 < a) → (a < 34 ∨ (35 < a ∧ a < 40)) → σ2 a = σ a := fun a h1 h2 => by rw [G.1 a h2, F a h1]
  have e34 : ∀ j, σ2 34 j = σ1 34 j → σ2 34 j = σ 34 j := fun j hj => by rw [hj, F 34 (by omega)]
  refine ⟨⟨n, f, V, by rw [e 3 (by omega) (by omega)]; exact C, Q⟩, h.2.1.fr ?_ ?_ ?_ ?_, h.2.2.1.fr ?_ ?_ ?_ ?_, h.2.2.2.fr ?_ ?_ ?_ ?_⟩
  · rw [e 27 (by omega) (by omega)]
  · rw [e 28 (by omega) (by omega)]
  · exact e34 6 G.2.2
  · rw [e 39 (by omega) (by omega)]
  · rw [e 1 (by omega) (by omega)]
  · rw [e 30 (by omega) (by omega)]
  · exact e34 2 G.2.1
  · rw [e 36 (by omega) (by omega)]
  · rw [e 33 (by omega) (by omega)]
  · rw [e 38 (by omega) (by omega)]
  · rw [e 32 (by omega) (by omega)]
  · rw [e 37 (by omega) (by omega)]
/-- a question -/
theorem ask {α : Type} {R Q : mS → mT → Option (α × mS × mT)} {σ : mS} {τ : mT} (h : Rel σ) (k : ∀ n f, pl_V n f → pl_C n f (σ 3) 0 → pl_Q n f (σ 35) 0 → ∃ r σ1 τ1 σ2 τ2, R σ τ = some (r, σ1, τ1) ∧ Q σ1 τ1 = some (r, σ2, τ2) ∧ cl_G σ σ1 ∧ qf_G σ1 σ2 ∧ pl_Q n f (σ2 35) 0) : alike R Q σ τ := by
  obtain ⟨n, f, V, C, Q'⟩ := h.1
  obtain ⟨r, σ1, τ1, σ2, τ2, k1, k2, k3, k4, k5⟩ := k n f V C Q'
  exact ⟨r, σ1, τ1, σ2, τ2, k1, k2, h.q k3 k4 V C k5⟩
/-- what is told of the text -/
theorem let_ok : ∀ j : Fin 256, (nI j.1).toInt16.toInt32 = nI j.1 := by decide +kernel
section OP
variable {σ : mS} {τ : mT}
theorem al_type (h : Rel σ) (x : Int32) : alike (R_type x) (Q_type x) σ τ := by
  obtain ⟨L, tx, hV, hT, hQ⟩ := h.2.1
  have hL := hV.1
  rcases wi_ok x 0 (b := 255) (by decide) (by decide) with ⟨j, _, hj, rfl, w⟩ | w
  · have w : ∀ σ τ, R_within (nI j) 0 255 σ τ = some (1, σ, τ) := w
    by_cases z : L = 120
    · refine ⟨-3, σ, τ, σ, τ, ?_, ?_, h⟩
      · unfold R_type T_append
        rw [w, ob_some, if_neg (by decide), hT.1, show (120 : Int32) = nI 120 from rfl, if_neg (nI_nlt (by omega) (by omega)), ob_some, if_pos rfl]
      · unfold Q_type
        rw [qw_eq, w, ob_some, if_neg (by decide), hQ.1, show (120 : Int32) = nI 120 from rfl, if_pos (by rw [z])]
    · have lt : L < 120 := by omega
      have sh : vp_nar .short ((nI j).toInt16.toInt32) = nI j := by rw [pk_vs]; exact let_ok ⟨j, by omega⟩
      refine ⟨nI (L + 1), u2 (u2 σ 28 L (nI j)) 27 1 (nI (L + 1)), τ, u2 (u2 (u2 (u2 σ 28 L (nI j)) 27 1 (nI (L + 1))) 39 L (nI j)) 34 6 (nI (L + 1)), τ, ?_, ?_, ?_⟩
      · unfold R_type T_append T_length
        rw [w, ob_some, if_neg (by decide), hT.1, show (120 : Int32) = nI 120 from rfl, if_pos (nI_lt lt (by decide)), if_neg (nin lt (by decide)), ncl (show L < 2 ^ 31 by omega), sh, mw_eq, u2_ne _ _ _ (show (27 : Nat) ≠ 28 by decide), hT.1, nI_1, mw_eq, ob_some, if_neg (by decide), ob_some, u2_at]
      · unfold Q_type
        have e6 : u2 (u2 σ 28 L (nI j)) 27 1 (nI (L + 1)) 34 6 = nI L := by rw [u2_ne _ _ _ (by decide), u2_ne _ _ _ (by decide)]; exact hQ.1
        rw [qw_eq, w, ob_some, if_neg (by decide), e6, show (120 : Int32) = nI 120 from rfl, if_neg (fun q => z ((nI_eq (by omega) (by decide)).mp q)), if_neg (nin lt (by decide)), ncl (show L < 2 ^ 31 by omega), mw_eq, u2_ne _ _ _ (show (34 : Nat) ≠ 39 by decide), e6, nI_1, mw_eq, u2_at]
      · have e : ∀ a, a ≠ 28 → a ≠ 27 → a ≠ 39 → a ≠ 34 → u2 (u2 (u2 (u2 σ 28 L (nI j)) 27 1 (nI (L + 1))) 39 L (nI j)) 34 6 (nI (L + 1)) a = σ a := fun a a1 a2 a3 a4 => by rw [u2_ne _ _ _ a4, u2_ne _ _ _ a3, u2_ne _ _ _ a2, u2_ne _ _ _ a1]
        have e34 : ∀ k, k ≠ 6 → u2 (u2 (u2 (u2 σ 28 L (nI j)) 27 1 (nI (L + 1))) 39 L (nI j)) 34 6 (nI (L + 1)) 34 k = σ 34 k := fun k hk => by rw [u2_off _ _ (Or.inr hk), u2_ne _ _ _ (by decide), u2_ne _ _ _ (by decide), u2_ne _ _ _ (by decide)]
        obtain ⟨n, f, V, C, Q⟩ := h.1
        refine ⟨⟨n, f, V, by rw [e 3 (by decide) (by decide) (by decide) (by decide)]; exact C, by rw [e 35 (by decide) (by decide) (by decide) (by decide)]; exact Q⟩, ⟨L + 1, upd_n tx L j, ⟨by omega, fun i hi => ?_⟩, ⟨?_, fun i hi => ?_⟩, ⟨u2_at _ _ _ _, fun i hi => ?_⟩⟩, h.2.2.1.fr ?_ ?_ (e34 2 (by decide)) ?_, h.2.2.2.fr ?_ ?_ ?_ ?_⟩
        · unfold upd_n
          split
          · omega
          · exact hV.2 i (by omega)
        · rw [u2_ne _ _ _ (by decide), u2_ne _ _ _ (by decide), u2_at]
        · rw [u2_ne _ _ _ (by decide), u2_ne _ _ _ (by decide), u2_ne _ _ _ (by decide)]
          unfold upd_n
          by_cases q : i = L
          · rw [if_pos q, q, u2_at]
          · rw [if_neg q, u2_off _ _ (Or.inr q)]; exact hT.2 i (by omega)
        · rw [u2_ne _ _ _ (by decide)]
          unfold upd_n
          by_cases q : i = L
          · rw [if_pos q, q, u2_at]
          · rw [if_neg q, u2_off _ _ (Or.inr q), u2_ne _ _ _ (by decide), u2_ne _ _ _ (by decide)]; exact hQ.2 i (by omega)
        · rw [e 1 (by decide) (by decide) (by decide) (by decide)]
        · rw [e 30 (by decide) (by decide) (by decide) (by decide)]
        · rw [e 36 (by decide) (by decide) (by decide) (by decide)]
        · rw [e 33 (by decide) (by decide) (by decide) (by decide)]
        · rw [e 38 (by decide) (by decide) (by decide) (by decide)]
        · rw [e 32 (by decide) (by decide) (by decide) (by decide)]
        · rw [e 37 (by decide) (by decide) (by decide) (by decide)]
  · have w : ∀ σ τ, R_within x 0 255 σ τ = some (0, σ, τ) := w
    refine ⟨-1, σ, τ, σ, τ, ?_, ?_, h⟩
    · unfold R_type; rw [w, ob_some, if_pos rfl]
    · unfold Q_type; rw [qw_eq, w, ob_some, if_pos rfl]
theorem al_clear (h : Rel σ) : alike R_clear Q_clear σ τ := by
  obtain ⟨L, tx, hV, hT, hQ⟩ := h.2.1
  obtain ⟨n, f, V, C, Q⟩ := h.1
  have e : ∀ a, a ≠ 27 → a ≠ 34 → u2 (u2 σ 27 1 0) 34 6 0 a = σ a := fun a a1 a2 => by rw [u2_ne _ _ _ a2, u2_ne _ _ _ a1]
  refine ⟨nI L, u2 σ 27 1 0, τ, u2 (u2 σ 27 1 0) 34 6 0, τ, ?_, ?_, ⟨n, f, V, by rw [e 3 (by decide) (by decide)]; exact C, by rw [e 35 (by decide) (by decide)]; exact Q⟩, ⟨0, tx, ⟨by decide, fun i hi => absurd hi (by omega)⟩, ⟨?_, fun i hi => absurd hi (by omega)⟩, ⟨u2_at _ _ _ _, fun i hi => absurd hi (by omega)⟩⟩, h.2.2.1.fr ?_ ?_ ?_ ?_, h.2.2.2.fr ?_ ?_ ?_ ?_⟩
  · unfold R_clear T_length T_wipe
    rw [ob_some, mw_eq, ov_some, hT.1]
  · unfold Q_clear
    rw [mw_eq, u2_ne _ _ _ (by decide), hQ.1]
  · rw [u2_ne _ _ _ (by decide), u2_at]; rfl
  · rw [e 1 (by decide) (by decide)]
  · rw [e 30 (by decide) (by decide)]
  · rw [u2_off _ _ (Or.inr (by decide)), u2_ne _ _ _ (by decide)]
  · rw [e 36 (by decide) (by decide)]
  · rw [e 33 (by decide) (by decide)]
  · rw [e 38 (by decide) (by decide)]
  · rw [e 32 (by decide) (by decide)]
  · rw [e 37 (by decide) (by decide)]
end OP
