/-! ===== CHANGES: ALIKE ===== -/
theorem pl_C.set {n : Nat} {f : Nat → Nat} {F : Nat → Int32} (h : pl_C n f F 0) {i : Nat} (hi : i < 5 * n) (hn : n ≤ 4) (v : Nat) : pl_C n (pl_set f i v) (upd F i (nI v)) 0 := by
  refine pl_C.of (by rw [pk_un (by omega)]; exact h.n) fun j hj => ?_
  unfold pl_set
  by_cases z : j = i
  · rw [if_pos z, z, pk_us]
  · rw [if_neg z, pk_un z]; exact h.at hj
theorem pl_Q.set {n : Nat} {f : Nat → Nat} {F : Nat → Int32} (h : pl_Q n f F 0) {i : Nat} (v : Nat) : pl_Q n (pl_set f i v) (upd F (i + 1) (nI v)) 0 := by
  refine pl_Q.of (by rw [pk_un (by omega)]; exact h.1) fun j hj => ?_
  unfold pl_set
  by_cases z : j = i
  · rw [if_pos z, z, pk_us]
  · rw [if_neg z, pk_un (by omega)]; exact h.at hj
theorem Rel.ch {σ σ2 : mS} (h : Rel σ) (e : ∀ a, a = 27 ∨ a = 28 ∨ a = 39 ∨ a = 33 ∨ a = 38 ∨ a = 32 ∨ a = 37 → σ2 a = σ a) (e6 : σ2 34 6 = σ 34 6) (P : rl_P σ2) (H : rl_H σ2) : Rel σ2 := by
  refine ⟨P, h.2.1.fr ?_ ?_ e6 ?_, H, h.2.2.2.fr ?_ ?_ ?_ ?_⟩
  · rw [e 27 (by omega)]
  · rw [e 28 (by omega)]
  · rw [e 39 (by omega)]
  · rw [e 33 (by omega)]
  · rw [e 38 (by omega)]
  · rw [e 32 (by omega)]
  · rw [e 37 (by omega)]
section CH
variable {σ : mS} {τ : mT}
theorem hs_C.fr {σ' : mS} {k : Nat} {P : Nat → pT} (h : hs_C σ k P) (h1 : σ' 1 8 = σ 1 8) (h2 : σ' 30 = σ 30) : hs_C σ' k P := by
  unfold hs_C at *; rw [h1, h2]; exact h
theorem hs_Q.fr {σ' : mS} {k : Nat} {P : Nat → pT} (h : hs_Q σ k P) (h1 : σ' 34 2 = σ 34 2) (h2 : σ' 36 = σ 36) : hs_Q σ' k P := by
  unfold hs_Q at *; rw [h1, h2]; exact h
theorem al_weighs (h : Rel σ) (x w : Int32) : alike (R_weighs x w) (Q_weighs x w) σ τ := by
  obtain ⟨n, f, V, C, Q⟩ := h.1
  obtain ⟨k, P, hV, hC, hQ⟩ := h.2.2.1
  have hn := V.1
  rcases has_case x hn with ⟨b, hb, rfl, h1, h2⟩ | ⟨h1, h2⟩
  · rcases wi_ok w 1 (b := 9) (by decide) (by decide) with ⟨j, j1, j2, rfl, w1⟩ | w1
    · have w1 : ∀ σ τ, R_within (nI j) 1 9 σ τ = some (1, σ, τ) := w1
      have g1 : P_get_2 (nI b) 2 σ τ = some (nI (f (5 * b + 2)), σ, τ) := P_get_2_ok (k := 2) hn C hb (by omega)
      have g2 : ∀ s t, pl_Q n f (s 35) 0 → Q_get (nI b) 3 s t = some (nI (f (5 * b + 2)), s, t) := fun s t hq => Q_get_ok (k := 2) hn hq hb (by omega)
      by_cases z : nI (f (5 * b + 2)) = nI j
      · refine ⟨-2, σ, τ, σ, τ, ?_, ?_, h⟩
        · unfold R_weighs
          rw [h1 σ τ C.n, ob_some, if_neg (by decide), w1, ob_some, if_neg (by decide), g1, ob_some, if_pos z]
        · unfold Q_weighs
          rw [h2 σ τ Q.1, ob_some, if_neg (by decide), qw_eq, w1, ob_some, if_neg (by decide), g2 σ τ Q, ob_some, if_pos z]
      · obtain ⟨s1, r1, r2, r3⟩ := remember_ok (τ := τ) (p := (n, f)) hV V hC C
        have C1 : pl_C n f (s1 3) 0 := by rw [r3 3 (by decide) (by decide)]; exact C
        have st : P_set_2 (nI b) 2 (nI j) s1 τ = some (u2 s1 3 (5 * b + 2) (nI j), τ) := P_set_2_ok (k := 2) hn C1.n hb (by omega) _
        have e2 : ∀ a, a ≠ 3 → a ≠ 1 → a ≠ 30 → u2 s1 3 (5 * b + 2) (nI j) a = σ a := fun a a1 a2 a3 => by rw [u2_ne _ _ _ a1, r3 a a2 a3]
        have eC : R_weighs (nI b) (nI j) σ τ = some (nI (f (5 * b + 2)), u2 s1 3 (5 * b + 2) (nI j), τ) := by
          unfold R_weighs
          rw [h1 σ τ C.n, ob_some, if_neg (by decide), w1, ob_some, if_neg (by decide), g1, ob_some, if_neg z, r1, ov_some, st, ov_some]
        have C2 : pl_C n (pl_set f (5 * b + 2) j) (u2 s1 3 (5 * b + 2) (nI j) 3) 0 := by rw [u2_same]; exact C1.set (by omega) hn j
        have H2 : hs_C (u2 s1 3 (5 * b + 2) (nI j)) (ps_k k) (ps_P k P (n, f)) := r2.fr (by rw [u2_ne _ _ _ (by decide)]) (by rw [u2_ne _ _ _ (by decide)])
        generalize u2 s1 3 (5 * b + 2) (nI j) = s2 at eC e2 C2 H2
        have Q2 : pl_Q n f (s2 35) 0 := by rw [e2 35 (by decide) (by decide) (by decide)]; exact Q
        obtain ⟨q1, q2, l1, l2, l3, l4, l5⟩ := lay_keep (τ := τ) (σ := s2) (p := (n, f)) hV V (hQ.fr (by rw [e2 34 (by decide) (by decide) (by decide)]) (e2 36 (by decide) (by decide) (by decide))) Q2
        have i3 : (5 : Int32) * nI b + 3 = nI (5 * b + 3) := m5 b 3
        have eQ : Q_weighs (nI b) (nI j) s2 τ = some (nI (f (5 * b + 2)), u2 q2 35 (5 * b + 3) (nI j), τ) := by
          unfold Q_weighs
          rw [h2 s2 τ Q2.1, ob_some, if_neg (by decide), qw_eq, w1, ob_some, if_neg (by decide), g2 s2 τ Q2, ob_some, if_neg z, l1, ov_some, l2, ov_some, i3, if_neg (nin (show 5 * b + 3 < 21 by omega) (by decide)), ncl (show 5 * b + 3 < 2 ^ 31 by omega), mw_eq]
        refine ⟨_, s2, τ, _, τ, eC, eQ, h.ch (fun a ha => ?_) ?_ ⟨n, pl_set f (5 * b + 2) j, pl_w_V V hb j1 j2, ?_, ?_⟩ ⟨_, _, hs_V_push hV V, H2.fr ?_ ?_, l3.fr ?_ ?_⟩⟩
        · rw [u2_ne _ _ _ (by omega), l4 a (by omega) (by omega) (by omega), e2 a (by omega) (by omega) (by omega)]
        · rw [u2_ne _ _ _ (by decide), l5 6 (by decide), e2 34 (by decide) (by decide) (by decide)]
        · rw [u2_ne _ _ _ (by decide), l4 3 (by decide) (by decide) (by decide)]; exact C2
        · rw [u2_same, l4 35 (by decide) (by decide) (by decide)]; exact Q2.set (i := 5 * b + 2) j
        · rw [u2_ne _ _ _ (by decide), l4 1 (by decide) (by decide) (by decide)]
        · rw [u2_ne _ _ _ (by decide), l4 30 (by decide) (by decide) (by decide)]
        · rw [u2_ne _ _ _ (by decide)]
        · rw [u2_ne _ _ _ (by decide)]
    · have w1 : ∀ σ τ, R_within w 1 9 σ τ = some (0, σ, τ) := w1
      refine ⟨-1, σ, τ, σ, τ, ?_, ?_, h⟩
      · unfold R_weighs
        rw [h1 σ τ C.n, ob_some, if_neg (by decide), w1, ob_some, if_pos rfl]
      · unfold Q_weighs
        rw [h2 σ τ Q.1, ob_some, if_neg (by decide), qw_eq, w1, ob_some, if_pos rfl]
  · refine ⟨-1, σ, τ, σ, τ, ?_, ?_, h⟩
    · unfold R_weighs
      rw [h1 σ τ C.n, ob_some, if_pos rfl]
    · unfold Q_weighs
      rw [h2 σ τ Q.1, ob_some, if_pos rfl]
theorem al_loads (h : Rel σ) (x s w : Int32) : alike (R_loads x s w) (Q_loads x s w) σ τ := by
  obtain ⟨n, f, V, C, Q⟩ := h.1
  obtain ⟨k, P, hV, hC, hQ⟩ := h.2.2.1
  have hn := V.1
  rcases spot_case V x s with ⟨b, sp, hb, hsp, rfl, rfl, h1, h2⟩ | ⟨h1, h2⟩
  · rcases wi_ok w 0 (b := 20) (by decide) (by decide) with ⟨j, j1, j2, rfl, w1⟩ | w1
    · have w1 : ∀ σ τ, R_within (nI j) 0 20 σ τ = some (1, σ, τ) := w1
      have g1 : P_get_2 (nI b) 3 σ τ = some (nI (f (5 * b + 3)), σ, τ) := P_get_2_ok (k := 3) hn C hb (by omega)
      have g1' : P_get_2 (nI b) 4 σ τ = some (nI (f (5 * b + 4)), σ, τ) := P_get_2_ok (k := 4) hn C hb (by omega)
      have g2 : ∀ s t, pl_Q n f (s 35) 0 → Q_get (nI b) 4 s t = some (nI (f (5 * b + 3)), s, t) := fun s t hq => Q_get_ok (k := 3) hn hq hb (by omega)
      have g2' : ∀ s t, pl_Q n f (s 35) 0 → Q_get (nI b) 5 s t = some (nI (f (5 * b + 4)), s, t) := fun s t hq => Q_get_ok (k := 4) hn hq hb (by omega)
      by_cases z : nI (f (5 * b + 3)) = nI j ∧ nI (f (5 * b + 4)) = nI sp
      · refine ⟨-2, σ, τ, σ, τ, ?_, ?_, h⟩
        · unfold R_loads
          rw [h1 σ τ C, ob_some, if_neg (by decide), w1, ob_some, if_neg (by decide), g1, ob_some, if_pos z.1, g1', ob_some, if_pos z.2]
        · unfold Q_loads
          rw [h2 σ τ Q, ob_some, if_neg (by decide), qw_eq, w1, ob_some, if_neg (by decide), g2 σ τ Q, ob_some, if_pos z.1, g2' σ τ Q, ob_some, if_pos z.2]
      · obtain ⟨s1, r1, r2, r3⟩ := remember_ok (τ := τ) (p := (n, f)) hV V hC C
        have C1 : pl_C n f (s1 3) 0 := by rw [r3 3 (by decide) (by decide)]; exact C
        have st : P_set_2 (nI b) 3 (nI j) s1 τ = some (u2 s1 3 (5 * b + 3) (nI j), τ) := P_set_2_ok (k := 3) hn C1.n hb (by omega) _
        have C2 : pl_C n (pl_set f (5 * b + 3) j) (u2 s1 3 (5 * b + 3) (nI j) 3) 0 := by rw [u2_same]; exact C1.set (by omega) hn j
        have st2 : P_set_2 (nI b) 4 (nI sp) (u2 s1 3 (5 * b + 3) (nI j)) τ = some (u2 (u2 s1 3 (5 * b + 3) (nI j)) 3 (5 * b + 4) (nI sp), τ) := P_set_2_ok (k := 4) hn C2.n hb (by omega) _
        have C3 : pl_C n (pl_set (pl_set f (5 * b + 3) j) (5 * b + 4) sp) (u2 (u2 s1 3 (5 * b + 3) (nI j)) 3 (5 * b + 4) (nI sp) 3) 0 := by rw [u2_same]; exact C2.set (by omega) hn sp
        have e2 : ∀ a, a ≠ 3 → a ≠ 1 → a ≠ 30 → u2 (u2 s1 3 (5 * b + 3) (nI j)) 3 (5 * b + 4) (nI sp) a = σ a := fun a a1 a2 a3 => by rw [u2_ne _ _ _ a1, u2_ne _ _ _ a1, r3 a a2 a3]
        have e54 : R_loads_b54 (nI b) (nI sp) (nI j) (nI (f (5 * b + 3))) σ τ = some (nI (f (5 * b + 3)), u2 (u2 s1 3 (5 * b + 3) (nI j)) 3 (5 * b + 4) (nI sp), τ) := by
          unfold R_loads_b54
          rw [r1, ov_some, st, ov_some, st2, ov_some]
        have eC : R_loads (nI b) (nI sp) (nI j) σ τ = some (nI (f (5 * b + 3)), u2 (u2 s1 3 (5 * b + 3) (nI j)) 3 (5 * b + 4) (nI sp), τ) := by
          unfold R_loads
          rw [h1 σ τ C, ob_some, if_neg (by decide), w1, ob_some, if_neg (by decide), g1, ob_some]
          by_cases y : nI (f (5 * b + 3)) = nI j
          · rw [if_pos y, g1', ob_some, if_neg (fun q => z ⟨y, q⟩)]; exact e54
          · rw [if_neg y]; exact e54
        have H2 : hs_C (u2 (u2 s1 3 (5 * b + 3) (nI j)) 3 (5 * b + 4) (nI sp)) (ps_k k) (ps_P k P (n, f)) := r2.fr (by rw [u2_ne _ _ _ (by decide), u2_ne _ _ _ (by decide)]) (by rw [u2_ne _ _ _ (by decide), u2_ne _ _ _ (by decide)])
        generalize u2 (u2 s1 3 (5 * b + 3) (nI j)) 3 (5 * b + 4) (nI sp) = s2 at eC e2 C3 H2
        have Q2 : pl_Q n f (s2 35) 0 := by rw [e2 35 (by decide) (by decide) (by decide)]; exact Q
        obtain ⟨q1, q2, l1, l2, l3, l4, l5⟩ := lay_keep (τ := τ) (σ := s2) (p := (n, f)) hV V (hQ.fr (by rw [e2 34 (by decide) (by decide) (by decide)]) (e2 36 (by decide) (by decide) (by decide))) Q2
        have i3 : (5 : Int32) * nI b + 4 = nI (5 * b + 4) := m5 b 4
        have i4 : (5 : Int32) * nI b + 5 = nI (5 * b + 5) := m5 b 5
        have e48 : Q_loads_b48 (nI b) (nI sp) (nI j) (nI (f (5 * b + 3))) s2 τ = some (nI (f (5 * b + 3)), u2 (u2 q2 35 (5 * b + 4) (nI j)) 35 (5 * b + 5) (nI sp), τ) := by
          unfold Q_loads_b48
          rw [l1, ov_some, l2, ov_some, i3, if_neg (nin (show 5 * b + 4 < 21 by omega) (by decide)), ncl (show 5 * b + 4 < 2 ^ 31 by omega), mw_eq, i4, if_neg (nin (show 5 * b + 5 < 21 by omega) (by decide)), ncl (show 5 * b + 5 < 2 ^ 31 by omega), mw_eq]
        have eQ : Q_loads (nI b) (nI sp) (nI j) s2 τ = some (nI (f (5 * b + 3)), u2 (u2 q2 35 (5 * b + 4) (nI j)) 35 (5 * b + 5) (nI sp), τ) := by
          unfold Q_loads
          rw [h2 s2 τ Q2, ob_some, if_neg (by decide), qw_eq, w1, ob_some, if_neg (by decide), g2 s2 τ Q2, ob_some]
          by_cases y : nI (f (5 * b + 3)) = nI j
          · rw [if_pos y, g2' s2 τ Q2, ob_some, if_neg (fun q => z ⟨y, q⟩)]; exact e48
          · rw [if_neg y]; exact e48
        refine ⟨_, s2, τ, _, τ, eC, eQ, h.ch (fun a ha => ?_) ?_ ⟨n, pl_set (pl_set f (5 * b + 3) j) (5 * b + 4) sp, pl_l_V V hb j2 hsp, ?_, ?_⟩ ⟨_, _, hs_V_push hV V, H2.fr ?_ ?_, l3.fr ?_ ?_⟩⟩
        · rw [u2_ne _ _ _ (by omega), u2_ne _ _ _ (by omega), l4 a (by omega) (by omega) (by omega), e2 a (by omega) (by omega) (by omega)]
        · rw [u2_ne _ _ _ (by decide), u2_ne _ _ _ (by decide), l5 6 (by decide), e2 34 (by decide) (by decide) (by decide)]
        · rw [u2_ne _ _ _ (by decide), u2_ne _ _ _ (by decide), l4 3 (by decide) (by decide) (by decide)]; exact C3
        · rw [u2_same, u2_same, l4 35 (by decide) (by decide) (by decide)]; exact (Q2.set (i := 5 * b + 3) j).set (i := 5 * b + 4) sp
        · rw [u2_ne _ _ _ (by decide), u2_ne _ _ _ (by decide), l4 1 (by decide) (by decide) (by decide)]
        · rw [u2_ne _ _ _ (by decide), u2_ne _ _ _ (by decide), l4 30 (by decide) (by decide) (by decide)]
        · rw [u2_ne _ _ _ (by decide), u2_ne _ _ _ (by decide)]
        · rw [u2_ne _ _ _ (by decide), u2_ne _ _ _ (by decide)]
    · have w1 : ∀ σ τ, R_within w 0 20 σ τ = some (0, σ, τ) := w1
      refine ⟨-1, σ, τ, σ, τ, ?_, ?_, h⟩
      · unfold R_loads
        rw [h1 σ τ C, ob_some, if_neg (by decide), w1, ob_some, if_pos rfl]
      · unfold Q_loads
        rw [h2 σ τ Q, ob_some, if_neg (by decide), qw_eq, w1, ob_some, if_pos rfl]
  · refine ⟨-1, σ, τ, σ, τ, ?_, ?_, h⟩
    · unfold R_loads
      rw [h1 σ τ C, ob_some, if_pos rfl]
    · unfold Q_loads
      rw [h2 σ τ Q, ob_some, if_pos rfl]
theorem al_undo (h : Rel σ) : alike R_undo Q_undo σ τ := by
  obtain ⟨k, P, hV, hC, hQ⟩ := h.2.2.1
  have hk := hV.1
  cases k with
  | zero =>
    refine ⟨-2, σ, τ, σ, τ, ?_, ?_, h⟩
    · unfold R_undo
      rw [hC.1, if_neg (by decide)]
    · unfold Q_undo
      rw [hQ.1, if_pos (by rfl)]
  | succ k =>
    have V := hV.2 k (by omega)
    have w : ∀ s t, R_within (nI k) 0 (6 - 1) s t = some (1, s, t) := fun s t => wi_in (j := k) (a := 0) (b := 5) (by omega) (by omega) (by decide) s t
    have eC : R_undo σ τ = some (nI k, u1 (u2 σ 1 8 (nI k)) 3 (va_cpy (σ 30) (σ 3) (21 * k) 0 21), τ) := by
      unfold R_undo S_read_29_2
      rw [hC.1, show (0 : Int32) = nI 0 from rfl, if_pos (nI_lt (by omega) (by omega)), nI_pred, mw_eq, u2_at, show nI 0 = (0 : Int32) from rfl, w, ob_some, if_neg (by decide), i21, if_neg (nI_pos (by omega)), ncl (show 21 * k < 2 ^ 31 by omega), if_neg (by omega), mw_eq, ov_some, u2_ne _ _ _ (show (30 : Nat) ≠ 1 by decide), u2_ne _ _ _ (show (3 : Nat) ≠ 1 by decide), u1_ne _ _ (show (1 : Nat) ≠ 3 by decide), u2_at]
    have e1 : ∀ a, a ≠ 1 → a ≠ 3 → u1 (u2 σ 1 8 (nI k)) 3 (va_cpy (σ 30) (σ 3) (21 * k) 0 21) a = σ a := fun a a1 a2 => by rw [u1_ne _ _ a2, u2_ne _ _ _ a1]
    have C1 : pl_C (P k).1 (P k).2 (u1 (u2 σ 1 8 (nI k)) 3 (va_cpy (σ 30) (σ 3) (21 * k) 0 21) 3) 0 := by rw [u1_same]; exact pl_C.cpy V.1 (hC.2 k (by omega))
    have H1 : hs_C (u1 (u2 σ 1 8 (nI k)) 3 (va_cpy (σ 30) (σ 3) (21 * k) 0 21)) k P := ⟨by rw [u1_ne _ _ (by decide), u2_at], fun j hj => by rw [u1_ne _ _ (by decide), u2_ne _ _ _ (by decide)]; exact hC.2 j (by omega)⟩
    generalize u1 (u2 σ 1 8 (nI k)) 3 (va_cpy (σ 30) (σ 3) (21 * k) 0 21) = s1 at eC e1 C1 H1
    obtain ⟨s2, t1, t2, t3⟩ := takes_36_ok (τ := τ) (o := 21 * k) (by omega) (u2 s1 34 2 (nI k)) V.1 (by rw [u2_ne _ _ _ (by decide), e1 36 (by decide) (by decide)]; exact hQ.2 k (by omega))
    have eQ : Q_undo s1 τ = some (nI k, s2, τ) := by
      unfold Q_undo
      rw [e1 34 (by decide) (by decide), hQ.1, if_neg (nI_ne0 (by omega) (by omega)), nI_pred, mw_eq, u2_at, show (21 : Int32) = nI 21 from rfl, pk_mul, t1, ov_some, t3 34 (by decide), u2_at]
    refine ⟨_, s1, τ, s2, τ, eC, eQ, h.ch (fun a ha => ?_) ?_ ⟨_, _, V, ?_, t2⟩ ⟨k, P, ⟨by omega, fun j hj => hV.2 j (by omega)⟩, H1.fr ?_ ?_, ⟨?_, fun j hj => ?_⟩⟩⟩
    · rw [t3 a (by omega), u2_ne _ _ _ (by omega), e1 a (by omega) (by omega)]
    · rw [t3 34 (by decide), u2_off _ _ (Or.inr (by decide)), e1 34 (by decide) (by decide)]
    · rw [t3 3 (by decide), u2_ne _ _ _ (by decide)]; exact C1
    · rw [t3 1 (by decide), u2_ne _ _ _ (by decide)]
    · rw [t3 30 (by decide), u2_ne _ _ _ (by decide)]
    · rw [t3 34 (by decide), u2_at]
    · rw [t3 36 (by decide), u2_ne _ _ _ (by decide), e1 36 (by decide) (by decide)]; exact hQ.2 j (by omega)
end CH
