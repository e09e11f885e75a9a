/-! ===== DROPS, LIFTS, TELLS, IMAGES: ALIKE ===== -/
section MO
variable {σ : mS} {τ : mT}
/-- may it be a block: alike -/
theorem isb_case (x w : Int32) : (∃ h v, 1 ≤ h ∧ h ≤ 3 ∧ 1 ≤ v ∧ v ≤ 9 ∧ x = nI h ∧ w = nI v ∧ (∀ s t, R_isBlock x w s t = some (1, s, t)) ∧ ∀ l s t, R_within l 0 9 s t = some (1, s, t) → Q_fits l x w s t = some (1, s, t)) ∨ ((∀ s t, R_isBlock x w s t = some (0, s, t)) ∧ ∀ l s t, R_within l 0 9 s t = some (1, s, t) → Q_fits l x w s t = some (0, s, t)) := by
  rcases wi_ok x 1 (b := 3) (by decide) (by decide) with ⟨h, a1, a2, e1, w1⟩ | w1
  · have w1 : ∀ s t, R_within x 1 3 s t = some (1, s, t) := w1
    rcases wi_ok w 1 (b := 9) (by decide) (by decide) with ⟨v, b1, b2, e2, w2⟩ | w2
    · have w2 : ∀ s t, R_within w 1 9 s t = some (1, s, t) := w2
      refine Or.inl ⟨h, v, a1, a2, b1, b2, e1, e2, fun s t => ?_, fun l s t wl => ?_⟩
      · unfold R_isBlock; rw [w1, ob_some, if_neg (by decide), w2, ob_some, if_neg (by decide)]
      · unfold Q_fits; rw [qw_eq, wl, ob_some, if_neg (by decide), w1, ob_some, if_neg (by decide), w2, ob_some, if_neg (by decide)]
    · have w2 : ∀ s t, R_within w 1 9 s t = some (0, s, t) := w2
      refine Or.inr ⟨fun s t => ?_, fun l s t wl => ?_⟩
      · unfold R_isBlock; rw [w1, ob_some, if_neg (by decide), w2, ob_some, if_pos rfl]
      · unfold Q_fits; rw [qw_eq, wl, ob_some, if_neg (by decide), w1, ob_some, if_neg (by decide), w2, ob_some, if_pos rfl]
  · have w1 : ∀ s t, R_within x 1 3 s t = some (0, s, t) := w1
    refine Or.inr ⟨fun s t => ?_, fun l s t wl => ?_⟩
    · unfold R_isBlock; rw [w1, ob_some, if_pos rfl]
    · unfold Q_fits; rw [qw_eq, wl, ob_some, if_neg (by decide), w1, ob_some, if_pos rfl]
theorem al_drops (h : Rel σ) (x y w : Int32) : alike (R_drops x y w) (Q_drops x y w) σ τ := by
  obtain ⟨n, f, V, C, Q⟩ := h.1
  obtain ⟨k, P, hV, hC, hQ⟩ := h.2.2.1
  have hn := V.1
  rcases wi_ok x 0 (b := 9) (by decide) (by decide) with ⟨l, _, hl, rfl, w1⟩ | w1
  · have w1 : ∀ s t, R_within (nI l) 0 9 s t = some (1, s, t) := w1
    rcases isb_case y w with ⟨hh, v, y1, y2, y3, y4, rfl, rfl, b1, b2⟩ | ⟨b1, b2⟩
    · by_cases z : n = 4
      · refine ⟨-3, σ, τ, σ, τ, ?_, ?_, h⟩
        · unfold R_drops P_size_2
          rw [w1, ob_some, if_neg (by decide), b1, ob_some, if_neg (by decide), ob_some, C.n, show (4 : Int32) = nI 4 from rfl, if_neg (nI_nlt (by omega) (by omega))]
        · unfold Q_drops
          rw [b2 _ σ τ (w1 σ τ), ob_some, if_neg (by decide), Q.1, show (4 : Int32) = nI 4 from rfl, if_pos (by rw [z])]
      · have V' := pl_add_V V (by omega) hl y1 y2 y3 y4
        obtain ⟨s1, r1, r2, r3⟩ := remember_ok (τ := τ) (p := (n, f)) hV V hC C
        obtain ⟨s2, a1, a2, a3⟩ := P_add_2_ok (σ := s1) (τ := τ) (show n < 4 by omega) (by rw [r3 3 (by decide) (by decide)]; exact C) l hh v
        obtain ⟨s3, f1, f2, f3, f4⟩ := find_2_ok (σ := s2) (τ := τ) V' a2
        have e3 : ∀ a, a ≠ 1 → a ≠ 3 → a ≠ 30 → (a < 6 ∨ 14 < a) → s3 a = σ a := fun a x1 x2 x3 x4 => by rw [f4.1 a x4, a3 a x2, r3 a x1 x3]
        have wn : ∀ t, R_within (nI n) 0 (nI n) s3 t = some (1, s3, t) := fun t => wi_in (a := 0) (Nat.zero_le _) (Nat.le_refl _) (by omega) s3 t
        have eC : R_drops (nI l) (nI hh) (nI v) σ τ = some (nI (lv (pl_add n f l hh v) n), s3, τ) := by
          have p3 : s3 3 20 = nI (n + 1) := by rw [f4.1 3 (by omega)]; exact a2.n
          unfold R_drops P_size_2 Y_level
          rw [w1, ob_some, if_neg (by decide), b1, ob_some, if_neg (by decide), ob_some, C.n, show (4 : Int32) = nI 4 from rfl, if_pos (nI_lt (by omega) (by decide)), r1, ov_some, a1, ov_some, f1, ov_some, ob_some, p3, f3, nI_pred, wn, ob_some, if_neg (by decide), if_neg (nin (show n < 4 by omega) (by decide)), ncl (show n < 2 ^ 31 by omega), (f2.2.1 n (by omega)).1, ob_some]
        have C3 : pl_C (n + 1) (pl_add n f l hh v) (s3 3) 0 := by rw [f4.1 3 (by omega)]; exact a2
        have H3 : hs_C s3 (ps_k k) (ps_P k P (n, f)) := r2.fr (by rw [f4.1 1 (by omega), a3 1 (by decide)]) (by rw [f4.1 30 (by omega), a3 30 (by decide)])
        have Q3 : pl_Q n f (s3 35) 0 := by rw [e3 35 (by decide) (by decide) (by decide) (by omega)]; exact Q
        obtain ⟨q1, q2, l1, l2, l3, l4, l5⟩ := lay_keep (τ := τ) (σ := s3) (p := (n, f)) hV V (hQ.fr (by rw [e3 34 (by decide) (by decide) (by decide) (by omega)]) (e3 36 (by decide) (by decide) (by decide) (by omega))) Q3
        obtain ⟨q3, c1, c2, c3⟩ := Q_appends_ok (σ := q2) (τ := τ) (show n < 4 by omega) (by rw [l4 35 (by decide) (by decide) (by decide)]; exact Q3) l hh v
        obtain ⟨q4, d1, d2, d3⟩ := layAll_ok (σ := q3) (τ := τ) V' c2
        have p4 : q4 35 0 = nI (n + 1) := by rw [d3.1 35 (by omega)]; exact c2.1
        have eQ : Q_drops (nI l) (nI hh) (nI v) s3 τ = some (nI (lv (pl_add n f l hh v) n), q4, τ) := by
          unfold Q_drops
          rw [b2 _ s3 τ (w1 s3 τ), ob_some, if_neg (by decide), Q3.1, show (4 : Int32) = nI 4 from rfl, if_neg (fun q => z ((nI_eq (by omega) (by decide)).mp q)), l1, ov_some, l2, ov_some, c1, ov_some, d1, ov_some, p4, nI_pred, if_neg (nin (show n < 4 by omega) (by decide)), ncl (show n < 2 ^ 31 by omega), (d2.1 n (by omega)).1]
        have e4 : ∀ a, (a < 34 ∨ (36 < a ∧ a < 40)) → q4 a = s3 a := fun a ha => by rw [d3.1 a (by omega), c3 a (by omega), l4 a (by omega) (by omega) (by omega)]
        refine ⟨_, s3, τ, q4, τ, eC, eQ, h.ch (fun a ha => ?_) ?_ ⟨n + 1, _, V', ?_, ?_⟩ ⟨_, _, hs_V_push hV V, H3.fr ?_ ?_, l3.fr ?_ ?_⟩⟩
        · rw [e4 a (by omega), e3 a (by omega) (by omega) (by omega) (by omega)]
        · rw [d3.2 6 (by decide), c3 34 (by decide), l5 6 (by decide), e3 34 (by decide) (by decide) (by decide) (by omega)]
        · rw [e4 3 (by omega)]; exact C3
        · rw [d3.1 35 (by omega)]; exact c2
        · rw [e4 1 (by omega)]
        · rw [e4 30 (by omega)]
        · rw [d3.2 2 (by decide), c3 34 (by decide)]
        · rw [d3.1 36 (by omega), c3 36 (by decide)]
    · refine ⟨-1, σ, τ, σ, τ, ?_, ?_, h⟩
      · unfold R_drops
        rw [w1, ob_some, if_neg (by decide), b1, ob_some, if_pos rfl]
      · unfold Q_drops
        rw [b2 _ σ τ (w1 σ τ), ob_some, if_pos rfl]
  · have w1 : ∀ s t, R_within x 0 9 s t = some (0, s, t) := w1
    refine ⟨-1, σ, τ, σ, τ, ?_, ?_, h⟩
    · unfold R_drops
      rw [w1, ob_some, if_pos rfl]
    · unfold Q_drops Q_fits
      rw [qw_eq, w1, ob_some, if_pos rfl, ob_some, if_pos rfl]
theorem ab_small {f : Nat → Nat} {n a : Nat} (hn : n ≤ 4) : ab f n a < 2 ^ 31 := Nat.lt_of_lt_of_le (ab_lt f n a) (Nat.pow_le_pow_right (by decide) (by omega))
theorem al_lifts (h : Rel σ) (x : Int32) : alike (R_lifts x) (Q_lifts x) σ τ := by
  obtain ⟨n, f, V, C, Q⟩ := h.1
  obtain ⟨k, P, hV, hC, hQ⟩ := h.2.2.1
  have hn := V.1
  rcases has_case x hn with ⟨b, hb, rfl, h1, h2⟩ | ⟨h1, h2⟩
  · obtain ⟨s1, f1, f2, f3, f4⟩ := find_2_ok (σ := σ) (τ := τ) V C
    have ov1 : Y_over (nI b) s1 τ = some (nI (ab f n b), s1, τ) := by
      unfold Y_over
      rw [f3, wi_pin hb (by omega), ob_some, if_neg (by decide), if_neg (nin (show b < 4 by omega) (by decide)), ncl (show b < 2 ^ 31 by omega), (f2.2.1 b hb).2.2]
    by_cases z : ab f n b = 0
    · obtain ⟨s2, r1, r2, r3⟩ := remember_ok (σ := s1) (τ := τ) (p := (n, f)) hV V (hC.fr (by rw [f4.1 1 (by omega)]) (by rw [f4.1 30 (by omega)])) (by rw [f4.1 3 (by omega)]; exact C)
      obtain ⟨s3, a1, a2, a3⟩ := P_takeOut_2_ok (σ := s2) (τ := τ) hn (by rw [r3 3 (by decide) (by decide), f4.1 3 (by omega)]; exact C) hb
      have e3 : ∀ a, a ≠ 1 → a ≠ 3 → a ≠ 30 → (a < 6 ∨ 14 < a) → s3 a = σ a := fun a x1 x2 x3 x4 => by rw [a3 a x2, r3 a x1 x3, f4.1 a x4]
      have eC : R_lifts (nI b) σ τ = some (nI (n - 1), s3, τ) := by
        unfold R_lifts P_size_2
        rw [h1 σ τ C.n, ob_some, if_neg (by decide), f1, ov_some, ov1, ob_some, z, if_pos (by rfl), r1, ov_some, a1, ov_some, ob_some, a2.n]
      have H3 : hs_C s3 (ps_k k) (ps_P k P (n, f)) := r2.fr (by rw [a3 1 (by decide)]) (by rw [a3 30 (by decide)])
      have Q3 : pl_Q n f (s3 35) 0 := by rw [e3 35 (by decide) (by decide) (by decide) (by omega)]; exact Q
      obtain ⟨q1, d1, d2, d3⟩ := layAll_ok (σ := s3) (τ := τ) V Q3
      have Q4 : pl_Q n f (q1 35) 0 := by rw [d3.1 35 (by omega)]; exact Q3
      obtain ⟨q2, q3, l1, l2, l3, l4, l5⟩ := lay_keep (τ := τ) (σ := q1) (p := (n, f)) hV V (hQ.fr (by rw [d3.2 2 (by decide), e3 34 (by decide) (by decide) (by decide) (by omega)]) (by rw [d3.1 36 (by omega), e3 36 (by decide) (by decide) (by decide) (by omega)])) Q4
      obtain ⟨q4, c1, c2, c3⟩ := Q_removes_ok (σ := q3) (τ := τ) hn (by rw [l4 35 (by decide) (by decide) (by decide)]; exact Q4) hb
      have eQ : Q_lifts (nI b) s3 τ = some (nI (n - 1), q4, τ) := by
        unfold Q_lifts
        rw [h2 s3 τ Q3.1, ob_some, if_neg (by decide), d1, ov_some, above_ok V Q4.1 d2 hb, ob_some, z, if_pos (by rfl), l1, ov_some, l2, ov_some, c1, ov_some, c2.1]
      have e4 : ∀ a, (a < 34 ∨ (36 < a ∧ a < 40)) → q4 a = s3 a := fun a ha => by rw [c3 a (by omega), l4 a (by omega) (by omega) (by omega), d3.1 a (by omega)]
      refine ⟨_, s3, τ, q4, τ, eC, eQ, h.ch (fun a ha => ?_) ?_ ⟨n - 1, _, pl_del_V V hb, ?_, c2⟩ ⟨_, _, hs_V_push hV V, H3.fr ?_ ?_, l3.fr ?_ ?_⟩⟩
      · rw [e4 a (by omega), e3 a (by omega) (by omega) (by omega) (by omega)]
      · rw [c3 34 (by decide), l5 6 (by decide), d3.2 6 (by decide), e3 34 (by decide) (by decide) (by decide) (by omega)]
      · rw [e4 3 (by omega)]; exact a2
      · rw [e4 1 (by omega)]
      · rw [e4 30 (by omega)]
      · rw [c3 34 (by decide)]
      · rw [c3 36 (by decide)]
    · have z0 : ¬ nI (ab f n b) = 0 := nI_ne0 (by omega) (ab_small hn)
      have F1 : cl_G σ s1 := fun a ha => f4.1 a (by omega)
      have Q1 : pl_Q n f (s1 35) 0 := by rw [f4.1 35 (by omega)]; exact Q
      obtain ⟨q1, d1, d2, d3⟩ := layAll_ok (σ := s1) (τ := τ) V Q1
      have Q4 : pl_Q n f (q1 35) 0 := by rw [d3.1 35 (by omega)]; exact Q1
      refine ⟨-2, s1, τ, q1, τ, ?_, ?_, h.q F1 d3.qf.g V C Q4⟩
      · unfold R_lifts
        rw [h1 σ τ C.n, ob_some, if_neg (by decide), f1, ov_some, ov1, ob_some, if_neg z0]
      · unfold Q_lifts
        rw [h2 s1 τ Q1.1, ob_some, if_neg (by decide), d1, ov_some, above_ok V Q4.1 d2 hb, ob_some, if_neg z0]
  · refine ⟨-1, σ, τ, σ, τ, ?_, ?_, h⟩
    · unfold R_lifts
      rw [h1 σ τ C.n, ob_some, if_pos rfl]
    · unfold Q_lifts
      rw [h2 σ τ Q.1, ob_some, if_pos rfl]
theorem al_tells (h : Rel σ) : alike R_tells Q_tells σ τ := by
  obtain ⟨n, f, V, C, Q⟩ := h.1
  obtain ⟨L, tx, hx, hT, hqT⟩ := h.2.1
  obtain ⟨k, P, hV, hC, hQ⟩ := h.2.2.1
  have hn := V.1
  have hL := hx.1
  obtain ⟨s1, F1, E1⟩ := into_ok (τ := τ) hx hT
  -- the reference, on a memory whose own cells are as they were
  have ref : ∀ s : mS, (∀ a, 34 ≤ a → s a = σ a) → ∃ q1 q2, Q_lays_48 0 s τ = some (q1, τ) ∧ pl_Q n f (q1 48) 0 ∧ (∀ a, a ≠ 48 → q1 a = s a) ∧ qJ q1 q2 ∧ rd_E L (rd L tx (L + 1) 0 0 (fun _ => 0) 0) (fun i n' f' => Q_reads q1 τ = some (1, q2, τ) ∧ q2 34 25 = nI i ∧ pl_Q n' f' (q2 35) 0) (fun q => Q_reads q1 τ = some (0, q2, τ) ∧ q2 34 24 = nI q) := fun s hs => by
    obtain ⟨q1, a1, a2, a3, a4⟩ := lays_48_ok (τ := τ) (o := 0) (by decide) s hn (by rw [hs 35 (by decide)]; exact Q)
    have hq : qC L tx q1 := ⟨by rw [a4 34 (by decide), hs 34 (by decide)]; exact hqT.1, fun i hi => by rw [a4 39 (by decide), hs 39 (by decide)]; exact hqT.2 i hi⟩
    obtain ⟨q2, b1, b2⟩ := qreads_ok (τ := τ) hx hq
    exact ⟨q1, q2, a1, a2, a4, b1, b2⟩
  rcases E1 with ⟨items, n', f', e1, e2, V', e3, e4⟩ | ⟨e1, e2, e3, e4⟩
  · obtain ⟨s2, r1, r2, r3⟩ := remember_ok (σ := s1) (τ := τ) (p := (n, f)) hV V (hC.fr (by rw [F1.1 1 (by decide) (by decide)]) (F1.1 30 (by decide) (by decide))) (by rw [F1.1 3 (by decide) (by decide)]; exact C)
    have eC : R_tells σ τ = some (nI items, u2 (u1 s2 3 (va_cpy (s2 5) (s2 3) 0 0 21)) 27 1 0, τ) := by
      unfold R_tells P_copy_2_4 T_wipe
      rw [e3, ob_some, if_pos (nI_pos' (by omega)), r1, ov_some, mw_eq, ov_some, mw_eq, ov_some]
    have o3 : ∀ a, a ≠ 27 → a ≠ 5 → a ≠ 1 → a ≠ 30 → a ≠ 3 → u2 (u1 s2 3 (va_cpy (s2 5) (s2 3) 0 0 21)) 27 1 0 a = σ a := fun a a1 a2 a3 a4 a5 => by rw [u2_ne _ _ _ a1, u1_ne _ _ a5, r3 a a3 a4, F1.1 a a1 a2]
    have C3 : pl_C n' f' (u2 (u1 s2 3 (va_cpy (s2 5) (s2 3) 0 0 21)) 27 1 0 3) 0 := by rw [u2_ne _ _ _ (by decide), u1_same]; exact pl_C.cpy V'.1 (by rw [r3 5 (by decide) (by decide)]; exact e4)
    have H3 : hs_C (u2 (u1 s2 3 (va_cpy (s2 5) (s2 3) 0 0 21)) 27 1 0) (ps_k k) (ps_P k P (n, f)) := r2.fr (by rw [u2_ne _ _ _ (by decide), u1_ne _ _ (by decide)]) (by rw [u2_ne _ _ _ (by decide), u1_ne _ _ (by decide)])
    have T3 : u2 (u1 s2 3 (va_cpy (s2 5) (s2 3) 0 0 21)) 27 1 0 27 1 = nI 0 := u2_at _ _ _ _
    generalize u2 (u1 s2 3 (va_cpy (s2 5) (s2 3) 0 0 21)) 27 1 0 = s3 at eC o3 C3 H3 T3
    obtain ⟨q1, q2, l1, l2, l3, l4, E2⟩ := ref s3 (fun a ha => o3 a (by omega) (by omega) (by omega) (by omega) (by omega))
    rcases E2 with ⟨items', n'', f'', g1, _, _, g2, g3, g4⟩ | ⟨g1, _⟩
    · rw [e1] at g1
      injection g1 with g1
      injection g1 with i1 g1
      injection g1 with i2 i3
      subst i1 i2 i3
      obtain ⟨q3, k1, k2, k3, k4⟩ := keeps_ok (σ := q2) (τ := τ) (p := (n, f)) hV V (hQ.fr (by rw [l4.2 2 (by decide) (by decide) (by decide), l3 34 (by decide), o3 34 (by decide) (by decide) (by decide) (by decide) (by decide)]) (by rw [l4.1 36 (by decide) (by decide), l3 36 (by decide), o3 36 (by decide) (by decide) (by decide) (by decide) (by decide)])) (by rw [l4.1 48 (by decide) (by decide)]; exact l2)
      have eQ : Q_tells s3 τ = some (nI items, u2 q3 34 6 0, τ) := by
        unfold Q_tells
        rw [l1, ov_some, g2, ob_some, if_neg (by decide), k1, ov_some, mw_eq, u2_off _ _ (Or.inr (by decide)), k4 25 (by decide), g3]
      have o4 : ∀ a, a ≠ 34 → a ≠ 36 → a ≠ 35 → a ≠ 48 → u2 q3 34 6 0 a = s3 a := fun a a1 a2 a3 a4 => by rw [u2_ne _ _ _ a1, k3 a a1 a2, l4.1 a a1 a3, l3 a a4]
      refine ⟨_, s3, τ, _, τ, eC, eQ, ⟨n', f', V', ?_, ?_⟩, ⟨0, tx, ⟨by decide, fun i hi => absurd hi (by omega)⟩, ⟨?_, fun i hi => absurd hi (by omega)⟩, ⟨u2_at _ _ _ _, fun i hi => absurd hi (by omega)⟩⟩, ⟨_, _, hs_V_push hV V, H3.fr ?_ ?_, k2.fr ?_ ?_⟩, h.2.2.2.fr ?_ ?_ ?_ ?_⟩
      · rw [o4 3 (by decide) (by decide) (by decide) (by decide)]; exact C3
      · rw [u2_ne _ _ _ (by decide), k3 35 (by decide) (by decide)]; exact g4
      · rw [o4 27 (by decide) (by decide) (by decide) (by decide)]; exact T3
      · rw [o4 1 (by decide) (by decide) (by decide) (by decide)]
      · rw [o4 30 (by decide) (by decide) (by decide) (by decide)]
      · rw [u2_off _ _ (Or.inr (by decide))]
      · rw [u2_ne _ _ _ (by decide)]
      · rw [o4 33 (by decide) (by decide) (by decide) (by decide), o3 33 (by decide) (by decide) (by decide) (by decide) (by decide)]
      · rw [o4 38 (by decide) (by decide) (by decide) (by decide), o3 38 (by decide) (by decide) (by decide) (by decide) (by decide)]
      · rw [o4 32 (by decide) (by decide) (by decide) (by decide), o3 32 (by decide) (by decide) (by decide) (by decide) (by decide)]
      · rw [o4 37 (by decide) (by decide) (by decide) (by decide), o3 37 (by decide) (by decide) (by decide) (by decide) (by decide)]
    · rw [e1] at g1; cases g1
  · have eC : R_tells σ τ = some (-10 - nI (rd L tx (L + 1) 0 0 (fun _ => 0) 0).2, s1, τ) := by
      unfold R_tells T_place
      rw [e3, ob_some, if_neg (by decide), ob_some, e4]
    obtain ⟨q1, q2, l1, l2, l3, l4, E2⟩ := ref s1 (fun a ha => F1.1 a (by omega) (by omega))
    rcases E2 with ⟨items', n'', f'', g1, _⟩ | ⟨_, _, g2, g3⟩
    · rw [e1] at g1; cases g1
    · obtain ⟨q3, t1, t2, t3⟩ := takes_48_ok (τ := τ) (o := 0) (by decide) q2 hn (by rw [l4.1 48 (by decide) (by decide)]; exact l2)
      have t1 : Q_takes_48 0 q2 τ = some (q3, τ) := t1
      have eQ : Q_tells s1 τ = some (-10 - nI (rd L tx (L + 1) 0 0 (fun _ => 0) 0).2, q3, τ) := by
        unfold Q_tells
        rw [l1, ov_some, g2, ob_some, if_pos rfl, t1, ov_some, t3 34 (by decide), g3]
      have o4 : ∀ a, a ≠ 34 → a ≠ 35 → a ≠ 48 → q3 a = s1 a := fun a a1 a3 a4 => by rw [t3 a a3, l4.1 a a1 a3, l3 a a4]
      have o34 : ∀ j, j ≠ 23 → j ≠ 24 → j ≠ 25 → q3 34 j = σ 34 j := fun j j1 j2 j3 => by rw [t3 34 (by decide), l4.2 j j1 j2 j3, l3 34 (by decide), F1.1 34 (by decide) (by decide)]
      refine ⟨_, s1, τ, _, τ, eC, eQ, ⟨n, f, V, ?_, t2⟩, h.2.1.fr ?_ ?_ (o34 6 (by decide) (by decide) (by decide)) ?_, h.2.2.1.fr ?_ ?_ (o34 2 (by decide) (by decide) (by decide)) ?_, h.2.2.2.fr ?_ ?_ ?_ ?_⟩
      · rw [o4 3 (by decide) (by decide) (by decide), F1.1 3 (by decide) (by decide)]; exact C
      · rw [o4 27 (by decide) (by decide) (by decide), F1.2 1 (by decide)]
      · rw [o4 28 (by decide) (by decide) (by decide), F1.1 28 (by decide) (by decide)]
      · rw [o4 39 (by decide) (by decide) (by decide), F1.1 39 (by decide) (by decide)]
      · rw [o4 1 (by decide) (by decide) (by decide), F1.1 1 (by decide) (by decide)]
      · rw [o4 30 (by decide) (by decide) (by decide), F1.1 30 (by decide) (by decide)]
      · rw [o4 36 (by decide) (by decide) (by decide), F1.1 36 (by decide) (by decide)]
      · rw [o4 33 (by decide) (by decide) (by decide), F1.1 33 (by decide) (by decide)]
      · rw [o4 38 (by decide) (by decide) (by decide), F1.1 38 (by decide) (by decide)]
      · rw [o4 32 (by decide) (by decide) (by decide), F1.1 32 (by decide) (by decide)]
      · rw [o4 37 (by decide) (by decide) (by decide), F1.1 37 (by decide) (by decide)]
theorem al_keep (h : Rel σ) (x : Int32) : alike (R_keep x) (Q_keep x) σ τ := by
  obtain ⟨n, f, V, C, Q⟩ := h.1
  have hn := V.1
  rcases wi_ok x 0 (b := 1) (by decide) (by decide) with ⟨i, _, hi, rfl, w⟩ | w
  · have w' : ∀ s t, R_within (nI i) 0 1 s t = some (1, s, t) := w
    have w2 : ∀ s t, R_within (nI i) 0 (2 - 1) s t = some (1, s, t) := w
    have eC : R_keep (nI i) σ τ = some (nI n, u2 (u1 σ 32 (va_cpy (σ 3) (σ 32) 0 (21 * i) 21)) 33 i 1, τ) := by
      unfold R_keep S_write_31_2 P_size_2
      rw [w', ob_some, if_neg (by decide), w2, ob_some, if_neg (by decide), i21, if_neg (nI_pos (by omega)), ncl (show 21 * i < 2 ^ 31 by omega), if_neg (by omega), mw_eq, ov_some, if_neg (nin (show i < 2 by omega) (by decide)), ncl (show i < 2 ^ 31 by omega), mw_eq, ob_some, u2_ne _ _ _ (by decide), u1_ne _ _ (by decide), C.n]
      rfl
    have o1 : ∀ a, a ≠ 32 → a ≠ 33 → u2 (u1 σ 32 (va_cpy (σ 3) (σ 32) 0 (21 * i) 21)) 33 i 1 a = σ a := fun a a1 a2 => by rw [u2_ne _ _ _ a2, u1_ne _ _ a1]
    have o33 : ∀ j, u2 (u1 σ 32 (va_cpy (σ 3) (σ 32) 0 (21 * i) 21)) 33 i 1 33 j = if j = i then 1 else σ 33 j := fun j => by
      by_cases z : j = i
      · rw [if_pos z, z, u2_at]
      · rw [if_neg z, u2_off _ _ (Or.inr z), u1_ne _ _ (by decide)]
    have o32 : u2 (u1 σ 32 (va_cpy (σ 3) (σ 32) 0 (21 * i) 21)) 33 i 1 32 = va_cpy (σ 3) (σ 32) 0 (21 * i) 21 := by rw [u2_ne _ _ _ (by decide), u1_same]
    generalize u2 (u1 σ 32 (va_cpy (σ 3) (σ 32) 0 (21 * i) 21)) 33 i 1 = s1 at eC o1 o33 o32
    have Q1 : pl_Q n f (s1 35) 0 := by rw [o1 35 (by decide) (by decide)]; exact Q
    obtain ⟨q1, l1, l2, l3, l4⟩ := lays_37_ok (τ := τ) (o := 21 * i) (by omega) s1 hn Q1
    have eQ : Q_keep (nI i) s1 τ = some (nI n, u2 q1 38 i 1, τ) := by
      unfold Q_keep
      rw [qw_eq, w', ob_some, if_neg (by decide), show (21 : Int32) = nI 21 from rfl, pk_mul, l1, ov_some, if_neg (nin (show i < 2 by omega) (by decide)), ncl (show i < 2 ^ 31 by omega), mw_eq, show vp_nar .boolean (1 : Int32) = 1 from rfl, u2_ne _ _ _ (by decide), l4 35 (by decide), Q1.1]
    have o4 : ∀ a, a ≠ 38 → a ≠ 37 → a ≠ 32 → a ≠ 33 → u2 q1 38 i 1 a = σ a := fun a a1 a2 a3 a4 => by rw [u2_ne _ _ _ a1, l4 a a2, o1 a a3 a4]
    refine ⟨_, s1, τ, _, τ, eC, eQ, ⟨n, f, V, ?_, ?_⟩, h.2.1.fr ?_ ?_ ?_ ?_, h.2.2.1.fr ?_ ?_ ?_ ?_, fun j hj => ?_⟩
    · rw [o4 3 (by decide) (by decide) (by decide) (by decide)]; exact C
    · rw [o4 35 (by decide) (by decide) (by decide) (by decide)]; exact Q
    · rw [o4 27 (by decide) (by decide) (by decide) (by decide)]
    · rw [o4 28 (by decide) (by decide) (by decide) (by decide)]
    · rw [o4 34 (by decide) (by decide) (by decide) (by decide)]
    · rw [o4 39 (by decide) (by decide) (by decide) (by decide)]
    · rw [o4 1 (by decide) (by decide) (by decide) (by decide)]
    · rw [o4 30 (by decide) (by decide) (by decide) (by decide)]
    · rw [o4 34 (by decide) (by decide) (by decide) (by decide)]
    · rw [o4 36 (by decide) (by decide) (by decide) (by decide)]
    · rw [u2_ne _ _ _ (show (33 : Nat) ≠ 38 by decide), l4 33 (by decide), o33, u2_ne _ _ _ (show (32 : Nat) ≠ 38 by decide), l4 32 (by decide), o32, u2_ne _ _ _ (show (37 : Nat) ≠ 38 by decide)]
      by_cases z : j = i
      · subst z
        exact Or.inr ⟨if_pos rfl, u2_at _ _ _ _, n, f, V, pl_C.cpy hn C, l2⟩
      · rw [if_neg z, u2_off _ _ (Or.inr z), l4 38 (by decide), o1 38 (by decide) (by decide)]
        rcases h.2.2.2 j hj with c | ⟨c1, c2, n', f', V', c3, c4⟩
        · exact Or.inl c
        · exact Or.inr ⟨c1, c2, n', f', V', c3.eq V'.1 (fun y hy => by rw [pk_cpy_out (by omega)]), c4.eq V'.1 (fun y hy => by rw [l3 _ (by omega), o1 37 (by decide) (by decide)])⟩
  · have w : ∀ s t, R_within x 0 1 s t = some (0, s, t) := w
    refine ⟨-1, σ, τ, σ, τ, ?_, ?_, h⟩
    · unfold R_keep; rw [w, ob_some, if_pos rfl]
    · unfold Q_keep; rw [qw_eq, w, ob_some, if_pos rfl]
theorem al_back (h : Rel σ) (x : Int32) : alike (R_back x) (Q_back x) σ τ := by
  rcases wi_ok x 0 (b := 1) (by decide) (by decide) with ⟨i, _, hi, rfl, w⟩ | w
  · have w' : ∀ s t, R_within (nI i) 0 1 s t = some (1, s, t) := w
    have w2 : ∀ s t, R_within (nI i) 0 (2 - 1) s t = some (1, s, t) := w
    rcases h.2.2.2 i (by omega) with ⟨c1, c2⟩ | ⟨c1, c2, n, f, V, C, Q⟩
    · refine ⟨-2, σ, τ, σ, τ, ?_, ?_, h⟩
      · unfold R_back
        rw [w', ob_some, if_neg (by decide), if_neg (nin (show i < 2 by omega) (by decide)), ncl (show i < 2 ^ 31 by omega), if_pos c1]
      · unfold Q_back
        rw [qw_eq, w', ob_some, if_neg (by decide), if_neg (nin (show i < 2 by omega) (by decide)), ncl (show i < 2 ^ 31 by omega), if_pos c2]
    · have hn := V.1
      have C1 : pl_C n f (u2 (u1 σ 3 (va_cpy (σ 32) (σ 3) (21 * i) 0 21)) 1 8 0 3) 0 := by rw [u2_ne _ _ _ (by decide), u1_same]; exact pl_C.cpy hn C
      have eC : R_back (nI i) σ τ = some (nI n, u2 (u1 σ 3 (va_cpy (σ 32) (σ 3) (21 * i) 0 21)) 1 8 0, τ) := by
        unfold R_back S_read_31_2 P_size_2
        rw [w', ob_some, if_neg (by decide), if_neg (nin (show i < 2 by omega) (by decide)), ncl (show i < 2 ^ 31 by omega), if_neg (by rw [c1]; decide), w2, ob_some, if_neg (by decide), i21, if_neg (nI_pos (by omega)), ncl (show 21 * i < 2 ^ 31 by omega), if_neg (by omega), mw_eq, ov_some, mw_eq, ob_some, C1.n]
      have o1 : ∀ a, a ≠ 1 → a ≠ 3 → u2 (u1 σ 3 (va_cpy (σ 32) (σ 3) (21 * i) 0 21)) 1 8 0 a = σ a := fun a a1 a2 => by rw [u2_ne _ _ _ a1, u1_ne _ _ a2]
      have e8 : u2 (u1 σ 3 (va_cpy (σ 32) (σ 3) (21 * i) 0 21)) 1 8 0 1 8 = nI 0 := u2_at _ _ _ _
      generalize u2 (u1 σ 3 (va_cpy (σ 32) (σ 3) (21 * i) 0 21)) 1 8 0 = s1 at eC o1 C1 e8
      obtain ⟨q1, t1, t2, t3⟩ := takes_37_ok (τ := τ) (o := 21 * i) (by omega) s1 hn (by rw [o1 37 (by decide) (by decide)]; exact Q)
      have eQ : Q_back (nI i) s1 τ = some (nI n, u2 q1 34 2 0, τ) := by
        unfold Q_back
        rw [qw_eq, w', ob_some, if_neg (by decide), if_neg (nin (show i < 2 by omega) (by decide)), ncl (show i < 2 ^ 31 by omega), o1 38 (by decide) (by decide), if_neg (by rw [c2]; decide), show (21 : Int32) = nI 21 from rfl, pk_mul, t1, ov_some, mw_eq, u2_ne _ _ _ (by decide), t2.1]
      have o4 : ∀ a, a ≠ 34 → a ≠ 35 → a ≠ 1 → a ≠ 3 → u2 q1 34 2 0 a = σ a := fun a a1 a2 a3 a4 => by rw [u2_ne _ _ _ a1, t3 a a2, o1 a a3 a4]
      refine ⟨_, s1, τ, _, τ, eC, eQ, h.ch (fun a ha => o4 a (by omega) (by omega) (by omega) (by omega)) ?_ ⟨n, f, V, ?_, ?_⟩ ⟨0, fun _ => (0, fun _ => 0), ⟨by decide, fun j hj => absurd hj (by omega)⟩, ⟨?_, fun j hj => absurd hj (by omega)⟩, ⟨u2_at _ _ _ _, fun j hj => absurd hj (by omega)⟩⟩⟩
      · rw [u2_off _ _ (Or.inr (by decide)), t3 34 (by decide), o1 34 (by decide) (by decide)]
      · rw [u2_ne _ _ _ (by decide), t3 3 (by decide)]; exact C1
      · rw [u2_ne _ _ _ (by decide)]; exact t2
      · rw [u2_ne _ _ _ (by decide), t3 1 (by decide)]; exact e8
  · have w : ∀ s t, R_within x 0 1 s t = some (0, s, t) := w
    refine ⟨-1, σ, τ, σ, τ, ?_, ?_, h⟩
    · unfold R_back; rw [w, ob_some, if_pos rfl]
    · unfold Q_back; rw [qw_eq, w, ob_some, if_pos rfl]
end MO
