set_option maxHeartbeats 4000000 in
set_option maxRecDepth 100000 in
theorem dc_Q_passes_b33 : ∀ (s0 : Int32) (σ : mS) (τ : mT) (r : Int32) (σ' : mS) (τ' : mT), Q_passes_b33 s0 σ τ = some (r, σ', τ') → mc_V M_X6_passes 1 none 33 [.ref 34, .retAddr 0, .retAddr 0] [.int s0] (mc_hp σ τ) (some (.int r)) (mc_hp σ' τ') 0 0 := by
  intro s0 σ τ r σ' τ' h
  unfold Q_passes_b33 at h
  refine mr_istore_n (pc := 33) dX6_passes_33 (Nat.le_of_ble_eq_true rfl) (show mc_V M_X6_passes 1 none 34 [.ref 34, .retAddr 0, .int s0] [] (mc_hp σ τ) (some (.int r)) (mc_hp σ' τ') 0 0 from ?_)
  refine mr_aload_n (pc := 34) dX6_passes_34 rfl ?_
  refine mr_dup (pc := 35) dX6_passes_35 rfl ?_
  refine mr_getf (pc := 36) (ci := 6) inX6 rfl 23 (by decide) fl_53 dX6_passes_36 (ha_34 σ τ) rfl ?_
  refine mr_iload_n (pc := 39) dX6_passes_39 rfl ?_
  refine mr_if_eq (pc := 40) 47 dX6_passes_40 (by decide) (fun q1 => ?_) (fun q1 => ?_)
  · replace h := (if_pos q1).symm.trans h
    refine mr_iconstv (pc := 47) (0 : Int32) dX6_passes_47 (by decide) ?_
    refine mr_iadd (pc := 48) dX6_passes_48 ?_
    obtain ⟨σ2, e2, h⟩ := ow h
    refine mr_putf (pc := 49) (ci := 6) inX6 tyX6 tyX6_ok nmX6 rfl 23 (by decide) fl_53 rfl dX6_passes_49 (ha_34 σ τ) (Nat.le_of_ble_eq_true rfl) rfl (mc_V.heap (hs_34_23 e2) ?_)
    refine mr_iload_n (pc := 52) dX6_passes_52 rfl ?_
    obtain ⟨g3, h⟩ := og h
    obtain ⟨rfl, rfl, rfl⟩ := os3 h
    exact mr_iret (pc := 53) rfl (nar_b g3) dX6_passes_53
  · replace h := (if_neg q1).symm.trans h
    refine mr_iconstv (pc := 43) (1 : Int32) dX6_passes_43 (by decide) ?_
    refine mr_goto (pc := 44) 48 dX6_passes_44 (by decide) ?_
    refine mr_iadd (pc := 48) dX6_passes_48 ?_
    obtain ⟨σ4, e4, h⟩ := ow h
    refine mr_putf (pc := 49) (ci := 6) inX6 tyX6 tyX6_ok nmX6 rfl 23 (by decide) fl_53 rfl dX6_passes_49 (ha_34 σ τ) (Nat.le_of_ble_eq_true rfl) rfl (mc_V.heap (hs_34_23 e4) ?_)
    refine mr_iload_n (pc := 52) dX6_passes_52 rfl ?_
    obtain ⟨g5, h⟩ := og h
    obtain ⟨rfl, rfl, rfl⟩ := os3 h
    exact mr_iret (pc := 53) rfl (nar_b g5) dX6_passes_53
set_option maxHeartbeats 4000000 in
set_option maxRecDepth 100000 in
theorem dc_Q_passes_b32 : ∀ (σ : mS) (τ : mT) (r : Int32) (σ' : mS) (τ' : mT), Q_passes_b32 σ τ = some (r, σ', τ') → mc_V M_X6_passes 1 none 32 [.ref 34, .retAddr 0, .retAddr 0] [] (mc_hp σ τ) (some (.int r)) (mc_hp σ' τ') 0 0 := by
  intro σ τ r σ' τ' h
  unfold Q_passes_b32 at h
  refine mr_iconstv (pc := 32) (0 : Int32) dX6_passes_32 (by decide) ?_
  exact mc_V.locs (loc' := [.ref 34, .retAddr 0, .retAddr 0]) ⟨Or.inr rfl, Or.inl rfl, Or.inl rfl, trivial⟩ (dc_Q_passes_b33 (0 : Int32) σ τ r σ' τ' h)
set_option maxHeartbeats 4000000 in
set_option maxRecDepth 100000 in
theorem dc_Q_passes {p1 : Int32} {σ : mS} {τ : mT} {r : Int32} {σ' : mS} {τ' : mT} (h : Q_passes p1 σ τ = some (r, σ', τ')) : mc_V M_X6_passes 1 none 0 (mc_entry [.ref 34, .int p1] 3) [] (mc_hp σ τ) (some (.int r)) (mc_hp σ' τ') 0 0 := by
  unfold Q_passes at h
  show mc_V M_X6_passes 1 none 0 [.ref 34, .int p1, .retAddr 0] [] (mc_hp σ τ) (some (.int r)) (mc_hp σ' τ') 0 0
  refine mr_aload_n (pc := 0) dX6_passes_0 rfl ?_
  obtain ⟨σ1, τ1, c1, h⟩ := ovs h
  refine mr_callV0 (pc := 1) (ci := 6) [] ok_X6_skips lk_158 st_X6_skips se_X6_skips dX6_passes_1 rfl (ha_34 σ τ) rfl rfl (Nat.le_of_ble_eq_true rfl) (Nat.le_of_ble_eq_true rfl) ((dc_Q_skips c1).up (by decide)) ?_
  refine mr_aload_n (pc := 4) dX6_passes_4 rfl ?_
  refine mr_getf (pc := 5) (ci := 6) inX6 rfl 23 (by decide) fl_53 dX6_passes_5 (ha_34 σ1 τ1) rfl ?_
  refine mr_aload_n (pc := 8) dX6_passes_8 rfl ?_
  refine mr_getf (pc := 9) (ci := 6) inX6 rfl 6 (by decide) fl_54 dX6_passes_9 (ha_34 σ1 τ1) rfl ?_
  refine mr_icmp_ge (pc := 12) 32 dX6_passes_12 (by decide) (fun q2 => ?_) (fun q2 => ?_)
  · replace h := (if_pos q2).symm.trans h
    exact mc_V.locs (loc' := [.ref 34, .retAddr 0, .retAddr 0]) ⟨Or.inr rfl, Or.inl rfl, Or.inl rfl, trivial⟩ (dc_Q_passes_b32 σ1 τ1 r σ' τ' h)
  · replace h := (if_neg q2).symm.trans h
    refine mr_aload_n (pc := 15) dX6_passes_15 rfl ?_
    refine mr_getf (pc := 16) (ci := 6) inX6 rfl 5 (by decide) fl_35 dX6_passes_16 (ha_34 σ1 τ1) rfl ?_
    refine mr_aload_n (pc := 19) dX6_passes_19 rfl ?_
    refine mr_getf (pc := 20) (ci := 6) inX6 rfl 23 (by decide) fl_53 dX6_passes_20 (ha_34 σ1 τ1) rfl ?_
    obtain ⟨g3, h⟩ := og h
    refine mr_iald (pc := 23) dX6_passes_23 (ha_39 σ1 τ1) (g3) ?_
    refine mr_iload_n (pc := 24) dX6_passes_24 rfl ?_
    refine mr_icmp_ne (pc := 25) 32 dX6_passes_25 (by decide) (fun q4 => ?_) (fun q4 => ?_)
    · replace h := (if_neg q4).symm.trans h
      exact mc_V.locs (loc' := [.ref 34, .retAddr 0, .retAddr 0]) ⟨Or.inr rfl, Or.inl rfl, Or.inl rfl, trivial⟩ (dc_Q_passes_b32 σ1 τ1 r σ' τ' h)
    · replace h := (if_pos q4).symm.trans h
      refine mr_iconstv (pc := 28) (1 : Int32) dX6_passes_28 (by decide) ?_
      refine mr_goto (pc := 29) 33 dX6_passes_29 (by decide) ?_
      exact mc_V.locs (loc' := [.ref 34, .retAddr 0, .retAddr 0]) ⟨Or.inr rfl, Or.inl rfl, Or.inl rfl, trivial⟩ (dc_Q_passes_b33 (1 : Int32) σ1 τ1 r σ' τ' h)
set_option maxHeartbeats 4000000 in
set_option maxRecDepth 100000 in
theorem dc_Q_isFigure {σ : mS} {τ : mT} {r : Int32} {σ' : mS} {τ' : mT} (h : Q_isFigure σ τ = some (r, σ', τ')) : mc_V M_X6_isFigure 1 none 0 (mc_entry [.ref 34] 1) [] (mc_hp σ τ) (some (.int r)) (mc_hp σ' τ') 0 0 := by
  unfold Q_isFigure at h
  show mc_V M_X6_isFigure 1 none 0 [.ref 34] [] (mc_hp σ τ) (some (.int r)) (mc_hp σ' τ') 0 0
  refine mr_aload_n (pc := 0) dX6_isFigure_0 rfl ?_
  refine mr_getf (pc := 1) (ci := 6) inX6 rfl 23 (by decide) fl_53 dX6_isFigure_1 (ha_34 σ τ) rfl ?_
  refine mr_aload_n (pc := 4) dX6_isFigure_4 rfl ?_
  refine mr_getf (pc := 5) (ci := 6) inX6 rfl 6 (by decide) fl_54 dX6_isFigure_5 (ha_34 σ τ) rfl ?_
  refine mr_icmp_ge (pc := 8) 34 dX6_isFigure_8 (by decide) (fun q1 => ?_) (fun q1 => ?_)
  · replace h := (if_pos q1).symm.trans h
    refine mr_iconstv (pc := 34) (0 : Int32) dX6_isFigure_34 (by decide) ?_
    obtain ⟨rfl, rfl, rfl⟩ := os3 h
    exact mr_iret (pc := 35) rfl (rfl) dX6_isFigure_35
  · replace h := (if_neg q1).symm.trans h
    refine mr_aload_n (pc := 11) dX6_isFigure_11 rfl ?_
    refine mr_getf (pc := 12) (ci := 6) inX6 rfl 5 (by decide) fl_35 dX6_isFigure_12 (ha_34 σ τ) rfl ?_
    refine mr_aload_n (pc := 15) dX6_isFigure_15 rfl ?_
    refine mr_getf (pc := 16) (ci := 6) inX6 rfl 23 (by decide) fl_53 dX6_isFigure_16 (ha_34 σ τ) rfl ?_
    obtain ⟨g2, h⟩ := og h
    refine mr_iald (pc := 19) dX6_isFigure_19 (ha_39 σ τ) (g2) ?_
    refine mr_bipushv (pc := 20) (48 : Int32) dX6_isFigure_20 (by decide) ?_
    refine mr_bipushv (pc := 22) (57 : Int32) dX6_isFigure_22 (by decide) ?_
    obtain ⟨r3, σ3, τ3, c3, h⟩ := obs h
    refine mr_callS0 (pc := 24) [.int (σ 39 (σ 34 23).toNatClampNeg), .int (48 : Int32), .int (57 : Int32)] ok_X6_within lk_131 st_X6_within dX6_isFigure_24 rfl rfl (Nat.le_of_ble_eq_true rfl) (Nat.le_of_ble_eq_true rfl) ((dc_Q_within c3).up (by decide)) ?_
    refine mr_if_eq (pc := 27) 34 dX6_isFigure_27 (by decide) (fun q4 => ?_) (fun q4 => ?_)
    · replace h := (if_pos q4).symm.trans h
      refine mr_iconstv (pc := 34) (0 : Int32) dX6_isFigure_34 (by decide) ?_
      obtain ⟨rfl, rfl, rfl⟩ := os3 h
      exact mr_iret (pc := 35) rfl (rfl) dX6_isFigure_35
    · replace h := (if_neg q4).symm.trans h
      refine mr_iconstv (pc := 30) (1 : Int32) dX6_isFigure_30 (by decide) ?_
      refine mr_goto (pc := 31) 35 dX6_isFigure_31 (by decide) ?_
      obtain ⟨rfl, rfl, rfl⟩ := os3 h
      exact mr_iret (pc := 35) rfl (rfl) dX6_isFigure_35
set_option maxHeartbeats 4000000 in
set_option maxRecDepth 100000 in
theorem dc_Q_number_b106 : ∀ (x3 : Int32) (s0 : Int32) (σ : mS) (τ : mT) (r : Int32) (σ' : mS) (τ' : mT), Q_number_b106 x3 s0 σ τ = some (r, σ', τ') → mc_V M_X6_number 2 none 106 [.retAddr 0, .retAddr 0, .retAddr 0, .int x3, .retAddr 0, .retAddr 0] [.int s0] (mc_hp σ τ) (some (.int r)) (mc_hp σ' τ') 0 0 := by
  intro x3 s0 σ τ r σ' τ' h
  unfold Q_number_b106 at h
  refine mr_istore (pc := 106) dX6_number_106 (Nat.le_of_ble_eq_true rfl) (show mc_V M_X6_number 2 none 108 [.retAddr 0, .retAddr 0, .retAddr 0, .int x3, .retAddr 0, .int s0] [] (mc_hp σ τ) (some (.int r)) (mc_hp σ' τ') 0 0 from ?_)
  refine mr_iload (pc := 108) dX6_number_108 rfl ?_
  refine mr_if_eq (pc := 110) 117 dX6_number_110 (by decide) (fun q1 => ?_) (fun q1 => ?_)
  · replace h := (if_pos q1).symm.trans h
    refine mr_iconstv (pc := 117) (-1 : Int32) dX6_number_117 (by decide) ?_
    obtain ⟨rfl, rfl, rfl⟩ := os3 h
    exact mr_iret (pc := 118) rfl (rfl) dX6_number_118
  · replace h := (if_neg q1).symm.trans h
    refine mr_iload_n (pc := 113) dX6_number_113 rfl ?_
    refine mr_goto (pc := 114) 118 dX6_number_114 (by decide) ?_
    obtain ⟨rfl, rfl, rfl⟩ := os3 h
    exact mr_iret (pc := 118) rfl (rfl) dX6_number_118
set_option maxHeartbeats 4000000 in
set_option maxRecDepth 100000 in
theorem dc_Q_number_b105 : ∀ (x3 : Int32) (σ : mS) (τ : mT) (r : Int32) (σ' : mS) (τ' : mT), Q_number_b105 x3 σ τ = some (r, σ', τ') → mc_V M_X6_number 2 none 105 [.retAddr 0, .retAddr 0, .retAddr 0, .int x3, .retAddr 0, .retAddr 0] [] (mc_hp σ τ) (some (.int r)) (mc_hp σ' τ') 0 0 := by
  intro x3 σ τ r σ' τ' h
  unfold Q_number_b105 at h
  refine mr_iconstv (pc := 105) (0 : Int32) dX6_number_105 (by decide) ?_
  exact mc_V.locs (loc' := [.retAddr 0, .retAddr 0, .retAddr 0, .int x3, .retAddr 0, .retAddr 0]) ⟨Or.inl rfl, Or.inl rfl, Or.inl rfl, Or.inr rfl, Or.inl rfl, Or.inl rfl, trivial⟩ (dc_Q_number_b106 x3 (0 : Int32) σ τ r σ' τ' h)
set_option maxHeartbeats 4000000 in
set_option maxRecDepth 100000 in
theorem dc_Q_number_b92 : ∀ (x1 : Int32) (x2 : Int32) (x3 : Int32) (σ : mS) (τ : mT) (r : Int32) (σ' : mS) (τ' : mT), Q_number_b92 x1 x2 x3 σ τ = some (r, σ', τ') → mc_V M_X6_number 2 none 92 [.retAddr 0, .int x1, .int x2, .int x3, .retAddr 0, .retAddr 0] [] (mc_hp σ τ) (some (.int r)) (mc_hp σ' τ') 0 0 := by
  intro x1 x2 x3 σ τ r σ' τ' h
  unfold Q_number_b92 at h
  refine mr_iload_n (pc := 92) dX6_number_92 rfl ?_
  refine mr_iload_n (pc := 93) dX6_number_93 rfl ?_
  refine mr_iload_n (pc := 94) dX6_number_94 rfl ?_
  obtain ⟨r1, σ1, τ1, c1, h⟩ := obs h
  refine mr_callS0 (pc := 95) [.int x3, .int x1, .int x2] ok_X6_within lk_131 st_X6_within dX6_number_95 rfl rfl (Nat.le_of_ble_eq_true rfl) (Nat.le_of_ble_eq_true rfl) ((dc_Q_within c1).up (by decide)) ?_
  refine mr_if_eq (pc := 98) 105 dX6_number_98 (by decide) (fun q2 => ?_) (fun q2 => ?_)
  · replace h := (if_pos q2).symm.trans h
    exact mc_V.locs (loc' := [.retAddr 0, .retAddr 0, .retAddr 0, .int x3, .retAddr 0, .retAddr 0]) ⟨Or.inl rfl, Or.inl rfl, Or.inl rfl, Or.inr rfl, Or.inl rfl, Or.inl rfl, trivial⟩ (dc_Q_number_b105 x3 σ1 τ1 r σ' τ' h)
  · replace h := (if_neg q2).symm.trans h
    refine mr_iconstv (pc := 101) (1 : Int32) dX6_number_101 (by decide) ?_
    refine mr_goto (pc := 102) 106 dX6_number_102 (by decide) ?_
    exact mc_V.locs (loc' := [.retAddr 0, .retAddr 0, .retAddr 0, .int x3, .retAddr 0, .retAddr 0]) ⟨Or.inl rfl, Or.inl rfl, Or.inl rfl, Or.inr rfl, Or.inl rfl, Or.inl rfl, trivial⟩ (dc_Q_number_b106 x3 (1 : Int32) σ1 τ1 r σ' τ' h)
set_option maxHeartbeats 4000000 in
set_option maxRecDepth 100000 in
theorem dc_Q_number_b44 (k9 : Int32 → Int32 → Int32 → Int32 → mS → mT → Option (Int32 × mS × mT)) (hk9 : ∀ (x1 : Int32) (x2 : Int32) (x3 : Int32) (x4 : Int32) (σ : mS) (τ : mT) (r : Int32) (σ' : mS) (τ' : mT), k9 x1 x2 x3 x4 σ τ = some (r, σ', τ') → mc_V M_X6_number 2 none 9 [.ref 34, .int x1, .int x2, .int x3, .int x4, .retAddr 0] [] (mc_hp σ τ) (some (.int r)) (mc_hp σ' τ') 0 0) : ∀ (x1 : Int32) (x2 : Int32) (x4 : Int32) (s0 : Int32) (σ : mS) (τ : mT) (r : Int32) (σ' : mS) (τ' : mT), Q_number_b44 k9 x1 x2 x4 s0 σ τ = some (r, σ', τ') → mc_V M_X6_number 2 none 44 [.ref 34, .int x1, .int x2, .retAddr 0, .int x4, .retAddr 0] [.int s0] (mc_hp σ τ) (some (.int r)) (mc_hp σ' τ') 0 0 := by
  intro x1 x2 x4 s0 σ τ r σ' τ' h
  unfold Q_number_b44 at h
  refine mr_istore_n (pc := 44) dX6_number_44 (Nat.le_of_ble_eq_true rfl) (show mc_V M_X6_number 2 none 45 [.ref 34, .int x1, .int x2, .int s0, .int x4, .retAddr 0] [] (mc_hp σ τ) (some (.int r)) (mc_hp σ' τ') 0 0 from ?_)
  refine mr_aload_n (pc := 45) dX6_number_45 rfl ?_
  refine mr_dup (pc := 46) dX6_number_46 rfl ?_
  refine mr_getf (pc := 47) (ci := 6) inX6 rfl 23 (by decide) fl_53 dX6_number_47 (ha_34 σ τ) rfl ?_
  refine mr_iconstv (pc := 50) (1 : Int32) dX6_number_50 (by decide) ?_
  refine mr_iadd (pc := 51) dX6_number_51 ?_
  obtain ⟨σ1, e1, h⟩ := ow h
  refine mr_putf (pc := 52) (ci := 6) inX6 tyX6 tyX6_ok nmX6 rfl 23 (by decide) fl_53 rfl dX6_number_52 (ha_34 σ τ) (Nat.le_of_ble_eq_true rfl) rfl (mc_V.heap (hs_34_23 e1) ?_)
  refine mr_iincv (pc := 55) (1 : Int32) dX6_number_55 rfl (by decide) (show mc_V M_X6_number 2 none 58 [.ref 34, .int x1, .int x2, .int s0, .int (x4 + (1 : Int32)), .retAddr 0] [] (mc_hp σ1 τ) (some (.int r)) (mc_hp σ' τ') 0 0 from ?_)
  refine mr_goto (pc := 58) 9 dX6_number_58 (by decide) ?_
  exact mc_V.locs (loc' := [.ref 34, .int x1, .int x2, .int s0, .int (x4 + (1 : Int32)), .retAddr 0]) ⟨Or.inr rfl, Or.inr rfl, Or.inr rfl, Or.inr rfl, Or.inr rfl, Or.inl rfl, trivial⟩ (hk9 x1 x2 s0 (x4 + (1 : Int32)) σ1 τ r σ' τ' h)
set_option maxHeartbeats 4000000 in
set_option maxRecDepth 100000 in
theorem dc_Q_number_l9 : ∀ (n : Nat), ∀ (x1 : Int32) (x2 : Int32) (x3 : Int32) (x4 : Int32) (σ : mS) (τ : mT) (r : Int32) (σ' : mS) (τ' : mT), Q_number_l9 n x1 x2 x3 x4 σ τ = some (r, σ', τ') → mc_V M_X6_number 2 none 9 [.ref 34, .int x1, .int x2, .int x3, .int x4, .retAddr 0] [] (mc_hp σ τ) (some (.int r)) (mc_hp σ' τ') 0 0 := by
  intro n
  induction n with
  | zero =>
    intros
    rename_i h
    cases h
  | succ n ih =>
    intro x1 x2 x3 x4 σ τ r σ' τ' h
    refine mr_aload_n (pc := 9) dX6_number_9 rfl ?_
    obtain ⟨r1, σ1, τ1, c1, h⟩ := obs h
    refine mr_callV0 (pc := 10) (ci := 6) [] ok_X6_isFigure lk_159 st_X6_isFigure se_X6_isFigure dX6_number_10 rfl (ha_34 σ τ) rfl rfl (Nat.le_of_ble_eq_true rfl) (Nat.le_of_ble_eq_true rfl) ((dc_Q_isFigure c1).up (by decide)) ?_
    refine mr_if_eq (pc := 13) 61 dX6_number_13 (by decide) (fun q2 => ?_) (fun q2 => ?_)
    · replace h := (if_pos q2).symm.trans h
      refine mr_iload (pc := 61) dX6_number_61 rfl ?_
      refine mr_if_le (pc := 63) 105 dX6_number_63 (by decide) (fun q3 => ?_) (fun q3 => ?_)
      · replace h := (if_pos q3).symm.trans h
        exact mc_V.locs (loc' := [.retAddr 0, .retAddr 0, .retAddr 0, .int x3, .retAddr 0, .retAddr 0]) ⟨Or.inl rfl, Or.inl rfl, Or.inl rfl, Or.inr rfl, Or.inl rfl, Or.inl rfl, trivial⟩ (dc_Q_number_b105 x3 σ1 τ1 r σ' τ' h)
      · replace h := (if_neg q3).symm.trans h
        refine mr_iload_n (pc := 66) dX6_number_66 rfl ?_
        refine mr_bipushv (pc := 67) (99 : Int32) dX6_number_67 (by decide) ?_
        refine mr_icmp_gt (pc := 69) 105 dX6_number_69 (by decide) (fun q4 => ?_) (fun q4 => ?_)
        · replace h := (if_pos q4).symm.trans h
          exact mc_V.locs (loc' := [.retAddr 0, .retAddr 0, .retAddr 0, .int x3, .retAddr 0, .retAddr 0]) ⟨Or.inl rfl, Or.inl rfl, Or.inl rfl, Or.inr rfl, Or.inl rfl, Or.inl rfl, trivial⟩ (dc_Q_number_b105 x3 σ1 τ1 r σ' τ' h)
        · replace h := (if_neg q4).symm.trans h
          refine mr_iload (pc := 72) dX6_number_72 rfl ?_
          refine mr_iconstv (pc := 74) (1 : Int32) dX6_number_74 (by decide) ?_
          refine mr_icmp_eq (pc := 75) 92 dX6_number_75 (by decide) (fun q5 => ?_) (fun q5 => ?_)
          · replace h := (if_pos q5).symm.trans h
            exact mc_V.locs (loc' := [.retAddr 0, .int x1, .int x2, .int x3, .retAddr 0, .retAddr 0]) ⟨Or.inl rfl, Or.inr rfl, Or.inr rfl, Or.inr rfl, Or.inl rfl, Or.inl rfl, trivial⟩ (dc_Q_number_b92 x1 x2 x3 σ1 τ1 r σ' τ' h)
          · replace h := (if_neg q5).symm.trans h
            refine mr_aload_n (pc := 78) dX6_number_78 rfl ?_
            refine mr_getf (pc := 79) (ci := 6) inX6 rfl 5 (by decide) fl_35 dX6_number_79 (ha_34 σ1 τ1) rfl ?_
            refine mr_aload_n (pc := 82) dX6_number_82 rfl ?_
            refine mr_getf (pc := 83) (ci := 6) inX6 rfl 24 (by decide) fl_55 dX6_number_83 (ha_34 σ1 τ1) rfl ?_
            obtain ⟨g6, h⟩ := og h
            refine mr_iald (pc := 86) dX6_number_86 (ha_39 σ1 τ1) (g6) ?_
            refine mr_bipushv (pc := 87) (48 : Int32) dX6_number_87 (by decide) ?_
            refine mr_icmp_eq (pc := 89) 105 dX6_number_89 (by decide) (fun q7 => ?_) (fun q7 => ?_)
            · replace h := (if_pos q7).symm.trans h
              exact mc_V.locs (loc' := [.retAddr 0, .retAddr 0, .retAddr 0, .int x3, .retAddr 0, .retAddr 0]) ⟨Or.inl rfl, Or.inl rfl, Or.inl rfl, Or.inr rfl, Or.inl rfl, Or.inl rfl, trivial⟩ (dc_Q_number_b105 x3 σ1 τ1 r σ' τ' h)
            · replace h := (if_neg q7).symm.trans h
              exact mc_V.locs (loc' := [.retAddr 0, .int x1, .int x2, .int x3, .retAddr 0, .retAddr 0]) ⟨Or.inl rfl, Or.inr rfl, Or.inr rfl, Or.inr rfl, Or.inl rfl, Or.inl rfl, trivial⟩ (dc_Q_number_b92 x1 x2 x3 σ1 τ1 r σ' τ' h)
    · replace h := (if_neg q2).symm.trans h
      refine mr_iload_n (pc := 16) dX6_number_16 rfl ?_
      refine mr_bipushv (pc := 17) (99 : Int32) dX6_number_17 (by decide) ?_
      refine mr_icmp_le (pc := 19) 27 dX6_number_19 (by decide) (fun q8 => ?_) (fun q8 => ?_)
      · replace h := (if_pos q8).symm.trans h
        refine mr_bipushv (pc := 27) (10 : Int32) dX6_number_27 (by decide) ?_
        refine mr_iload_n (pc := 29) dX6_number_29 rfl ?_
        refine mr_imul (pc := 30) dX6_number_30 ?_
        refine mr_aload_n (pc := 31) dX6_number_31 rfl ?_
        refine mr_getf (pc := 32) (ci := 6) inX6 rfl 5 (by decide) fl_35 dX6_number_32 (ha_34 σ1 τ1) rfl ?_
        refine mr_aload_n (pc := 35) dX6_number_35 rfl ?_
        refine mr_getf (pc := 36) (ci := 6) inX6 rfl 23 (by decide) fl_53 dX6_number_36 (ha_34 σ1 τ1) rfl ?_
        obtain ⟨g9, h⟩ := og h
        refine mr_iald (pc := 39) dX6_number_39 (ha_39 σ1 τ1) (g9) ?_
        refine mr_iadd (pc := 40) dX6_number_40 ?_
        refine mr_bipushv (pc := 41) (48 : Int32) dX6_number_41 (by decide) ?_
        refine mr_isub (pc := 43) dX6_number_43 ?_
        exact mc_V.locs (loc' := [.ref 34, .int x1, .int x2, .retAddr 0, .int x4, .retAddr 0]) ⟨Or.inr rfl, Or.inr rfl, Or.inr rfl, Or.inl rfl, Or.inr rfl, Or.inl rfl, trivial⟩ (dc_Q_number_b44 (Q_number_l9 n) ih x1 x2 x4 ((((10 : Int32) * x3) + (σ1 39 (σ1 34 23).toNatClampNeg)) - (48 : Int32)) σ1 τ1 r σ' τ' h)
      · replace h := (if_neg q8).symm.trans h
        refine mr_bipushv (pc := 22) (100 : Int32) dX6_number_22 (by decide) ?_
        refine mr_goto (pc := 24) 44 dX6_number_24 (by decide) ?_
        exact mc_V.locs (loc' := [.ref 34, .int x1, .int x2, .retAddr 0, .int x4, .retAddr 0]) ⟨Or.inr rfl, Or.inr rfl, Or.inr rfl, Or.inl rfl, Or.inr rfl, Or.inl rfl, trivial⟩ (dc_Q_number_b44 (Q_number_l9 n) ih x1 x2 x4 (100 : Int32) σ1 τ1 r σ' τ' h)
set_option maxHeartbeats 4000000 in
set_option maxRecDepth 100000 in
theorem dc_Q_number {p1 : Int32} {p2 : Int32} {σ : mS} {τ : mT} {r : Int32} {σ' : mS} {τ' : mT} (h : Q_number p1 p2 σ τ = some (r, σ', τ')) : mc_V M_X6_number 2 none 0 (mc_entry [.ref 34, .int p1, .int p2] 6) [] (mc_hp σ τ) (some (.int r)) (mc_hp σ' τ') 0 0 := by
  unfold Q_number at h
  show mc_V M_X6_number 2 none 0 [.ref 34, .int p1, .int p2, .retAddr 0, .retAddr 0, .retAddr 0] [] (mc_hp σ τ) (some (.int r)) (mc_hp σ' τ') 0 0
  refine mr_aload_n (pc := 0) dX6_number_0 rfl ?_
  obtain ⟨σ1, τ1, c1, h⟩ := ovs h
  refine mr_callV0 (pc := 1) (ci := 6) [] ok_X6_skips lk_158 st_X6_skips se_X6_skips dX6_number_1 rfl (ha_34 σ τ) rfl rfl (Nat.le_of_ble_eq_true rfl) (Nat.le_of_ble_eq_true rfl) ((dc_Q_skips c1).up (by decide)) ?_
  refine mr_iconstv (pc := 4) (0 : Int32) dX6_number_4 (by decide) ?_
  refine mr_istore_n (pc := 5) dX6_number_5 (Nat.le_of_ble_eq_true rfl) (show mc_V M_X6_number 2 none 6 [.ref 34, .int p1, .int p2, .int (0 : Int32), .retAddr 0, .retAddr 0] [] (mc_hp σ1 τ1) (some (.int r)) (mc_hp σ' τ') 0 0 from ?_)
  refine mr_iconstv (pc := 6) (0 : Int32) dX6_number_6 (by decide) ?_
  refine mr_istore (pc := 7) dX6_number_7 (Nat.le_of_ble_eq_true rfl) (show mc_V M_X6_number 2 none 9 [.ref 34, .int p1, .int p2, .int (0 : Int32), .int (0 : Int32), .retAddr 0] [] (mc_hp σ1 τ1) (some (.int r)) (mc_hp σ' τ') 0 0 from ?_)
  exact mc_V.locs (loc' := [.ref 34, .int p1, .int p2, .int (0 : Int32), .int (0 : Int32), .retAddr 0]) ⟨Or.inr rfl, Or.inr rfl, Or.inr rfl, Or.inr rfl, Or.inr rfl, Or.inl rfl, trivial⟩ (dc_Q_number_l9 mc_F p1 p2 (0 : Int32) (0 : Int32) σ1 τ1 r σ' τ' h)
set_option maxHeartbeats 4000000 in
set_option maxRecDepth 100000 in
theorem dc_Q_get {p1 : Int32} {p2 : Int32} {σ : mS} {τ : mT} {r : Int32} {σ' : mS} {τ' : mT} (h : Q_get p1 p2 σ τ = some (r, σ', τ')) : mc_V M_X6_get 0 none 0 (mc_entry [.ref 34, .int p1, .int p2] 3) [] (mc_hp σ τ) (some (.int r)) (mc_hp σ' τ') 0 0 := by
  unfold Q_get at h
  show mc_V M_X6_get 0 none 0 [.ref 34, .int p1, .int p2] [] (mc_hp σ τ) (some (.int r)) (mc_hp σ' τ') 0 0
  refine mr_aload_n (pc := 0) dX6_get_0 rfl ?_
  refine mr_getf (pc := 1) (ci := 6) inX6 rfl 0 (by decide) fl_31 dX6_get_1 (ha_34 σ τ) rfl ?_
  refine mr_iconstv (pc := 4) (5 : Int32) dX6_get_4 (by decide) ?_
  refine mr_iload_n (pc := 5) dX6_get_5 rfl ?_
  refine mr_imul (pc := 6) dX6_get_6 ?_
  refine mr_iload_n (pc := 7) dX6_get_7 rfl ?_
  refine mr_iadd (pc := 8) dX6_get_8 ?_
  obtain ⟨g1, h⟩ := og h
  refine mr_iald (pc := 9) dX6_get_9 (ha_35 σ τ) (g1) ?_
  obtain ⟨rfl, rfl, rfl⟩ := os3 h
  exact mr_iret (pc := 10) rfl (rfl) dX6_get_10
set_option maxHeartbeats 4000000 in
set_option maxRecDepth 100000 in
theorem dc_Q_readsLoad_b51 : ∀ (x1 : Int32) (x2 : Int32) (s0 : Int32) (σ : mS) (τ : mT) (r : Int32) (σ' : mS) (τ' : mT), Q_readsLoad_b51 x1 x2 s0 σ τ = some (r, σ', τ') → mc_V M_X6_readsLoad 3 none 51 [.ref 34, .int x1, .int x2, .retAddr 0] [.int s0] (mc_hp σ τ) (some (.int r)) (mc_hp σ' τ') 0 0 := by
  intro x1 x2 s0 σ τ r σ' τ' h
  unfold Q_readsLoad_b51 at h
  refine mr_istore_n (pc := 51) dX6_readsLoad_51 (Nat.le_of_ble_eq_true rfl) (show mc_V M_X6_readsLoad 3 none 52 [.ref 34, .int x1, .int x2, .int s0] [] (mc_hp σ τ) (some (.int r)) (mc_hp σ' τ') 0 0 from ?_)
  refine mr_iload_n (pc := 52) dX6_readsLoad_52 rfl ?_
  refine mr_if_lt (pc := 53) 65 dX6_readsLoad_53 (by decide) (fun q1 => ?_) (fun q1 => ?_)
  · replace h := (if_pos q1).symm.trans h
    refine mr_iconstv (pc := 65) (0 : Int32) dX6_readsLoad_65 (by decide) ?_
    obtain ⟨rfl, rfl, rfl⟩ := os3 h
    exact mr_iret (pc := 66) rfl (rfl) dX6_readsLoad_66
  · replace h := (if_neg q1).symm.trans h
    refine mr_aload_n (pc := 56) dX6_readsLoad_56 rfl ?_
    refine mr_bipushv (pc := 57) (59 : Int32) dX6_readsLoad_57 (by decide) ?_
    obtain ⟨r2, σ2, τ2, c2, h⟩ := obs h
    refine mr_callV0 (pc := 59) (ci := 6) [.int (59 : Int32)] ok_X6_passes lk_161 st_X6_passes se_X6_passes dX6_readsLoad_59 rfl (ha_34 σ τ) rfl rfl (Nat.le_of_ble_eq_true rfl) (Nat.le_of_ble_eq_true rfl) ((dc_Q_passes c2).up (by decide)) ?_
    refine mr_if_ne (pc := 62) 67 dX6_readsLoad_62 (by decide) (fun q3 => ?_) (fun q3 => ?_)
    · replace h := (if_neg q3).symm.trans h
      refine mr_aload_n (pc := 67) dX6_readsLoad_67 rfl ?_
      refine mr_getf (pc := 68) (ci := 6) inX6 rfl 0 (by decide) fl_31 dX6_readsLoad_68 (ha_34 σ2 τ2) rfl ?_
      refine mr_iconstv (pc := 71) (5 : Int32) dX6_readsLoad_71 (by decide) ?_
      refine mr_iload_n (pc := 72) dX6_readsLoad_72 rfl ?_
      refine mr_imul (pc := 73) dX6_readsLoad_73 ?_
      refine mr_iconstv (pc := 74) (4 : Int32) dX6_readsLoad_74 (by decide) ?_
      refine mr_iadd (pc := 75) dX6_readsLoad_75 ?_
      refine mr_iload_n (pc := 76) dX6_readsLoad_76 rfl ?_
      obtain ⟨g4, h⟩ := og h
      obtain ⟨σ5, e5, h⟩ := ow h
      refine mr_iast (pc := 77) dX6_readsLoad_77 (ha_35 σ2 τ2) (g4) (mc_V.heap (hs_35 e5) ?_)
      refine mr_aload_n (pc := 78) dX6_readsLoad_78 rfl ?_
      refine mr_getf (pc := 79) (ci := 6) inX6 rfl 0 (by decide) fl_31 dX6_readsLoad_79 (ha_34 σ5 τ2) rfl ?_
      refine mr_iconstv (pc := 82) (5 : Int32) dX6_readsLoad_82 (by decide) ?_
      refine mr_iload_n (pc := 83) dX6_readsLoad_83 rfl ?_
      refine mr_imul (pc := 84) dX6_readsLoad_84 ?_
      refine mr_iconstv (pc := 85) (5 : Int32) dX6_readsLoad_85 (by decide) ?_
      refine mr_iadd (pc := 86) dX6_readsLoad_86 ?_
      refine mr_iload_n (pc := 87) dX6_readsLoad_87 rfl ?_
      obtain ⟨g6, h⟩ := og h
      obtain ⟨σ7, e7, h⟩ := ow h
      refine mr_iast (pc := 88) dX6_readsLoad_88 (ha_35 σ5 τ2) (g6) (mc_V.heap (hs_35 e7) ?_)
      refine mr_iconstv (pc := 89) (1 : Int32) dX6_readsLoad_89 (by decide) ?_
      obtain ⟨rfl, rfl, rfl⟩ := os3 h
      exact mr_iret (pc := 90) rfl (rfl) dX6_readsLoad_90
    · replace h := (if_pos q3).symm.trans h
      refine mr_iconstv (pc := 65) (0 : Int32) dX6_readsLoad_65 (by decide) ?_
      obtain ⟨rfl, rfl, rfl⟩ := os3 h
      exact mr_iret (pc := 66) rfl (rfl) dX6_readsLoad_66
set_option maxHeartbeats 4000000 in
set_option maxRecDepth 100000 in
theorem dc_Q_readsLoad_b35 : ∀ (x1 : Int32) (s0 : Int32) (σ : mS) (τ : mT) (r : Int32) (σ' : mS) (τ' : mT), Q_readsLoad_b35 x1 s0 σ τ = some (r, σ', τ') → mc_V M_X6_readsLoad 3 none 35 [.ref 34, .int x1, .retAddr 0, .retAddr 0] [.int s0] (mc_hp σ τ) (some (.int r)) (mc_hp σ' τ') 0 0 := by
  intro x1 s0 σ τ r σ' τ' h
  unfold Q_readsLoad_b35 at h
  refine mr_istore_n (pc := 35) dX6_readsLoad_35 (Nat.le_of_ble_eq_true rfl) (show mc_V M_X6_readsLoad 3 none 36 [.ref 34, .int x1, .int s0, .retAddr 0] [] (mc_hp σ τ) (some (.int r)) (mc_hp σ' τ') 0 0 from ?_)
  refine mr_iload_n (pc := 36) dX6_readsLoad_36 rfl ?_
  refine mr_if_ge (pc := 37) 44 dX6_readsLoad_37 (by decide) (fun q1 => ?_) (fun q1 => ?_)
  · replace h := (if_pos q1).symm.trans h
    refine mr_aload_n (pc := 44) dX6_readsLoad_44 rfl ?_
    refine mr_iconstv (pc := 45) (0 : Int32) dX6_readsLoad_45 (by decide) ?_
    refine mr_bipushv (pc := 46) (20 : Int32) dX6_readsLoad_46 (by decide) ?_
    obtain ⟨r2, σ2, τ2, c2, h⟩ := obs h
    refine mr_callV0 (pc := 48) (ci := 6) [.int (0 : Int32), .int (20 : Int32)] ok_X6_number lk_160 st_X6_number se_X6_number dX6_readsLoad_48 rfl (ha_34 σ τ) rfl rfl (Nat.le_of_ble_eq_true rfl) (Nat.le_of_ble_eq_true rfl) ((dc_Q_number c2).up (by decide)) ?_
    exact mc_V.locs (loc' := [.ref 34, .int x1, .int s0, .retAddr 0]) ⟨Or.inr rfl, Or.inr rfl, Or.inr rfl, Or.inl rfl, trivial⟩ (dc_Q_readsLoad_b51 x1 s0 r2 σ2 τ2 r σ' τ' h)
  · replace h := (if_neg q1).symm.trans h
    refine mr_iconstv (pc := 40) (-1 : Int32) dX6_readsLoad_40 (by decide) ?_
    refine mr_goto (pc := 41) 51 dX6_readsLoad_41 (by decide) ?_
    exact mc_V.locs (loc' := [.ref 34, .int x1, .int s0, .retAddr 0]) ⟨Or.inr rfl, Or.inr rfl, Or.inr rfl, Or.inl rfl, trivial⟩ (dc_Q_readsLoad_b51 x1 s0 (-1 : Int32) σ τ r σ' τ' h)
set_option maxHeartbeats 4000000 in
set_option maxRecDepth 100000 in
theorem dc_Q_readsLoad {σ : mS} {τ : mT} {r : Int32} {σ' : mS} {τ' : mT} (h : Q_readsLoad σ τ = some (r, σ', τ')) : mc_V M_X6_readsLoad 3 none 0 (mc_entry [.ref 34] 4) [] (mc_hp σ τ) (some (.int r)) (mc_hp σ' τ') 0 0 := by
  unfold Q_readsLoad at h
  show mc_V M_X6_readsLoad 3 none 0 [.ref 34, .retAddr 0, .retAddr 0, .retAddr 0] [] (mc_hp σ τ) (some (.int r)) (mc_hp σ' τ') 0 0
  refine mr_aload_n (pc := 0) dX6_readsLoad_0 rfl ?_
  refine mr_iconstv (pc := 1) (0 : Int32) dX6_readsLoad_1 (by decide) ?_
  refine mr_aload_n (pc := 2) dX6_readsLoad_2 rfl ?_
  refine mr_getf (pc := 3) (ci := 6) inX6 rfl 0 (by decide) fl_31 dX6_readsLoad_3 (ha_34 σ τ) rfl ?_
  refine mr_iconstv (pc := 6) (0 : Int32) dX6_readsLoad_6 (by decide) ?_
  refine mr_iald (pc := 7) dX6_readsLoad_7 (ha_35 σ τ) (vin_ok rfl) ?_
  refine mr_iconstv (pc := 8) (1 : Int32) dX6_readsLoad_8 (by decide) ?_
  refine mr_isub (pc := 9) dX6_readsLoad_9 ?_
  obtain ⟨r1, σ1, τ1, c1, h⟩ := obs h
  refine mr_callV0 (pc := 10) (ci := 6) [.int (0 : Int32), .int ((σ 35 0) - (1 : Int32))] ok_X6_number lk_160 st_X6_number se_X6_number dX6_readsLoad_10 rfl (ha_34 σ τ) rfl rfl (Nat.le_of_ble_eq_true rfl) (Nat.le_of_ble_eq_true rfl) ((dc_Q_number c1).up (by decide)) ?_
  refine mr_istore_n (pc := 13) dX6_readsLoad_13 (Nat.le_of_ble_eq_true rfl) (show mc_V M_X6_readsLoad 3 none 14 [.ref 34, .int r1, .retAddr 0, .retAddr 0] [] (mc_hp σ1 τ1) (some (.int r)) (mc_hp σ' τ') 0 0 from ?_)
  refine mr_iload_n (pc := 14) dX6_readsLoad_14 rfl ?_
  refine mr_if_ge (pc := 15) 22 dX6_readsLoad_15 (by decide) (fun q2 => ?_) (fun q2 => ?_)
  · replace h := (if_pos q2).symm.trans h
    refine mr_aload_n (pc := 22) dX6_readsLoad_22 rfl ?_
    refine mr_iconstv (pc := 23) (0 : Int32) dX6_readsLoad_23 (by decide) ?_
    refine mr_iconstv (pc := 24) (2 : Int32) dX6_readsLoad_24 (by decide) ?_
    refine mr_aload_n (pc := 25) dX6_readsLoad_25 rfl ?_
    refine mr_iload_n (pc := 26) dX6_readsLoad_26 rfl ?_
    refine mr_iconstv (pc := 27) (2 : Int32) dX6_readsLoad_27 (by decide) ?_
    obtain ⟨r3, σ3, τ3, c3, h⟩ := obs h
    refine mr_callV0 (pc := 28) (ci := 6) [.int r1, .int (2 : Int32)] ok_X6_get lk_132 st_X6_get se_X6_get dX6_readsLoad_28 rfl (ha_34 σ1 τ1) rfl rfl (Nat.le_of_ble_eq_true rfl) (Nat.le_of_ble_eq_true rfl) ((dc_Q_get c3).up (by decide)) ?_
    refine mr_imul (pc := 31) dX6_readsLoad_31 ?_
    obtain ⟨r4, σ4, τ4, c4, h⟩ := obs h
    refine mr_callV0 (pc := 32) (ci := 6) [.int (0 : Int32), .int ((2 : Int32) * r3)] ok_X6_number lk_160 st_X6_number se_X6_number dX6_readsLoad_32 rfl (ha_34 σ3 τ3) rfl rfl (Nat.le_of_ble_eq_true rfl) (Nat.le_of_ble_eq_true rfl) ((dc_Q_number c4).up (by decide)) ?_
    exact mc_V.locs (loc' := [.ref 34, .int r1, .retAddr 0, .retAddr 0]) ⟨Or.inr rfl, Or.inr rfl, Or.inl rfl, Or.inl rfl, trivial⟩ (dc_Q_readsLoad_b35 r1 r4 σ4 τ4 r σ' τ' h)
  · replace h := (if_neg q2).symm.trans h
    refine mr_iconstv (pc := 18) (-1 : Int32) dX6_readsLoad_18 (by decide) ?_
    refine mr_goto (pc := 19) 35 dX6_readsLoad_19 (by decide) ?_
    exact mc_V.locs (loc' := [.ref 34, .int r1, .retAddr 0, .retAddr 0]) ⟨Or.inr rfl, Or.inr rfl, Or.inl rfl, Or.inl rfl, trivial⟩ (dc_Q_readsLoad_b35 r1 (-1 : Int32) σ1 τ1 r σ' τ' h)
set_option maxHeartbeats 4000000 in
set_option maxRecDepth 100000 in
theorem dc_Q_appends {p1 : Int32} {p2 : Int32} {p3 : Int32} {σ : mS} {τ : mT} {σ' : mS} {τ' : mT} (h : Q_appends p1 p2 p3 σ τ = some (σ', τ')) : mc_V M_X6_appends 0 none 0 (mc_entry [.ref 34, .int p1, .int p2, .int p3] 5) [] (mc_hp σ τ) none (mc_hp σ' τ') 0 0 := by
  unfold Q_appends at h
  show mc_V M_X6_appends 0 none 0 [.ref 34, .int p1, .int p2, .int p3, .retAddr 0] [] (mc_hp σ τ) none (mc_hp σ' τ') 0 0
  refine mr_iconstv (pc := 0) (5 : Int32) dX6_appends_0 (by decide) ?_
  refine mr_aload_n (pc := 1) dX6_appends_1 rfl ?_
  refine mr_getf (pc := 2) (ci := 6) inX6 rfl 0 (by decide) fl_31 dX6_appends_2 (ha_34 σ τ) rfl ?_
  refine mr_iconstv (pc := 5) (0 : Int32) dX6_appends_5 (by decide) ?_
  refine mr_iald (pc := 6) dX6_appends_6 (ha_35 σ τ) (vin_ok rfl) ?_
  refine mr_imul (pc := 7) dX6_appends_7 ?_
  refine mr_istore (pc := 8) dX6_appends_8 (Nat.le_of_ble_eq_true rfl) (show mc_V M_X6_appends 0 none 10 [.ref 34, .int p1, .int p2, .int p3, .int ((5 : Int32) * (σ 35 0))] [] (mc_hp σ τ) none (mc_hp σ' τ') 0 0 from ?_)
  refine mr_aload_n (pc := 10) dX6_appends_10 rfl ?_
  refine mr_getf (pc := 11) (ci := 6) inX6 rfl 0 (by decide) fl_31 dX6_appends_11 (ha_34 σ τ) rfl ?_
  refine mr_iload (pc := 14) dX6_appends_14 rfl ?_
  refine mr_iconstv (pc := 16) (1 : Int32) dX6_appends_16 (by decide) ?_
  refine mr_iadd (pc := 17) dX6_appends_17 ?_
  refine mr_iload_n (pc := 18) dX6_appends_18 rfl ?_
  obtain ⟨g1, h⟩ := og h
  obtain ⟨σ2, e2, h⟩ := ow h
  refine mr_iast (pc := 19) dX6_appends_19 (ha_35 σ τ) (g1) (mc_V.heap (hs_35 e2) ?_)
  refine mr_aload_n (pc := 20) dX6_appends_20 rfl ?_
  refine mr_getf (pc := 21) (ci := 6) inX6 rfl 0 (by decide) fl_31 dX6_appends_21 (ha_34 σ2 τ) rfl ?_
  refine mr_iload (pc := 24) dX6_appends_24 rfl ?_
  refine mr_iconstv (pc := 26) (2 : Int32) dX6_appends_26 (by decide) ?_
  refine mr_iadd (pc := 27) dX6_appends_27 ?_
  refine mr_iload_n (pc := 28) dX6_appends_28 rfl ?_
  obtain ⟨g3, h⟩ := og h
  obtain ⟨σ4, e4, h⟩ := ow h
  refine mr_iast (pc := 29) dX6_appends_29 (ha_35 σ2 τ) (g3) (mc_V.heap (hs_35 e4) ?_)
  refine mr_aload_n (pc := 30) dX6_appends_30 rfl ?_
  refine mr_getf (pc := 31) (ci := 6) inX6 rfl 0 (by decide) fl_31 dX6_appends_31 (ha_34 σ4 τ) rfl ?_
  refine mr_iload (pc := 34) dX6_appends_34 rfl ?_
  refine mr_iconstv (pc := 36) (3 : Int32) dX6_appends_36 (by decide) ?_
  refine mr_iadd (pc := 37) dX6_appends_37 ?_
  refine mr_iload_n (pc := 38) dX6_appends_38 rfl ?_
  obtain ⟨g5, h⟩ := og h
  obtain ⟨σ6, e6, h⟩ := ow h
  refine mr_iast (pc := 39) dX6_appends_39 (ha_35 σ4 τ) (g5) (mc_V.heap (hs_35 e6) ?_)
  refine mr_aload_n (pc := 40) dX6_appends_40 rfl ?_
  refine mr_getf (pc := 41) (ci := 6) inX6 rfl 0 (by decide) fl_31 dX6_appends_41 (ha_34 σ6 τ) rfl ?_
  refine mr_iload (pc := 44) dX6_appends_44 rfl ?_
  refine mr_iconstv (pc := 46) (4 : Int32) dX6_appends_46 (by decide) ?_
  refine mr_iadd (pc := 47) dX6_appends_47 ?_
  refine mr_iconstv (pc := 48) (0 : Int32) dX6_appends_48 (by decide) ?_
  obtain ⟨g7, h⟩ := og h
  obtain ⟨σ8, e8, h⟩ := ow h
  refine mr_iast (pc := 49) dX6_appends_49 (ha_35 σ6 τ) (g7) (mc_V.heap (hs_35 e8) ?_)
  refine mr_aload_n (pc := 50) dX6_appends_50 rfl ?_
  refine mr_getf (pc := 51) (ci := 6) inX6 rfl 0 (by decide) fl_31 dX6_appends_51 (ha_34 σ8 τ) rfl ?_
  refine mr_iload (pc := 54) dX6_appends_54 rfl ?_
  refine mr_iconstv (pc := 56) (5 : Int32) dX6_appends_56 (by decide) ?_
  refine mr_iadd (pc := 57) dX6_appends_57 ?_
  refine mr_iconstv (pc := 58) (0 : Int32) dX6_appends_58 (by decide) ?_
  obtain ⟨g9, h⟩ := og h
  obtain ⟨σ10, e10, h⟩ := ow h
  refine mr_iast (pc := 59) dX6_appends_59 (ha_35 σ8 τ) (g9) (mc_V.heap (hs_35 e10) ?_)
  refine mr_aload_n (pc := 60) dX6_appends_60 rfl ?_
  refine mr_getf (pc := 61) (ci := 6) inX6 rfl 0 (by decide) fl_31 dX6_appends_61 (ha_34 σ10 τ) rfl ?_
  refine mr_iconstv (pc := 64) (0 : Int32) dX6_appends_64 (by decide) ?_
  refine mr_dup2 (pc := 65) dX6_appends_65 rfl rfl ?_
  refine mr_iald (pc := 66) dX6_appends_66 (ha_35 σ10 τ) (vin_ok rfl) ?_
  refine mr_iconstv (pc := 67) (1 : Int32) dX6_appends_67 (by decide) ?_
  refine mr_iadd (pc := 68) dX6_appends_68 ?_
  obtain ⟨σ11, e11, h⟩ := ow h
  refine mr_iast (pc := 69) dX6_appends_69 (ha_35 σ10 τ) (vin_ok rfl) (mc_V.heap (hs_35 e11) ?_)
  obtain ⟨rfl, rfl⟩ := os2 h
  exact mr_ret (pc := 70) rfl dX6_appends_70
set_option maxHeartbeats 4000000 in
set_option maxRecDepth 100000 in
theorem dc_Q_readsBlock_b50 : ∀ (x1 : Int32) (x2 : Int32) (s0 : Int32) (σ : mS) (τ : mT) (r : Int32) (σ' : mS) (τ' : mT), Q_readsBlock_b50 x1 x2 s0 σ τ = some (r, σ', τ') → mc_V M_X6_readsBlock 3 none 50 [.ref 34, .int x1, .int x2, .retAddr 0] [.int s0] (mc_hp σ τ) (some (.int r)) (mc_hp σ' τ') 0 0 := by
  intro x1 x2 s0 σ τ r σ' τ' h
  unfold Q_readsBlock_b50 at h
  refine mr_istore_n (pc := 50) dX6_readsBlock_50 (Nat.le_of_ble_eq_true rfl) (show mc_V M_X6_readsBlock 3 none 51 [.ref 34, .int x1, .int x2, .int s0] [] (mc_hp σ τ) (some (.int r)) (mc_hp σ' τ') 0 0 from ?_)
  refine mr_iload_n (pc := 51) dX6_readsBlock_51 rfl ?_
  refine mr_if_lt (pc := 52) 64 dX6_readsBlock_52 (by decide) (fun q1 => ?_) (fun q1 => ?_)
  · replace h := (if_pos q1).symm.trans h
    refine mr_iconstv (pc := 64) (0 : Int32) dX6_readsBlock_64 (by decide) ?_
    obtain ⟨rfl, rfl, rfl⟩ := os3 h
    exact mr_iret (pc := 65) rfl (rfl) dX6_readsBlock_65
  · replace h := (if_neg q1).symm.trans h
    refine mr_aload_n (pc := 55) dX6_readsBlock_55 rfl ?_
    refine mr_bipushv (pc := 56) (59 : Int32) dX6_readsBlock_56 (by decide) ?_
    obtain ⟨r2, σ2, τ2, c2, h⟩ := obs h
    refine mr_callV0 (pc := 58) (ci := 6) [.int (59 : Int32)] ok_X6_passes lk_161 st_X6_passes se_X6_passes dX6_readsBlock_58 rfl (ha_34 σ τ) rfl rfl (Nat.le_of_ble_eq_true rfl) (Nat.le_of_ble_eq_true rfl) ((dc_Q_passes c2).up (by decide)) ?_
    refine mr_if_ne (pc := 61) 66 dX6_readsBlock_61 (by decide) (fun q3 => ?_) (fun q3 => ?_)
    · replace h := (if_neg q3).symm.trans h
      refine mr_aload_n (pc := 66) dX6_readsBlock_66 rfl ?_
      refine mr_iload_n (pc := 67) dX6_readsBlock_67 rfl ?_
      refine mr_iload_n (pc := 68) dX6_readsBlock_68 rfl ?_
      refine mr_iload_n (pc := 69) dX6_readsBlock_69 rfl ?_
      obtain ⟨σ4, τ4, c4, h⟩ := ovs h
      refine mr_callV0 (pc := 70) (ci := 6) [.int x1, .int x2, .int s0] ok_X6_appends lk_162 st_X6_appends se_X6_appends dX6_readsBlock_70 rfl (ha_34 σ2 τ2) rfl rfl (Nat.le_of_ble_eq_true rfl) (Nat.le_of_ble_eq_true rfl) ((dc_Q_appends c4).up (by decide)) ?_
      refine mr_iconstv (pc := 73) (1 : Int32) dX6_readsBlock_73 (by decide) ?_
      obtain ⟨rfl, rfl, rfl⟩ := os3 h
      exact mr_iret (pc := 74) rfl (rfl) dX6_readsBlock_74
    · replace h := (if_pos q3).symm.trans h
      refine mr_iconstv (pc := 64) (0 : Int32) dX6_readsBlock_64 (by decide) ?_
      obtain ⟨rfl, rfl, rfl⟩ := os3 h
      exact mr_iret (pc := 65) rfl (rfl) dX6_readsBlock_65
set_option maxHeartbeats 4000000 in
set_option maxRecDepth 100000 in
theorem dc_Q_readsBlock_b34 : ∀ (x1 : Int32) (s0 : Int32) (σ : mS) (τ : mT) (r : Int32) (σ' : mS) (τ' : mT), Q_readsBlock_b34 x1 s0 σ τ = some (r, σ', τ') → mc_V M_X6_readsBlock 3 none 34 [.ref 34, .int x1, .retAddr 0, .retAddr 0] [.int s0] (mc_hp σ τ) (some (.int r)) (mc_hp σ' τ') 0 0 := by
  intro x1 s0 σ τ r σ' τ' h
  unfold Q_readsBlock_b34 at h
  refine mr_istore_n (pc := 34) dX6_readsBlock_34 (Nat.le_of_ble_eq_true rfl) (show mc_V M_X6_readsBlock 3 none 35 [.ref 34, .int x1, .int s0, .retAddr 0] [] (mc_hp σ τ) (some (.int r)) (mc_hp σ' τ') 0 0 from ?_)
  refine mr_iload_n (pc := 35) dX6_readsBlock_35 rfl ?_
  refine mr_if_ge (pc := 36) 43 dX6_readsBlock_36 (by decide) (fun q1 => ?_) (fun q1 => ?_)
  · replace h := (if_pos q1).symm.trans h
    refine mr_aload_n (pc := 43) dX6_readsBlock_43 rfl ?_
    refine mr_iconstv (pc := 44) (1 : Int32) dX6_readsBlock_44 (by decide) ?_
    refine mr_bipushv (pc := 45) (9 : Int32) dX6_readsBlock_45 (by decide) ?_
    obtain ⟨r2, σ2, τ2, c2, h⟩ := obs h
    refine mr_callV0 (pc := 47) (ci := 6) [.int (1 : Int32), .int (9 : Int32)] ok_X6_number lk_160 st_X6_number se_X6_number dX6_readsBlock_47 rfl (ha_34 σ τ) rfl rfl (Nat.le_of_ble_eq_true rfl) (Nat.le_of_ble_eq_true rfl) ((dc_Q_number c2).up (by decide)) ?_
    exact mc_V.locs (loc' := [.ref 34, .int x1, .int s0, .retAddr 0]) ⟨Or.inr rfl, Or.inr rfl, Or.inr rfl, Or.inl rfl, trivial⟩ (dc_Q_readsBlock_b50 x1 s0 r2 σ2 τ2 r σ' τ' h)
  · replace h := (if_neg q1).symm.trans h
    refine mr_iconstv (pc := 39) (-1 : Int32) dX6_readsBlock_39 (by decide) ?_
    refine mr_goto (pc := 40) 50 dX6_readsBlock_40 (by decide) ?_
    exact mc_V.locs (loc' := [.ref 34, .int x1, .int s0, .retAddr 0]) ⟨Or.inr rfl, Or.inr rfl, Or.inr rfl, Or.inl rfl, trivial⟩ (dc_Q_readsBlock_b50 x1 s0 (-1 : Int32) σ τ r σ' τ' h)
set_option maxHeartbeats 4000000 in
set_option maxRecDepth 100000 in
theorem dc_Q_readsBlock {σ : mS} {τ : mT} {r : Int32} {σ' : mS} {τ' : mT} (h : Q_readsBlock σ τ = some (r, σ', τ')) : mc_V M_X6_readsBlock 3 none 0 (mc_entry [.ref 34] 4) [] (mc_hp σ τ) (some (.int r)) (mc_hp σ' τ') 0 0 := by
  unfold Q_readsBlock at h
  show mc_V M_X6_readsBlock 3 none 0 [.ref 34, .retAddr 0, .retAddr 0, .retAddr 0] [] (mc_hp σ τ) (some (.int r)) (mc_hp σ' τ') 0 0
  refine mr_aload_n (pc := 0) dX6_readsBlock_0 rfl ?_
  refine mr_getf (pc := 1) (ci := 6) inX6 rfl 0 (by decide) fl_31 dX6_readsBlock_1 (ha_34 σ τ) rfl ?_
  refine mr_iconstv (pc := 4) (0 : Int32) dX6_readsBlock_4 (by decide) ?_
  refine mr_iald (pc := 5) dX6_readsBlock_5 (ha_35 σ τ) (vin_ok rfl) ?_
  refine mr_iconstv (pc := 6) (4 : Int32) dX6_readsBlock_6 (by decide) ?_
  refine mr_icmp_ne (pc := 7) 12 dX6_readsBlock_7 (by decide) (fun q1 => ?_) (fun q1 => ?_)
  · replace h := (if_neg q1).symm.trans h
    refine mr_aload_n (pc := 12) dX6_readsBlock_12 rfl ?_
    refine mr_iconstv (pc := 13) (0 : Int32) dX6_readsBlock_13 (by decide) ?_
    refine mr_bipushv (pc := 14) (9 : Int32) dX6_readsBlock_14 (by decide) ?_
    obtain ⟨r2, σ2, τ2, c2, h⟩ := obs h
    refine mr_callV0 (pc := 16) (ci := 6) [.int (0 : Int32), .int (9 : Int32)] ok_X6_number lk_160 st_X6_number se_X6_number dX6_readsBlock_16 rfl (ha_34 σ τ) rfl rfl (Nat.le_of_ble_eq_true rfl) (Nat.le_of_ble_eq_true rfl) ((dc_Q_number c2).up (by decide)) ?_
    refine mr_istore_n (pc := 19) dX6_readsBlock_19 (Nat.le_of_ble_eq_true rfl) (show mc_V M_X6_readsBlock 3 none 20 [.ref 34, .int r2, .retAddr 0, .retAddr 0] [] (mc_hp σ2 τ2) (some (.int r)) (mc_hp σ' τ') 0 0 from ?_)
    refine mr_iload_n (pc := 20) dX6_readsBlock_20 rfl ?_
    refine mr_if_ge (pc := 21) 28 dX6_readsBlock_21 (by decide) (fun q3 => ?_) (fun q3 => ?_)
    · replace h := (if_pos q3).symm.trans h
      refine mr_aload_n (pc := 28) dX6_readsBlock_28 rfl ?_
      refine mr_iconstv (pc := 29) (1 : Int32) dX6_readsBlock_29 (by decide) ?_
      refine mr_iconstv (pc := 30) (3 : Int32) dX6_readsBlock_30 (by decide) ?_
      obtain ⟨r4, σ4, τ4, c4, h⟩ := obs h
      refine mr_callV0 (pc := 31) (ci := 6) [.int (1 : Int32), .int (3 : Int32)] ok_X6_number lk_160 st_X6_number se_X6_number dX6_readsBlock_31 rfl (ha_34 σ2 τ2) rfl rfl (Nat.le_of_ble_eq_true rfl) (Nat.le_of_ble_eq_true rfl) ((dc_Q_number c4).up (by decide)) ?_
      exact mc_V.locs (loc' := [.ref 34, .int r2, .retAddr 0, .retAddr 0]) ⟨Or.inr rfl, Or.inr rfl, Or.inl rfl, Or.inl rfl, trivial⟩ (dc_Q_readsBlock_b34 r2 r4 σ4 τ4 r σ' τ' h)
    · replace h := (if_neg q3).symm.trans h
      refine mr_iconstv (pc := 24) (-1 : Int32) dX6_readsBlock_24 (by decide) ?_
      refine mr_goto (pc := 25) 34 dX6_readsBlock_25 (by decide) ?_
      exact mc_V.locs (loc' := [.ref 34, .int r2, .retAddr 0, .retAddr 0]) ⟨Or.inr rfl, Or.inr rfl, Or.inl rfl, Or.inl rfl, trivial⟩ (dc_Q_readsBlock_b34 r2 (-1 : Int32) σ2 τ2 r σ' τ' h)
  · replace h := (if_pos q1).symm.trans h
    refine mr_iconstv (pc := 10) (0 : Int32) dX6_readsBlock_10 (by decide) ?_
    obtain ⟨rfl, rfl, rfl⟩ := os3 h
    exact mr_iret (pc := 11) rfl (rfl) dX6_readsBlock_11
set_option maxHeartbeats 4000000 in
set_option maxRecDepth 100000 in
theorem dc_Q_reads_b69 (k21 : mS → mT → Option (Int32 × mS × mT)) (hk21 : ∀ (σ : mS) (τ : mT) (r : Int32) (σ' : mS) (τ' : mT), k21 σ τ = some (r, σ', τ') → mc_V M_X6_reads 4 none 21 [.ref 34, .retAddr 0] [] (mc_hp σ τ) (some (.int r)) (mc_hp σ' τ') 0 0) : ∀ (s0 : Int32) (σ : mS) (τ : mT) (r : Int32) (σ' : mS) (τ' : mT), Q_reads_b69 k21 s0 σ τ = some (r, σ', τ') → mc_V M_X6_reads 4 none 69 [.ref 34, .retAddr 0] [.int s0] (mc_hp σ τ) (some (.int r)) (mc_hp σ' τ') 0 0 := by
  intro s0 σ τ r σ' τ' h
  unfold Q_reads_b69 at h
  refine mr_istore_n (pc := 69) dX6_reads_69 (Nat.le_of_ble_eq_true rfl) (show mc_V M_X6_reads 4 none 70 [.ref 34, .int s0] [] (mc_hp σ τ) (some (.int r)) (mc_hp σ' τ') 0 0 from ?_)
  refine mr_iload_n (pc := 70) dX6_reads_70 rfl ?_
  refine mr_if_ne (pc := 71) 76 dX6_reads_71 (by decide) (fun q1 => ?_) (fun q1 => ?_)
  · replace h := (if_neg q1).symm.trans h
    refine mr_aload_n (pc := 76) dX6_reads_76 rfl ?_
    refine mr_dup (pc := 77) dX6_reads_77 rfl ?_
    refine mr_getf (pc := 78) (ci := 6) inX6 rfl 25 (by decide) fl_56 dX6_reads_78 (ha_34 σ τ) rfl ?_
    refine mr_iconstv (pc := 81) (1 : Int32) dX6_reads_81 (by decide) ?_
    refine mr_iadd (pc := 82) dX6_reads_82 ?_
    obtain ⟨σ2, e2, h⟩ := ow h
    refine mr_putf (pc := 83) (ci := 6) inX6 tyX6 tyX6_ok nmX6 rfl 25 (by decide) fl_56 rfl dX6_reads_83 (ha_34 σ τ) (Nat.le_of_ble_eq_true rfl) rfl (mc_V.heap (hs_34_25 e2) ?_)
    refine mr_aload_n (pc := 86) dX6_reads_86 rfl ?_
    obtain ⟨σ3, τ3, c3, h⟩ := ovs h
    refine mr_callV0 (pc := 87) (ci := 6) [] ok_X6_skips lk_158 st_X6_skips se_X6_skips dX6_reads_87 rfl (ha_34 σ2 τ) rfl rfl (Nat.le_of_ble_eq_true rfl) (Nat.le_of_ble_eq_true rfl) ((dc_Q_skips c3).up (by decide)) ?_
    refine mr_goto (pc := 90) 21 dX6_reads_90 (by decide) ?_
    exact mc_V.locs (loc' := [.ref 34, .retAddr 0]) ⟨Or.inr rfl, Or.inl rfl, trivial⟩ (hk21 σ3 τ3 r σ' τ' h)
  · replace h := (if_pos q1).symm.trans h
    refine mr_iconstv (pc := 74) (0 : Int32) dX6_reads_74 (by decide) ?_
    obtain ⟨rfl, rfl, rfl⟩ := os3 h
    exact mr_iret (pc := 75) rfl (rfl) dX6_reads_75
set_option maxHeartbeats 4000000 in
set_option maxRecDepth 100000 in
theorem dc_Q_reads_b68 (k21 : mS → mT → Option (Int32 × mS × mT)) (hk21 : ∀ (σ : mS) (τ : mT) (r : Int32) (σ' : mS) (τ' : mT), k21 σ τ = some (r, σ', τ') → mc_V M_X6_reads 4 none 21 [.ref 34, .retAddr 0] [] (mc_hp σ τ) (some (.int r)) (mc_hp σ' τ') 0 0) : ∀ (σ : mS) (τ : mT) (r : Int32) (σ' : mS) (τ' : mT), Q_reads_b68 k21 σ τ = some (r, σ', τ') → mc_V M_X6_reads 4 none 68 [.ref 34, .retAddr 0] [] (mc_hp σ τ) (some (.int r)) (mc_hp σ' τ') 0 0 := by
  intro σ τ r σ' τ' h
  unfold Q_reads_b68 at h
  refine mr_iconstv (pc := 68) (0 : Int32) dX6_reads_68 (by decide) ?_
  exact mc_V.locs (loc' := [.ref 34, .retAddr 0]) ⟨Or.inr rfl, Or.inl rfl, trivial⟩ (dc_Q_reads_b69 k21 hk21 (0 : Int32) σ τ r σ' τ' h)
set_option maxHeartbeats 4000000 in
set_option maxRecDepth 100000 in
theorem dc_Q_reads_l21 : ∀ (n : Nat), ∀ (σ : mS) (τ : mT) (r : Int32) (σ' : mS) (τ' : mT), Q_reads_l21 n σ τ = some (r, σ', τ') → mc_V M_X6_reads 4 none 21 [.ref 34, .retAddr 0] [] (mc_hp σ τ) (some (.int r)) (mc_hp σ' τ') 0 0 := by
  intro n
  induction n with
  | zero =>
    intros
    rename_i h
    cases h
  | succ n ih =>
    intro σ τ r σ' τ' h
    refine mr_aload_n (pc := 21) dX6_reads_21 rfl ?_
    refine mr_getf (pc := 22) (ci := 6) inX6 rfl 23 (by decide) fl_53 dX6_reads_22 (ha_34 σ τ) rfl ?_
    refine mr_aload_n (pc := 25) dX6_reads_25 rfl ?_
    refine mr_getf (pc := 26) (ci := 6) inX6 rfl 6 (by decide) fl_54 dX6_reads_26 (ha_34 σ τ) rfl ?_
    refine mr_icmp_ge (pc := 29) 93 dX6_reads_29 (by decide) (fun q1 => ?_) (fun q1 => ?_)
    · replace h := (if_pos q1).symm.trans h
      refine mr_iconstv (pc := 93) (1 : Int32) dX6_reads_93 (by decide) ?_
      obtain ⟨rfl, rfl, rfl⟩ := os3 h
      exact mr_iret (pc := 94) rfl (rfl) dX6_reads_94
    · replace h := (if_neg q1).symm.trans h
      refine mr_aload_n (pc := 32) dX6_reads_32 rfl ?_
      refine mr_bipushv (pc := 33) (98 : Int32) dX6_reads_33 (by decide) ?_
      obtain ⟨r2, σ2, τ2, c2, h⟩ := obs h
      refine mr_callV0 (pc := 35) (ci := 6) [.int (98 : Int32)] ok_X6_passes lk_161 st_X6_passes se_X6_passes dX6_reads_35 rfl (ha_34 σ τ) rfl rfl (Nat.le_of_ble_eq_true rfl) (Nat.le_of_ble_eq_true rfl) ((dc_Q_passes c2).up (by decide)) ?_
      refine mr_if_eq (pc := 38) 48 dX6_reads_38 (by decide) (fun q3 => ?_) (fun q3 => ?_)
      · replace h := (if_pos q3).symm.trans h
        refine mr_aload_n (pc := 48) dX6_reads_48 rfl ?_
        refine mr_bipushv (pc := 49) (108 : Int32) dX6_reads_49 (by decide) ?_
        obtain ⟨r4, σ4, τ4, c4, h⟩ := obs h
        refine mr_callV0 (pc := 51) (ci := 6) [.int (108 : Int32)] ok_X6_passes lk_161 st_X6_passes se_X6_passes dX6_reads_51 rfl (ha_34 σ2 τ2) rfl rfl (Nat.le_of_ble_eq_true rfl) (Nat.le_of_ble_eq_true rfl) ((dc_Q_passes c4).up (by decide)) ?_
        refine mr_if_eq (pc := 54) 68 dX6_reads_54 (by decide) (fun q5 => ?_) (fun q5 => ?_)
        · replace h := (if_pos q5).symm.trans h
          exact mc_V.locs (loc' := [.ref 34, .retAddr 0]) ⟨Or.inr rfl, Or.inl rfl, trivial⟩ (dc_Q_reads_b68 (Q_reads_l21 n) ih σ4 τ4 r σ' τ' h)
        · replace h := (if_neg q5).symm.trans h
          refine mr_aload_n (pc := 57) dX6_reads_57 rfl ?_
          obtain ⟨r6, σ6, τ6, c6, h⟩ := obs h
          refine mr_callV0 (pc := 58) (ci := 6) [] ok_X6_readsLoad lk_164 st_X6_readsLoad se_X6_readsLoad dX6_reads_58 rfl (ha_34 σ4 τ4) rfl rfl (Nat.le_of_ble_eq_true rfl) (Nat.le_of_ble_eq_true rfl) ((dc_Q_readsLoad c6).up (by decide)) ?_
          refine mr_if_eq (pc := 61) 68 dX6_reads_61 (by decide) (fun q7 => ?_) (fun q7 => ?_)
          · replace h := (if_pos q7).symm.trans h
            exact mc_V.locs (loc' := [.ref 34, .retAddr 0]) ⟨Or.inr rfl, Or.inl rfl, trivial⟩ (dc_Q_reads_b68 (Q_reads_l21 n) ih σ6 τ6 r σ' τ' h)
          · replace h := (if_neg q7).symm.trans h
            refine mr_iconstv (pc := 64) (1 : Int32) dX6_reads_64 (by decide) ?_
            refine mr_goto (pc := 65) 69 dX6_reads_65 (by decide) ?_
            exact mc_V.locs (loc' := [.ref 34, .retAddr 0]) ⟨Or.inr rfl, Or.inl rfl, trivial⟩ (dc_Q_reads_b69 (Q_reads_l21 n) ih (1 : Int32) σ6 τ6 r σ' τ' h)
      · replace h := (if_neg q3).symm.trans h
        refine mr_aload_n (pc := 41) dX6_reads_41 rfl ?_
        obtain ⟨r8, σ8, τ8, c8, h⟩ := obs h
        refine mr_callV0 (pc := 42) (ci := 6) [] ok_X6_readsBlock lk_163 st_X6_readsBlock se_X6_readsBlock dX6_reads_42 rfl (ha_34 σ2 τ2) rfl rfl (Nat.le_of_ble_eq_true rfl) (Nat.le_of_ble_eq_true rfl) ((dc_Q_readsBlock c8).up (by decide)) ?_
        refine mr_goto (pc := 45) 69 dX6_reads_45 (by decide) ?_
        exact mc_V.locs (loc' := [.ref 34, .retAddr 0]) ⟨Or.inr rfl, Or.inl rfl, trivial⟩ (dc_Q_reads_b69 (Q_reads_l21 n) ih r8 σ8 τ8 r σ' τ' h)
set_option maxHeartbeats 4000000 in
set_option maxRecDepth 100000 in
theorem dc_Q_reads {σ : mS} {τ : mT} {r : Int32} {σ' : mS} {τ' : mT} (h : Q_reads σ τ = some (r, σ', τ')) : mc_V M_X6_reads 4 none 0 (mc_entry [.ref 34] 2) [] (mc_hp σ τ) (some (.int r)) (mc_hp σ' τ') 0 0 := by
  unfold Q_reads at h
  show mc_V M_X6_reads 4 none 0 [.ref 34, .retAddr 0] [] (mc_hp σ τ) (some (.int r)) (mc_hp σ' τ') 0 0
  refine mr_aload_n (pc := 0) dX6_reads_0 rfl ?_
  refine mr_iconstv (pc := 1) (0 : Int32) dX6_reads_1 (by decide) ?_
  obtain ⟨σ1, e1, h⟩ := ow h
  refine mr_putf (pc := 2) (ci := 6) inX6 tyX6 tyX6_ok nmX6 rfl 23 (by decide) fl_53 rfl dX6_reads_2 (ha_34 σ τ) (Nat.le_of_ble_eq_true rfl) rfl (mc_V.heap (hs_34_23 e1) ?_)
  refine mr_aload_n (pc := 5) dX6_reads_5 rfl ?_
  refine mr_iconstv (pc := 6) (0 : Int32) dX6_reads_6 (by decide) ?_
  obtain ⟨σ2, e2, h⟩ := ow h
  refine mr_putf (pc := 7) (ci := 6) inX6 tyX6 tyX6_ok nmX6 rfl 25 (by decide) fl_56 rfl dX6_reads_7 (ha_34 σ1 τ) (Nat.le_of_ble_eq_true rfl) rfl (mc_V.heap (hs_34_25 e2) ?_)
  refine mr_aload_n (pc := 10) dX6_reads_10 rfl ?_
  refine mr_getf (pc := 11) (ci := 6) inX6 rfl 0 (by decide) fl_31 dX6_reads_11 (ha_34 σ2 τ) rfl ?_
  refine mr_iconstv (pc := 14) (0 : Int32) dX6_reads_14 (by decide) ?_
  refine mr_iconstv (pc := 15) (0 : Int32) dX6_reads_15 (by decide) ?_
  obtain ⟨σ3, e3, h⟩ := ow h
  refine mr_iast (pc := 16) dX6_reads_16 (ha_35 σ2 τ) (vin_ok rfl) (mc_V.heap (hs_35 e3) ?_)
  refine mr_aload_n (pc := 17) dX6_reads_17 rfl ?_
  obtain ⟨σ4, τ4, c4, h⟩ := ovs h
  refine mr_callV0 (pc := 18) (ci := 6) [] ok_X6_skips lk_158 st_X6_skips se_X6_skips dX6_reads_18 rfl (ha_34 σ3 τ) rfl rfl (Nat.le_of_ble_eq_true rfl) (Nat.le_of_ble_eq_true rfl) ((dc_Q_skips c4).up (by decide)) ?_
  exact mc_V.locs (loc' := [.ref 34, .retAddr 0]) ⟨Or.inr rfl, Or.inl rfl, trivial⟩ (dc_Q_reads_l21 mc_F σ4 τ4 r σ' τ' h)
set_option maxHeartbeats 4000000 in
set_option maxRecDepth 100000 in
theorem dc_Q_keeps_l50 : ∀ (n : Nat), ∀ (x1 : Int32) (σ : mS) (τ : mT) (σ' : mS) (τ' : mT), Q_keeps_l50 n x1 σ τ = some (σ', τ') → mc_V M_X6_keeps 0 none 50 [.ref 34, .int x1] [] (mc_hp σ τ) none (mc_hp σ' τ') 0 0 := by
  intro n
  induction n with
  | zero =>
    intros
    rename_i h
    cases h
  | succ n ih =>
    intro x1 σ τ σ' τ' h
    refine mr_iload_n (pc := 50) dX6_keeps_50 rfl ?_
    refine mr_bipushv (pc := 51) (21 : Int32) dX6_keeps_51 (by decide) ?_
    refine mr_icmp_ge (pc := 53) 82 dX6_keeps_53 (by decide) (fun q1 => ?_) (fun q1 => ?_)
    · replace h := (if_pos q1).symm.trans h
      refine mr_aload_n (pc := 82) dX6_keeps_82 rfl ?_
      refine mr_dup (pc := 83) dX6_keeps_83 rfl ?_
      refine mr_getf (pc := 84) (ci := 6) inX6 rfl 2 (by decide) fl_57 dX6_keeps_84 (ha_34 σ τ) rfl ?_
      refine mr_iconstv (pc := 87) (1 : Int32) dX6_keeps_87 (by decide) ?_
      refine mr_iadd (pc := 88) dX6_keeps_88 ?_
      obtain ⟨σ2, e2, h⟩ := ow h
      refine mr_putf (pc := 89) (ci := 6) inX6 tyX6 tyX6_ok nmX6 rfl 2 (by decide) fl_57 rfl dX6_keeps_89 (ha_34 σ τ) (Nat.le_of_ble_eq_true rfl) rfl (mc_V.heap (hs_34_2 e2) ?_)
      obtain ⟨rfl, rfl⟩ := os2 h
      exact mr_ret (pc := 92) rfl dX6_keeps_92
    · replace h := (if_neg q1).symm.trans h
      refine mr_aload_n (pc := 56) dX6_keeps_56 rfl ?_
      refine mr_getf (pc := 57) (ci := 6) inX6 rfl 1 (by decide) fl_32 dX6_keeps_57 (ha_34 σ τ) rfl ?_
      refine mr_bipushv (pc := 60) (21 : Int32) dX6_keeps_60 (by decide) ?_
      refine mr_aload_n (pc := 62) dX6_keeps_62 rfl ?_
      refine mr_getf (pc := 63) (ci := 6) inX6 rfl 2 (by decide) fl_57 dX6_keeps_63 (ha_34 σ τ) rfl ?_
      refine mr_imul (pc := 66) dX6_keeps_66 ?_
      refine mr_iload_n (pc := 67) dX6_keeps_67 rfl ?_
      refine mr_iadd (pc := 68) dX6_keeps_68 ?_
      refine mr_aload_n (pc := 69) dX6_keeps_69 rfl ?_
      refine mr_getf (pc := 70) (ci := 6) inX6 rfl 26 (by decide) fl_44 dX6_keeps_70 (ha_34 σ τ) rfl ?_
      refine mr_iload_n (pc := 73) dX6_keeps_73 rfl ?_
      obtain ⟨g3, h⟩ := og h
      refine mr_iald (pc := 74) dX6_keeps_74 (ha_48 σ τ) (g3) ?_
      obtain ⟨g4, h⟩ := og h
      obtain ⟨σ5, e5, h⟩ := ow h
      refine mr_iast (pc := 75) dX6_keeps_75 (ha_36 σ τ) (g4) (mc_V.heap (hs_36 e5) ?_)
      refine mr_iincv (pc := 76) (1 : Int32) dX6_keeps_76 rfl (by decide) (show mc_V M_X6_keeps 0 none 79 [.ref 34, .int (x1 + (1 : Int32))] [] (mc_hp σ5 τ) none (mc_hp σ' τ') 0 0 from ?_)
      refine mr_goto (pc := 79) 50 dX6_keeps_79 (by decide) ?_
      exact mc_V.locs (loc' := [.ref 34, .int (x1 + (1 : Int32))]) ⟨Or.inr rfl, Or.inr rfl, trivial⟩ (ih (x1 + (1 : Int32)) σ5 τ σ' τ' h)
set_option maxHeartbeats 4000000 in
set_option maxRecDepth 100000 in
theorem dc_Q_keeps_l11 : ∀ (n : Nat), ∀ (x1 : Int32) (σ : mS) (τ : mT) (σ' : mS) (τ' : mT), Q_keeps_l11 n x1 σ τ = some (σ', τ') → mc_V M_X6_keeps 0 none 11 [.ref 34, .int x1] [] (mc_hp σ τ) none (mc_hp σ' τ') 0 0 := by
  intro n
  induction n with
  | zero =>
    intros
    rename_i h
    cases h
  | succ n ih =>
    intro x1 σ τ σ' τ' h
    refine mr_iload_n (pc := 11) dX6_keeps_11 rfl ?_
    refine mr_bipushv (pc := 12) (105 : Int32) dX6_keeps_12 (by decide) ?_
    refine mr_icmp_ge (pc := 14) 38 dX6_keeps_14 (by decide) (fun q1 => ?_) (fun q1 => ?_)
    · replace h := (if_pos q1).symm.trans h
      refine mr_aload_n (pc := 38) dX6_keeps_38 rfl ?_
      refine mr_dup (pc := 39) dX6_keeps_39 rfl ?_
      refine mr_getf (pc := 40) (ci := 6) inX6 rfl 2 (by decide) fl_57 dX6_keeps_40 (ha_34 σ τ) rfl ?_
      refine mr_iconstv (pc := 43) (1 : Int32) dX6_keeps_43 (by decide) ?_
      refine mr_isub (pc := 44) dX6_keeps_44 ?_
      obtain ⟨σ2, e2, h⟩ := ow h
      refine mr_putf (pc := 45) (ci := 6) inX6 tyX6 tyX6_ok nmX6 rfl 2 (by decide) fl_57 rfl dX6_keeps_45 (ha_34 σ τ) (Nat.le_of_ble_eq_true rfl) rfl (mc_V.heap (hs_34_2 e2) ?_)
      refine mr_iconstv (pc := 48) (0 : Int32) dX6_keeps_48 (by decide) ?_
      refine mr_istore_n (pc := 49) dX6_keeps_49 (Nat.le_of_ble_eq_true rfl) (show mc_V M_X6_keeps 0 none 50 [.ref 34, .int (0 : Int32)] [] (mc_hp σ2 τ) none (mc_hp σ' τ') 0 0 from ?_)
      exact mc_V.locs (loc' := [.ref 34, .int (0 : Int32)]) ⟨Or.inr rfl, Or.inr rfl, trivial⟩ (dc_Q_keeps_l50 mc_F (0 : Int32) σ2 τ σ' τ' h)
    · replace h := (if_neg q1).symm.trans h
      refine mr_aload_n (pc := 17) dX6_keeps_17 rfl ?_
      refine mr_getf (pc := 18) (ci := 6) inX6 rfl 1 (by decide) fl_32 dX6_keeps_18 (ha_34 σ τ) rfl ?_
      refine mr_iload_n (pc := 21) dX6_keeps_21 rfl ?_
      refine mr_aload_n (pc := 22) dX6_keeps_22 rfl ?_
      refine mr_getf (pc := 23) (ci := 6) inX6 rfl 1 (by decide) fl_32 dX6_keeps_23 (ha_34 σ τ) rfl ?_
      refine mr_iload_n (pc := 26) dX6_keeps_26 rfl ?_
      refine mr_bipushv (pc := 27) (21 : Int32) dX6_keeps_27 (by decide) ?_
      refine mr_iadd (pc := 29) dX6_keeps_29 ?_
      obtain ⟨g3, h⟩ := og h
      refine mr_iald (pc := 30) dX6_keeps_30 (ha_36 σ τ) (g3) ?_
      obtain ⟨g4, h⟩ := og h
      obtain ⟨σ5, e5, h⟩ := ow h
      refine mr_iast (pc := 31) dX6_keeps_31 (ha_36 σ τ) (g4) (mc_V.heap (hs_36 e5) ?_)
      refine mr_iincv (pc := 32) (1 : Int32) dX6_keeps_32 rfl (by decide) (show mc_V M_X6_keeps 0 none 35 [.ref 34, .int (x1 + (1 : Int32))] [] (mc_hp σ5 τ) none (mc_hp σ' τ') 0 0 from ?_)
      refine mr_goto (pc := 35) 11 dX6_keeps_35 (by decide) ?_
      exact mc_V.locs (loc' := [.ref 34, .int (x1 + (1 : Int32))]) ⟨Or.inr rfl, Or.inr rfl, trivial⟩ (ih (x1 + (1 : Int32)) σ5 τ σ' τ' h)
set_option maxHeartbeats 4000000 in
set_option maxRecDepth 100000 in
theorem dc_Q_keeps {σ : mS} {τ : mT} {σ' : mS} {τ' : mT} (h : Q_keeps σ τ = some (σ', τ')) : mc_V M_X6_keeps 0 none 0 (mc_entry [.ref 34] 2) [] (mc_hp σ τ) none (mc_hp σ' τ') 0 0 := by
  unfold Q_keeps at h
  show mc_V M_X6_keeps 0 none 0 [.ref 34, .retAddr 0] [] (mc_hp σ τ) none (mc_hp σ' τ') 0 0
  refine mr_aload_n (pc := 0) dX6_keeps_0 rfl ?_
  refine mr_getf (pc := 1) (ci := 6) inX6 rfl 2 (by decide) fl_57 dX6_keeps_1 (ha_34 σ τ) rfl ?_
  refine mr_bipushv (pc := 4) (6 : Int32) dX6_keeps_4 (by decide) ?_
  refine mr_icmp_ne (pc := 6) 48 dX6_keeps_6 (by decide) (fun q1 => ?_) (fun q1 => ?_)
  · replace h := (if_neg q1).symm.trans h
    refine mr_iconstv (pc := 48) (0 : Int32) dX6_keeps_48 (by decide) ?_
    refine mr_istore_n (pc := 49) dX6_keeps_49 (Nat.le_of_ble_eq_true rfl) (show mc_V M_X6_keeps 0 none 50 [.ref 34, .int (0 : Int32)] [] (mc_hp σ τ) none (mc_hp σ' τ') 0 0 from ?_)
    exact mc_V.locs (loc' := [.ref 34, .int (0 : Int32)]) ⟨Or.inr rfl, Or.inr rfl, trivial⟩ (dc_Q_keeps_l50 mc_F (0 : Int32) σ τ σ' τ' h)
  · replace h := (if_pos q1).symm.trans h
    refine mr_iconstv (pc := 9) (0 : Int32) dX6_keeps_9 (by decide) ?_
    refine mr_istore_n (pc := 10) dX6_keeps_10 (Nat.le_of_ble_eq_true rfl) (show mc_V M_X6_keeps 0 none 11 [.ref 34, .int (0 : Int32)] [] (mc_hp σ τ) none (mc_hp σ' τ') 0 0 from ?_)
    exact mc_V.locs (loc' := [.ref 34, .int (0 : Int32)]) ⟨Or.inr rfl, Or.inr rfl, trivial⟩ (dc_Q_keeps_l11 mc_F (0 : Int32) σ τ σ' τ' h)
set_option maxHeartbeats 4000000 in
set_option maxRecDepth 100000 in
theorem dc_Q_takes_48_l2 : ∀ (n : Nat), ∀ (x2 : Int32) (x3 : Int32) (σ : mS) (τ : mT) (σ' : mS) (τ' : mT), Q_takes_48_l2 n x2 x3 σ τ = some (σ', τ') → mc_V M_X6_takes 0 none 2 [.ref 34, .ref 48, .int x2, .int x3] [] (mc_hp σ τ) none (mc_hp σ' τ') 0 0 := by
  intro n
  induction n with
  | zero =>
    intros
    rename_i h
    cases h
  | succ n ih =>
    intro x2 x3 σ τ σ' τ' h
    refine mr_iload_n (pc := 2) dX6_takes_2 rfl ?_
    refine mr_bipushv (pc := 3) (21 : Int32) dX6_takes_3 (by decide) ?_
    refine mr_icmp_ge (pc := 5) 25 dX6_takes_5 (by decide) (fun q1 => ?_) (fun q1 => ?_)
    · replace h := (if_pos q1).symm.trans h
      obtain ⟨rfl, rfl⟩ := os2 h
      exact mr_ret (pc := 25) rfl dX6_takes_25
    · replace h := (if_neg q1).symm.trans h
      refine mr_aload_n (pc := 8) dX6_takes_8 rfl ?_
      refine mr_getf (pc := 9) (ci := 6) inX6 rfl 0 (by decide) fl_31 dX6_takes_9 (ha_34 σ τ) rfl ?_
      refine mr_iload_n (pc := 12) dX6_takes_12 rfl ?_
      refine mr_aload_n (pc := 13) dX6_takes_13 rfl ?_
      refine mr_iload_n (pc := 14) dX6_takes_14 rfl ?_
      refine mr_iload_n (pc := 15) dX6_takes_15 rfl ?_
      refine mr_iadd (pc := 16) dX6_takes_16 ?_
      obtain ⟨g2, h⟩ := og h
      refine mr_iald (pc := 17) dX6_takes_17 (ha_48 σ τ) (g2) ?_
      obtain ⟨g3, h⟩ := og h
      obtain ⟨σ4, e4, h⟩ := ow h
      refine mr_iast (pc := 18) dX6_takes_18 (ha_35 σ τ) (g3) (mc_V.heap (hs_35 e4) ?_)
      refine mr_iincv (pc := 19) (1 : Int32) dX6_takes_19 rfl (by decide) (show mc_V M_X6_takes 0 none 22 [.ref 34, .ref 48, .int x2, .int (x3 + (1 : Int32))] [] (mc_hp σ4 τ) none (mc_hp σ' τ') 0 0 from ?_)
      refine mr_goto (pc := 22) 2 dX6_takes_22 (by decide) ?_
      exact mc_V.locs (loc' := [.ref 34, .ref 48, .int x2, .int (x3 + (1 : Int32))]) ⟨Or.inr rfl, Or.inr rfl, Or.inr rfl, Or.inr rfl, trivial⟩ (ih x2 (x3 + (1 : Int32)) σ4 τ σ' τ' h)
set_option maxHeartbeats 4000000 in
set_option maxRecDepth 100000 in
theorem dc_Q_takes_48 {p2 : Int32} {σ : mS} {τ : mT} {σ' : mS} {τ' : mT} (h : Q_takes_48 p2 σ τ = some (σ', τ')) : mc_V M_X6_takes 0 none 0 (mc_entry [.ref 34, .ref 48, .int p2] 4) [] (mc_hp σ τ) none (mc_hp σ' τ') 0 0 := by
  unfold Q_takes_48 at h
  show mc_V M_X6_takes 0 none 0 [.ref 34, .ref 48, .int p2, .retAddr 0] [] (mc_hp σ τ) none (mc_hp σ' τ') 0 0
  refine mr_iconstv (pc := 0) (0 : Int32) dX6_takes_0 (by decide) ?_
  refine mr_istore_n (pc := 1) dX6_takes_1 (Nat.le_of_ble_eq_true rfl) (show mc_V M_X6_takes 0 none 2 [.ref 34, .ref 48, .int p2, .int (0 : Int32)] [] (mc_hp σ τ) none (mc_hp σ' τ') 0 0 from ?_)
  exact mc_V.locs (loc' := [.ref 34, .ref 48, .int p2, .int (0 : Int32)]) ⟨Or.inr rfl, Or.inr rfl, Or.inr rfl, Or.inr rfl, trivial⟩ (dc_Q_takes_48_l2 mc_F p2 (0 : Int32) σ τ σ' τ' h)
set_option maxHeartbeats 4000000 in
set_option maxRecDepth 100000 in
theorem dc_Q_tells {σ : mS} {τ : mT} {r : Int32} {σ' : mS} {τ' : mT} (h : Q_tells σ τ = some (r, σ', τ')) : mc_V M_X6_tells 5 none 0 (mc_entry [.ref 34] 1) [] (mc_hp σ τ) (some (.int r)) (mc_hp σ' τ') 0 0 := by
  unfold Q_tells at h
  show mc_V M_X6_tells 5 none 0 [.ref 34] [] (mc_hp σ τ) (some (.int r)) (mc_hp σ' τ') 0 0
  refine mr_aload_n (pc := 0) dX6_tells_0 rfl ?_
  refine mr_aload_n (pc := 1) dX6_tells_1 rfl ?_
  refine mr_getf (pc := 2) (ci := 6) inX6 rfl 26 (by decide) fl_44 dX6_tells_2 (ha_34 σ τ) rfl ?_
  refine mr_iconstv (pc := 5) (0 : Int32) dX6_tells_5 (by decide) ?_
  obtain ⟨σ1, τ1, c1, h⟩ := ovs h
  refine mr_callV0 (pc := 6) (ci := 6) [.ref 48, .int (0 : Int32)] ok_X6_lays lk_165 st_X6_lays se_X6_lays dX6_tells_6 rfl (ha_34 σ τ) rfl rfl (Nat.le_of_ble_eq_true rfl) (Nat.le_of_ble_eq_true rfl) ((dc_Q_lays_48 c1).up (by decide)) ?_
  refine mr_aload_n (pc := 9) dX6_tells_9 rfl ?_
  obtain ⟨r2, σ2, τ2, c2, h⟩ := obs h
  refine mr_callV0 (pc := 10) (ci := 6) [] ok_X6_reads lk_166 st_X6_reads se_X6_reads dX6_tells_10 rfl (ha_34 σ1 τ1) rfl rfl (Nat.le_of_ble_eq_true rfl) (Nat.le_of_ble_eq_true rfl) ((dc_Q_reads c2).up (by decide)) ?_
  refine mr_if_ne (pc := 13) 33 dX6_tells_13 (by decide) (fun q3 => ?_) (fun q3 => ?_)
  · replace h := (if_neg q3).symm.trans h
    refine mr_aload_n (pc := 33) dX6_tells_33 rfl ?_
    obtain ⟨σ4, τ4, c4, h⟩ := ovs h
    refine mr_callV0 (pc := 34) (ci := 6) [] ok_X6_keeps lk_168 st_X6_keeps se_X6_keeps dX6_tells_34 rfl (ha_34 σ2 τ2) rfl rfl (Nat.le_of_ble_eq_true rfl) (Nat.le_of_ble_eq_true rfl) ((dc_Q_keeps c4).up (by decide)) ?_
    refine mr_aload_n (pc := 37) dX6_tells_37 rfl ?_
    refine mr_iconstv (pc := 38) (0 : Int32) dX6_tells_38 (by decide) ?_
    obtain ⟨σ5, e5, h⟩ := ow h
    refine mr_putf (pc := 39) (ci := 6) inX6 tyX6 tyX6_ok nmX6 rfl 6 (by decide) fl_54 rfl dX6_tells_39 (ha_34 σ4 τ4) (Nat.le_of_ble_eq_true rfl) rfl (mc_V.heap (hs_34_6 e5) ?_)
    refine mr_aload_n (pc := 42) dX6_tells_42 rfl ?_
    refine mr_getf (pc := 43) (ci := 6) inX6 rfl 25 (by decide) fl_56 dX6_tells_43 (ha_34 σ5 τ4) rfl ?_
    obtain ⟨rfl, rfl, rfl⟩ := os3 h
    exact mr_iret (pc := 46) rfl (rfl) dX6_tells_46
  · replace h := (if_pos q3).symm.trans h
    refine mr_aload_n (pc := 16) dX6_tells_16 rfl ?_
    refine mr_aload_n (pc := 17) dX6_tells_17 rfl ?_
    refine mr_getf (pc := 18) (ci := 6) inX6 rfl 26 (by decide) fl_44 dX6_tells_18 (ha_34 σ2 τ2) rfl ?_
    refine mr_iconstv (pc := 21) (0 : Int32) dX6_tells_21 (by decide) ?_
    obtain ⟨σ6, τ6, c6, h⟩ := ovs h
    refine mr_callV0 (pc := 22) (ci := 6) [.ref 48, .int (0 : Int32)] ok_X6_takes lk_167 st_X6_takes se_X6_takes dX6_tells_22 rfl (ha_34 σ2 τ2) rfl rfl (Nat.le_of_ble_eq_true rfl) (Nat.le_of_ble_eq_true rfl) ((dc_Q_takes_48 c6).up (by decide)) ?_
    refine mr_bipushv (pc := 25) (-10 : Int32) dX6_tells_25 (by decide) ?_
    refine mr_aload_n (pc := 27) dX6_tells_27 rfl ?_
    refine mr_getf (pc := 28) (ci := 6) inX6 rfl 24 (by decide) fl_55 dX6_tells_28 (ha_34 σ6 τ6) rfl ?_
    refine mr_isub (pc := 31) dX6_tells_31 ?_
    obtain ⟨rfl, rfl, rfl⟩ := os3 h
    exact mr_iret (pc := 32) rfl (rfl) dX6_tells_32
set_option maxHeartbeats 4000000 in
set_option maxRecDepth 100000 in
theorem dc_R_isBlock {p0 : Int32} {p1 : Int32} {σ : mS} {τ : mT} {r : Int32} {σ' : mS} {τ' : mT} (h : R_isBlock p0 p1 σ τ = some (r, σ', τ')) : mc_V M_X5_isBlock 1 none 0 (mc_entry [.int p0, .int p1] 2) [] (mc_hp σ τ) (some (.int r)) (mc_hp σ' τ') 0 0 := by
  unfold R_isBlock at h
  show mc_V M_X5_isBlock 1 none 0 [.int p0, .int p1] [] (mc_hp σ τ) (some (.int r)) (mc_hp σ' τ') 0 0
  refine mr_iload_n (pc := 0) dX5_isBlock_0 rfl ?_
  refine mr_iconstv (pc := 1) (1 : Int32) dX5_isBlock_1 (by decide) ?_
  refine mr_iconstv (pc := 2) (3 : Int32) dX5_isBlock_2 (by decide) ?_
  obtain ⟨r1, σ1, τ1, c1, h⟩ := obs h
  refine mr_callS0 (pc := 3) [.int p0, .int (1 : Int32), .int (3 : Int32)] ok_X5_within lk_1 st_X5_within dX5_isBlock_3 rfl rfl (Nat.le_of_ble_eq_true rfl) (Nat.le_of_ble_eq_true rfl) ((dc_R_within c1).up (by decide)) ?_
  refine mr_if_eq (pc := 6) 23 dX5_isBlock_6 (by decide) (fun q2 => ?_) (fun q2 => ?_)
  · replace h := (if_pos q2).symm.trans h
    refine mr_iconstv (pc := 23) (0 : Int32) dX5_isBlock_23 (by decide) ?_
    obtain ⟨rfl, rfl, rfl⟩ := os3 h
    exact mr_iret (pc := 24) rfl (rfl) dX5_isBlock_24
  · replace h := (if_neg q2).symm.trans h
    refine mr_iload_n (pc := 9) dX5_isBlock_9 rfl ?_
    refine mr_iconstv (pc := 10) (1 : Int32) dX5_isBlock_10 (by decide) ?_
    refine mr_bipushv (pc := 11) (9 : Int32) dX5_isBlock_11 (by decide) ?_
    obtain ⟨r3, σ3, τ3, c3, h⟩ := obs h
    refine mr_callS0 (pc := 13) [.int p1, .int (1 : Int32), .int (9 : Int32)] ok_X5_within lk_1 st_X5_within dX5_isBlock_13 rfl rfl (Nat.le_of_ble_eq_true rfl) (Nat.le_of_ble_eq_true rfl) ((dc_R_within c3).up (by decide)) ?_
    refine mr_if_eq (pc := 16) 23 dX5_isBlock_16 (by decide) (fun q4 => ?_) (fun q4 => ?_)
    · replace h := (if_pos q4).symm.trans h
      refine mr_iconstv (pc := 23) (0 : Int32) dX5_isBlock_23 (by decide) ?_
      obtain ⟨rfl, rfl, rfl⟩ := os3 h
      exact mr_iret (pc := 24) rfl (rfl) dX5_isBlock_24
    · replace h := (if_neg q4).symm.trans h
      refine mr_iconstv (pc := 19) (1 : Int32) dX5_isBlock_19 (by decide) ?_
      refine mr_goto (pc := 20) 24 dX5_isBlock_20 (by decide) ?_
      obtain ⟨rfl, rfl, rfl⟩ := os3 h
      exact mr_iret (pc := 24) rfl (rfl) dX5_isBlock_24
set_option maxHeartbeats 4000000 in
set_option maxRecDepth 100000 in
theorem dc_P_size_2 {σ : mS} {τ : mT} {r : Int32} {σ' : mS} {τ' : mT} (h : P_size_2 σ τ = some (r, σ', τ')) : mc_V M_X2_size 0 none 0 (mc_entry [.ref 2] 1) [] (mc_hp σ τ) (some (.int r)) (mc_hp σ' τ') 0 0 := by
  unfold P_size_2 at h
  show mc_V M_X2_size 0 none 0 [.ref 2] [] (mc_hp σ τ) (some (.int r)) (mc_hp σ' τ') 0 0
  refine mr_aload_n (pc := 0) dX2_size_0 rfl ?_
  refine mr_getf (pc := 1) (ci := 2) inX2 rfl 0 (by decide) fl_25 dX2_size_1 (ha_2 σ τ) rfl ?_
  refine mr_bipushv (pc := 4) (20 : Int32) dX2_size_4 (by decide) ?_
  refine mr_iald (pc := 6) dX2_size_6 (ha_3 σ τ) (vin_ok rfl) ?_
  obtain ⟨rfl, rfl, rfl⟩ := os3 h
  exact mr_iret (pc := 7) rfl (rfl) dX2_size_7
set_option maxHeartbeats 4000000 in
set_option maxRecDepth 100000 in
theorem dc_P_has_2 {p1 : Int32} {σ : mS} {τ : mT} {r : Int32} {σ' : mS} {τ' : mT} (h : P_has_2 p1 σ τ = some (r, σ', τ')) : mc_V M_X2_has 0 none 0 (mc_entry [.ref 2, .int p1] 2) [] (mc_hp σ τ) (some (.int r)) (mc_hp σ' τ') 0 0 := by
  unfold P_has_2 at h
  show mc_V M_X2_has 0 none 0 [.ref 2, .int p1] [] (mc_hp σ τ) (some (.int r)) (mc_hp σ' τ') 0 0
  refine mr_iload_n (pc := 0) dX2_has_0 rfl ?_
  refine mr_if_lt (pc := 1) 24 dX2_has_1 (by decide) (fun q1 => ?_) (fun q1 => ?_)
  · replace h := (if_pos q1).symm.trans h
    refine mr_iconstv (pc := 24) (0 : Int32) dX2_has_24 (by decide) ?_
    obtain ⟨rfl, rfl, rfl⟩ := os3 h
    exact mr_iret (pc := 25) rfl (rfl) dX2_has_25
  · replace h := (if_neg q1).symm.trans h
    refine mr_iload_n (pc := 4) dX2_has_4 rfl ?_
    refine mr_aload_n (pc := 5) dX2_has_5 rfl ?_
    refine mr_getf (pc := 6) (ci := 2) inX2 rfl 0 (by decide) fl_25 dX2_has_6 (ha_2 σ τ) rfl ?_
    refine mr_bipushv (pc := 9) (20 : Int32) dX2_has_9 (by decide) ?_
    refine mr_iald (pc := 11) dX2_has_11 (ha_3 σ τ) (vin_ok rfl) ?_
    refine mr_icmp_ge (pc := 12) 24 dX2_has_12 (by decide) (fun q2 => ?_) (fun q2 => ?_)
    · replace h := (if_pos q2).symm.trans h
      refine mr_iconstv (pc := 24) (0 : Int32) dX2_has_24 (by decide) ?_
      obtain ⟨rfl, rfl, rfl⟩ := os3 h
      exact mr_iret (pc := 25) rfl (rfl) dX2_has_25
    · replace h := (if_neg q2).symm.trans h
      refine mr_iload_n (pc := 15) dX2_has_15 rfl ?_
      refine mr_iconstv (pc := 16) (4 : Int32) dX2_has_16 (by decide) ?_
      refine mr_icmp_ge (pc := 17) 24 dX2_has_17 (by decide) (fun q3 => ?_) (fun q3 => ?_)
      · replace h := (if_pos q3).symm.trans h
        refine mr_iconstv (pc := 24) (0 : Int32) dX2_has_24 (by decide) ?_
        obtain ⟨rfl, rfl, rfl⟩ := os3 h
        exact mr_iret (pc := 25) rfl (rfl) dX2_has_25
      · replace h := (if_neg q3).symm.trans h
        refine mr_iconstv (pc := 20) (1 : Int32) dX2_has_20 (by decide) ?_
        refine mr_goto (pc := 21) 25 dX2_has_21 (by decide) ?_
        obtain ⟨rfl, rfl, rfl⟩ := os3 h
        exact mr_iret (pc := 25) rfl (rfl) dX2_has_25
set_option maxHeartbeats 4000000 in
set_option maxRecDepth 100000 in
theorem dc_P_set_2 {p1 : Int32} {p2 : Int32} {p3 : Int32} {σ : mS} {τ : mT} {σ' : mS} {τ' : mT} (h : P_set_2 p1 p2 p3 σ τ = some (σ', τ')) : mc_V M_X2_set 1 none 0 (mc_entry [.ref 2, .int p1, .int p2, .int p3] 4) [] (mc_hp σ τ) none (mc_hp σ' τ') 0 0 := by
  unfold P_set_2 at h
  show mc_V M_X2_set 1 none 0 [.ref 2, .int p1, .int p2, .int p3] [] (mc_hp σ τ) none (mc_hp σ' τ') 0 0
  refine mr_aload_n (pc := 0) dX2_set_0 rfl ?_
  refine mr_iload_n (pc := 1) dX2_set_1 rfl ?_
  obtain ⟨r1, σ1, τ1, c1, h⟩ := obs h
  refine mr_callV0 (pc := 2) (ci := 2) [.int p1] ok_X2_has lk_70 st_X2_has se_X2_has dX2_set_2 rfl (ha_2 σ τ) rfl rfl (Nat.le_of_ble_eq_true rfl) (Nat.le_of_ble_eq_true rfl) ((dc_P_has_2 c1).up (by decide)) ?_
  refine mr_if_eq (pc := 5) 28 dX2_set_5 (by decide) (fun q2 => ?_) (fun q2 => ?_)
  · replace h := (if_pos q2).symm.trans h
    obtain ⟨rfl, rfl⟩ := os2 h
    exact mr_ret (pc := 28) rfl dX2_set_28
  · replace h := (if_neg q2).symm.trans h
    refine mr_iload_n (pc := 8) dX2_set_8 rfl ?_
    refine mr_iconstv (pc := 9) (0 : Int32) dX2_set_9 (by decide) ?_
    refine mr_iconstv (pc := 10) (4 : Int32) dX2_set_10 (by decide) ?_
    obtain ⟨r3, σ3, τ3, c3, h⟩ := obs h
    refine mr_callSN0 (pc := 11) [.int p2, .int (0 : Int32), .int (4 : Int32)] ok_X5_within lk_188 st_X5_within dX2_set_11 rfl rfl (Nat.le_of_ble_eq_true rfl) (Nat.le_of_ble_eq_true rfl) ((dc_R_within c3).up (by decide)) ?_
    refine mr_if_eq (pc := 14) 28 dX2_set_14 (by decide) (fun q4 => ?_) (fun q4 => ?_)
    · replace h := (if_pos q4).symm.trans h
      obtain ⟨rfl, rfl⟩ := os2 h
      exact mr_ret (pc := 28) rfl dX2_set_28
    · replace h := (if_neg q4).symm.trans h
      refine mr_aload_n (pc := 17) dX2_set_17 rfl ?_
      refine mr_getf (pc := 18) (ci := 2) inX2 rfl 0 (by decide) fl_25 dX2_set_18 (ha_2 σ3 τ3) rfl ?_
      refine mr_iload_n (pc := 21) dX2_set_21 rfl ?_
      refine mr_iconstv (pc := 22) (5 : Int32) dX2_set_22 (by decide) ?_
      refine mr_imul (pc := 23) dX2_set_23 ?_
      refine mr_iload_n (pc := 24) dX2_set_24 rfl ?_
      refine mr_iadd (pc := 25) dX2_set_25 ?_
      refine mr_iload_n (pc := 26) dX2_set_26 rfl ?_
      obtain ⟨g5, h⟩ := og h
      obtain ⟨σ6, e6, h⟩ := ow h
      refine mr_iast (pc := 27) dX2_set_27 (ha_3 σ3 τ3) (g5) (mc_V.heap (hs_3 e6) ?_)
      obtain ⟨rfl, rfl⟩ := os2 h
      exact mr_ret (pc := 28) rfl dX2_set_28
set_option maxHeartbeats 4000000 in
set_option maxRecDepth 100000 in
theorem dc_P_add_2 {p1 : Int32} {p2 : Int32} {p3 : Int32} {σ : mS} {τ : mT} {σ' : mS} {τ' : mT} (h : P_add_2 p1 p2 p3 σ τ = some (σ', τ')) : mc_V M_X2_add 2 none 0 (mc_entry [.ref 2, .int p1, .int p2, .int p3] 5) [] (mc_hp σ τ) none (mc_hp σ' τ') 0 0 := by
  unfold P_add_2 at h
  show mc_V M_X2_add 2 none 0 [.ref 2, .int p1, .int p2, .int p3, .retAddr 0] [] (mc_hp σ τ) none (mc_hp σ' τ') 0 0
  refine mr_aload_n (pc := 0) dX2_add_0 rfl ?_
  obtain ⟨r1, σ1, τ1, c1, h⟩ := obs h
  refine mr_callV0 (pc := 1) (ci := 2) [] ok_X2_size lk_71 st_X2_size se_X2_size dX2_add_1 rfl (ha_2 σ τ) rfl rfl (Nat.le_of_ble_eq_true rfl) (Nat.le_of_ble_eq_true rfl) ((dc_P_size_2 c1).up (by decide)) ?_
  refine mr_istore (pc := 4) dX2_add_4 (Nat.le_of_ble_eq_true rfl) (show mc_V M_X2_add 2 none 6 [.ref 2, .int p1, .int p2, .int p3, .int r1] [] (mc_hp σ1 τ1) none (mc_hp σ' τ') 0 0 from ?_)
  refine mr_iload (pc := 6) dX2_add_6 rfl ?_
  refine mr_iconstv (pc := 8) (4 : Int32) dX2_add_8 (by decide) ?_
  refine mr_icmp_lt (pc := 9) 13 dX2_add_9 (by decide) (fun q2 => ?_) (fun q2 => ?_)
  · replace h := (if_pos q2).symm.trans h
    refine mr_aload_n (pc := 13) dX2_add_13 rfl ?_
    refine mr_getf (pc := 14) (ci := 2) inX2 rfl 0 (by decide) fl_25 dX2_add_14 (ha_2 σ1 τ1) rfl ?_
    refine mr_bipushv (pc := 17) (20 : Int32) dX2_add_17 (by decide) ?_
    refine mr_iload (pc := 19) dX2_add_19 rfl ?_
    refine mr_iconstv (pc := 21) (1 : Int32) dX2_add_21 (by decide) ?_
    refine mr_iadd (pc := 22) dX2_add_22 ?_
    obtain ⟨σ3, e3, h⟩ := ow h
    refine mr_iast (pc := 23) dX2_add_23 (ha_3 σ1 τ1) (vin_ok rfl) (mc_V.heap (hs_3 e3) ?_)
    refine mr_aload_n (pc := 24) dX2_add_24 rfl ?_
    refine mr_iload (pc := 25) dX2_add_25 rfl ?_
    refine mr_iconstv (pc := 27) (0 : Int32) dX2_add_27 (by decide) ?_
    refine mr_iload_n (pc := 28) dX2_add_28 rfl ?_
    obtain ⟨σ4, τ4, c4, h⟩ := ovs h
    refine mr_callV0 (pc := 29) (ci := 2) [.int r1, .int (0 : Int32), .int p1] ok_X2_set lk_72 st_X2_set se_X2_set dX2_add_29 rfl (ha_2 σ3 τ1) rfl rfl (Nat.le_of_ble_eq_true rfl) (Nat.le_of_ble_eq_true rfl) ((dc_P_set_2 c4).up (by decide)) ?_
    refine mr_aload_n (pc := 32) dX2_add_32 rfl ?_
    refine mr_iload (pc := 33) dX2_add_33 rfl ?_
    refine mr_iconstv (pc := 35) (1 : Int32) dX2_add_35 (by decide) ?_
    refine mr_iload_n (pc := 36) dX2_add_36 rfl ?_
    obtain ⟨σ5, τ5, c5, h⟩ := ovs h
    refine mr_callV0 (pc := 37) (ci := 2) [.int r1, .int (1 : Int32), .int p2] ok_X2_set lk_72 st_X2_set se_X2_set dX2_add_37 rfl (ha_2 σ4 τ4) rfl rfl (Nat.le_of_ble_eq_true rfl) (Nat.le_of_ble_eq_true rfl) ((dc_P_set_2 c5).up (by decide)) ?_
    refine mr_aload_n (pc := 40) dX2_add_40 rfl ?_
    refine mr_iload (pc := 41) dX2_add_41 rfl ?_
    refine mr_iconstv (pc := 43) (2 : Int32) dX2_add_43 (by decide) ?_
    refine mr_iload_n (pc := 44) dX2_add_44 rfl ?_
    obtain ⟨σ6, τ6, c6, h⟩ := ovs h
    refine mr_callV0 (pc := 45) (ci := 2) [.int r1, .int (2 : Int32), .int p3] ok_X2_set lk_72 st_X2_set se_X2_set dX2_add_45 rfl (ha_2 σ5 τ5) rfl rfl (Nat.le_of_ble_eq_true rfl) (Nat.le_of_ble_eq_true rfl) ((dc_P_set_2 c6).up (by decide)) ?_
    refine mr_aload_n (pc := 48) dX2_add_48 rfl ?_
    refine mr_iload (pc := 49) dX2_add_49 rfl ?_
    refine mr_iconstv (pc := 51) (3 : Int32) dX2_add_51 (by decide) ?_
    refine mr_iconstv (pc := 52) (0 : Int32) dX2_add_52 (by decide) ?_
    obtain ⟨σ7, τ7, c7, h⟩ := ovs h
    refine mr_callV0 (pc := 53) (ci := 2) [.int r1, .int (3 : Int32), .int (0 : Int32)] ok_X2_set lk_72 st_X2_set se_X2_set dX2_add_53 rfl (ha_2 σ6 τ6) rfl rfl (Nat.le_of_ble_eq_true rfl) (Nat.le_of_ble_eq_true rfl) ((dc_P_set_2 c7).up (by decide)) ?_
    refine mr_aload_n (pc := 56) dX2_add_56 rfl ?_
    refine mr_iload (pc := 57) dX2_add_57 rfl ?_
    refine mr_iconstv (pc := 59) (4 : Int32) dX2_add_59 (by decide) ?_
    refine mr_iconstv (pc := 60) (0 : Int32) dX2_add_60 (by decide) ?_
    obtain ⟨σ8, τ8, c8, h⟩ := ovs h
    refine mr_callV0 (pc := 61) (ci := 2) [.int r1, .int (4 : Int32), .int (0 : Int32)] ok_X2_set lk_72 st_X2_set se_X2_set dX2_add_61 rfl (ha_2 σ7 τ7) rfl rfl (Nat.le_of_ble_eq_true rfl) (Nat.le_of_ble_eq_true rfl) ((dc_P_set_2 c8).up (by decide)) ?_
    obtain ⟨rfl, rfl⟩ := os2 h
    exact mr_ret (pc := 64) rfl dX2_add_64
  · replace h := (if_neg q2).symm.trans h
    obtain ⟨rfl, rfl⟩ := os2 h
    exact mr_ret (pc := 12) rfl dX2_add_12
set_option maxHeartbeats 4000000 in
set_option maxRecDepth 100000 in
theorem dc_P_get_2 {p1 : Int32} {p2 : Int32} {σ : mS} {τ : mT} {r : Int32} {σ' : mS} {τ' : mT} (h : P_get_2 p1 p2 σ τ = some (r, σ', τ')) : mc_V M_X2_get 1 none 0 (mc_entry [.ref 2, .int p1, .int p2] 3) [] (mc_hp σ τ) (some (.int r)) (mc_hp σ' τ') 0 0 := by
  unfold P_get_2 at h
  show mc_V M_X2_get 1 none 0 [.ref 2, .int p1, .int p2] [] (mc_hp σ τ) (some (.int r)) (mc_hp σ' τ') 0 0
  refine mr_aload_n (pc := 0) dX2_get_0 rfl ?_
  refine mr_iload_n (pc := 1) dX2_get_1 rfl ?_
  obtain ⟨r1, σ1, τ1, c1, h⟩ := obs h
  refine mr_callV0 (pc := 2) (ci := 2) [.int p1] ok_X2_has lk_70 st_X2_has se_X2_has dX2_get_2 rfl (ha_2 σ τ) rfl rfl (Nat.le_of_ble_eq_true rfl) (Nat.le_of_ble_eq_true rfl) ((dc_P_has_2 c1).up (by decide)) ?_
  refine mr_if_eq (pc := 5) 17 dX2_get_5 (by decide) (fun q2 => ?_) (fun q2 => ?_)
  · replace h := (if_pos q2).symm.trans h
    refine mr_iconstv (pc := 17) (0 : Int32) dX2_get_17 (by decide) ?_
    obtain ⟨rfl, rfl, rfl⟩ := os3 h
    exact mr_iret (pc := 18) rfl (rfl) dX2_get_18
  · replace h := (if_neg q2).symm.trans h
    refine mr_iload_n (pc := 8) dX2_get_8 rfl ?_
    refine mr_iconstv (pc := 9) (0 : Int32) dX2_get_9 (by decide) ?_
    refine mr_iconstv (pc := 10) (4 : Int32) dX2_get_10 (by decide) ?_
    obtain ⟨r3, σ3, τ3, c3, h⟩ := obs h
    refine mr_callSN0 (pc := 11) [.int p2, .int (0 : Int32), .int (4 : Int32)] ok_X5_within lk_188 st_X5_within dX2_get_11 rfl rfl (Nat.le_of_ble_eq_true rfl) (Nat.le_of_ble_eq_true rfl) ((dc_R_within c3).up (by decide)) ?_
    refine mr_if_ne (pc := 14) 19 dX2_get_14 (by decide) (fun q4 => ?_) (fun q4 => ?_)
    · replace h := (if_neg q4).symm.trans h
      refine mr_aload_n (pc := 19) dX2_get_19 rfl ?_
      refine mr_getf (pc := 20) (ci := 2) inX2 rfl 0 (by decide) fl_25 dX2_get_20 (ha_2 σ3 τ3) rfl ?_
      refine mr_iload_n (pc := 23) dX2_get_23 rfl ?_
      refine mr_iconstv (pc := 24) (5 : Int32) dX2_get_24 (by decide) ?_
      refine mr_imul (pc := 25) dX2_get_25 ?_
      refine mr_iload_n (pc := 26) dX2_get_26 rfl ?_
      refine mr_iadd (pc := 27) dX2_get_27 ?_
      obtain ⟨g5, h⟩ := og h
      refine mr_iald (pc := 28) dX2_get_28 (ha_3 σ3 τ3) (g5) ?_
      obtain ⟨rfl, rfl, rfl⟩ := os3 h
      exact mr_iret (pc := 29) rfl (rfl) dX2_get_29
    · replace h := (if_pos q4).symm.trans h
      refine mr_iconstv (pc := 17) (0 : Int32) dX2_get_17 (by decide) ?_
      obtain ⟨rfl, rfl, rfl⟩ := os3 h
      exact mr_iret (pc := 18) rfl (rfl) dX2_get_18
set_option maxHeartbeats 4000000 in
set_option maxRecDepth 100000 in
theorem dc_Y_overlap {p1 : Int32} {p2 : Int32} {σ : mS} {τ : mT} {r : Int32} {σ' : mS} {τ' : mT} (h : Y_overlap p1 p2 σ τ = some (r, σ', τ')) : mc_V M_X1_overlap 0 none 0 (mc_entry [.ref 6, .int p1, .int p2] 3) [] (mc_hp σ τ) (some (.int r)) (mc_hp σ' τ') 0 0 := by
  unfold Y_overlap at h
  show mc_V M_X1_overlap 0 none 0 [.ref 6, .int p1, .int p2] [] (mc_hp σ τ) (some (.int r)) (mc_hp σ' τ') 0 0
  refine mr_aload_n (pc := 0) dX1_overlap_0 rfl ?_
  refine mr_getf (pc := 1) (ci := 1) inX1 rfl 0 (by decide) fl_15 dX1_overlap_1 (ha_6 σ τ) rfl ?_
  refine mr_iload_n (pc := 4) dX1_overlap_4 rfl ?_
  obtain ⟨g1, h⟩ := og h
  refine mr_iald (pc := 5) dX1_overlap_5 (ha_7 σ τ) (g1) ?_
  refine mr_aload_n (pc := 6) dX1_overlap_6 rfl ?_
  refine mr_getf (pc := 7) (ci := 1) inX1 rfl 1 (by decide) fl_16 dX1_overlap_7 (ha_6 σ τ) rfl ?_
  refine mr_iload_n (pc := 10) dX1_overlap_10 rfl ?_
  obtain ⟨g2, h⟩ := og h
  refine mr_iald (pc := 11) dX1_overlap_11 (ha_8 σ τ) (g2) ?_
  refine mr_icmp_ge (pc := 12) 34 dX1_overlap_12 (by decide) (fun q3 => ?_) (fun q3 => ?_)
  · replace h := (if_pos q3).symm.trans h
    refine mr_iconstv (pc := 34) (0 : Int32) dX1_overlap_34 (by decide) ?_
    obtain ⟨rfl, rfl, rfl⟩ := os3 h
    exact mr_iret (pc := 35) rfl (rfl) dX1_overlap_35
  · replace h := (if_neg q3).symm.trans h
    refine mr_aload_n (pc := 15) dX1_overlap_15 rfl ?_
    refine mr_getf (pc := 16) (ci := 1) inX1 rfl 0 (by decide) fl_15 dX1_overlap_16 (ha_6 σ τ) rfl ?_
    refine mr_iload_n (pc := 19) dX1_overlap_19 rfl ?_
    refine mr_iald (pc := 20) dX1_overlap_20 (ha_7 σ τ) (g2) ?_
    refine mr_aload_n (pc := 21) dX1_overlap_21 rfl ?_
    refine mr_getf (pc := 22) (ci := 1) inX1 rfl 1 (by decide) fl_16 dX1_overlap_22 (ha_6 σ τ) rfl ?_
    refine mr_iload_n (pc := 25) dX1_overlap_25 rfl ?_
    refine mr_iald (pc := 26) dX1_overlap_26 (ha_8 σ τ) (g1) ?_
    refine mr_icmp_ge (pc := 27) 34 dX1_overlap_27 (by decide) (fun q4 => ?_) (fun q4 => ?_)
    · replace h := (if_pos q4).symm.trans h
      refine mr_iconstv (pc := 34) (0 : Int32) dX1_overlap_34 (by decide) ?_
      obtain ⟨rfl, rfl, rfl⟩ := os3 h
      exact mr_iret (pc := 35) rfl (rfl) dX1_overlap_35
    · replace h := (if_neg q4).symm.trans h
      refine mr_iconstv (pc := 30) (1 : Int32) dX1_overlap_30 (by decide) ?_
      refine mr_goto (pc := 31) 35 dX1_overlap_31 (by decide) ?_
      obtain ⟨rfl, rfl, rfl⟩ := os3 h
      exact mr_iret (pc := 35) rfl (rfl) dX1_overlap_35
set_option maxHeartbeats 4000000 in
set_option maxRecDepth 100000 in
theorem dc_Y_findLevel_l4 : ∀ (n : Nat), ∀ (x1 : Int32) (x2 : Int32) (x3 : Int32) (σ : mS) (τ : mT) (σ' : mS) (τ' : mT), Y_findLevel_l4 n x1 x2 x3 σ τ = some (σ', τ') → mc_V M_X1_findLevel 1 none 4 [.ref 6, .int x1, .int x2, .int x3] [] (mc_hp σ τ) none (mc_hp σ' τ') 0 0 := by
  intro n
  induction n with
  | zero =>
    intros
    rename_i h
    cases h
  | succ n ih =>
    intro x1 x2 x3 σ τ σ' τ' h
    refine mr_iload_n (pc := 4) dX1_findLevel_4 rfl ?_
    refine mr_iload_n (pc := 5) dX1_findLevel_5 rfl ?_
    refine mr_icmp_ge (pc := 6) 37 dX1_findLevel_6 (by decide) (fun q1 => ?_) (fun q1 => ?_)
    · replace h := (if_pos q1).symm.trans h
      refine mr_aload_n (pc := 37) dX1_findLevel_37 rfl ?_
      refine mr_getf (pc := 38) (ci := 1) inX1 rfl 2 (by decide) fl_17 dX1_findLevel_38 (ha_6 σ τ) rfl ?_
      refine mr_iload_n (pc := 41) dX1_findLevel_41 rfl ?_
      refine mr_iload_n (pc := 42) dX1_findLevel_42 rfl ?_
      obtain ⟨g2, h⟩ := og h
      obtain ⟨σ3, e3, h⟩ := ow h
      refine mr_iast (pc := 43) dX1_findLevel_43 (ha_9 σ τ) (g2) (mc_V.heap (hs_9 e3) ?_)
      obtain ⟨rfl, rfl⟩ := os2 h
      exact mr_ret (pc := 44) rfl dX1_findLevel_44
    · replace h := (if_neg q1).symm.trans h
      refine mr_aload_n (pc := 9) dX1_findLevel_9 rfl ?_
      refine mr_iload_n (pc := 10) dX1_findLevel_10 rfl ?_
      refine mr_iload_n (pc := 11) dX1_findLevel_11 rfl ?_
      obtain ⟨r4, σ4, τ4, c4, h⟩ := obs h
      refine mr_callV0 (pc := 12) (ci := 1) [.int x3, .int x1] ok_X1_overlap lk_67 st_X1_overlap se_X1_overlap dX1_findLevel_12 rfl (ha_6 σ τ) rfl rfl (Nat.le_of_ble_eq_true rfl) (Nat.le_of_ble_eq_true rfl) ((dc_Y_overlap c4).up (by decide)) ?_
      refine mr_if_eq (pc := 15) 31 dX1_findLevel_15 (by decide) (fun q5 => ?_) (fun q5 => ?_)
      · replace h := (if_pos q5).symm.trans h
        refine mr_iincv (pc := 31) (1 : Int32) dX1_findLevel_31 rfl (by decide) (show mc_V M_X1_findLevel 1 none 34 [.ref 6, .int x1, .int x2, .int (x3 + (1 : Int32))] [] (mc_hp σ4 τ4) none (mc_hp σ' τ') 0 0 from ?_)
        refine mr_goto (pc := 34) 4 dX1_findLevel_34 (by decide) ?_
        exact mc_V.locs (loc' := [.ref 6, .int x1, .int x2, .int (x3 + (1 : Int32))]) ⟨Or.inr rfl, Or.inr rfl, Or.inr rfl, Or.inr rfl, trivial⟩ (ih x1 x2 (x3 + (1 : Int32)) σ4 τ4 σ' τ' h)
      · replace h := (if_neg q5).symm.trans h
        refine mr_iload_n (pc := 18) dX1_findLevel_18 rfl ?_
        refine mr_aload_n (pc := 19) dX1_findLevel_19 rfl ?_
        refine mr_getf (pc := 20) (ci := 1) inX1 rfl 2 (by decide) fl_17 dX1_findLevel_20 (ha_6 σ4 τ4) rfl ?_
        refine mr_iload_n (pc := 23) dX1_findLevel_23 rfl ?_
        obtain ⟨g6, h⟩ := og h
        refine mr_iald (pc := 24) dX1_findLevel_24 (ha_9 σ4 τ4) (g6) ?_
        refine mr_iconstv (pc := 25) (1 : Int32) dX1_findLevel_25 (by decide) ?_
        refine mr_iadd (pc := 26) dX1_findLevel_26 ?_
        refine mr_mmax (pc := 27) lk_68 dX1_findLevel_27 (Nat.le_of_ble_eq_true rfl) ?_
        refine mr_istore_n (pc := 30) dX1_findLevel_30 (Nat.le_of_ble_eq_true rfl) (show mc_V M_X1_findLevel 1 none 31 [.ref 6, .int x1, .int (jmax x2 ((σ4 9 x3.toNatClampNeg) + (1 : Int32))), .int x3] [] (mc_hp σ4 τ4) none (mc_hp σ' τ') 0 0 from ?_)
        refine mr_iincv (pc := 31) (1 : Int32) dX1_findLevel_31 rfl (by decide) (show mc_V M_X1_findLevel 1 none 34 [.ref 6, .int x1, .int (jmax x2 ((σ4 9 x3.toNatClampNeg) + (1 : Int32))), .int (x3 + (1 : Int32))] [] (mc_hp σ4 τ4) none (mc_hp σ' τ') 0 0 from ?_)
        refine mr_goto (pc := 34) 4 dX1_findLevel_34 (by decide) ?_
        exact mc_V.locs (loc' := [.ref 6, .int x1, .int (jmax x2 ((σ4 9 x3.toNatClampNeg) + (1 : Int32))), .int (x3 + (1 : Int32))]) ⟨Or.inr rfl, Or.inr rfl, Or.inr rfl, Or.inr rfl, trivial⟩ (ih x1 (jmax x2 ((σ4 9 x3.toNatClampNeg) + (1 : Int32))) (x3 + (1 : Int32)) σ4 τ4 σ' τ' h)
set_option maxHeartbeats 4000000 in
set_option maxRecDepth 100000 in
theorem dc_Y_findLevel {p1 : Int32} {σ : mS} {τ : mT} {σ' : mS} {τ' : mT} (h : Y_findLevel p1 σ τ = some (σ', τ')) : mc_V M_X1_findLevel 1 none 0 (mc_entry [.ref 6, .int p1] 4) [] (mc_hp σ τ) none (mc_hp σ' τ') 0 0 := by
  unfold Y_findLevel at h
  show mc_V M_X1_findLevel 1 none 0 [.ref 6, .int p1, .retAddr 0, .retAddr 0] [] (mc_hp σ τ) none (mc_hp σ' τ') 0 0
  refine mr_iconstv (pc := 0) (0 : Int32) dX1_findLevel_0 (by decide) ?_
  refine mr_istore_n (pc := 1) dX1_findLevel_1 (Nat.le_of_ble_eq_true rfl) (show mc_V M_X1_findLevel 1 none 2 [.ref 6, .int p1, .int (0 : Int32), .retAddr 0] [] (mc_hp σ τ) none (mc_hp σ' τ') 0 0 from ?_)
  refine mr_iconstv (pc := 2) (0 : Int32) dX1_findLevel_2 (by decide) ?_
  refine mr_istore_n (pc := 3) dX1_findLevel_3 (Nat.le_of_ble_eq_true rfl) (show mc_V M_X1_findLevel 1 none 4 [.ref 6, .int p1, .int (0 : Int32), .int (0 : Int32)] [] (mc_hp σ τ) none (mc_hp σ' τ') 0 0 from ?_)
  exact mc_V.locs (loc' := [.ref 6, .int p1, .int (0 : Int32), .int (0 : Int32)]) ⟨Or.inr rfl, Or.inr rfl, Or.inr rfl, Or.inr rfl, trivial⟩ (dc_Y_findLevel_l4 mc_F p1 (0 : Int32) (0 : Int32) σ τ σ' τ' h)
set_option maxHeartbeats 4000000 in
set_option maxRecDepth 100000 in
theorem dc_Y_findUnder_l9 : ∀ (n : Nat), ∀ (x1 : Int32) (x2 : Int32) (σ : mS) (τ : mT) (σ' : mS) (τ' : mT), Y_findUnder_l9 n x1 x2 σ τ = some (σ', τ') → mc_V M_X1_findUnder 1 none 9 [.ref 6, .int x1, .int x2] [] (mc_hp σ τ) none (mc_hp σ' τ') 0 0 := by
  intro n
  induction n with
  | zero =>
    intros
    rename_i h
    cases h
  | succ n ih =>
    intro x1 x2 σ τ σ' τ' h
    refine mr_iload_n (pc := 9) dX1_findUnder_9 rfl ?_
    refine mr_iload_n (pc := 10) dX1_findUnder_10 rfl ?_
    refine mr_icmp_ge (pc := 11) 70 dX1_findUnder_11 (by decide) (fun q1 => ?_) (fun q1 => ?_)
    · replace h := (if_pos q1).symm.trans h
      obtain ⟨rfl, rfl⟩ := os2 h
      exact mr_ret (pc := 70) rfl dX1_findUnder_70
    · replace h := (if_neg q1).symm.trans h
      refine mr_aload_n (pc := 14) dX1_findUnder_14 rfl ?_
      refine mr_getf (pc := 15) (ci := 1) inX1 rfl 2 (by decide) fl_17 dX1_findUnder_15 (ha_6 σ τ) rfl ?_
      refine mr_iload_n (pc := 18) dX1_findUnder_18 rfl ?_
      obtain ⟨g2, h⟩ := og h
      refine mr_iald (pc := 19) dX1_findUnder_19 (ha_9 σ τ) (g2) ?_
      refine mr_aload_n (pc := 20) dX1_findUnder_20 rfl ?_
      refine mr_getf (pc := 21) (ci := 1) inX1 rfl 2 (by decide) fl_17 dX1_findUnder_21 (ha_6 σ τ) rfl ?_
      refine mr_iload_n (pc := 24) dX1_findUnder_24 rfl ?_
      obtain ⟨g3, h⟩ := og h
      refine mr_iald (pc := 25) dX1_findUnder_25 (ha_9 σ τ) (g3) ?_
      refine mr_iconstv (pc := 26) (1 : Int32) dX1_findUnder_26 (by decide) ?_
      refine mr_isub (pc := 27) dX1_findUnder_27 ?_
      refine mr_icmp_ne (pc := 28) 64 dX1_findUnder_28 (by decide) (fun q4 => ?_) (fun q4 => ?_)
      · replace h := (if_neg q4).symm.trans h
        refine mr_iincv (pc := 64) (1 : Int32) dX1_findUnder_64 rfl (by decide) (show mc_V M_X1_findUnder 1 none 67 [.ref 6, .int x1, .int (x2 + (1 : Int32))] [] (mc_hp σ τ) none (mc_hp σ' τ') 0 0 from ?_)
        refine mr_goto (pc := 67) 9 dX1_findUnder_67 (by decide) ?_
        exact mc_V.locs (loc' := [.ref 6, .int x1, .int (x2 + (1 : Int32))]) ⟨Or.inr rfl, Or.inr rfl, Or.inr rfl, trivial⟩ (ih x1 (x2 + (1 : Int32)) σ τ σ' τ' h)
      · replace h := (if_pos q4).symm.trans h
        refine mr_aload_n (pc := 31) dX1_findUnder_31 rfl ?_
        refine mr_iload_n (pc := 32) dX1_findUnder_32 rfl ?_
        refine mr_iload_n (pc := 33) dX1_findUnder_33 rfl ?_
        obtain ⟨r5, σ5, τ5, c5, h⟩ := obs h
        refine mr_callV0 (pc := 34) (ci := 1) [.int x2, .int x1] ok_X1_overlap lk_67 st_X1_overlap se_X1_overlap dX1_findUnder_34 rfl (ha_6 σ τ) rfl rfl (Nat.le_of_ble_eq_true rfl) (Nat.le_of_ble_eq_true rfl) ((dc_Y_overlap c5).up (by decide)) ?_
        refine mr_if_eq (pc := 37) 64 dX1_findUnder_37 (by decide) (fun q6 => ?_) (fun q6 => ?_)
        · replace h := (if_pos q6).symm.trans h
          refine mr_iincv (pc := 64) (1 : Int32) dX1_findUnder_64 rfl (by decide) (show mc_V M_X1_findUnder 1 none 67 [.ref 6, .int x1, .int (x2 + (1 : Int32))] [] (mc_hp σ5 τ5) none (mc_hp σ' τ') 0 0 from ?_)
          refine mr_goto (pc := 67) 9 dX1_findUnder_67 (by decide) ?_
          exact mc_V.locs (loc' := [.ref 6, .int x1, .int (x2 + (1 : Int32))]) ⟨Or.inr rfl, Or.inr rfl, Or.inr rfl, trivial⟩ (ih x1 (x2 + (1 : Int32)) σ5 τ5 σ' τ' h)
        · replace h := (if_neg q6).symm.trans h
          refine mr_aload_n (pc := 40) dX1_findUnder_40 rfl ?_
          refine mr_getf (pc := 41) (ci := 1) inX1 rfl 3 (by decide) fl_18 dX1_findUnder_41 (ha_6 σ5 τ5) rfl ?_
          refine mr_iload_n (pc := 44) dX1_findUnder_44 rfl ?_
          refine mr_dup2 (pc := 45) dX1_findUnder_45 rfl rfl ?_
          refine mr_iald (pc := 46) dX1_findUnder_46 (ha_10 σ5 τ5) (g3) ?_
          refine mr_iconstv (pc := 47) (1 : Int32) dX1_findUnder_47 (by decide) ?_
          refine mr_iload_n (pc := 48) dX1_findUnder_48 rfl ?_
          refine mr_ishl (pc := 49) dX1_findUnder_49 ?_
          refine mr_ior (pc := 50) dX1_findUnder_50 ?_
          obtain ⟨σ7, e7, h⟩ := ow h
          refine mr_iast (pc := 51) dX1_findUnder_51 (ha_10 σ5 τ5) (g3) (mc_V.heap (hs_10 e7) ?_)
          refine mr_aload_n (pc := 52) dX1_findUnder_52 rfl ?_
          refine mr_getf (pc := 53) (ci := 1) inX1 rfl 4 (by decide) fl_19 dX1_findUnder_53 (ha_6 σ7 τ5) rfl ?_
          refine mr_iload_n (pc := 56) dX1_findUnder_56 rfl ?_
          refine mr_dup2 (pc := 57) dX1_findUnder_57 rfl rfl ?_
          refine mr_iald (pc := 58) dX1_findUnder_58 (ha_11 σ7 τ5) (g2) ?_
          refine mr_iconstv (pc := 59) (1 : Int32) dX1_findUnder_59 (by decide) ?_
          refine mr_iload_n (pc := 60) dX1_findUnder_60 rfl ?_
          refine mr_ishl (pc := 61) dX1_findUnder_61 ?_
          refine mr_ior (pc := 62) dX1_findUnder_62 ?_
          obtain ⟨σ8, e8, h⟩ := ow h
          refine mr_iast (pc := 63) dX1_findUnder_63 (ha_11 σ7 τ5) (g2) (mc_V.heap (hs_11 e8) ?_)
          refine mr_iincv (pc := 64) (1 : Int32) dX1_findUnder_64 rfl (by decide) (show mc_V M_X1_findUnder 1 none 67 [.ref 6, .int x1, .int (x2 + (1 : Int32))] [] (mc_hp σ8 τ5) none (mc_hp σ' τ') 0 0 from ?_)
          refine mr_goto (pc := 67) 9 dX1_findUnder_67 (by decide) ?_
          exact mc_V.locs (loc' := [.ref 6, .int x1, .int (x2 + (1 : Int32))]) ⟨Or.inr rfl, Or.inr rfl, Or.inr rfl, trivial⟩ (ih x1 (x2 + (1 : Int32)) σ8 τ5 σ' τ' h)
set_option maxHeartbeats 4000000 in
set_option maxRecDepth 100000 in
theorem dc_Y_findUnder {p1 : Int32} {σ : mS} {τ : mT} {σ' : mS} {τ' : mT} (h : Y_findUnder p1 σ τ = some (σ', τ')) : mc_V M_X1_findUnder 1 none 0 (mc_entry [.ref 6, .int p1] 3) [] (mc_hp σ τ) none (mc_hp σ' τ') 0 0 := by
  unfold Y_findUnder at h
  show mc_V M_X1_findUnder 1 none 0 [.ref 6, .int p1, .retAddr 0] [] (mc_hp σ τ) none (mc_hp σ' τ') 0 0
  refine mr_aload_n (pc := 0) dX1_findUnder_0 rfl ?_
  refine mr_getf (pc := 1) (ci := 1) inX1 rfl 3 (by decide) fl_18 dX1_findUnder_1 (ha_6 σ τ) rfl ?_
  refine mr_iload_n (pc := 4) dX1_findUnder_4 rfl ?_
  refine mr_iconstv (pc := 5) (0 : Int32) dX1_findUnder_5 (by decide) ?_
  obtain ⟨g1, h⟩ := og h
  obtain ⟨σ2, e2, h⟩ := ow h
  refine mr_iast (pc := 6) dX1_findUnder_6 (ha_10 σ τ) (g1) (mc_V.heap (hs_10 e2) ?_)
  refine mr_iconstv (pc := 7) (0 : Int32) dX1_findUnder_7 (by decide) ?_
  refine mr_istore_n (pc := 8) dX1_findUnder_8 (Nat.le_of_ble_eq_true rfl) (show mc_V M_X1_findUnder 1 none 9 [.ref 6, .int p1, .int (0 : Int32)] [] (mc_hp σ2 τ) none (mc_hp σ' τ') 0 0 from ?_)
  exact mc_V.locs (loc' := [.ref 6, .int p1, .int (0 : Int32)]) ⟨Or.inr rfl, Or.inr rfl, Or.inr rfl, trivial⟩ (dc_Y_findUnder_l9 mc_F p1 (0 : Int32) σ2 τ σ' τ' h)
