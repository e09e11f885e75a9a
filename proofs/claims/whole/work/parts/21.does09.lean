set_option maxHeartbeats 4000000 in
set_option maxRecDepth 100000 in
theorem dc_Q_takes_37_l2 : ∀ (n : Nat), ∀ (x2 : Int32) (x3 : Int32) (σ : mS) (τ : mT) (σ' : mS) (τ' : mT), Q_takes_37_l2 n x2 x3 σ τ = some (σ', τ') → mc_V M_X6_takes 0 none 2 [.ref 34, .ref 37, .int x2, .int x3] [] (mc_hp σ τ) none (mc_hp σ' τ') 0 0 := by
  intro n
  induction n with
  | zero =>
    intros
    rename_i h
    cases h
  | succ n ih =>
    intro x2 x3 σ τ σ' τ' h
    refine mr_iload_n (pc := 2) dX6_takes_2 rfl ?_
    refine mr_bipushv (pc := 3) (21 : Int32) dX6_takes_3 (by decide) ?_
    refine mr_icmp_ge (pc := 5) 25 dX6_takes_5 (by decide) (fun q1 => ?_) (fun q1 => ?_)
    · replace h := (if_pos q1).symm.trans h
      obtain ⟨rfl, rfl⟩ := os2 h
      exact mr_ret (pc := 25) rfl dX6_takes_25
    · replace h := (if_neg q1).symm.trans h
      refine mr_aload_n (pc := 8) dX6_takes_8 rfl ?_
      refine mr_getf (pc := 9) (ci := 6) inX6 rfl 0 (by decide) fl_31 dX6_takes_9 (ha_34 σ τ) rfl ?_
      refine mr_iload_n (pc := 12) dX6_takes_12 rfl ?_
      refine mr_aload_n (pc := 13) dX6_takes_13 rfl ?_
      refine mr_iload_n (pc := 14) dX6_takes_14 rfl ?_
      refine mr_iload_n (pc := 15) dX6_takes_15 rfl ?_
      refine mr_iadd (pc := 16) dX6_takes_16 ?_
      obtain ⟨g2, h⟩ := og h
      refine mr_iald (pc := 17) dX6_takes_17 (ha_37 σ τ) (g2) ?_
      obtain ⟨g3, h⟩ := og h
      obtain ⟨σ4, e4, h⟩ := ow h
      refine mr_iast (pc := 18) dX6_takes_18 (ha_35 σ τ) (g3) (mc_V.heap (hs_35 e4) ?_)
      refine mr_iincv (pc := 19) (1 : Int32) dX6_takes_19 rfl (by decide) (show mc_V M_X6_takes 0 none 22 [.ref 34, .ref 37, .int x2, .int (x3 + (1 : Int32))] [] (mc_hp σ4 τ) none (mc_hp σ' τ') 0 0 from ?_)
      refine mr_goto (pc := 22) 2 dX6_takes_22 (by decide) ?_
      exact mc_V.locs (loc' := [.ref 34, .ref 37, .int x2, .int (x3 + (1 : Int32))]) ⟨Or.inr rfl, Or.inr rfl, Or.inr rfl, Or.inr rfl, trivial⟩ (ih x2 (x3 + (1 : Int32)) σ4 τ σ' τ' h)
set_option maxHeartbeats 4000000 in
set_option maxRecDepth 100000 in
theorem dc_Q_takes_37 {p2 : Int32} {σ : mS} {τ : mT} {σ' : mS} {τ' : mT} (h : Q_takes_37 p2 σ τ = some (σ', τ')) : mc_V M_X6_takes 0 none 0 (mc_entry [.ref 34, .ref 37, .int p2] 4) [] (mc_hp σ τ) none (mc_hp σ' τ') 0 0 := by
  unfold Q_takes_37 at h
  show mc_V M_X6_takes 0 none 0 [.ref 34, .ref 37, .int p2, .retAddr 0] [] (mc_hp σ τ) none (mc_hp σ' τ') 0 0
  refine mr_iconstv (pc := 0) (0 : Int32) dX6_takes_0 (by decide) ?_
  refine mr_istore_n (pc := 1) dX6_takes_1 (Nat.le_of_ble_eq_true rfl) (show mc_V M_X6_takes 0 none 2 [.ref 34, .ref 37, .int p2, .int (0 : Int32)] [] (mc_hp σ τ) none (mc_hp σ' τ') 0 0 from ?_)
  exact mc_V.locs (loc' := [.ref 34, .ref 37, .int p2, .int (0 : Int32)]) ⟨Or.inr rfl, Or.inr rfl, Or.inr rfl, Or.inr rfl, trivial⟩ (dc_Q_takes_37_l2 mc_F p2 (0 : Int32) σ τ σ' τ' h)
set_option maxHeartbeats 4000000 in
set_option maxRecDepth 100000 in
theorem dc_Q_back {p1 : Int32} {σ : mS} {τ : mT} {r : Int32} {σ' : mS} {τ' : mT} (h : Q_back p1 σ τ = some (r, σ', τ')) : mc_V M_X6_back 1 none 0 (mc_entry [.ref 34, .int p1] 2) [] (mc_hp σ τ) (some (.int r)) (mc_hp σ' τ') 0 0 := by
  unfold Q_back at h
  show mc_V M_X6_back 1 none 0 [.ref 34, .int p1] [] (mc_hp σ τ) (some (.int r)) (mc_hp σ' τ') 0 0
  refine mr_iload_n (pc := 0) dX6_back_0 rfl ?_
  refine mr_iconstv (pc := 1) (0 : Int32) dX6_back_1 (by decide) ?_
  refine mr_iconstv (pc := 2) (1 : Int32) dX6_back_2 (by decide) ?_
  obtain ⟨r1, σ1, τ1, c1, h⟩ := obs h
  refine mr_callS0 (pc := 3) [.int p1, .int (0 : Int32), .int (1 : Int32)] ok_X6_within lk_131 st_X6_within dX6_back_3 rfl rfl (Nat.le_of_ble_eq_true rfl) (Nat.le_of_ble_eq_true rfl) ((dc_Q_within c1).up (by decide)) ?_
  refine mr_if_ne (pc := 6) 11 dX6_back_6 (by decide) (fun q2 => ?_) (fun q2 => ?_)
  · replace h := (if_neg q2).symm.trans h
    refine mr_aload_n (pc := 11) dX6_back_11 rfl ?_
    refine mr_getf (pc := 12) (ci := 6) inX6 rfl 4 (by decide) fl_34 dX6_back_12 (ha_34 σ1 τ1) rfl ?_
    refine mr_iload_n (pc := 15) dX6_back_15 rfl ?_
    obtain ⟨g3, h⟩ := og h
    refine mr_zald (pc := 16) dX6_back_16 (ha_38 σ1 τ1) (g3) ?_
    refine mr_if_ne (pc := 17) 23 dX6_back_17 (by decide) (fun q4 => ?_) (fun q4 => ?_)
    · replace h := (if_neg q4).symm.trans h
      refine mr_aload_n (pc := 23) dX6_back_23 rfl ?_
      refine mr_aload_n (pc := 24) dX6_back_24 rfl ?_
      refine mr_getf (pc := 25) (ci := 6) inX6 rfl 3 (by decide) fl_33 dX6_back_25 (ha_34 σ1 τ1) rfl ?_
      refine mr_bipushv (pc := 28) (21 : Int32) dX6_back_28 (by decide) ?_
      refine mr_iload_n (pc := 30) dX6_back_30 rfl ?_
      refine mr_imul (pc := 31) dX6_back_31 ?_
      obtain ⟨σ5, τ5, c5, h⟩ := ovs h
      refine mr_callV0 (pc := 32) (ci := 6) [.ref 37, .int ((21 : Int32) * p1)] ok_X6_takes lk_167 st_X6_takes se_X6_takes dX6_back_32 rfl (ha_34 σ1 τ1) rfl rfl (Nat.le_of_ble_eq_true rfl) (Nat.le_of_ble_eq_true rfl) ((dc_Q_takes_37 c5).up (by decide)) ?_
      refine mr_aload_n (pc := 35) dX6_back_35 rfl ?_
      refine mr_iconstv (pc := 36) (0 : Int32) dX6_back_36 (by decide) ?_
      obtain ⟨σ6, e6, h⟩ := ow h
      refine mr_putf (pc := 37) (ci := 6) inX6 tyX6 tyX6_ok nmX6 rfl 2 (by decide) fl_57 rfl dX6_back_37 (ha_34 σ5 τ5) (Nat.le_of_ble_eq_true rfl) rfl (mc_V.heap (hs_34_2 e6) ?_)
      refine mr_aload_n (pc := 40) dX6_back_40 rfl ?_
      refine mr_getf (pc := 41) (ci := 6) inX6 rfl 0 (by decide) fl_31 dX6_back_41 (ha_34 σ6 τ5) rfl ?_
      refine mr_iconstv (pc := 44) (0 : Int32) dX6_back_44 (by decide) ?_
      refine mr_iald (pc := 45) dX6_back_45 (ha_35 σ6 τ5) (vin_ok rfl) ?_
      obtain ⟨rfl, rfl, rfl⟩ := os3 h
      exact mr_iret (pc := 46) rfl (rfl) dX6_back_46
    · replace h := (if_pos q4).symm.trans h
      refine mr_bipushv (pc := 20) (-2 : Int32) dX6_back_20 (by decide) ?_
      obtain ⟨rfl, rfl, rfl⟩ := os3 h
      exact mr_iret (pc := 22) rfl (rfl) dX6_back_22
  · replace h := (if_pos q2).symm.trans h
    refine mr_iconstv (pc := 9) (-1 : Int32) dX6_back_9 (by decide) ?_
    obtain ⟨rfl, rfl, rfl⟩ := os3 h
    exact mr_iret (pc := 10) rfl (rfl) dX6_back_10
set_option maxHeartbeats 4000000 in
set_option maxRecDepth 100000 in
theorem dc_P_heaviness_2_l4 : ∀ (n : Nat), ∀ (x1 : Int32) (x2 : Int32) (σ : mS) (τ : mT) (r : Int32) (σ' : mS) (τ' : mT), P_heaviness_2_l4 n x1 x2 σ τ = some (r, σ', τ') → mc_V M_X2_heaviness 2 none 4 [.ref 2, .int x1, .int x2] [] (mc_hp σ τ) (some (.int r)) (mc_hp σ' τ') 0 0 := by
  intro n
  induction n with
  | zero =>
    intros
    rename_i h
    cases h
  | succ n ih =>
    intro x1 x2 σ τ r σ' τ' h
    refine mr_iload_n (pc := 4) dX2_heaviness_4 rfl ?_
    refine mr_aload_n (pc := 5) dX2_heaviness_5 rfl ?_
    obtain ⟨r1, σ1, τ1, c1, h⟩ := obs h
    refine mr_callV0 (pc := 6) (ci := 2) [] ok_X2_size lk_71 st_X2_size se_X2_size dX2_heaviness_6 rfl (ha_2 σ τ) rfl rfl (Nat.le_of_ble_eq_true rfl) (Nat.le_of_ble_eq_true rfl) ((dc_P_size_2 c1).up (by decide)) ?_
    refine mr_icmp_ge (pc := 9) 34 dX2_heaviness_9 (by decide) (fun q2 => ?_) (fun q2 => ?_)
    · replace h := (if_pos q2).symm.trans h
      refine mr_iload_n (pc := 34) dX2_heaviness_34 rfl ?_
      obtain ⟨rfl, rfl, rfl⟩ := os3 h
      exact mr_iret (pc := 35) rfl (rfl) dX2_heaviness_35
    · replace h := (if_neg q2).symm.trans h
      refine mr_iload_n (pc := 12) dX2_heaviness_12 rfl ?_
      refine mr_aload_n (pc := 13) dX2_heaviness_13 rfl ?_
      refine mr_iload_n (pc := 14) dX2_heaviness_14 rfl ?_
      refine mr_iconstv (pc := 15) (2 : Int32) dX2_heaviness_15 (by decide) ?_
      obtain ⟨r3, σ3, τ3, c3, h⟩ := obs h
      refine mr_callV0 (pc := 16) (ci := 2) [.int x2, .int (2 : Int32)] ok_X2_get lk_73 st_X2_get se_X2_get dX2_heaviness_16 rfl (ha_2 σ1 τ1) rfl rfl (Nat.le_of_ble_eq_true rfl) (Nat.le_of_ble_eq_true rfl) ((dc_P_get_2 c3).up (by decide)) ?_
      refine mr_aload_n (pc := 19) dX2_heaviness_19 rfl ?_
      refine mr_iload_n (pc := 20) dX2_heaviness_20 rfl ?_
      refine mr_iconstv (pc := 21) (3 : Int32) dX2_heaviness_21 (by decide) ?_
      obtain ⟨r4, σ4, τ4, c4, h⟩ := obs h
      refine mr_callV0 (pc := 22) (ci := 2) [.int x2, .int (3 : Int32)] ok_X2_get lk_73 st_X2_get se_X2_get dX2_heaviness_22 rfl (ha_2 σ3 τ3) rfl rfl (Nat.le_of_ble_eq_true rfl) (Nat.le_of_ble_eq_true rfl) ((dc_P_get_2 c4).up (by decide)) ?_
      refine mr_iadd (pc := 25) dX2_heaviness_25 ?_
      refine mr_iadd (pc := 26) dX2_heaviness_26 ?_
      refine mr_istore_n (pc := 27) dX2_heaviness_27 (Nat.le_of_ble_eq_true rfl) (show mc_V M_X2_heaviness 2 none 28 [.ref 2, .int (x1 + (r3 + r4)), .int x2] [] (mc_hp σ4 τ4) (some (.int r)) (mc_hp σ' τ') 0 0 from ?_)
      refine mr_iincv (pc := 28) (1 : Int32) dX2_heaviness_28 rfl (by decide) (show mc_V M_X2_heaviness 2 none 31 [.ref 2, .int (x1 + (r3 + r4)), .int (x2 + (1 : Int32))] [] (mc_hp σ4 τ4) (some (.int r)) (mc_hp σ' τ') 0 0 from ?_)
      refine mr_goto (pc := 31) 4 dX2_heaviness_31 (by decide) ?_
      exact mc_V.locs (loc' := [.ref 2, .int (x1 + (r3 + r4)), .int (x2 + (1 : Int32))]) ⟨Or.inr rfl, Or.inr rfl, Or.inr rfl, trivial⟩ (ih (x1 + (r3 + r4)) (x2 + (1 : Int32)) σ4 τ4 r σ' τ' h)
set_option maxHeartbeats 4000000 in
set_option maxRecDepth 100000 in
theorem dc_P_heaviness_2 {σ : mS} {τ : mT} {r : Int32} {σ' : mS} {τ' : mT} (h : P_heaviness_2 σ τ = some (r, σ', τ')) : mc_V M_X2_heaviness 2 none 0 (mc_entry [.ref 2] 3) [] (mc_hp σ τ) (some (.int r)) (mc_hp σ' τ') 0 0 := by
  unfold P_heaviness_2 at h
  show mc_V M_X2_heaviness 2 none 0 [.ref 2, .retAddr 0, .retAddr 0] [] (mc_hp σ τ) (some (.int r)) (mc_hp σ' τ') 0 0
  refine mr_iconstv (pc := 0) (0 : Int32) dX2_heaviness_0 (by decide) ?_
  refine mr_istore_n (pc := 1) dX2_heaviness_1 (Nat.le_of_ble_eq_true rfl) (show mc_V M_X2_heaviness 2 none 2 [.ref 2, .int (0 : Int32), .retAddr 0] [] (mc_hp σ τ) (some (.int r)) (mc_hp σ' τ') 0 0 from ?_)
  refine mr_iconstv (pc := 2) (0 : Int32) dX2_heaviness_2 (by decide) ?_
  refine mr_istore_n (pc := 3) dX2_heaviness_3 (Nat.le_of_ble_eq_true rfl) (show mc_V M_X2_heaviness 2 none 4 [.ref 2, .int (0 : Int32), .int (0 : Int32)] [] (mc_hp σ τ) (some (.int r)) (mc_hp σ' τ') 0 0 from ?_)
  exact mc_V.locs (loc' := [.ref 2, .int (0 : Int32), .int (0 : Int32)]) ⟨Or.inr rfl, Or.inr rfl, Or.inr rfl, trivial⟩ (dc_P_heaviness_2_l4 mc_F (0 : Int32) (0 : Int32) σ τ r σ' τ' h)
set_option maxHeartbeats 4000000 in
set_option maxRecDepth 100000 in
theorem dc_Y_greatestLevel_l5 : ∀ (n : Nat), ∀ (x1 : Int32) (x2 : Int32) (σ : mS) (τ : mT) (r : Int32) (σ' : mS) (τ' : mT), Y_greatestLevel_l5 n x1 x2 σ τ = some (r, σ', τ') → mc_V M_X1_greatestLevel 1 none 5 [.ref 6, .int x1, .int x2] [] (mc_hp σ τ) (some (.int r)) (mc_hp σ' τ') 0 0 := by
  intro n
  induction n with
  | zero =>
    intros
    rename_i h
    cases h
  | succ n ih =>
    intro x1 x2 σ τ r σ' τ' h
    refine mr_iload_n (pc := 5) dX1_greatestLevel_5 rfl ?_
    refine mr_aload_n (pc := 6) dX1_greatestLevel_6 rfl ?_
    refine mr_getf (pc := 7) (ci := 1) inX1 rfl 8 (by decide) fl_23 dX1_greatestLevel_7 (ha_6 σ τ) rfl ?_
    refine mr_icmp_ge (pc := 10) 30 dX1_greatestLevel_10 (by decide) (fun q1 => ?_) (fun q1 => ?_)
    · replace h := (if_pos q1).symm.trans h
      refine mr_iload_n (pc := 30) dX1_greatestLevel_30 rfl ?_
      obtain ⟨rfl, rfl, rfl⟩ := os3 h
      exact mr_iret (pc := 31) rfl (rfl) dX1_greatestLevel_31
    · replace h := (if_neg q1).symm.trans h
      refine mr_iload_n (pc := 13) dX1_greatestLevel_13 rfl ?_
      refine mr_aload_n (pc := 14) dX1_greatestLevel_14 rfl ?_
      refine mr_getf (pc := 15) (ci := 1) inX1 rfl 2 (by decide) fl_17 dX1_greatestLevel_15 (ha_6 σ τ) rfl ?_
      refine mr_iload_n (pc := 18) dX1_greatestLevel_18 rfl ?_
      obtain ⟨g2, h⟩ := og h
      refine mr_iald (pc := 19) dX1_greatestLevel_19 (ha_9 σ τ) (g2) ?_
      refine mr_mmax (pc := 20) lk_68 dX1_greatestLevel_20 (Nat.le_of_ble_eq_true rfl) ?_
      refine mr_istore_n (pc := 23) dX1_greatestLevel_23 (Nat.le_of_ble_eq_true rfl) (show mc_V M_X1_greatestLevel 1 none 24 [.ref 6, .int (jmax x1 (σ 9 x2.toNatClampNeg)), .int x2] [] (mc_hp σ τ) (some (.int r)) (mc_hp σ' τ') 0 0 from ?_)
      refine mr_iincv (pc := 24) (1 : Int32) dX1_greatestLevel_24 rfl (by decide) (show mc_V M_X1_greatestLevel 1 none 27 [.ref 6, .int (jmax x1 (σ 9 x2.toNatClampNeg)), .int (x2 + (1 : Int32))] [] (mc_hp σ τ) (some (.int r)) (mc_hp σ' τ') 0 0 from ?_)
      refine mr_goto (pc := 27) 5 dX1_greatestLevel_27 (by decide) ?_
      exact mc_V.locs (loc' := [.ref 6, .int (jmax x1 (σ 9 x2.toNatClampNeg)), .int (x2 + (1 : Int32))]) ⟨Or.inr rfl, Or.inr rfl, Or.inr rfl, trivial⟩ (ih (jmax x1 (σ 9 x2.toNatClampNeg)) (x2 + (1 : Int32)) σ τ r σ' τ' h)
set_option maxHeartbeats 4000000 in
set_option maxRecDepth 100000 in
theorem dc_Y_greatestLevel {σ : mS} {τ : mT} {r : Int32} {σ' : mS} {τ' : mT} (h : Y_greatestLevel σ τ = some (r, σ', τ')) : mc_V M_X1_greatestLevel 1 none 0 (mc_entry [.ref 6] 3) [] (mc_hp σ τ) (some (.int r)) (mc_hp σ' τ') 0 0 := by
  unfold Y_greatestLevel at h
  show mc_V M_X1_greatestLevel 1 none 0 [.ref 6, .retAddr 0, .retAddr 0] [] (mc_hp σ τ) (some (.int r)) (mc_hp σ' τ') 0 0
  refine mr_bipushv (pc := 0) (-9 : Int32) dX1_greatestLevel_0 (by decide) ?_
  refine mr_istore_n (pc := 2) dX1_greatestLevel_2 (Nat.le_of_ble_eq_true rfl) (show mc_V M_X1_greatestLevel 1 none 3 [.ref 6, .int (-9 : Int32), .retAddr 0] [] (mc_hp σ τ) (some (.int r)) (mc_hp σ' τ') 0 0 from ?_)
  refine mr_iconstv (pc := 3) (0 : Int32) dX1_greatestLevel_3 (by decide) ?_
  refine mr_istore_n (pc := 4) dX1_greatestLevel_4 (Nat.le_of_ble_eq_true rfl) (show mc_V M_X1_greatestLevel 1 none 5 [.ref 6, .int (-9 : Int32), .int (0 : Int32)] [] (mc_hp σ τ) (some (.int r)) (mc_hp σ' τ') 0 0 from ?_)
  exact mc_V.locs (loc' := [.ref 6, .int (-9 : Int32), .int (0 : Int32)]) ⟨Or.inr rfl, Or.inr rfl, Or.inr rfl, trivial⟩ (dc_Y_greatestLevel_l5 mc_F (-9 : Int32) (0 : Int32) σ τ r σ' τ' h)
set_option maxHeartbeats 4000000 in
set_option maxRecDepth 100000 in
theorem dc_R_count {p1 : Int32} {σ : mS} {τ : mT} {r : Int32} {σ' : mS} {τ' : mT} (h : R_count p1 σ τ = some (r, σ', τ')) : mc_V M_X5_count 3 none 0 (mc_entry [.ref 1, .int p1] 2) [] (mc_hp σ τ) (some (.int r)) (mc_hp σ' τ') 0 0 := by
  unfold R_count at h
  show mc_V M_X5_count 3 none 0 [.ref 1, .int p1] [] (mc_hp σ τ) (some (.int r)) (mc_hp σ' τ') 0 0
  refine mr_iload_n (pc := 0) dX5_count_0 rfl ?_
  by_cases q1 : p1 = 0
  · replace h := (if_pos q1).symm.trans h
    refine mr_tabIn (pc := 1) 39 40 dX5_count_1 (by rw [q1]; decide) (by rw [q1]; decide) (by rw [q1]; rfl) (by decide) ?_
    refine mr_aload_n (pc := 40) dX5_count_40 rfl ?_
    refine mr_getf (pc := 41) (ci := 5) inX5 rfl 0 (by decide) fl_0 dX5_count_41 (ha_1 σ τ) rfl ?_
    obtain ⟨r2, σ2, τ2, c2, h⟩ := obs h
    refine mr_callV0 (pc := 44) (ci := 2) [] ok_X2_size lk_10 st_X2_size se_X2_size dX5_count_44 rfl (ha_2 σ τ) rfl rfl (Nat.le_of_ble_eq_true rfl) (Nat.le_of_ble_eq_true rfl) ((dc_P_size_2 c2).up (by decide)) ?_
    obtain ⟨rfl, rfl, rfl⟩ := os3 h
    exact mr_iret (pc := 47) rfl (rfl) dX5_count_47
  · replace h := (if_neg q1).symm.trans h
    by_cases q3 : p1 = 1
    · replace h := (if_pos q3).symm.trans h
      refine mr_tabIn (pc := 1) 47 48 dX5_count_1 (by rw [q3]; decide) (by rw [q3]; decide) (by rw [q3]; rfl) (by decide) ?_
      refine mr_aload_n (pc := 48) dX5_count_48 rfl ?_
      refine mr_getf (pc := 49) (ci := 5) inX5 rfl 2 (by decide) fl_2 dX5_count_49 (ha_1 σ τ) rfl ?_
      refine mr_aload_n (pc := 52) dX5_count_52 rfl ?_
      refine mr_getf (pc := 53) (ci := 5) inX5 rfl 0 (by decide) fl_0 dX5_count_53 (ha_1 σ τ) rfl ?_
      obtain ⟨σ4, τ4, c4, h⟩ := ovs h
      refine mr_callV0 (pc := 56) (ci := 1) [.ref 2] ok_X1_find lk_12 st_X1_find se_X1_find dX5_count_56 rfl (ha_6 σ τ) rfl rfl (Nat.le_of_ble_eq_true rfl) (Nat.le_of_ble_eq_true rfl) ((dc_Y_find_2 c4).up (by decide)) ?_
      refine mr_aload_n (pc := 59) dX5_count_59 rfl ?_
      refine mr_getf (pc := 60) (ci := 5) inX5 rfl 2 (by decide) fl_2 dX5_count_60 (ha_1 σ4 τ4) rfl ?_
      obtain ⟨r5, σ5, τ5, c5, h⟩ := obs h
      refine mr_callV0 (pc := 63) (ci := 1) [] ok_X1_contacts lk_22 st_X1_contacts se_X1_contacts dX5_count_63 rfl (ha_6 σ4 τ4) rfl rfl (Nat.le_of_ble_eq_true rfl) (Nat.le_of_ble_eq_true rfl) ((dc_Y_contacts c5).up (by decide)) ?_
      obtain ⟨rfl, rfl, rfl⟩ := os3 h
      exact mr_iret (pc := 66) rfl (rfl) dX5_count_66
    · replace h := (if_neg q3).symm.trans h
      by_cases q6 : p1 = 2
      · replace h := (if_pos q6).symm.trans h
        refine mr_tabIn (pc := 1) 66 67 dX5_count_1 (by rw [q6]; decide) (by rw [q6]; decide) (by rw [q6]; rfl) (by decide) ?_
        refine mr_aload_n (pc := 67) dX5_count_67 rfl ?_
        refine mr_getf (pc := 68) (ci := 5) inX5 rfl 0 (by decide) fl_0 dX5_count_68 (ha_1 σ τ) rfl ?_
        obtain ⟨r7, σ7, τ7, c7, h⟩ := obs h
        refine mr_callV0 (pc := 71) (ci := 2) [] ok_X2_heaviness lk_33 st_X2_heaviness se_X2_heaviness dX5_count_71 rfl (ha_2 σ τ) rfl rfl (Nat.le_of_ble_eq_true rfl) (Nat.le_of_ble_eq_true rfl) ((dc_P_heaviness_2 c7).up (by decide)) ?_
        obtain ⟨rfl, rfl, rfl⟩ := os3 h
        exact mr_iret (pc := 74) rfl (rfl) dX5_count_74
      · replace h := (if_neg q6).symm.trans h
        by_cases q8 : p1 = 3
        · replace h := (if_pos q8).symm.trans h
          refine mr_tabIn (pc := 1) 74 75 dX5_count_1 (by rw [q8]; decide) (by rw [q8]; decide) (by rw [q8]; rfl) (by decide) ?_
          refine mr_aload_n (pc := 75) dX5_count_75 rfl ?_
          refine mr_getf (pc := 76) (ci := 5) inX5 rfl 2 (by decide) fl_2 dX5_count_76 (ha_1 σ τ) rfl ?_
          refine mr_aload_n (pc := 79) dX5_count_79 rfl ?_
          refine mr_getf (pc := 80) (ci := 5) inX5 rfl 0 (by decide) fl_0 dX5_count_80 (ha_1 σ τ) rfl ?_
          obtain ⟨σ9, τ9, c9, h⟩ := ovs h
          refine mr_callV0 (pc := 83) (ci := 1) [.ref 2] ok_X1_find lk_12 st_X1_find se_X1_find dX5_count_83 rfl (ha_6 σ τ) rfl rfl (Nat.le_of_ble_eq_true rfl) (Nat.le_of_ble_eq_true rfl) ((dc_Y_find_2 c9).up (by decide)) ?_
          refine mr_aload_n (pc := 86) dX5_count_86 rfl ?_
          refine mr_getf (pc := 87) (ci := 5) inX5 rfl 2 (by decide) fl_2 dX5_count_87 (ha_1 σ9 τ9) rfl ?_
          obtain ⟨r10, σ10, τ10, c10, h⟩ := obs h
          refine mr_callV0 (pc := 90) (ci := 1) [] ok_X1_greatestLevel lk_34 st_X1_greatestLevel se_X1_greatestLevel dX5_count_90 rfl (ha_6 σ9 τ9) rfl rfl (Nat.le_of_ble_eq_true rfl) (Nat.le_of_ble_eq_true rfl) ((dc_Y_greatestLevel c10).up (by decide)) ?_
          obtain ⟨rfl, rfl, rfl⟩ := os3 h
          exact mr_iret (pc := 93) rfl (rfl) dX5_count_93
        · replace h := (if_neg q8).symm.trans h
          by_cases q11 : p1 = 4
          · replace h := (if_pos q11).symm.trans h
            refine mr_tabIn (pc := 1) 93 94 dX5_count_1 (by rw [q11]; decide) (by rw [q11]; decide) (by rw [q11]; rfl) (by decide) ?_
            refine mr_aload_n (pc := 94) dX5_count_94 rfl ?_
            refine mr_getf (pc := 95) (ci := 5) inX5 rfl 4 (by decide) fl_4 dX5_count_95 (ha_1 σ τ) rfl ?_
            obtain ⟨r12, σ12, τ12, c12, h⟩ := obs h
            refine mr_callV0 (pc := 98) (ci := 4) [] ok_X4_length lk_3 st_X4_length se_X4_length dX5_count_98 rfl (ha_27 σ τ) rfl rfl (Nat.le_of_ble_eq_true rfl) (Nat.le_of_ble_eq_true rfl) ((dc_T_length c12).up (by decide)) ?_
            obtain ⟨rfl, rfl, rfl⟩ := os3 h
            exact mr_iret (pc := 101) rfl (rfl) dX5_count_101
          · replace h := (if_neg q11).symm.trans h
            by_cases q13 : p1 = 5
            · replace h := (if_pos q13).symm.trans h
              refine mr_tabIn (pc := 1) 101 102 dX5_count_1 (by rw [q13]; decide) (by rw [q13]; decide) (by rw [q13]; rfl) (by decide) ?_
              refine mr_aload_n (pc := 102) dX5_count_102 rfl ?_
              refine mr_getf (pc := 103) (ci := 5) inX5 rfl 8 (by decide) fl_8 dX5_count_103 (ha_1 σ τ) rfl ?_
              obtain ⟨rfl, rfl, rfl⟩ := os3 h
              exact mr_iret (pc := 106) rfl (rfl) dX5_count_106
            · replace h := (if_neg q13).symm.trans h
              refine mr_tabOut (pc := 1) 107 dX5_count_1 (by have z1 := lv_neT q1 (a := 0) (by decide); have z3 := lv_neT q3 (a := 1) (by decide); have z6 := lv_neT q6 (a := 2) (by decide); have z8 := lv_neT q8 (a := 3) (by decide); have z11 := lv_neT q11 (a := 4) (by decide); have z13 := lv_neT q13 (a := 5) (by decide); omega) (by decide) ?_
              refine mr_iconstv (pc := 107) (-1 : Int32) dX5_count_107 (by decide) ?_
              obtain ⟨rfl, rfl, rfl⟩ := os3 h
              exact mr_iret (pc := 108) rfl (rfl) dX5_count_108
set_option maxHeartbeats 4000000 in
set_option maxRecDepth 100000 in
theorem dc_Q_contactsNow {σ : mS} {τ : mT} {r : Int32} {σ' : mS} {τ' : mT} (h : Q_contactsNow σ τ = some (r, σ', τ')) : mc_V M_X6_contactsNow 6 none 0 (mc_entry [.ref 34] 1) [] (mc_hp σ τ) (some (.int r)) (mc_hp σ' τ') 0 0 := by
  unfold Q_contactsNow at h
  show mc_V M_X6_contactsNow 6 none 0 [.ref 34] [] (mc_hp σ τ) (some (.int r)) (mc_hp σ' τ') 0 0
  refine mr_aload_n (pc := 0) dX6_contactsNow_0 rfl ?_
  obtain ⟨σ1, τ1, c1, h⟩ := ovs h
  refine mr_callV0 (pc := 1) (ci := 6) [] ok_X6_layAll lk_152 st_X6_layAll se_X6_layAll dX6_contactsNow_1 rfl (ha_34 σ τ) rfl rfl (Nat.le_of_ble_eq_true rfl) (Nat.le_of_ble_eq_true rfl) ((dc_Q_layAll c1).up (by decide)) ?_
  refine mr_aload_n (pc := 4) dX6_contactsNow_4 rfl ?_
  refine mr_getf (pc := 5) (ci := 6) inX6 rfl 9 (by decide) fl_45 dX6_contactsNow_5 (ha_34 σ1 τ1) rfl ?_
  obtain ⟨rfl, rfl, rfl⟩ := os3 h
  exact mr_iret (pc := 8) rfl (rfl) dX6_contactsNow_8
set_option maxHeartbeats 4000000 in
set_option maxRecDepth 100000 in
theorem dc_Q_heavy_l4 : ∀ (n : Nat), ∀ (x1 : Int32) (x2 : Int32) (σ : mS) (τ : mT) (r : Int32) (σ' : mS) (τ' : mT), Q_heavy_l4 n x1 x2 σ τ = some (r, σ', τ') → mc_V M_X6_heavy 1 none 4 [.ref 34, .int x1, .int x2] [] (mc_hp σ τ) (some (.int r)) (mc_hp σ' τ') 0 0 := by
  intro n
  induction n with
  | zero =>
    intros
    rename_i h
    cases h
  | succ n ih =>
    intro x1 x2 σ τ r σ' τ' h
    refine mr_iload_n (pc := 4) dX6_heavy_4 rfl ?_
    refine mr_aload_n (pc := 5) dX6_heavy_5 rfl ?_
    obtain ⟨r1, σ1, τ1, c1, h⟩ := obs h
    refine mr_callV0 (pc := 6) (ci := 6) [] ok_X6_many lk_138 st_X6_many se_X6_many dX6_heavy_6 rfl (ha_34 σ τ) rfl rfl (Nat.le_of_ble_eq_true rfl) (Nat.le_of_ble_eq_true rfl) ((dc_Q_many c1).up (by decide)) ?_
    refine mr_icmp_ge (pc := 9) 34 dX6_heavy_9 (by decide) (fun q2 => ?_) (fun q2 => ?_)
    · replace h := (if_pos q2).symm.trans h
      refine mr_iload_n (pc := 34) dX6_heavy_34 rfl ?_
      obtain ⟨rfl, rfl, rfl⟩ := os3 h
      exact mr_iret (pc := 35) rfl (rfl) dX6_heavy_35
    · replace h := (if_neg q2).symm.trans h
      refine mr_iload_n (pc := 12) dX6_heavy_12 rfl ?_
      refine mr_aload_n (pc := 13) dX6_heavy_13 rfl ?_
      refine mr_iload_n (pc := 14) dX6_heavy_14 rfl ?_
      refine mr_iconstv (pc := 15) (3 : Int32) dX6_heavy_15 (by decide) ?_
      obtain ⟨r3, σ3, τ3, c3, h⟩ := obs h
      refine mr_callV0 (pc := 16) (ci := 6) [.int x2, .int (3 : Int32)] ok_X6_get lk_132 st_X6_get se_X6_get dX6_heavy_16 rfl (ha_34 σ1 τ1) rfl rfl (Nat.le_of_ble_eq_true rfl) (Nat.le_of_ble_eq_true rfl) ((dc_Q_get c3).up (by decide)) ?_
      refine mr_aload_n (pc := 19) dX6_heavy_19 rfl ?_
      refine mr_iload_n (pc := 20) dX6_heavy_20 rfl ?_
      refine mr_iconstv (pc := 21) (4 : Int32) dX6_heavy_21 (by decide) ?_
      obtain ⟨r4, σ4, τ4, c4, h⟩ := obs h
      refine mr_callV0 (pc := 22) (ci := 6) [.int x2, .int (4 : Int32)] ok_X6_get lk_132 st_X6_get se_X6_get dX6_heavy_22 rfl (ha_34 σ3 τ3) rfl rfl (Nat.le_of_ble_eq_true rfl) (Nat.le_of_ble_eq_true rfl) ((dc_Q_get c4).up (by decide)) ?_
      refine mr_iadd (pc := 25) dX6_heavy_25 ?_
      refine mr_iadd (pc := 26) dX6_heavy_26 ?_
      refine mr_istore_n (pc := 27) dX6_heavy_27 (Nat.le_of_ble_eq_true rfl) (show mc_V M_X6_heavy 1 none 28 [.ref 34, .int (x1 + (r3 + r4)), .int x2] [] (mc_hp σ4 τ4) (some (.int r)) (mc_hp σ' τ') 0 0 from ?_)
      refine mr_iincv (pc := 28) (1 : Int32) dX6_heavy_28 rfl (by decide) (show mc_V M_X6_heavy 1 none 31 [.ref 34, .int (x1 + (r3 + r4)), .int (x2 + (1 : Int32))] [] (mc_hp σ4 τ4) (some (.int r)) (mc_hp σ' τ') 0 0 from ?_)
      refine mr_goto (pc := 31) 4 dX6_heavy_31 (by decide) ?_
      exact mc_V.locs (loc' := [.ref 34, .int (x1 + (r3 + r4)), .int (x2 + (1 : Int32))]) ⟨Or.inr rfl, Or.inr rfl, Or.inr rfl, trivial⟩ (ih (x1 + (r3 + r4)) (x2 + (1 : Int32)) σ4 τ4 r σ' τ' h)
set_option maxHeartbeats 4000000 in
set_option maxRecDepth 100000 in
theorem dc_Q_heavy {σ : mS} {τ : mT} {r : Int32} {σ' : mS} {τ' : mT} (h : Q_heavy σ τ = some (r, σ', τ')) : mc_V M_X6_heavy 1 none 0 (mc_entry [.ref 34] 3) [] (mc_hp σ τ) (some (.int r)) (mc_hp σ' τ') 0 0 := by
  unfold Q_heavy at h
  show mc_V M_X6_heavy 1 none 0 [.ref 34, .retAddr 0, .retAddr 0] [] (mc_hp σ τ) (some (.int r)) (mc_hp σ' τ') 0 0
  refine mr_iconstv (pc := 0) (0 : Int32) dX6_heavy_0 (by decide) ?_
  refine mr_istore_n (pc := 1) dX6_heavy_1 (Nat.le_of_ble_eq_true rfl) (show mc_V M_X6_heavy 1 none 2 [.ref 34, .int (0 : Int32), .retAddr 0] [] (mc_hp σ τ) (some (.int r)) (mc_hp σ' τ') 0 0 from ?_)
  refine mr_iconstv (pc := 2) (0 : Int32) dX6_heavy_2 (by decide) ?_
  refine mr_istore_n (pc := 3) dX6_heavy_3 (Nat.le_of_ble_eq_true rfl) (show mc_V M_X6_heavy 1 none 4 [.ref 34, .int (0 : Int32), .int (0 : Int32)] [] (mc_hp σ τ) (some (.int r)) (mc_hp σ' τ') 0 0 from ?_)
  exact mc_V.locs (loc' := [.ref 34, .int (0 : Int32), .int (0 : Int32)]) ⟨Or.inr rfl, Or.inr rfl, Or.inr rfl, trivial⟩ (dc_Q_heavy_l4 mc_F (0 : Int32) (0 : Int32) σ τ r σ' τ' h)
set_option maxHeartbeats 4000000 in
set_option maxRecDepth 100000 in
theorem dc_Q_highest_l9 : ∀ (n : Nat), ∀ (x1 : Int32) (x2 : Int32) (σ : mS) (τ : mT) (r : Int32) (σ' : mS) (τ' : mT), Q_highest_l9 n x1 x2 σ τ = some (r, σ', τ') → mc_V M_X6_highest 6 none 9 [.ref 34, .int x1, .int x2] [] (mc_hp σ τ) (some (.int r)) (mc_hp σ' τ') 0 0 := by
  intro n
  induction n with
  | zero =>
    intros
    rename_i h
    cases h
  | succ n ih =>
    intro x1 x2 σ τ r σ' τ' h
    refine mr_iload_n (pc := 9) dX6_highest_9 rfl ?_
    refine mr_aload_n (pc := 10) dX6_highest_10 rfl ?_
    obtain ⟨r1, σ1, τ1, c1, h⟩ := obs h
    refine mr_callV0 (pc := 11) (ci := 6) [] ok_X6_many lk_138 st_X6_many se_X6_many dX6_highest_11 rfl (ha_34 σ τ) rfl rfl (Nat.le_of_ble_eq_true rfl) (Nat.le_of_ble_eq_true rfl) ((dc_Q_many c1).up (by decide)) ?_
    refine mr_icmp_ge (pc := 14) 44 dX6_highest_14 (by decide) (fun q2 => ?_) (fun q2 => ?_)
    · replace h := (if_pos q2).symm.trans h
      refine mr_iload_n (pc := 44) dX6_highest_44 rfl ?_
      obtain ⟨rfl, rfl, rfl⟩ := os3 h
      exact mr_iret (pc := 45) rfl (rfl) dX6_highest_45
    · replace h := (if_neg q2).symm.trans h
      refine mr_aload_n (pc := 17) dX6_highest_17 rfl ?_
      refine mr_getf (pc := 18) (ci := 6) inX6 rfl 7 (by decide) fl_36 dX6_highest_18 (ha_34 σ1 τ1) rfl ?_
      refine mr_iload_n (pc := 21) dX6_highest_21 rfl ?_
      obtain ⟨g3, h⟩ := og h
      refine mr_iald (pc := 22) dX6_highest_22 (ha_40 σ1 τ1) (g3) ?_
      refine mr_iload_n (pc := 23) dX6_highest_23 rfl ?_
      refine mr_icmp_le (pc := 24) 36 dX6_highest_24 (by decide) (fun q4 => ?_) (fun q4 => ?_)
      · replace h := (if_pos q4).symm.trans h
        refine mr_iload_n (pc := 36) dX6_highest_36 rfl ?_
        refine mr_istore_n (pc := 37) dX6_highest_37 (Nat.le_of_ble_eq_true rfl) (show mc_V M_X6_highest 6 none 38 [.ref 34, .int x1, .int x2] [] (mc_hp σ1 τ1) (some (.int r)) (mc_hp σ' τ') 0 0 from ?_)
        refine mr_iincv (pc := 38) (1 : Int32) dX6_highest_38 rfl (by decide) (show mc_V M_X6_highest 6 none 41 [.ref 34, .int x1, .int (x2 + (1 : Int32))] [] (mc_hp σ1 τ1) (some (.int r)) (mc_hp σ' τ') 0 0 from ?_)
        refine mr_goto (pc := 41) 9 dX6_highest_41 (by decide) ?_
        exact mc_V.locs (loc' := [.ref 34, .int x1, .int (x2 + (1 : Int32))]) ⟨Or.inr rfl, Or.inr rfl, Or.inr rfl, trivial⟩ (ih x1 (x2 + (1 : Int32)) σ1 τ1 r σ' τ' h)
      · replace h := (if_neg q4).symm.trans h
        refine mr_aload_n (pc := 27) dX6_highest_27 rfl ?_
        refine mr_getf (pc := 28) (ci := 6) inX6 rfl 7 (by decide) fl_36 dX6_highest_28 (ha_34 σ1 τ1) rfl ?_
        refine mr_iload_n (pc := 31) dX6_highest_31 rfl ?_
        refine mr_iald (pc := 32) dX6_highest_32 (ha_40 σ1 τ1) (g3) ?_
        refine mr_goto (pc := 33) 37 dX6_highest_33 (by decide) ?_
        refine mr_istore_n (pc := 37) dX6_highest_37 (Nat.le_of_ble_eq_true rfl) (show mc_V M_X6_highest 6 none 38 [.ref 34, .int (σ1 40 x2.toNatClampNeg), .int x2] [] (mc_hp σ1 τ1) (some (.int r)) (mc_hp σ' τ') 0 0 from ?_)
        refine mr_iincv (pc := 38) (1 : Int32) dX6_highest_38 rfl (by decide) (show mc_V M_X6_highest 6 none 41 [.ref 34, .int (σ1 40 x2.toNatClampNeg), .int (x2 + (1 : Int32))] [] (mc_hp σ1 τ1) (some (.int r)) (mc_hp σ' τ') 0 0 from ?_)
        refine mr_goto (pc := 41) 9 dX6_highest_41 (by decide) ?_
        exact mc_V.locs (loc' := [.ref 34, .int (σ1 40 x2.toNatClampNeg), .int (x2 + (1 : Int32))]) ⟨Or.inr rfl, Or.inr rfl, Or.inr rfl, trivial⟩ (ih (σ1 40 x2.toNatClampNeg) (x2 + (1 : Int32)) σ1 τ1 r σ' τ' h)
set_option maxHeartbeats 4000000 in
set_option maxRecDepth 100000 in
theorem dc_Q_highest {σ : mS} {τ : mT} {r : Int32} {σ' : mS} {τ' : mT} (h : Q_highest σ τ = some (r, σ', τ')) : mc_V M_X6_highest 6 none 0 (mc_entry [.ref 34] 3) [] (mc_hp σ τ) (some (.int r)) (mc_hp σ' τ') 0 0 := by
  unfold Q_highest at h
  show mc_V M_X6_highest 6 none 0 [.ref 34, .retAddr 0, .retAddr 0] [] (mc_hp σ τ) (some (.int r)) (mc_hp σ' τ') 0 0
  refine mr_aload_n (pc := 0) dX6_highest_0 rfl ?_
  obtain ⟨σ1, τ1, c1, h⟩ := ovs h
  refine mr_callV0 (pc := 1) (ci := 6) [] ok_X6_layAll lk_152 st_X6_layAll se_X6_layAll dX6_highest_1 rfl (ha_34 σ τ) rfl rfl (Nat.le_of_ble_eq_true rfl) (Nat.le_of_ble_eq_true rfl) ((dc_Q_layAll c1).up (by decide)) ?_
  refine mr_bipushv (pc := 4) (-9 : Int32) dX6_highest_4 (by decide) ?_
  refine mr_istore_n (pc := 6) dX6_highest_6 (Nat.le_of_ble_eq_true rfl) (show mc_V M_X6_highest 6 none 7 [.ref 34, .int (-9 : Int32), .retAddr 0] [] (mc_hp σ1 τ1) (some (.int r)) (mc_hp σ' τ') 0 0 from ?_)
  refine mr_iconstv (pc := 7) (0 : Int32) dX6_highest_7 (by decide) ?_
  refine mr_istore_n (pc := 8) dX6_highest_8 (Nat.le_of_ble_eq_true rfl) (show mc_V M_X6_highest 6 none 9 [.ref 34, .int (-9 : Int32), .int (0 : Int32)] [] (mc_hp σ1 τ1) (some (.int r)) (mc_hp σ' τ') 0 0 from ?_)
  exact mc_V.locs (loc' := [.ref 34, .int (-9 : Int32), .int (0 : Int32)]) ⟨Or.inr rfl, Or.inr rfl, Or.inr rfl, trivial⟩ (dc_Q_highest_l9 mc_F (-9 : Int32) (0 : Int32) σ1 τ1 r σ' τ' h)
set_option maxHeartbeats 4000000 in
set_option maxRecDepth 100000 in
theorem dc_Q_count {p1 : Int32} {σ : mS} {τ : mT} {r : Int32} {σ' : mS} {τ' : mT} (h : Q_count p1 σ τ = some (r, σ', τ')) : mc_V M_X6_count 7 none 0 (mc_entry [.ref 34, .int p1] 2) [] (mc_hp σ τ) (some (.int r)) (mc_hp σ' τ') 0 0 := by
  unfold Q_count at h
  show mc_V M_X6_count 7 none 0 [.ref 34, .int p1] [] (mc_hp σ τ) (some (.int r)) (mc_hp σ' τ') 0 0
  refine mr_iload_n (pc := 0) dX6_count_0 rfl ?_
  by_cases q1 : p1 = 0
  · replace h := (if_pos q1).symm.trans h
    refine mr_tabIn (pc := 1) 39 40 dX6_count_1 (by rw [q1]; decide) (by rw [q1]; decide) (by rw [q1]; rfl) (by decide) ?_
    refine mr_aload_n (pc := 40) dX6_count_40 rfl ?_
    refine mr_getf (pc := 41) (ci := 6) inX6 rfl 0 (by decide) fl_31 dX6_count_41 (ha_34 σ τ) rfl ?_
    refine mr_iconstv (pc := 44) (0 : Int32) dX6_count_44 (by decide) ?_
    refine mr_iald (pc := 45) dX6_count_45 (ha_35 σ τ) (vin_ok rfl) ?_
    obtain ⟨rfl, rfl, rfl⟩ := os3 h
    exact mr_iret (pc := 46) rfl (rfl) dX6_count_46
  · replace h := (if_neg q1).symm.trans h
    by_cases q2 : p1 = 1
    · replace h := (if_pos q2).symm.trans h
      refine mr_tabIn (pc := 1) 46 47 dX6_count_1 (by rw [q2]; decide) (by rw [q2]; decide) (by rw [q2]; rfl) (by decide) ?_
      refine mr_aload_n (pc := 47) dX6_count_47 rfl ?_
      obtain ⟨r3, σ3, τ3, c3, h⟩ := obs h
      refine mr_callV0 (pc := 48) (ci := 6) [] ok_X6_contactsNow lk_179 st_X6_contactsNow se_X6_contactsNow dX6_count_48 rfl (ha_34 σ τ) rfl rfl (Nat.le_of_ble_eq_true rfl) (Nat.le_of_ble_eq_true rfl) ((dc_Q_contactsNow c3).up (by decide)) ?_
      obtain ⟨rfl, rfl, rfl⟩ := os3 h
      exact mr_iret (pc := 51) rfl (rfl) dX6_count_51
    · replace h := (if_neg q2).symm.trans h
      by_cases q4 : p1 = 2
      · replace h := (if_pos q4).symm.trans h
        refine mr_tabIn (pc := 1) 51 52 dX6_count_1 (by rw [q4]; decide) (by rw [q4]; decide) (by rw [q4]; rfl) (by decide) ?_
        refine mr_aload_n (pc := 52) dX6_count_52 rfl ?_
        obtain ⟨r5, σ5, τ5, c5, h⟩ := obs h
        refine mr_callV0 (pc := 53) (ci := 6) [] ok_X6_heavy lk_180 st_X6_heavy se_X6_heavy dX6_count_53 rfl (ha_34 σ τ) rfl rfl (Nat.le_of_ble_eq_true rfl) (Nat.le_of_ble_eq_true rfl) ((dc_Q_heavy c5).up (by decide)) ?_
        obtain ⟨rfl, rfl, rfl⟩ := os3 h
        exact mr_iret (pc := 56) rfl (rfl) dX6_count_56
      · replace h := (if_neg q4).symm.trans h
        by_cases q6 : p1 = 3
        · replace h := (if_pos q6).symm.trans h
          refine mr_tabIn (pc := 1) 56 57 dX6_count_1 (by rw [q6]; decide) (by rw [q6]; decide) (by rw [q6]; rfl) (by decide) ?_
          refine mr_aload_n (pc := 57) dX6_count_57 rfl ?_
          obtain ⟨r7, σ7, τ7, c7, h⟩ := obs h
          refine mr_callV0 (pc := 58) (ci := 6) [] ok_X6_highest lk_181 st_X6_highest se_X6_highest dX6_count_58 rfl (ha_34 σ τ) rfl rfl (Nat.le_of_ble_eq_true rfl) (Nat.le_of_ble_eq_true rfl) ((dc_Q_highest c7).up (by decide)) ?_
          obtain ⟨rfl, rfl, rfl⟩ := os3 h
          exact mr_iret (pc := 61) rfl (rfl) dX6_count_61
        · replace h := (if_neg q6).symm.trans h
          by_cases q8 : p1 = 4
          · replace h := (if_pos q8).symm.trans h
            refine mr_tabIn (pc := 1) 61 62 dX6_count_1 (by rw [q8]; decide) (by rw [q8]; decide) (by rw [q8]; rfl) (by decide) ?_
            refine mr_aload_n (pc := 62) dX6_count_62 rfl ?_
            refine mr_getf (pc := 63) (ci := 6) inX6 rfl 6 (by decide) fl_54 dX6_count_63 (ha_34 σ τ) rfl ?_
            obtain ⟨rfl, rfl, rfl⟩ := os3 h
            exact mr_iret (pc := 66) rfl (rfl) dX6_count_66
          · replace h := (if_neg q8).symm.trans h
            by_cases q9 : p1 = 5
            · replace h := (if_pos q9).symm.trans h
              refine mr_tabIn (pc := 1) 66 67 dX6_count_1 (by rw [q9]; decide) (by rw [q9]; decide) (by rw [q9]; rfl) (by decide) ?_
              refine mr_aload_n (pc := 67) dX6_count_67 rfl ?_
              refine mr_getf (pc := 68) (ci := 6) inX6 rfl 2 (by decide) fl_57 dX6_count_68 (ha_34 σ τ) rfl ?_
              obtain ⟨rfl, rfl, rfl⟩ := os3 h
              exact mr_iret (pc := 71) rfl (rfl) dX6_count_71
            · replace h := (if_neg q9).symm.trans h
              refine mr_tabOut (pc := 1) 72 dX6_count_1 (by have z1 := lv_neT q1 (a := 0) (by decide); have z2 := lv_neT q2 (a := 1) (by decide); have z4 := lv_neT q4 (a := 2) (by decide); have z6 := lv_neT q6 (a := 3) (by decide); have z8 := lv_neT q8 (a := 4) (by decide); have z9 := lv_neT q9 (a := 5) (by decide); omega) (by decide) ?_
              refine mr_iconstv (pc := 72) (-1 : Int32) dX6_count_72 (by decide) ?_
              obtain ⟨rfl, rfl, rfl⟩ := os3 h
              exact mr_iret (pc := 73) rfl (rfl) dX6_count_73
