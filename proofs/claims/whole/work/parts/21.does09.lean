set_option maxHeartbeats 4000000 in
set_option maxRecDepth 100000 in
theorem dc_Q_takes_37_l2 : ∀ (n : Nat), ∀ (x2 : Int32) (x3 : Int32) (σ : mS) (τ : mT) (σ' : mS) (τ' : mT), Q_takes_37_l2 n x2 x3 σ τ = some (σ', τ') → mc_V M_X6_takes 0 none 2 [.ref 34, .ref 37, .int x2, .int x3] [] (mc_hp σ τ) none (mc_hp σ' τ') 0 0 := by
  intro n
  induction n with
  | zero =>
    intros
    rename_i h
    cases h
  | succ n ih =>
    intro x2 x3 σ τ σ' τ' h
    refine mr_iload_n (pc := 2) dX6_takes_2 rfl ?_
    refine mr_bipushv (pc := 3) (21 : Int32) dX6_takes_3 (by decide) ?_
    refine mr_icmp_ge (pc := 5) 25 dX6_takes_5 (by decide) (fun q1 => ?_) (fun q1 => ?_)
    · replace h := (if_pos q1).symm.trans h
      obtain ⟨rfl, rfl⟩ := os2 h
      exact mr_ret (pc := 25) rfl dX6_takes_25
    · replace h := (if_neg q1).symm.trans h
      refine mr_aload_n (pc := 8) dX6_takes_8 rfl ?_
      refine mr_getf (pc := 9) (ci := 6) inX6 rfl 0 (by decide) fl_31 dX6_takes_9 (ha_34 σ τ) rfl ?_
      refine mr_iload_n (pc := 12) dX6_takes_12 rfl ?_
      refine mr_aload_n (pc := 13) dX6_takes_13 rfl ?_
      refine mr_iload_n (pc := 14) dX6_takes_14 rfl ?_
      refine mr_iload_n (pc := 15) dX6_takes_15 rfl ?_
      refine mr_iadd (pc := 16) dX6_takes_16 ?_
      obtain ⟨g2, h⟩ := og h
      refine mr_iald (pc := 17) dX6_takes_17 (ha_37 σ τ) (g2) ?_
      obtain ⟨g3, h⟩ := og h
      obtain ⟨σ4, e4, h⟩ := ow h
      refine mr_iast (pc := 18) dX6_takes_18 (ha_35 σ τ) (g3) (mc_V.heap (hs_35 e4) ?_)
      refine mr_iincv (pc := 19) (1 : Int32) dX6_takes_19 rfl (by decide) (show mc_V M_X6_takes 0 none 22 [.ref 34, .ref 37, .int x2, .int (x3 + (1 : Int32))] [] (mc_hp σ4 τ) none (mc_hp σ' τ') 0 0 from ?_)
      refine mr_goto (pc := 22) 2 dX6_takes_22 (by decide) ?_
      exact mc_V.locs (loc' := [.ref 34, .ref 37, .int x2, .int (x3 + (1 : Int32))]) ⟨Or.inr rfl, Or.inr rfl, Or.inr rfl, Or.inr rfl, trivial⟩ (ih x2 (x3 + (1 : Int32)) σ4 τ σ' τ' h)
set_option maxHeartbeats 4000000 in
set_option maxRecDepth 100000 in
theorem dc_Q_takes_37 {p2 : Int32} {σ : mS} {τ : mT} {σ' : mS} {τ' : mT} (h : Q_takes_37 p2 σ τ = some (σ', τ')) : mc_V M_X6_takes 0 none 0 (mc_entry [.ref 34, .ref 37, .int p2] 4) [] (mc_hp σ τ) none (mc_hp σ' τ') 0 0 := by
  unfold Q_takes_37 at h
  show mc_V M_X6_takes 0 none 0 [.ref 34, .ref 37, .int p2, .retAddr 0] [] (mc_hp σ τ) none (mc_hp σ' τ') 0 0
  refine mr_iconstv (pc := 0) (0 : Int32) dX6_takes_0 (by decide) ?_
  refine mr_istore_n (pc := 1) dX6_takes_1 (Nat.le_of_ble_eq_true rfl) (show mc_V M_X6_takes 0 none 2 [.ref 34, .ref 37, .int p2, .int (0 : Int32)] [] (mc_hp σ τ) none (mc_hp σ' τ') 0 0 from ?_)
  exact mc_V.locs (loc' := [.ref 34, .ref 37, .int p2, .int (0 : Int32)]) ⟨Or.inr rfl, Or.inr rfl, Or.inr rfl, Or.inr rfl, trivial⟩ (dc_Q_takes_37_l2 mc_F p2 (0 : Int32) σ τ σ' τ' h)
set_option maxHeartbeats 4000000 in
set_option maxRecDepth 100000 in
theorem dc_Q_back {p1 : Int32} {σ : mS} {τ : mT} {r : Int32} {σ' : mS} {τ' : mT} (h : Q_back p1 σ τ = some (r, σ', τ')) : mc_V M_X6_back 1 none 0 (mc_entry [.ref 34, .int p1] 2) [] (mc_hp σ τ) (some (.int r)) (mc_hp σ' τ') 0 0 := by
  unfold Q_back at h
  show mc_V M_X6_back 1 none 0 [.ref 34, .int p1] [] (mc_hp σ τ) (some (.int r)) (mc_hp σ' τ') 0 0
  refine mr_iload_n (pc := 0) dX6_back_0 rfl ?_
  refine mr_iconstv (pc := 1) (0 : Int32) dX6_back_1 (by decide) ?_
  refine mr_iconstv (pc := 2) (1 : Int32) dX6_back_2 (by decide) ?_
  obtain ⟨r1, σ1, τ1, c1, h⟩ := obs h
  refine mr_callS0 (pc := 3) [.int p1, .int (0 : Int32), .int (1 : Int32)] ok_X6_within lk_131 st_X6_within dX6_back_3 rfl rfl (Nat.le_of_ble_eq_true rfl) (Nat.le_of_ble_eq_true rfl) ((dc_Q_within c1).up (by decide)) ?_
  refine mr_if_ne (pc := 6) 11 dX6_back_6 (by decide) (fun q2 => ?_) (fun q2 => ?_)
  · replace h := (if_neg q2).symm.trans h
    refine mr_aload_n (pc := 11) dX6_back_11 rfl ?_
    refine mr_getf (pc := 12) (ci := 6) inX6 rfl 4 (by decide) fl_34 dX6_back_12 (ha_34 σ1 τ1) rfl ?_
    refine mr_iload_n (pc := 15) dX6_back_15 rfl ?_
    obtain ⟨g3, h⟩ := og h
    refine mr_zald (pc := 16) dX6_back_16 (ha_38 σ1 τ1) (g3) ?_
    refine mr_if_ne (pc := 17) 23 dX6_back_17 (by decide) (fun q4 => ?_) (fun q4 => ?_)
    · replace h := (if_neg q4).symm.trans h
      refine mr_aload_n (pc := 23) dX6_back_23 rfl ?_
      refine mr_aload_n (pc := 24) dX6_back_24 rfl ?_
      refine mr_getf (pc := 25) (ci := 6) inX6 rfl 3 (by decide) fl_33 dX6_back_25 (ha_34 σ1 τ1) rfl ?_
      refine mr_bipushv (pc := 28) (21 : Int32) dX6_back_28 (by decide) ?_
      refine mr_iload_n (pc := 30) dX6_back_30 rfl ?_
      refine mr_imul (pc := 31) dX6_back_31 ?_
      obtain ⟨σ5, τ5, c5, h⟩ := ovs h
      refine mr_callV0 (pc := 32) (ci := 6) [.ref 37, .int ((21 : Int32) * p1)] ok_X6_takes lk_167 st_X6_takes se_X6_takes dX6_back_32 rfl (ha_34 σ1 τ1) rfl rfl (Nat.le_of_ble_eq_true rfl) (Nat.le_of_ble_eq_true rfl) ((dc_Q_takes_37 c5).up (by decide)) ?_
      refine mr_aload_n (pc := 35) dX6_back_35 rfl ?_
      refine mr_iconstv (pc := 36) (0 : Int32) dX6_back_36 (by decide) ?_
      obtain ⟨σ6, e6, h⟩ := ow h
      refine mr_putf (pc := 37) (ci := 6) inX6 tyX6 tyX6_ok nmX6 rfl 2 (by decide) fl_57 rfl dX6_back_37 (ha_34 σ5 τ5) (Nat.le_of_ble_eq_true rfl) rfl (mc_V.heap (hs_34_2 e6) ?_)
      refine mr_aload_n (pc := 40) dX6_back_40 rfl ?_
      refine mr_getf (pc := 41) (ci := 6) inX6 rfl 0 (by decide) fl_31 dX6_back_41 (ha_34 σ6 τ5) rfl ?_
      refine mr_iconstv (pc := 44) (0 : Int32) dX6_back_44 (by decide) ?_
      refine mr_iald (pc := 45) dX6_back_45 (ha_35 σ6 τ5) (vin_ok rfl) ?_
      obtain ⟨rfl, rfl, rfl⟩ := os3 h
      exact mr_iret (pc := 46) rfl (rfl) dX6_back_46
    · replace h := (if_pos q4).symm.trans h
      refine mr_bipushv (pc := 20) (-2 : Int32) dX6_back_20 (by decide) ?_
      obtain ⟨rfl, rfl, rfl⟩ := os3 h
      exact mr_iret (pc := 22) rfl (rfl) dX6_back_22
  · replace h := (if_pos q2).symm.trans h
    refine mr_iconstv (pc := 9) (-1 : Int32) dX6_back_9 (by decide) ?_
    obtain ⟨rfl, rfl, rfl⟩ := os3 h
    exact mr_iret (pc := 10) rfl (rfl) dX6_back_10
set_option maxHeartbeats 4000000 in
set_option maxRecDepth 100000 in
theorem dc_P_heaviness_2_l4 : ∀ (n : Nat), ∀ (x1 : Int32) (x2 : Int32) (σ : mS) (τ : mT) (r : Int32) (σ' : mS) (τ' : mT), P_heaviness_2_l4 n x1 x2 σ τ = some (r, σ', τ') → mc_V M_X2_heaviness 2 none 4 [.ref 2, .int x1, .int x2] [] (mc_hp σ τ) (some (.int r)) (mc_hp σ' τ') 0 0 := by
  intro n
  induction n with
  | zero =>
    intros
    rename_i h
    cases h
  | succ n ih =>
    intro x1 x2 σ τ r σ' τ' h
    refine mr_iload_n (pc := 4) dX2_heaviness_4 rfl ?_
    refine mr_aload_n (pc := 5) dX2_heaviness_5 rfl ?_
    obtain ⟨r1, σ1, τ1, c1, h⟩ := obs h
    refine mr_callV0 (pc := 6) (ci := 2) [] ok_X2_size lk_71 st_X2_size se_X2_size dX2_heaviness_6 rfl (ha_2 σ τ) rfl rfl (Nat.le_of_ble_eq_true rfl) (Nat.le_of_ble_eq_true rfl) ((dc_P_size_2 c1).up (by decide)) ?_
    refine mr_icmp_ge (pc := 9) 34 dX2_heaviness_9 (by decide) (fun q2 => ?_) (fun q2 => ?_)
    · replace h := (if_pos q2).symm.trans h
      refine mr_iload_n (pc := 34) dX2_heaviness_34 rfl ?_
      obtain ⟨rfl, rfl, rfl⟩ := os3 h
      exact mr_iret (pc := 35) rfl (rfl) dX2_heaviness_35
    · replace h := (if_neg q2).symm.trans h
      refine mr_iload_n (pc := 12) dX2_heaviness_12 rfl ?_
      refine mr_aload_n (pc := 13) dX2_heaviness_13 rfl ?_
      refine mr_iload_n (pc := 14) dX2_heaviness_14 rfl ?_
      refine mr_iconstv (pc := 15) (2 : Int32) dX2_heaviness_15 (by decide) ?_
      obtain ⟨r3, σ3, τ3, c3, h⟩ := obs h
      refine mr_callV0 (pc := 16) (ci := 2) [.int x2, .int (2 : Int32)] ok_X2_get lk_73 st_X2_get se_X2_get dX2_heaviness_16 rfl (ha_2 σ1 τ1) rfl rfl (Nat.le_of_ble_eq_true rfl) (Nat.le_of_ble_eq_true rfl) ((dc_P_get_2 c3).up (by decide)) ?_
      refine mr_aload_n (pc := 19) dX2_heaviness_19 rfl ?_
      refine mr_iload_n (pc := 20) dX2_heaviness_20 rfl ?_
      refine mr_iconstv (pc := 21) (3 : Int32) dX2_heaviness_21 (by decide) ?_
      obtain ⟨r4, σ4, τ4, c4, h⟩ := obs h
      refine mr_callV0 (pc := 22) (ci := 2) [.int x2, .int (3 : Int32)] ok_X2_get lk_73 st_X2_get se_X2_get dX2_heaviness_22 rfl (ha_2 σ3 τ3) rfl rfl (Nat.le_of_ble_eq_true rfl) (Nat.le_of_ble_eq_true rfl) ((dc_P_get_2 c4).up (by decide)) ?_
      refine mr_iadd (pc := 25) dX2_heaviness_25 ?_
      refine mr_iadd (pc := 26) dX2_heaviness_26 ?_
      refine mr_istore_n (pc := 27) dX2_heaviness_27 (Nat.le_of_ble_eq_true rfl) (show mc_V M_X2_heaviness 2 none 28 [.ref 2, .int (x1 + (r3 + r4)), .int x2] [] (mc_hp σ4 τ4) (some (.int r)) (mc_hp σ' τ') 0 0 from ?_)
      refine mr_iincv (pc := 28) (1 : Int32) dX2_heaviness_28 rfl (by decide) (show mc_V M_X2_heaviness 2 none 31 [.ref 2, .int (x1 + (r3 + r4)), .int (x2 + (1 : Int32))] [] (mc_hp σ4 τ4) (some (.int r)) (mc_hp σ' τ') 0 0 from ?_)
      refine mr_goto (pc := 31) 4 dX2_heaviness_31 (by decide) ?_
      exact mc_V.locs (loc' := [.ref 2, .int (x1 + (r3 + r4)), .int (x2 + (1 : Int32))]) ⟨Or.inr rfl, Or.inr rfl, Or.inr rfl, trivial⟩ (ih (x1 + (r3 + r4)) (x2 + (1 : Int32)) σ4 τ4 r σ' τ' h)
set_option maxHeartbeats 4000000 in
set_option maxRecDepth 100000 in
theorem dc_P_heaviness_2 {σ : mS} {τ : mT} {r : Int32} {σ' : mS} {τ' : mT} (h : P_heaviness_2 σ τ = some (r, σ', τ')) : mc_V M_X2_heaviness 2 none 0 (mc_entry [.ref 2] 3) [] (mc_hp σ τ) (some (.int r)) (mc_hp σ' τ') 0 0 := by
  unfold P_heaviness_2 at h
  show mc_V M_X2_heaviness 2 none 0 [.ref 2, .retAddr 0, .retAddr 0] [] (mc_hp σ τ) (some (.int r)) (mc_hp σ' τ') 0 0
  refine mr_iconstv (pc := 0) (0 : Int32) dX2_heaviness_0 (by decide) ?_
  refine mr_istore_n (pc := 1) dX2_heaviness_1 (Nat.le_of_ble_eq_true rfl) (show mc_V M_X2_heaviness 2 none 2 [.ref 2, .int (0 : Int32), .retAddr 0] [] (mc_hp σ τ) (some (.int r)) (mc_hp σ' τ') 0 0 from ?_)
  refine mr_iconstv (pc := 2) (0 : Int32) dX2_heaviness_2 (by decide) ?_
  refine mr_istore_n (pc := 3) dX2_heaviness_3 (Nat.le_of_ble_eq_true rfl) (show mc_V M_X2_heaviness 2 none 4 [.ref 2, .int (0 : Int32), .int (0 : Int32)] [] (mc_hp σ τ) (some (.int r)) (mc_hp σ' τ') 0 0 from ?_)
  exact mc_V.locs (loc' := [.ref 2, .int (0 : Int32), .int (0 : Int32)]) ⟨Or.inr rfl, Or.inr rfl, Or.inr rfl, trivial⟩ (dc_P_heaviness_2_l4 mc_F (0 : Int32) (0 : Int32) σ τ r σ' τ' h)
set_option maxHeartbeats 4000000 in
set_option maxRecDepth 100000 in
theorem dc_Y_greatestLevel_l5 : ∀ (n : Nat), ∀ (x1 : Int32) (x2 : Int32) (σ : mS) (τ : mT) (r : Int32) (σ' : mS) (τ' : mT), Y_greatestLevel_l5 n x1 x2 σ τ = some (r, σ', τ') → mc_V M_X1_greatestLevel 1 none 5 [.ref 6, .int x1, .int x2] [] (mc_hp σ τ) (some (.int r)) (mc_hp σ' τ') 0 0 := by
  intro n
  induction n with
  | zero =>
    intros
    rename_i h
    cases h
  | succ n ih =>
    intro x1 x2 σ τ r σ' τ' h
    refine mr_iload_n (pc := 5) dX1_greatestLevel_5 rfl ?_
    refine mr_aload_n (pc := 6) dX1_greatestLevel_6 rfl ?_
    refine mr_getf (pc := 7) (ci := 1) inX1 rfl 8 (by decide) fl_23 dX1_greatestLevel_7 (ha_6 σ τ) rfl ?_
    refine mr_icmp_ge (pc := 10) 30 dX1_greatestLevel_10 (by decide) (fun q1 => ?_) (fun q1 => ?_)
    · replace h := (if_pos q1).symm.trans h
      refine mr_iload_n (pc := 30) dX1_greatestLevel_30 rfl ?_
      obtain ⟨rfl, rfl, rfl⟩ := os3 h
      exact mr_iret (pc := 31) rfl (rfl) dX1_greatestLevel_31
    · replace h := (if_neg q1).symm.trans h
      refine mr_iload_n (pc := 13) dX1_greatestLevel_13 rfl ?_
      refine mr_aload_n (pc := 14) dX1_greatestLevel_14 rfl ?_
      refine mr_getf (pc := 15) (ci := 1) inX1 rfl 2 (by decide) fl_17 dX1_greatestLevel_15 (ha_6 σ τ) rfl ?_
      refine mr_iload_n (pc := 18) dX1_greatestLevel_18 rfl ?_
      obtain ⟨g2, h⟩ := og h
      refine mr_iald (pc := 19) dX1_greatestLevel_19 (ha_9 σ τ) (g2) ?_
      refine mr_mmax (pc := 20) lk_68 dX1_greatestLevel_20 (Nat.le_of_ble_eq_true rfl) ?_
      refine mr_istore_n (pc := 23) dX1_greatestLevel_23 (Nat.le_of_ble_eq_true rfl) (show mc_V M_X1_greatestLevel 1 none 24 [.ref 6, .int (jmax x1 (σ 9 x2.toNatClampNeg)), .int x2] [] (mc_hp σ τ) (some (.int r)) (mc_hp σ' τ') 0 0 from ?_)
      refine mr_iincv (pc := 24) (1 : Int32) dX1_greatestLevel_24 rfl (by decide) (show mc_V M_X1_greatestLevel 1 none 27 [.ref 6, .int (jmax x1 (σ 9 x2.toNatClampNeg)), .int (x2 + (1 : Int32))] [] (mc_hp σ τ) (some (.int r)) (mc_hp σ' τ') 0 0 from ?_)
      refine mr_goto (pc := 27) 5 dX1_greatestLevel_27 (by decide) ?_
      exact mc_V.locs (loc' := [.ref 6, .int (jmax x1 (σ 9 x2.toNatClampNeg)), .int (x2 + (1 : Int32))]) ⟨Or.inr rfl, Or.inr rfl, Or.inr rfl, trivial⟩ (ih (jmax x1 (σ 9 x2.toNatClampNeg)) (x2 + (1 : Int32)) σ τ r σ' τ' h)
set_option maxHeartbeats 4000000 in
set_option maxRecDepth 100000 in
theorem dc_Y_greatestLevel {σ : mS} {τ : mT} {r : Int32} {σ' : mS} {τ' : mT} (h : Y_greatestLevel σ τ = some (r, σ', τ')) : mc_V M_X1_greatestLevel 1 none 0 (mc_entry [.ref 6] 3) [] (mc_hp σ τ) (some (.int r)) (mc_hp σ' τ') 0 0 := by
  unfold Y_greatestLevel at h
  show mc_V M_X1_greatestLevel 1 none 0 [.ref 6, .retAddr 0, .retAddr 0] [] (mc_hp σ τ) (some (.int r)) (mc_hp σ' τ') 0 0
  refine mr_bipushv (pc := 0) (-9 : Int32) dX1_greatestLevel_0 (by decide) ?_
  refine mr_istore_n (pc := 2) dX1_greatestLevel_2 (Nat.le_of_ble_eq_true rfl) (show mc_V M_X1_greatestLevel 1 none 3 [.ref 6, .int (-9 : Int32), .retAddr 0] [] (mc_hp σ τ) (some (.int r)) (mc_hp σ' τ') 0 0 from ?_)
  refine mr_iconstv (pc := 3) (0 : Int32) dX1_greatestLevel_3 (by decide) ?_
  refine mr_istore_n (pc := 4) dX1_greatestLevel_4 (Nat.le_of_ble_eq_true rfl) (show mc_V M_X1_greatestLevel 1 none 5 [.ref 6, .int (-9 : Int32), .int (0 : Int32)] [] (mc_hp σ τ) (some (.int r)) (mc_hp σ' τ') 0 0 from ?_)
  exact mc_V.locs (loc' := [.ref 6, .int (-9 : Int32), .int (0 : Int32)]) ⟨Or.inr rfl, Or.inr rfl, Or.inr rfl, trivial⟩ (dc_Y_greatestLevel_l5 mc_F (-9 : Int32) (0 : Int32) σ τ r σ' τ' h)
set_option maxHeartbeats 4000000 in
set_option maxRecDepth 100000 in
theorem dc_R_count {p1 : Int32} {σ : mS} {τ : mT} {r : Int32} {σ' : mS} {τ' : mT} (h : R_count p1 σ τ = some (r, σ', τ')) : mc_V M_X5_count 3 none 0 (mc_entry [.ref 1, .int p1] 2) [] (mc_hp σ τ) (some (.int r)) (mc_hp σ' τ') 0 0 := by
  unfold R_count at h
  show mc_V M_X5_count 3 none 0 [.ref 1, .int p1] [] (mc_hp σ τ) (some (.int r)) (mc_hp σ' τ') 0 0
  refine mr_iload_n (pc := 0) dX5_count_0 rfl ?_
  by_cases q1 : p1 = 0
  · replace h := (if_pos q1).symm.trans h
    refine mr_tabIn (pc := 1) 39 40 dX5_count_1 (by rw [q1]; decide) (by rw [q1]; decide) (by rw [q1]; rfl) (by decide) ?_
    refine mr_aload_n (pc := 40) dX5_count_40 rfl ?_
    refine mr_getf (pc := 41) (ci := 5) inX5 rfl 0 (by decide) fl_0 dX5_count_41 (ha_1 σ τ) rfl ?_
    obtain ⟨r2, σ2, τ2, c2, h⟩ := obs h
    refine mr_callV0 (pc := 44) (ci := 2) [] ok_X2_size lk_10 st_X2_size se_X2_size dX5_count_44 rfl (ha_2 σ τ) rfl rfl (Nat.le_of_ble_eq_true rfl) (Nat.le_of_ble_eq_true rfl) ((dc_P_size_2 c2).up (by decide)) ?_
    obtain ⟨rfl, rfl, rfl⟩ := os3 h
    exact mr_iret (pc := 47) rfl (rfl) dX5_count_47
  · replace h := (if_neg q1).symm.trans h
    by_cases q3 : p1 = 1
    · replace h := (if_pos q3).symm.trans h
      refine mr_tabIn (pc := 1) 47 48 dX5_count_1 (by rw [q3]; decide) (by rw [q3]; decide) (by rw [q3]; rfl) (by decide) ?_
      refine mr_aload_n (pc := 48) dX5_count_48 rfl ?_
      refine mr_getf (pc := 49) (ci := 5) inX5 rfl 2 (by decide) fl_2 dX5_count_49 (ha_1 σ τ) rfl ?_
      refine mr_aload_n (pc := 52) dX5_count_52 rfl ?_
      refine mr_getf (pc := 53) (ci := 5) inX5 rfl 0 (by decide) fl_0 dX5_count_53 (ha_1 σ τ) rfl ?_
      obtain ⟨σ4, τ4, c4, h⟩ := ovs h
      refine mr_callV0 (pc := 56) (ci := 1) [.ref 2] ok_X1_find lk_12 st_X1_find se_X1_find dX5_count_56 rfl (ha_6 σ τ) rfl rfl (Nat.le_of_ble_eq_true rfl) (Nat.le_of_ble_eq_true rfl) ((dc_Y_find_2 c4).up (by decide)) ?_
      refine mr_aload_n (pc := 59) dX5_count_59 rfl ?_
      refine mr_getf (pc := 60) (ci := 5) inX5 rfl 2 (by decide) fl_2 dX5_count_60 (ha_1 σ4 τ4) rfl ?_
      obtain ⟨r5, σ5, τ5, c5, h⟩ := obs h
      refine mr_callV0 (pc := 63) (ci := 1) [] ok_X1_contacts lk_22 st_X1_contacts se_X1_contacts dX5_count_63 rfl (ha_6 σ4 τ4) rfl rfl (Nat.le_of_ble_eq_true rfl) (Nat.le_of_ble_eq_true rfl) ((dc_Y_contacts c5).up (by decide)) ?_
      obtain ⟨rfl, rfl, rfl⟩ := os3 h
      exact mr_iret (pc := 66) rfl (rfl) dX5_count_66
    · replace h := (if_neg q3).symm.trans h
      by_cases q6 : p1 = 2
      · replace h := (if_pos q6).symm.trans h
        refine mr_tabIn (pc := 1) 66 67 dX5_count_1 (by rw [q6]; decide) (by rw [q6]; decide) (by rw [q6]; rfl) (by decide) ?_
        refine mr_aload_n (pc := 67) dX5_count_67 rfl ?_
        refine mr_getf (pc := 68) (ci := 5) inX5 rfl 0 (by decide) fl_0 dX5_count_68 (ha_1 σ τ) rfl ?_
        obtain ⟨r7, σ7, τ7, c7, h⟩ := obs h
        refine mr_callV0 (pc := 71) (ci := 2) [] ok_X2_heaviness lk_33 st_X2_heaviness se_X2_heaviness dX5_count_71 rfl (ha_2 σ τ) rfl rfl (Nat.le_of_ble_eq_true rfl) (Nat.le_of_ble_eq_true rfl) ((dc_P_heaviness_2 c7).up (by decide)) ?_
        obtain ⟨rfl, rfl, rfl⟩ := os3 h
        exact mr_iret (pc := 74) rfl (rfl) dX5_count_74
      · replace h := (if_neg q6).symm.trans h
        by_cases q8 : p1 = 3
        · replace h := (if_pos q8).symm.trans h
          refine mr_tabIn (pc := 1) 74 75 dX5_count_1 (by rw [q8]; decide) (by rw [q8]; decide) (by rw [q8]; rfl) (by decide) ?_
          refine mr_aload_n (pc := 75) dX5_count_75 rfl ?_
          refine mr_getf (pc := 76) (ci := 5) inX5 rfl 2 (by decide) fl_2 dX5_count_76 (ha_1 σ τ) rfl ?_
          refine mr_aload_n (pc := 79) dX5_count_79 rfl ?_
          refine mr_getf (pc := 80) (ci := 5) inX5 rfl 0 (by decide) fl_0 dX5_count_80 (ha_1 σ τ) rfl ?_
          obtain ⟨σ9, τ9, c9, h⟩ := ovs h
          refine mr_callV0 (pc := 83) (ci := 1) [.ref 2] ok_X1_find lk_12 st_X1_find se_X1_find dX5_count_83 rfl (ha_6 σ τ) rfl rfl (Nat.le_of_ble_eq_true rfl) (Nat.le_of_ble_eq_true rfl) ((dc_Y_find_2 c9).up (by decide)) ?_
          refine mr_aload_n (pc := 86) dX5_count_86 rfl ?_
          refine mr_getf (pc := 87) (ci := 5) inX5 rfl 2 (by decide) fl_2 dX5_count_87 (ha_1 σ9 τ9) rfl ?_
          obtain ⟨r10, σ10, τ10, c10, h⟩ := obs h
          refine mr_callV0 (pc := 90) (ci := 1) [] ok_X1_greatestLevel lk_34 st_X1_greatestLevel se_X1_greatestLevel dX5_count_90 rfl (ha_6 σ9 τ9) rfl rfl (Nat.le_of_ble_eq_true rfl) (Nat.le_of_ble_eq_true rfl) ((dc_Y_greatestLevel c10).up (by decide)) ?_
          obtain ⟨rfl, rfl, rfl⟩ := os3 h
          exact mr_iret (pc := 93) rfl (rfl) dX5_count_93
        · replace h := (if_neg q8).symm.trans h
          by_cases q11 : p1 = 4
          · replace h := (if_pos q11).symm.trans h
            refine mr_tabIn (pc := 1) 93 94 dX5_count_1 (by rw [q11]; decide) (by rw [q11]; decide) (by rw [q11]; rfl) (by decide) ?_
            refine mr_aload_n (pc := 94) dX5_count_94 rfl ?_
            refine mr_getf (pc := 95) (ci := 5) inX5 rfl 4 (by decide) fl_4 dX5_count_95 (ha_1 σ τ) rfl ?_
            obtain ⟨r12, σ12, τ12, c12, h⟩ := obs h
            refine mr_callV0 (pc := 98) (ci := 4) [] ok_X4_length lk_3 st_X4_length se_X4_length dX5_count_98 rfl (ha_27 σ τ) rfl rfl (Nat.le_of_ble_eq_true rfl) (Nat.le_of_ble_eq_true rfl) ((dc_T_length c12).up (by decide)) ?_
            obtain ⟨rfl, rfl, rfl⟩ := os3 h
            exact mr_iret (pc := 101) rfl (rfl) dX5_count_101
          · replace h := (if_neg q11).symm.trans h
            by_cases q13 : p1 = 5
            · replace h := (if_pos q13).symm.trans h
              refine mr_tabIn (pc := 1) 101 102 dX5_count_1 (by rw [q13]; decide) (by rw [q13]; decide) (by rw [q13]; rfl) (by decide) ?_
              refine mr_aload_n (pc := 102) dX5_count_102 rfl ?_
              refine mr_getf (pc := 103) (ci := 5) inX5 rfl 8 (by decide) fl_8 dX5_count_103 (ha_1 σ τ) rfl ?_
              obtain ⟨rfl, rfl, rfl⟩ := os3 h
              exact mr_iret (pc := 106) rfl (rfl) dX5_count_106
            · replace h := (if_neg q13).symm.trans h
              refine mr_tabOut (pc := 1) 107 dX5_count_1 (by have z1 := lv_neT q1 (a := 0) (by decide); have z3 := lv_neT q3 (a := 1) (by decide); have z6 := lv_neT q6 (a := 2) (by decide); have z8 := lv_neT q8 (a := 3) (by decide); have z11 := lv_neT q11 (a := 4) (by decide); have z13 := lv_neT q13 (a := 5) (by decide); omega) (by decide) ?_
              refine mr_iconstv (pc := 107) (-1 : Int32) dX5_count_107 (by decide) ?_
              obtain ⟨rfl, rfl, rfl⟩ := os3 h
              exact mr_iret (pc := 108) rfl (rfl) dX5_count_108
set_option maxHeartbeats 4000000 in
set_option maxRecDepth 100000 in
theorem dc_Q_contactsNow {σ : mS} {τ : mT} {r : Int32} {σ' : mS} {τ' : mT} (h : Q_contactsNow σ τ = some (r, σ', τ')) : mc_V M_X6_contactsNow 6 none 0 (mc_entry [.ref 34] 1) [] (mc_hp σ τ) (some (.int r)) (mc_hp σ' τ') 0 0 := by
  unfold Q_contactsNow at h
  show mc_V M_X6_contactsNow 6 none 0 [.ref 34] [] (mc_hp σ τ) (some (.int r)) (mc_hp σ' τ') 0 0
  refine mr_aload_n (pc := 0) dX6_contactsNow_0 rfl ?_
  obtain ⟨σ1, τ1, c1, h⟩ := ovs h
  refine mr_callV0 (pc := 1) (ci := 6) [] ok_X6_layAll lk_152 st_X6_layAll se_X6_layAll dX6_contactsNow_1 rfl (ha_34 σ τ) rfl rfl (Nat.le_of_ble_eq_true rfl) (Nat.le_of_ble_eq_true rfl) ((dc_Q_layAll c1).up (by decide)) ?_
  refine mr_aload_n (pc := 4) dX6_contactsNow_4 rfl ?_
  refine mr_getf (pc := 5) (ci := 6) inX6 rfl 9 (by decide) fl_45 dX6_contactsNow_5 (ha_34 σ1 τ1) rfl ?_
  obtain ⟨rfl, rfl, rfl⟩ := os3 h
  exact mr_iret (pc := 8) rfl (rfl) dX6_contactsNow_8
set_option maxHeartbeats 4000000 in
set_option maxRecDepth 100000 in
theorem dc_Q_heavy_l4 : ∀ (n : Nat), ∀ (x1 : Int32) (x2 : Int32) (σ : mS) (τ : mT) (r : Int32) (σ' : mS) (τ' : mT), Q_heavy_l4 n x1 x2 σ τ = some (r, σ', τ') → mc_V M_X6_heavy 1 none 4 [.ref 34, .int x1, .int x2] [] (mc_hp σ τ) (some (.int r)) (mc_hp σ' τ') 0 0 := by
  intro n
  induction n with
  | zero =>
    intros
    rename_i h
    cases h
  | succ n ih =>
    intro x1 x2 σ τ r σ' τ' h
    refine mr_iload_n (pc := 4) dX6_heavy_4 rfl ?_
    refine mr_aload_n (pc := 5) dX6_heavy_5 rfl ?_
    obtain ⟨r1, σ1, τ1, c1, h⟩ := obs h
    refine mr_callV0 (pc := 6) (ci := 6) [] ok_X6_many lk_138 st_X6_many se_X6_many dX6_heavy_6 rfl (ha_34 σ τ) rfl rfl (Nat.le_of_ble_eq_true rfl) (Nat.le_of_ble_eq_true rfl) ((dc_Q_many c1).up (by decide)) ?_
    refine mr_icmp_ge (pc := 9) 34 dX6_heavy_9 (by decide) (fun q2 => ?_) (fun q2 => ?_)
    · replace h := (if_pos q2).symm.trans h
      refine mr_iload_n (pc := 34) dX6_heavy_34 rfl ?_
      obtain ⟨rfl, rfl, rfl⟩ := os3 h
      exact mr_iret (pc := 35) rfl (rfl) dX6_heavy_35
    · replace h := (if_neg q2).symm.trans h
      refine mr_iload_n (pc := 12) dX6_heavy_12 rfl ?_
      refine mr_aload_n (pc := 13) dX6_heavy_13 rfl ?_
      refine mr_iload_n (pc := 14) dX6_heavy_14 rfl ?_
      refine mr_iconstv (pc := 15) (3 : Int32) dX6_heavy_15 (by decide) ?_
      obtain ⟨r3, σ3, τ3, c3, h⟩ := obs h
      refine mr_callV0 (pc := 16) (ci := 6) [.int x2, .int (3 : Int32)] ok_X6_get lk_132 st_X6_get se_X6_get dX6_heavy_16 rfl (ha_34 σ1 τ1) rfl rfl (Nat.le_of_ble_eq_true rfl) (Nat.le_of_ble_eq_true rfl) ((dc_Q_get c3).up (by decide)) ?_
      refine mr_aload_n (pc := 19) dX6_heavy_19 rfl ?_
      refine mr_iload_n (pc := 20) dX6_heavy_20 rfl ?_
      refine mr_iconstv (pc := 21) (4 : Int32) dX6_heavy_21 (by decide) ?_
      obtain ⟨r4, σ4, τ4, c4, h⟩ := obs h
      refine mr_callV0 (pc := 22) (ci := 6) [.int x2, .int (4 : Int32)] ok_X6_get lk_132 st_X6_get se_X6_get dX6_heavy_22 rfl (ha_34 σ3 τ3) rfl rfl (Nat.le_of_ble_eq_true rfl) (Nat.le_of_ble_eq_true rfl) ((dc_Q_get c4).up (by decide)) ?_
      refine mr_iadd (pc := 25) dX6_heavy_25 ?_
      refine mr_iadd (pc := 26) dX6_heavy_26 ?_
      refine mr_istore_n (pc := 27) dX6_heavy_27 (Nat.le_of_ble_eq_true rfl) (show mc_V M_X6_heavy 1 none 28 [.ref 34, .int (x1 + (r3 + r4)), .int x2] [] (mc_hp σ4 τ4) (some (.int r)) (mc_hp σ' τ') 0 0 from ?_)
      refine mr_iincv (pc := 28) (1 : Int32) dX6_heavy_28 rfl (by decide) (show mc_V M_X6_heavy 1 none 31 [.ref 34, .int (x1 + (r3 + r4)), .int (x2 + (1 : Int32))] [] (mc_hp σ4 τ4) (some (.int r)) (mc_hp σ' τ') 0 0 from ?_)
      refine mr_goto (pc := 31) 4 dX6_heavy_31 (by decide) ?_
      exact mc_V.locs (loc' := [.ref 34, .int (x1 + (r3 + r4)), .int (x2 + (1 : Int32))]) ⟨Or.inr rfl, Or.inr rfl, Or.inr rfl, trivial⟩ (ih (x1 + (r3 + r4)) (x2 + (1 : Int32)) σ4 τ4 r σ' τ' h)
set_option maxHeartbeats 4000000 in
set_option maxRecDepth 100000 in
theorem dc_Q_heavy {σ : mS} {τ : mT} {r : Int32} {σ' : mS} {τ' : mT} (h : Q_heavy σ τ = some (r, σ', τ')) : mc_V M_X6_heavy 1 none 0 (mc_entry [.ref 34] 3) [] (mc_hp σ τ) (some (.int r)) (mc_hp σ' τ') 0 0 := by
  unfold Q_heavy at h
  show mc_V M_X6_heavy 1 none 0 [.ref 34, .retAddr 0, .retAddr 0] [] (mc_hp σ τ) (some (.int r)) (mc_hp σ' τ') 0 0
  refine mr_iconstv (pc := 0) (0 : Int32) dX6_heavy_0 (by decide) ?_
  refine mr_istore_n (pc := 1) dX6_heavy_1 (Nat.le_of_ble_eq_true rfl) (show mc_V M_X6_heavy 1 none 2 [.ref 34, .int (0 : Int32), .retAddr 0] [] (mc_hp σ τ) (some (.int r)) (mc_hp σ' τ') 0 0 from ?_)
  refine mr_iconstv (pc := 2) (0 : Int32) dX6_heavy_2 (by decide) ?_
  refine mr_istore_n (pc := 3) dX6_heavy_3 (Nat.le_of_ble_eq_true rfl) (show mc_V M_X6_heavy 1 none 4 [.ref 34, .int (0 : Int32), .int (0 : Int32)] [] (mc_hp σ τ) (some (.int r)) (mc_hp σ' τ') 0 0 from ?_)
  exact mc_V.locs (loc' := [.ref 34, .int (0 : Int32), .int (0 : Int32)]) ⟨Or.inr rfl, Or.inr rfl, Or.inr rfl, trivial⟩ (dc_Q_heavy_l4 mc_F (0 : Int32) (0 : Int32) σ τ r σ' τ' h)
set_option maxHeartbeats 4000000 in
set_option maxRecDepth 100000 in
theorem dc_Q_highest_l9 : ∀ (n : Nat), ∀ (x1 : Int32) (x2 : Int32) (σ : mS) (τ : mT) (r : Int32) (σ' : mS) (τ' : mT), Q_highest_l9 n x1 x2 σ τ = some (r, σ', τ') → mc_V M_X6_highest 6 none 9 [.ref 34, .int x1, .int x2] [] (mc_hp σ τ) (some (.int r)) (mc_hp σ' τ') 0 0 := by
  intro n
  induction n with
  | zero =>
    intros
    rename_i h
    cases h
  | succ n ih =>
    intro x1 x2 σ τ r σ' τ' h
    refine mr_iload_n (pc := 9) dX6_highest_9 rfl ?_
    refine mr_aload_n (pc := 10) dX6_highest_10 rfl ?_
    obtain ⟨r1, σ1, τ1, c1, h⟩ := obs h
    refine mr_callV0 (pc := 11) (ci := 6) [] ok_X6_many lk_138 st_X6_many se_X6_many dX6_highest_11 rfl (ha_34 σ τ) rfl rfl (Nat.le_of_ble_eq_true rfl) (Nat.le_of_ble_eq_true rfl) ((dc_Q_many c1).up (by decide)) ?_
    refine mr_icmp_ge (pc := 14) 44 dX6_highest_14 (by decide) (fun q2 => ?_) (fun q2 => ?_)
    · replace h := (if_pos q2).symm.trans h
      refine mr_iload_n (pc := 44) dX6_highest_44 rfl ?_
      obtain ⟨rfl, rfl, rfl⟩ := os3 h
      exact mr_iret (pc := 45) rfl (rfl) dX6_highest_45
    · replace h := (if_neg q2).symm.trans h
      refine mr_aload_n (pc := 17) dX6_highest_17 rfl ?_
      refine mr_getf (pc := 18) (ci := 6) inX6 rfl 7 (by decide) fl_36 dX6_highest_18 (ha_34 σ1 τ1) rfl ?_
      refine mr_iload_n (pc := 21) dX6_highest_21 rfl ?_
      obtain ⟨g3, h⟩ := og h
      refine mr_iald (pc := 22) dX6_highest_22 (ha_40 σ1 τ1) (g3) ?_
      refine mr_iload_n (pc := 23) dX6_highest_23 rfl ?_
      refine mr_icmp_le (pc := 24) 36 dX6_highest_24 (by decide) (fun q4 => ?_) (fun q4 => ?_)
      · replace h := (if_pos q4).symm.trans h
        refine mr_iload_n (pc := 36) dX6_highest_36 rfl ?_
        refine mr_istore_n (pc := 37) dX6_highest_37 (Nat.le_of_ble_eq_true rfl) (show mc_V M_X6_highest 6 none 38 [.ref 34, .int x1, .int x2] [] (mc_hp σ1 τ1) (some (.int r)) (mc_hp σ' τ') 0 0 from ?_)
        refine mr_iincv (pc := 38) (1 : Int32) dX6_highest_38 rfl (by decide) (show mc_V M_X6_highest 6 none 41 [.ref 34, .int x1, .int (x2 + (1 : Int32))] [] (mc_hp σ1 τ1) (some (.int r)) (mc_hp σ' τ') 0 0 from ?_)
        refine mr_goto (pc := 41) 9 dX6_highest_41 (by decide) ?_
        exact mc_V.locs (loc' := [.ref 34, .int x1, .int (x2 + (1 : Int32))]) ⟨Or.inr rfl, Or.inr rfl, Or.inr rfl, trivial⟩ (ih x1 (x2 + (1 : Int32)) σ1 τ1 r σ' τ' h)
      · replace h := (if_neg q4).symm.trans h
        refine mr_aload_n (pc := 27) dX6_highest_27 rfl ?_
        refine mr_getf (pc := 28) (ci := 6) inX6 rfl 7 (by decide) fl_36 dX6_highest_28 (ha_34 σ1 τ1) rfl ?_
        refine mr_iload_n (pc := 31) dX6_highest_31 rfl ?_
        refine mr_iald (pc := 32) dX6_highest_32 (ha_40 σ1 τ1) (g3) ?_
        refine mr_goto (pc := 33) 37 dX6_highest_33 (by decide) ?_
        refine mr_istore_n (pc := 37) dX6_highest_37 (Nat.le_of_ble_eq_true rfl) (show mc_V M_X6_highest 6 none 38 [.ref 34, .int (σ1 40 x2.toNatClampNeg), .int x2] [] (mc_hp σ1 τ1) (some (.int r)) (mc_hp σ' τ') 0 0 from ?_)
        refine mr_iincv (pc := 38) (1 : Int32) dX6_highest_38 rfl (by decide) (show mc_V M_X6_highest 6 none 41 [.ref 34, .int (σ1 40 x2.toNatClampNeg), .int (x2 + (1 : Int32))] [] (mc_hp σ1 τ1) (some (.int r)) (mc_hp σ' τ') 0 0 from ?_)
        refine mr_goto (pc := 41) 9 dX6_highest_41 (by decide) ?_
        exact mc_V.locs (loc' := [.ref 34, .int (σ1 40 x2.toNatClampNeg), .int (x2 + (1 : Int32))]) ⟨Or.inr rfl, Or.inr rfl, Or.inr rfl, trivial⟩ (ih (σ1 40 x2.toNatClampNeg) (x2 + (1 : Int32)) σ1 τ1 r σ' τ' h)
set_option maxHeartbeats 4000000 in
set_option maxRecDepth 100000 in
theorem dc_Q_highest {σ : mS} {τ : mT} {r : Int32} {σ' : mS} {τ' : mT} (h : Q_highest σ τ = some (r, σ', τ')) : mc_V M_X6_highest 6 none 0 (mc_entry [.ref 34] 3) [] (mc_hp σ τ) (some (.int r)) (mc_hp σ' τ') 0 0 := by
  unfold Q_highest at h
  show mc_V M_X6_highest 6 none 0 [.ref 34, .retAddr 0, .retAddr 0] [] (mc_hp σ τ) (some (.int r)) (mc_hp σ' τ') 0 0
  refine mr_aload_n (pc := 0) dX6_highest_0 rfl ?_
  obtain ⟨σ1, τ1, c1, h⟩ := ovs h
  refine mr_callV0 (pc := 1) (ci := 6) [] ok_X6_layAll lk_152 st_X6_layAll se_X6_layAll dX6_highest_1 rfl (ha_34 σ τ) rfl rfl (Nat.le_of_ble_eq_true rfl) (Nat.le_of_ble_eq_true rfl) ((dc_Q_layAll c1).up (by decide)) ?_
  refine mr_bipushv (pc := 4) (-9 : Int32) dX6_highest_4 (by decide) ?_
  refine mr_istore_n (pc := 6) dX6_highest_6 (Nat.le_of_ble_eq_true rfl) (show mc_V M_X6_highest 6 none 7 [.ref 34, .int (-9 : Int32), .retAddr 0] [] (mc_hp σ1 τ1) (some (.int r)) (mc_hp σ' τ') 0 0 from ?_)
  refine mr_iconstv (pc := 7) (0 : Int32) dX6_highest_7 (by decide) ?_
  refine mr_istore_n (pc := 8) dX6_highest_8 (Nat.le_of_ble_eq_true rfl) (show mc_V M_X6_highest 6 none 9 [.ref 34, .int (-9 : Int32), .int (0 : Int32)] [] (mc_hp σ1 τ1) (some (.int r)) (mc_hp σ' τ') 0 0 from ?_)
  exact mc_V.locs (loc' := [.ref 34, .int (-9 : Int32), .int (0 : Int32)]) ⟨Or.inr rfl, Or.inr rfl, Or.inr rfl, trivial⟩ (dc_Q_highest_l9 mc_F (-9 : Int32) (0 : Int32) σ1 τ1 r σ' τ' h)
set_option maxHeartbeats 4000000 in
set_option maxRecDepth 100000 in
theorem dc_Q_count {p1 : Int32} {σ : mS} {τ : mT} {r : Int32} {σ' : mS} {τ' : mT} (h : Q_count p1 σ τ = some (r, σ', τ')) : mc_V M_X6_count 7 none 0 (mc_entry [.ref 34, .int p1] 2) [] (mc_hp σ τ) (some (.int r)) (mc_hp σ' τ') 0 0 := by
  unfold Q_count at h
  show mc_V M_X6_count 7 none 0 [.ref 34, .int p1] [] (mc_hp σ τ) (some (.int r)) (mc_hp σ' τ') 0 0
  refine mr_iload_n (pc := 0) dX6_count_0 rfl ?_
  by_cases q1 : p1 = 0
  · replace h := (if_pos q1).symm.trans h
    refine mr_tabIn (pc := 1) 39 40 dX6_count_1 (by rw [q1]; decide) (by rw [q1]; decide) (by rw [q1]; rfl) (by decide) ?_
    refine mr_aload_n (pc := 40) dX6_count_40 rfl ?_
    refine mr_getf (pc := 41) (ci := 6) inX6 rfl 0 (by decide) fl_31 dX6_count_41 (ha_34 σ τ) rfl ?_
    refine mr_iconstv (pc := 44) (0 : Int32) dX6_count_44 (by decide) ?_
    refine mr_iald (pc := 45) dX6_count_45 (ha_35 σ τ) (vin_ok rfl) ?_
    obtain ⟨rfl, rfl, rfl⟩ := os3 h
    exact mr_iret (pc := 46) rfl (rfl) dX6_count_46
  · replace h := (if_neg q1).symm.trans h
    by_cases q2 : p1 = 1
    · replace h := (if_pos q2).symm.trans h
      refine mr_tabIn (pc := 1) 46 47 dX6_count_1 (by rw [q2]; decide) (by rw [q2]; decide) (by rw [q2]; rfl) (by decide) ?_
      refine mr_aload_n (pc := 47) dX6_count_47 rfl ?_
      obtain ⟨r3, σ3, τ3, c3, h⟩ := obs h
      refine mr_callV0 (pc := 48) (ci := 6) [] ok_X6_contactsNow lk_179 st_X6_contactsNow se_X6_contactsNow dX6_count_48 rfl (ha_34 σ τ) rfl rfl (Nat.le_of_ble_eq_true rfl) (Nat.le_of_ble_eq_true rfl) ((dc_Q_contactsNow c3).up (by decide)) ?_
      obtain ⟨rfl, rfl, rfl⟩ := os3 h
      exact mr_iret (pc := 51) rfl (rfl) dX6_count_51
    · replace h := (if_neg q2).symm.trans h
      by_cases q4 : p1 = 2
      · replace h := (if_pos q4).symm.trans h
        refine mr_tabIn (pc := 1) 51 52 dX6_count_1 (by rw [q4]; decide) (by rw [q4]; decide) (by rw [q4]; rfl) (by decide) ?_
        refine mr_aload_n (pc := 52) dX6_count_52 rfl ?_
        obtain ⟨r5, σ5, τ5, c5, h⟩ := obs h
        refine mr_callV0 (pc := 53) (ci := 6) [] ok_X6_heavy lk_180 st_X6_heavy se_X6_heavy dX6_count_53 rfl (ha_34 σ τ) rfl rfl (Nat.le_of_ble_eq_true rfl) (Nat.le_of_ble_eq_true rfl) ((dc_Q_heavy c5).up (by decide)) ?_
        obtain ⟨rfl, rfl, rfl⟩ := os3 h
        exact mr_iret (pc := 56) rfl (rfl) dX6_count_56
      · replace h := (if_neg q4).symm.trans h
        by_cases q6 : p1 = 3
        · replace h := (if_pos q6).symm.trans h
          refine mr_tabIn (pc := 1) 56 57 dX6_count_1 (by rw [q6]; decide) (by rw [q6]; decide) (by rw [q6]; rfl) (by decide) ?_
          refine mr_aload_n (pc := 57) dX6_count_57 rfl ?_
          obtain ⟨r7, σ7, τ7, c7, h⟩ := obs h
          refine mr_callV0 (pc := 58) (ci := 6) [] ok_X6_highest lk_181 st_X6_highest se_X6_highest dX6_count_58 rfl (ha_34 σ τ) rfl rfl (Nat.le_of_ble_eq_true rfl) (Nat.le_of_ble_eq_true rfl) ((dc_Q_highest c7).up (by decide)) ?_
          obtain ⟨rfl, rfl, rfl⟩ := os3 h
          exact mr_iret (pc := 61) rfl (rfl) dX6_count_61
        · replace h := (if_neg q6).symm.trans h
          by_cases q8 : p1 = 4
          · replace h := (if_pos q8).symm.trans h
            refine mr_tabIn (pc := 1) 61 62 dX6_count_1 (by rw [q8]; decide) (by rw [q8]; decide) (by rw [q8]; rfl) (by decide) ?_
            refine mr_aload_n (pc := 62) dX6_count_62 rfl ?_
            refine mr_getf (pc := 63) (ci := 6) inX6 rfl 6 (by decide) fl_54 dX6_count_63 (ha_34 σ τ) rfl ?_
            obtain ⟨rfl, rfl, rfl⟩ := os3 h
            exact mr_iret (pc := 66) rfl (rfl) dX6_count_66
          · replace h := (if_neg q8).symm.trans h
            by_cases q9 : p1 = 5
            · replace h := (if_pos q9).symm.trans h
              refine mr_tabIn (pc := 1) 66 67 dX6_count_1 (by rw [q9]; decide) (by rw [q9]; decide) (by rw [q9]; rfl) (by decide) ?_
              refine mr_aload_n (pc := 67) dX6_count_67 rfl ?_
              refine mr_getf (pc := 68) (ci := 6) inX6 rfl 2 (by decide) fl_57 dX6_count_68 (ha_34 σ τ) rfl ?_
              obtain ⟨rfl, rfl, rfl⟩ := os3 h
              exact mr_iret (pc := 71) rfl (rfl) dX6_count_71
            · replace h := (if_neg q9).symm.trans h
              refine mr_tabOut (pc := 1) 72 dX6_count_1 (by have z1 := lv_neT q1 (a := 0) (by decide); have z2 := lv_neT q2 (a := 1) (by decide); have z4 := lv_neT q4 (a := 2) (by decide); have z6 := lv_neT q6 (a := 3) (by decide); have z8 := lv_neT q8 (a := 4) (by decide); have z9 := lv_neT q9 (a := 5) (by decide); omega) (by decide) ?_
              refine mr_iconstv (pc := 72) (-1 : Int32) dX6_count_72 (by decide) ?_
              obtain ⟨rfl, rfl, rfl⟩ := os3 h
              exact mr_iret (pc := 73) rfl (rfl) dX6_count_73
set_option maxHeartbeats 4000000 in
set_option maxRecDepth 100000 in
theorem dc_L_law_l18 (sL : Nat) (sX : Nat → Int32) : ∀ (n : Nat), ∀ (x3 : Int32) (σ : mS) (τ : mT) (r : Int32) (σ' : mS) (τ' : mT), L_law_l18 sL sX n x3 σ τ = some (r, σ', τ') → mc_V M_law 10 (some (sL, sX)) 18 [.ref 0, .ref 1, .ref 34, .int x3] [] (mc_hp σ τ) (some (.int r)) (mc_hp σ' τ') 0 0 := by
  intro n
  induction n with
  | zero =>
    intros
    rename_i h
    cases h
  | succ n ih =>
    intro x3 σ τ r σ' τ' h
    refine mr_iload_n (pc := 18) dL_law_18 rfl ?_
    refine mr_aload_n (pc := 19) dL_law_19 rfl ?_
    refine mr_slen (pc := 20) rfl dL_law_20 ?_
    refine mr_iconstv (pc := 21) (4 : Int32) dL_law_21 (by decide) ?_
    refine mr_isub (pc := 22) dL_law_22 ?_
    refine mr_icmp_gt (pc := 23) 646 dL_law_23 (by decide) (fun q1 => ?_) (fun q1 => ?_)
    · replace h := (if_pos q1).symm.trans h
      refine mr_iconstv (pc := 646) (1 : Int32) dL_law_646 (by decide) ?_
      obtain ⟨rfl, rfl, rfl⟩ := os3 h
      exact mr_iret (pc := 647) rfl (rfl) dL_law_647
    · replace h := (if_neg q1).symm.trans h
      refine mr_aload_n (pc := 26) dL_law_26 rfl ?_
      refine mr_iload_n (pc := 27) dL_law_27 rfl ?_
      obtain ⟨g2, h⟩ := og h
      refine mr_sld (pc := 28) rfl dL_law_28 g2 ?_
      refine mr_bipushv (pc := 29) (31 : Int32) dL_law_29 (by decide) ?_
      refine mr_iand (pc := 31) dL_law_31 ?_
      by_cases q3 : ((sX x3.toNatClampNeg) &&& (31 : Int32)) = 0
      · replace h := (if_pos q3).symm.trans h
        refine mr_tabIn (pc := 32) 96 128 dL_law_32 (by rw [q3]; decide) (by rw [q3]; decide) (by rw [q3]; rfl) (by decide) ?_
        refine mr_aload_n (pc := 128) dL_law_128 rfl ?_
        refine mr_aload_n (pc := 129) dL_law_129 rfl ?_
        refine mr_iload_n (pc := 130) dL_law_130 rfl ?_
        refine mr_iconstv (pc := 131) (1 : Int32) dL_law_131 (by decide) ?_
        refine mr_iadd (pc := 132) dL_law_132 ?_
        obtain ⟨g4, h⟩ := og h
        refine mr_sld (pc := 133) rfl dL_law_133 g4 ?_
        obtain ⟨r5, σ5, τ5, c5, h⟩ := obs h
        refine mr_callV0 (pc := 134) (ci := 5) [.int (sX (x3 + (1 : Int32)).toNatClampNeg)] ok_X5_type lk_91 st_X5_type se_X5_type dL_law_134 rfl (ha_1 σ τ) rfl rfl (Nat.le_of_ble_eq_true rfl) (Nat.le_of_ble_eq_true rfl) ((dc_R_type c5).up (by decide)) ?_
        refine mr_aload_n (pc := 137) dL_law_137 rfl ?_
        refine mr_aload_n (pc := 138) dL_law_138 rfl ?_
        refine mr_iload_n (pc := 139) dL_law_139 rfl ?_
        refine mr_iconstv (pc := 140) (1 : Int32) dL_law_140 (by decide) ?_
        refine mr_iadd (pc := 141) dL_law_141 ?_
        refine mr_sld (pc := 142) rfl dL_law_142 g4 ?_
        obtain ⟨r6, σ6, τ6, c6, h⟩ := obs h
        refine mr_callV0 (pc := 143) (ci := 6) [.int (sX (x3 + (1 : Int32)).toNatClampNeg)] ok_X6_type lk_92 st_X6_type se_X6_type dL_law_143 rfl (ha_34 σ5 τ5) rfl rfl (Nat.le_of_ble_eq_true rfl) (Nat.le_of_ble_eq_true rfl) ((dc_Q_type c6).up (by decide)) ?_
        refine mr_icmp_eq (pc := 146) 640 dL_law_146 (by decide) (fun q7 => ?_) (fun q7 => ?_)
        · replace h := (if_pos q7).symm.trans h
          refine mr_iincv (pc := 640) (4 : Int32) dL_law_640 rfl (by decide) (show mc_V M_law 10 (some (sL, sX)) 643 [.ref 0, .ref 1, .ref 34, .int (x3 + (4 : Int32))] [] (mc_hp σ6 τ6) (some (.int r)) (mc_hp σ' τ') 0 0 from ?_)
          refine mr_goto (pc := 643) 18 dL_law_643 (by decide) ?_
          exact mc_V.locs (loc' := [.ref 0, .ref 1, .ref 34, .int (x3 + (4 : Int32))]) ⟨Or.inr rfl, Or.inr rfl, Or.inr rfl, Or.inr rfl, trivial⟩ (ih (x3 + (4 : Int32)) σ6 τ6 r σ' τ' h)
        · replace h := (if_neg q7).symm.trans h
          refine mr_iconstv (pc := 149) (0 : Int32) dL_law_149 (by decide) ?_
          obtain ⟨rfl, rfl, rfl⟩ := os3 h
          exact mr_iret (pc := 150) rfl (rfl) dL_law_150
      · replace h := (if_neg q3).symm.trans h
        by_cases q8 : ((sX x3.toNatClampNeg) &&& (31 : Int32)) = 1
        · replace h := (if_pos q8).symm.trans h
          refine mr_tabIn (pc := 32) 119 151 dL_law_32 (by rw [q8]; decide) (by rw [q8]; decide) (by rw [q8]; rfl) (by decide) ?_
          refine mr_aload_n (pc := 151) dL_law_151 rfl ?_
          obtain ⟨r9, σ9, τ9, c9, h⟩ := obs h
          refine mr_callV0 (pc := 152) (ci := 5) [] ok_X5_clear lk_93 st_X5_clear se_X5_clear dL_law_152 rfl (ha_1 σ τ) rfl rfl (Nat.le_of_ble_eq_true rfl) (Nat.le_of_ble_eq_true rfl) ((dc_R_clear c9).up (by decide)) ?_
          refine mr_aload_n (pc := 155) dL_law_155 rfl ?_
          obtain ⟨r10, σ10, τ10, c10, h⟩ := obs h
          refine mr_callV0 (pc := 156) (ci := 6) [] ok_X6_clear lk_94 st_X6_clear se_X6_clear dL_law_156 rfl (ha_34 σ9 τ9) rfl rfl (Nat.le_of_ble_eq_true rfl) (Nat.le_of_ble_eq_true rfl) ((dc_Q_clear c10).up (by decide)) ?_
          refine mr_icmp_eq (pc := 159) 640 dL_law_159 (by decide) (fun q11 => ?_) (fun q11 => ?_)
          · replace h := (if_pos q11).symm.trans h
            refine mr_iincv (pc := 640) (4 : Int32) dL_law_640 rfl (by decide) (show mc_V M_law 10 (some (sL, sX)) 643 [.ref 0, .ref 1, .ref 34, .int (x3 + (4 : Int32))] [] (mc_hp σ10 τ10) (some (.int r)) (mc_hp σ' τ') 0 0 from ?_)
            refine mr_goto (pc := 643) 18 dL_law_643 (by decide) ?_
            exact mc_V.locs (loc' := [.ref 0, .ref 1, .ref 34, .int (x3 + (4 : Int32))]) ⟨Or.inr rfl, Or.inr rfl, Or.inr rfl, Or.inr rfl, trivial⟩ (ih (x3 + (4 : Int32)) σ10 τ10 r σ' τ' h)
          · replace h := (if_neg q11).symm.trans h
            refine mr_iconstv (pc := 162) (0 : Int32) dL_law_162 (by decide) ?_
            obtain ⟨rfl, rfl, rfl⟩ := os3 h
            exact mr_iret (pc := 163) rfl (rfl) dL_law_163
        · replace h := (if_neg q8).symm.trans h
          by_cases q12 : ((sX x3.toNatClampNeg) &&& (31 : Int32)) = 2
          · replace h := (if_pos q12).symm.trans h
            refine mr_tabIn (pc := 32) 132 164 dL_law_32 (by rw [q12]; decide) (by rw [q12]; decide) (by rw [q12]; rfl) (by decide) ?_
            refine mr_aload_n (pc := 164) dL_law_164 rfl ?_
            obtain ⟨r13, σ13, τ13, c13, h⟩ := obs h
            refine mr_callV0 (pc := 165) (ci := 5) [] ok_X5_tells lk_95 st_X5_tells se_X5_tells dL_law_165 rfl (ha_1 σ τ) rfl rfl (Nat.le_of_ble_eq_true rfl) (Nat.le_of_ble_eq_true rfl) ((dc_R_tells c13).up (by decide)) ?_
            refine mr_aload_n (pc := 168) dL_law_168 rfl ?_
            obtain ⟨r14, σ14, τ14, c14, h⟩ := obs h
            refine mr_callV0 (pc := 169) (ci := 6) [] ok_X6_tells lk_96 st_X6_tells se_X6_tells dL_law_169 rfl (ha_34 σ13 τ13) rfl rfl (Nat.le_of_ble_eq_true rfl) (Nat.le_of_ble_eq_true rfl) ((dc_Q_tells c14).up (by decide)) ?_
            refine mr_icmp_eq (pc := 172) 640 dL_law_172 (by decide) (fun q15 => ?_) (fun q15 => ?_)
            · replace h := (if_pos q15).symm.trans h
              refine mr_iincv (pc := 640) (4 : Int32) dL_law_640 rfl (by decide) (show mc_V M_law 10 (some (sL, sX)) 643 [.ref 0, .ref 1, .ref 34, .int (x3 + (4 : Int32))] [] (mc_hp σ14 τ14) (some (.int r)) (mc_hp σ' τ') 0 0 from ?_)
              refine mr_goto (pc := 643) 18 dL_law_643 (by decide) ?_
              exact mc_V.locs (loc' := [.ref 0, .ref 1, .ref 34, .int (x3 + (4 : Int32))]) ⟨Or.inr rfl, Or.inr rfl, Or.inr rfl, Or.inr rfl, trivial⟩ (ih (x3 + (4 : Int32)) σ14 τ14 r σ' τ' h)
            · replace h := (if_neg q15).symm.trans h
              refine mr_iconstv (pc := 175) (0 : Int32) dL_law_175 (by decide) ?_
              obtain ⟨rfl, rfl, rfl⟩ := os3 h
              exact mr_iret (pc := 176) rfl (rfl) dL_law_176
          · replace h := (if_neg q12).symm.trans h
            by_cases q16 : ((sX x3.toNatClampNeg) &&& (31 : Int32)) = 3
            · replace h := (if_pos q16).symm.trans h
              refine mr_tabIn (pc := 32) 145 177 dL_law_32 (by rw [q16]; decide) (by rw [q16]; decide) (by rw [q16]; rfl) (by decide) ?_
              refine mr_aload_n (pc := 177) dL_law_177 rfl ?_
              refine mr_aload_n (pc := 178) dL_law_178 rfl ?_
              refine mr_iload_n (pc := 179) dL_law_179 rfl ?_
              refine mr_iconstv (pc := 180) (1 : Int32) dL_law_180 (by decide) ?_
              refine mr_iadd (pc := 181) dL_law_181 ?_
              obtain ⟨g17, h⟩ := og h
              refine mr_sld (pc := 182) rfl dL_law_182 g17 ?_
              refine mr_aload_n (pc := 183) dL_law_183 rfl ?_
              refine mr_iload_n (pc := 184) dL_law_184 rfl ?_
              refine mr_iconstv (pc := 185) (2 : Int32) dL_law_185 (by decide) ?_
              refine mr_iadd (pc := 186) dL_law_186 ?_
              obtain ⟨g18, h⟩ := og h
              refine mr_sld (pc := 187) rfl dL_law_187 g18 ?_
              refine mr_aload_n (pc := 188) dL_law_188 rfl ?_
              refine mr_iload_n (pc := 189) dL_law_189 rfl ?_
              refine mr_iconstv (pc := 190) (3 : Int32) dL_law_190 (by decide) ?_
              refine mr_iadd (pc := 191) dL_law_191 ?_
              obtain ⟨g19, h⟩ := og h
              refine mr_sld (pc := 192) rfl dL_law_192 g19 ?_
              obtain ⟨r20, σ20, τ20, c20, h⟩ := obs h
              refine mr_callV0 (pc := 193) (ci := 5) [.int (sX (x3 + (1 : Int32)).toNatClampNeg), .int (sX (x3 + (2 : Int32)).toNatClampNeg), .int (sX (x3 + (3 : Int32)).toNatClampNeg)] ok_X5_drops lk_97 st_X5_drops se_X5_drops dL_law_193 rfl (ha_1 σ τ) rfl rfl (Nat.le_of_ble_eq_true rfl) (Nat.le_of_ble_eq_true rfl) ((dc_R_drops c20).up (by decide)) ?_
              refine mr_aload_n (pc := 196) dL_law_196 rfl ?_
              refine mr_aload_n (pc := 197) dL_law_197 rfl ?_
              refine mr_iload_n (pc := 198) dL_law_198 rfl ?_
              refine mr_iconstv (pc := 199) (1 : Int32) dL_law_199 (by decide) ?_
              refine mr_iadd (pc := 200) dL_law_200 ?_
              refine mr_sld (pc := 201) rfl dL_law_201 g17 ?_
              refine mr_aload_n (pc := 202) dL_law_202 rfl ?_
              refine mr_iload_n (pc := 203) dL_law_203 rfl ?_
              refine mr_iconstv (pc := 204) (2 : Int32) dL_law_204 (by decide) ?_
              refine mr_iadd (pc := 205) dL_law_205 ?_
              refine mr_sld (pc := 206) rfl dL_law_206 g18 ?_
              refine mr_aload_n (pc := 207) dL_law_207 rfl ?_
              refine mr_iload_n (pc := 208) dL_law_208 rfl ?_
              refine mr_iconstv (pc := 209) (3 : Int32) dL_law_209 (by decide) ?_
              refine mr_iadd (pc := 210) dL_law_210 ?_
              refine mr_sld (pc := 211) rfl dL_law_211 g19 ?_
              obtain ⟨r21, σ21, τ21, c21, h⟩ := obs h
              refine mr_callV0 (pc := 212) (ci := 6) [.int (sX (x3 + (1 : Int32)).toNatClampNeg), .int (sX (x3 + (2 : Int32)).toNatClampNeg), .int (sX (x3 + (3 : Int32)).toNatClampNeg)] ok_X6_drops lk_98 st_X6_drops se_X6_drops dL_law_212 rfl (ha_34 σ20 τ20) rfl rfl (Nat.le_of_ble_eq_true rfl) (Nat.le_of_ble_eq_true rfl) ((dc_Q_drops c21).up (by decide)) ?_
              refine mr_icmp_eq (pc := 215) 640 dL_law_215 (by decide) (fun q22 => ?_) (fun q22 => ?_)
              · replace h := (if_pos q22).symm.trans h
                refine mr_iincv (pc := 640) (4 : Int32) dL_law_640 rfl (by decide) (show mc_V M_law 10 (some (sL, sX)) 643 [.ref 0, .ref 1, .ref 34, .int (x3 + (4 : Int32))] [] (mc_hp σ21 τ21) (some (.int r)) (mc_hp σ' τ') 0 0 from ?_)
                refine mr_goto (pc := 643) 18 dL_law_643 (by decide) ?_
                exact mc_V.locs (loc' := [.ref 0, .ref 1, .ref 34, .int (x3 + (4 : Int32))]) ⟨Or.inr rfl, Or.inr rfl, Or.inr rfl, Or.inr rfl, trivial⟩ (ih (x3 + (4 : Int32)) σ21 τ21 r σ' τ' h)
              · replace h := (if_neg q22).symm.trans h
                refine mr_iconstv (pc := 218) (0 : Int32) dL_law_218 (by decide) ?_
                obtain ⟨rfl, rfl, rfl⟩ := os3 h
                exact mr_iret (pc := 219) rfl (rfl) dL_law_219
            · replace h := (if_neg q16).symm.trans h
              by_cases q23 : ((sX x3.toNatClampNeg) &&& (31 : Int32)) = 4
              · replace h := (if_pos q23).symm.trans h
                refine mr_tabIn (pc := 32) 188 220 dL_law_32 (by rw [q23]; decide) (by rw [q23]; decide) (by rw [q23]; rfl) (by decide) ?_
                refine mr_aload_n (pc := 220) dL_law_220 rfl ?_
                refine mr_aload_n (pc := 221) dL_law_221 rfl ?_
                refine mr_iload_n (pc := 222) dL_law_222 rfl ?_
                refine mr_iconstv (pc := 223) (1 : Int32) dL_law_223 (by decide) ?_
                refine mr_iadd (pc := 224) dL_law_224 ?_
                obtain ⟨g24, h⟩ := og h
                refine mr_sld (pc := 225) rfl dL_law_225 g24 ?_
                obtain ⟨r25, σ25, τ25, c25, h⟩ := obs h
                refine mr_callV0 (pc := 226) (ci := 5) [.int (sX (x3 + (1 : Int32)).toNatClampNeg)] ok_X5_lifts lk_99 st_X5_lifts se_X5_lifts dL_law_226 rfl (ha_1 σ τ) rfl rfl (Nat.le_of_ble_eq_true rfl) (Nat.le_of_ble_eq_true rfl) ((dc_R_lifts c25).up (by decide)) ?_
                refine mr_aload_n (pc := 229) dL_law_229 rfl ?_
                refine mr_aload_n (pc := 230) dL_law_230 rfl ?_
                refine mr_iload_n (pc := 231) dL_law_231 rfl ?_
                refine mr_iconstv (pc := 232) (1 : Int32) dL_law_232 (by decide) ?_
                refine mr_iadd (pc := 233) dL_law_233 ?_
                refine mr_sld (pc := 234) rfl dL_law_234 g24 ?_
                obtain ⟨r26, σ26, τ26, c26, h⟩ := obs h
                refine mr_callV0 (pc := 235) (ci := 6) [.int (sX (x3 + (1 : Int32)).toNatClampNeg)] ok_X6_lifts lk_100 st_X6_lifts se_X6_lifts dL_law_235 rfl (ha_34 σ25 τ25) rfl rfl (Nat.le_of_ble_eq_true rfl) (Nat.le_of_ble_eq_true rfl) ((dc_Q_lifts c26).up (by decide)) ?_
                refine mr_icmp_eq (pc := 238) 640 dL_law_238 (by decide) (fun q27 => ?_) (fun q27 => ?_)
                · replace h := (if_pos q27).symm.trans h
                  refine mr_iincv (pc := 640) (4 : Int32) dL_law_640 rfl (by decide) (show mc_V M_law 10 (some (sL, sX)) 643 [.ref 0, .ref 1, .ref 34, .int (x3 + (4 : Int32))] [] (mc_hp σ26 τ26) (some (.int r)) (mc_hp σ' τ') 0 0 from ?_)
                  refine mr_goto (pc := 643) 18 dL_law_643 (by decide) ?_
                  exact mc_V.locs (loc' := [.ref 0, .ref 1, .ref 34, .int (x3 + (4 : Int32))]) ⟨Or.inr rfl, Or.inr rfl, Or.inr rfl, Or.inr rfl, trivial⟩ (ih (x3 + (4 : Int32)) σ26 τ26 r σ' τ' h)
                · replace h := (if_neg q27).symm.trans h
                  refine mr_iconstv (pc := 241) (0 : Int32) dL_law_241 (by decide) ?_
                  obtain ⟨rfl, rfl, rfl⟩ := os3 h
                  exact mr_iret (pc := 242) rfl (rfl) dL_law_242
              · replace h := (if_neg q23).symm.trans h
                by_cases q28 : ((sX x3.toNatClampNeg) &&& (31 : Int32)) = 5
                · replace h := (if_pos q28).symm.trans h
                  refine mr_tabIn (pc := 32) 211 243 dL_law_32 (by rw [q28]; decide) (by rw [q28]; decide) (by rw [q28]; rfl) (by decide) ?_
                  refine mr_aload_n (pc := 243) dL_law_243 rfl ?_
                  refine mr_aload_n (pc := 244) dL_law_244 rfl ?_
                  refine mr_iload_n (pc := 245) dL_law_245 rfl ?_
                  refine mr_iconstv (pc := 246) (1 : Int32) dL_law_246 (by decide) ?_
                  refine mr_iadd (pc := 247) dL_law_247 ?_
                  obtain ⟨g29, h⟩ := og h
                  refine mr_sld (pc := 248) rfl dL_law_248 g29 ?_
                  refine mr_aload_n (pc := 249) dL_law_249 rfl ?_
                  refine mr_iload_n (pc := 250) dL_law_250 rfl ?_
                  refine mr_iconstv (pc := 251) (2 : Int32) dL_law_251 (by decide) ?_
                  refine mr_iadd (pc := 252) dL_law_252 ?_
                  obtain ⟨g30, h⟩ := og h
                  refine mr_sld (pc := 253) rfl dL_law_253 g30 ?_
                  obtain ⟨r31, σ31, τ31, c31, h⟩ := obs h
                  refine mr_callV0 (pc := 254) (ci := 5) [.int (sX (x3 + (1 : Int32)).toNatClampNeg), .int (sX (x3 + (2 : Int32)).toNatClampNeg)] ok_X5_weighs lk_101 st_X5_weighs se_X5_weighs dL_law_254 rfl (ha_1 σ τ) rfl rfl (Nat.le_of_ble_eq_true rfl) (Nat.le_of_ble_eq_true rfl) ((dc_R_weighs c31).up (by decide)) ?_
                  refine mr_aload_n (pc := 257) dL_law_257 rfl ?_
                  refine mr_aload_n (pc := 258) dL_law_258 rfl ?_
                  refine mr_iload_n (pc := 259) dL_law_259 rfl ?_
                  refine mr_iconstv (pc := 260) (1 : Int32) dL_law_260 (by decide) ?_
                  refine mr_iadd (pc := 261) dL_law_261 ?_
                  refine mr_sld (pc := 262) rfl dL_law_262 g29 ?_
                  refine mr_aload_n (pc := 263) dL_law_263 rfl ?_
                  refine mr_iload_n (pc := 264) dL_law_264 rfl ?_
                  refine mr_iconstv (pc := 265) (2 : Int32) dL_law_265 (by decide) ?_
                  refine mr_iadd (pc := 266) dL_law_266 ?_
                  refine mr_sld (pc := 267) rfl dL_law_267 g30 ?_
                  obtain ⟨r32, σ32, τ32, c32, h⟩ := obs h
                  refine mr_callV0 (pc := 268) (ci := 6) [.int (sX (x3 + (1 : Int32)).toNatClampNeg), .int (sX (x3 + (2 : Int32)).toNatClampNeg)] ok_X6_weighs lk_102 st_X6_weighs se_X6_weighs dL_law_268 rfl (ha_34 σ31 τ31) rfl rfl (Nat.le_of_ble_eq_true rfl) (Nat.le_of_ble_eq_true rfl) ((dc_Q_weighs c32).up (by decide)) ?_
                  refine mr_icmp_eq (pc := 271) 640 dL_law_271 (by decide) (fun q33 => ?_) (fun q33 => ?_)
                  · replace h := (if_pos q33).symm.trans h
                    refine mr_iincv (pc := 640) (4 : Int32) dL_law_640 rfl (by decide) (show mc_V M_law 10 (some (sL, sX)) 643 [.ref 0, .ref 1, .ref 34, .int (x3 + (4 : Int32))] [] (mc_hp σ32 τ32) (some (.int r)) (mc_hp σ' τ') 0 0 from ?_)
                    refine mr_goto (pc := 643) 18 dL_law_643 (by decide) ?_
                    exact mc_V.locs (loc' := [.ref 0, .ref 1, .ref 34, .int (x3 + (4 : Int32))]) ⟨Or.inr rfl, Or.inr rfl, Or.inr rfl, Or.inr rfl, trivial⟩ (ih (x3 + (4 : Int32)) σ32 τ32 r σ' τ' h)
                  · replace h := (if_neg q33).symm.trans h
                    refine mr_iconstv (pc := 274) (0 : Int32) dL_law_274 (by decide) ?_
                    obtain ⟨rfl, rfl, rfl⟩ := os3 h
                    exact mr_iret (pc := 275) rfl (rfl) dL_law_275
                · replace h := (if_neg q28).symm.trans h
                  by_cases q34 : ((sX x3.toNatClampNeg) &&& (31 : Int32)) = 6
                  · replace h := (if_pos q34).symm.trans h
                    refine mr_tabIn (pc := 32) 244 276 dL_law_32 (by rw [q34]; decide) (by rw [q34]; decide) (by rw [q34]; rfl) (by decide) ?_
                    refine mr_aload_n (pc := 276) dL_law_276 rfl ?_
                    refine mr_aload_n (pc := 277) dL_law_277 rfl ?_
                    refine mr_iload_n (pc := 278) dL_law_278 rfl ?_
                    refine mr_iconstv (pc := 279) (1 : Int32) dL_law_279 (by decide) ?_
                    refine mr_iadd (pc := 280) dL_law_280 ?_
                    obtain ⟨g35, h⟩ := og h
                    refine mr_sld (pc := 281) rfl dL_law_281 g35 ?_
                    refine mr_aload_n (pc := 282) dL_law_282 rfl ?_
                    refine mr_iload_n (pc := 283) dL_law_283 rfl ?_
                    refine mr_iconstv (pc := 284) (2 : Int32) dL_law_284 (by decide) ?_
                    refine mr_iadd (pc := 285) dL_law_285 ?_
                    obtain ⟨g36, h⟩ := og h
                    refine mr_sld (pc := 286) rfl dL_law_286 g36 ?_
                    refine mr_aload_n (pc := 287) dL_law_287 rfl ?_
                    refine mr_iload_n (pc := 288) dL_law_288 rfl ?_
                    refine mr_iconstv (pc := 289) (3 : Int32) dL_law_289 (by decide) ?_
                    refine mr_iadd (pc := 290) dL_law_290 ?_
                    obtain ⟨g37, h⟩ := og h
                    refine mr_sld (pc := 291) rfl dL_law_291 g37 ?_
                    obtain ⟨r38, σ38, τ38, c38, h⟩ := obs h
                    refine mr_callV0 (pc := 292) (ci := 5) [.int (sX (x3 + (1 : Int32)).toNatClampNeg), .int (sX (x3 + (2 : Int32)).toNatClampNeg), .int (sX (x3 + (3 : Int32)).toNatClampNeg)] ok_X5_loads lk_103 st_X5_loads se_X5_loads dL_law_292 rfl (ha_1 σ τ) rfl rfl (Nat.le_of_ble_eq_true rfl) (Nat.le_of_ble_eq_true rfl) ((dc_R_loads c38).up (by decide)) ?_
                    refine mr_aload_n (pc := 295) dL_law_295 rfl ?_
                    refine mr_aload_n (pc := 296) dL_law_296 rfl ?_
                    refine mr_iload_n (pc := 297) dL_law_297 rfl ?_
                    refine mr_iconstv (pc := 298) (1 : Int32) dL_law_298 (by decide) ?_
                    refine mr_iadd (pc := 299) dL_law_299 ?_
                    refine mr_sld (pc := 300) rfl dL_law_300 g35 ?_
                    refine mr_aload_n (pc := 301) dL_law_301 rfl ?_
                    refine mr_iload_n (pc := 302) dL_law_302 rfl ?_
                    refine mr_iconstv (pc := 303) (2 : Int32) dL_law_303 (by decide) ?_
                    refine mr_iadd (pc := 304) dL_law_304 ?_
                    refine mr_sld (pc := 305) rfl dL_law_305 g36 ?_
                    refine mr_aload_n (pc := 306) dL_law_306 rfl ?_
                    refine mr_iload_n (pc := 307) dL_law_307 rfl ?_
                    refine mr_iconstv (pc := 308) (3 : Int32) dL_law_308 (by decide) ?_
                    refine mr_iadd (pc := 309) dL_law_309 ?_
                    refine mr_sld (pc := 310) rfl dL_law_310 g37 ?_
                    obtain ⟨r39, σ39, τ39, c39, h⟩ := obs h
                    refine mr_callV0 (pc := 311) (ci := 6) [.int (sX (x3 + (1 : Int32)).toNatClampNeg), .int (sX (x3 + (2 : Int32)).toNatClampNeg), .int (sX (x3 + (3 : Int32)).toNatClampNeg)] ok_X6_loads lk_104 st_X6_loads se_X6_loads dL_law_311 rfl (ha_34 σ38 τ38) rfl rfl (Nat.le_of_ble_eq_true rfl) (Nat.le_of_ble_eq_true rfl) ((dc_Q_loads c39).up (by decide)) ?_
                    refine mr_icmp_eq (pc := 314) 640 dL_law_314 (by decide) (fun q40 => ?_) (fun q40 => ?_)
                    · replace h := (if_pos q40).symm.trans h
                      refine mr_iincv (pc := 640) (4 : Int32) dL_law_640 rfl (by decide) (show mc_V M_law 10 (some (sL, sX)) 643 [.ref 0, .ref 1, .ref 34, .int (x3 + (4 : Int32))] [] (mc_hp σ39 τ39) (some (.int r)) (mc_hp σ' τ') 0 0 from ?_)
                      refine mr_goto (pc := 643) 18 dL_law_643 (by decide) ?_
                      exact mc_V.locs (loc' := [.ref 0, .ref 1, .ref 34, .int (x3 + (4 : Int32))]) ⟨Or.inr rfl, Or.inr rfl, Or.inr rfl, Or.inr rfl, trivial⟩ (ih (x3 + (4 : Int32)) σ39 τ39 r σ' τ' h)
                    · replace h := (if_neg q40).symm.trans h
                      refine mr_iconstv (pc := 317) (0 : Int32) dL_law_317 (by decide) ?_
                      obtain ⟨rfl, rfl, rfl⟩ := os3 h
                      exact mr_iret (pc := 318) rfl (rfl) dL_law_318
                  · replace h := (if_neg q34).symm.trans h
                    by_cases q41 : ((sX x3.toNatClampNeg) &&& (31 : Int32)) = 7
                    · replace h := (if_pos q41).symm.trans h
                      refine mr_tabIn (pc := 32) 287 319 dL_law_32 (by rw [q41]; decide) (by rw [q41]; decide) (by rw [q41]; rfl) (by decide) ?_
                      refine mr_aload_n (pc := 319) dL_law_319 rfl ?_
                      obtain ⟨r42, σ42, τ42, c42, h⟩ := obs h
                      refine mr_callV0 (pc := 320) (ci := 5) [] ok_X5_undo lk_105 st_X5_undo se_X5_undo dL_law_320 rfl (ha_1 σ τ) rfl rfl (Nat.le_of_ble_eq_true rfl) (Nat.le_of_ble_eq_true rfl) ((dc_R_undo c42).up (by decide)) ?_
                      refine mr_aload_n (pc := 323) dL_law_323 rfl ?_
                      obtain ⟨r43, σ43, τ43, c43, h⟩ := obs h
                      refine mr_callV0 (pc := 324) (ci := 6) [] ok_X6_undo lk_106 st_X6_undo se_X6_undo dL_law_324 rfl (ha_34 σ42 τ42) rfl rfl (Nat.le_of_ble_eq_true rfl) (Nat.le_of_ble_eq_true rfl) ((dc_Q_undo c43).up (by decide)) ?_
                      refine mr_icmp_eq (pc := 327) 640 dL_law_327 (by decide) (fun q44 => ?_) (fun q44 => ?_)
                      · replace h := (if_pos q44).symm.trans h
                        refine mr_iincv (pc := 640) (4 : Int32) dL_law_640 rfl (by decide) (show mc_V M_law 10 (some (sL, sX)) 643 [.ref 0, .ref 1, .ref 34, .int (x3 + (4 : Int32))] [] (mc_hp σ43 τ43) (some (.int r)) (mc_hp σ' τ') 0 0 from ?_)
                        refine mr_goto (pc := 643) 18 dL_law_643 (by decide) ?_
                        exact mc_V.locs (loc' := [.ref 0, .ref 1, .ref 34, .int (x3 + (4 : Int32))]) ⟨Or.inr rfl, Or.inr rfl, Or.inr rfl, Or.inr rfl, trivial⟩ (ih (x3 + (4 : Int32)) σ43 τ43 r σ' τ' h)
                      · replace h := (if_neg q44).symm.trans h
                        refine mr_iconstv (pc := 330) (0 : Int32) dL_law_330 (by decide) ?_
                        obtain ⟨rfl, rfl, rfl⟩ := os3 h
                        exact mr_iret (pc := 331) rfl (rfl) dL_law_331
                    · replace h := (if_neg q41).symm.trans h
                      by_cases q45 : ((sX x3.toNatClampNeg) &&& (31 : Int32)) = 8
                      · replace h := (if_pos q45).symm.trans h
                        refine mr_tabIn (pc := 32) 300 332 dL_law_32 (by rw [q45]; decide) (by rw [q45]; decide) (by rw [q45]; rfl) (by decide) ?_
                        refine mr_aload_n (pc := 332) dL_law_332 rfl ?_
                        refine mr_aload_n (pc := 333) dL_law_333 rfl ?_
                        refine mr_iload_n (pc := 334) dL_law_334 rfl ?_
                        refine mr_iconstv (pc := 335) (1 : Int32) dL_law_335 (by decide) ?_
                        refine mr_iadd (pc := 336) dL_law_336 ?_
                        obtain ⟨g46, h⟩ := og h
                        refine mr_sld (pc := 337) rfl dL_law_337 g46 ?_
                        refine mr_aload_n (pc := 338) dL_law_338 rfl ?_
                        refine mr_iload_n (pc := 339) dL_law_339 rfl ?_
                        refine mr_iconstv (pc := 340) (2 : Int32) dL_law_340 (by decide) ?_
                        refine mr_iadd (pc := 341) dL_law_341 ?_
                        obtain ⟨g47, h⟩ := og h
                        refine mr_sld (pc := 342) rfl dL_law_342 g47 ?_
                        obtain ⟨r48, σ48, τ48, c48, h⟩ := obs h
                        refine mr_callV0 (pc := 343) (ci := 5) [.int (sX (x3 + (1 : Int32)).toNatClampNeg), .int (sX (x3 + (2 : Int32)).toNatClampNeg)] ok_X5_block lk_107 st_X5_block se_X5_block dL_law_343 rfl (ha_1 σ τ) rfl rfl (Nat.le_of_ble_eq_true rfl) (Nat.le_of_ble_eq_true rfl) ((dc_R_block c48).up (by decide)) ?_
                        refine mr_aload_n (pc := 346) dL_law_346 rfl ?_
                        refine mr_aload_n (pc := 347) dL_law_347 rfl ?_
                        refine mr_iload_n (pc := 348) dL_law_348 rfl ?_
                        refine mr_iconstv (pc := 349) (1 : Int32) dL_law_349 (by decide) ?_
                        refine mr_iadd (pc := 350) dL_law_350 ?_
                        refine mr_sld (pc := 351) rfl dL_law_351 g46 ?_
                        refine mr_aload_n (pc := 352) dL_law_352 rfl ?_
                        refine mr_iload_n (pc := 353) dL_law_353 rfl ?_
                        refine mr_iconstv (pc := 354) (2 : Int32) dL_law_354 (by decide) ?_
                        refine mr_iadd (pc := 355) dL_law_355 ?_
                        refine mr_sld (pc := 356) rfl dL_law_356 g47 ?_
                        obtain ⟨r49, σ49, τ49, c49, h⟩ := obs h
                        refine mr_callV0 (pc := 357) (ci := 6) [.int (sX (x3 + (1 : Int32)).toNatClampNeg), .int (sX (x3 + (2 : Int32)).toNatClampNeg)] ok_X6_block lk_108 st_X6_block se_X6_block dL_law_357 rfl (ha_34 σ48 τ48) rfl rfl (Nat.le_of_ble_eq_true rfl) (Nat.le_of_ble_eq_true rfl) ((dc_Q_block c49).up (by decide)) ?_
                        refine mr_icmp_eq (pc := 360) 640 dL_law_360 (by decide) (fun q50 => ?_) (fun q50 => ?_)
                        · replace h := (if_pos q50).symm.trans h
                          refine mr_iincv (pc := 640) (4 : Int32) dL_law_640 rfl (by decide) (show mc_V M_law 10 (some (sL, sX)) 643 [.ref 0, .ref 1, .ref 34, .int (x3 + (4 : Int32))] [] (mc_hp σ49 τ49) (some (.int r)) (mc_hp σ' τ') 0 0 from ?_)
                          refine mr_goto (pc := 643) 18 dL_law_643 (by decide) ?_
                          exact mc_V.locs (loc' := [.ref 0, .ref 1, .ref 34, .int (x3 + (4 : Int32))]) ⟨Or.inr rfl, Or.inr rfl, Or.inr rfl, Or.inr rfl, trivial⟩ (ih (x3 + (4 : Int32)) σ49 τ49 r σ' τ' h)
                        · replace h := (if_neg q50).symm.trans h
                          refine mr_iconstv (pc := 363) (0 : Int32) dL_law_363 (by decide) ?_
                          obtain ⟨rfl, rfl, rfl⟩ := os3 h
                          exact mr_iret (pc := 364) rfl (rfl) dL_law_364
                      · replace h := (if_neg q45).symm.trans h
                        by_cases q51 : ((sX x3.toNatClampNeg) &&& (31 : Int32)) = 9
                        · replace h := (if_pos q51).symm.trans h
                          refine mr_tabIn (pc := 32) 333 365 dL_law_32 (by rw [q51]; decide) (by rw [q51]; decide) (by rw [q51]; rfl) (by decide) ?_
                          refine mr_aload_n (pc := 365) dL_law_365 rfl ?_
                          refine mr_aload_n (pc := 366) dL_law_366 rfl ?_
                          refine mr_iload_n (pc := 367) dL_law_367 rfl ?_
                          refine mr_iconstv (pc := 368) (1 : Int32) dL_law_368 (by decide) ?_
                          refine mr_iadd (pc := 369) dL_law_369 ?_
                          obtain ⟨g52, h⟩ := og h
                          refine mr_sld (pc := 370) rfl dL_law_370 g52 ?_
                          refine mr_aload_n (pc := 371) dL_law_371 rfl ?_
                          refine mr_iload_n (pc := 372) dL_law_372 rfl ?_
                          refine mr_iconstv (pc := 373) (2 : Int32) dL_law_373 (by decide) ?_
                          refine mr_iadd (pc := 374) dL_law_374 ?_
                          obtain ⟨g53, h⟩ := og h
                          refine mr_sld (pc := 375) rfl dL_law_375 g53 ?_
                          obtain ⟨r54, σ54, τ54, c54, h⟩ := obs h
                          refine mr_callV0 (pc := 376) (ci := 5) [.int (sX (x3 + (1 : Int32)).toNatClampNeg), .int (sX (x3 + (2 : Int32)).toNatClampNeg)] ok_X5_contact lk_109 st_X5_contact se_X5_contact dL_law_376 rfl (ha_1 σ τ) rfl rfl (Nat.le_of_ble_eq_true rfl) (Nat.le_of_ble_eq_true rfl) ((dc_R_contact c54).up (by decide)) ?_
                          refine mr_aload_n (pc := 379) dL_law_379 rfl ?_
                          refine mr_aload_n (pc := 380) dL_law_380 rfl ?_
                          refine mr_iload_n (pc := 381) dL_law_381 rfl ?_
                          refine mr_iconstv (pc := 382) (1 : Int32) dL_law_382 (by decide) ?_
                          refine mr_iadd (pc := 383) dL_law_383 ?_
                          refine mr_sld (pc := 384) rfl dL_law_384 g52 ?_
                          refine mr_aload_n (pc := 385) dL_law_385 rfl ?_
                          refine mr_iload_n (pc := 386) dL_law_386 rfl ?_
                          refine mr_iconstv (pc := 387) (2 : Int32) dL_law_387 (by decide) ?_
                          refine mr_iadd (pc := 388) dL_law_388 ?_
                          refine mr_sld (pc := 389) rfl dL_law_389 g53 ?_
                          obtain ⟨r55, σ55, τ55, c55, h⟩ := obs h
                          refine mr_callV0 (pc := 390) (ci := 6) [.int (sX (x3 + (1 : Int32)).toNatClampNeg), .int (sX (x3 + (2 : Int32)).toNatClampNeg)] ok_X6_contact lk_110 st_X6_contact se_X6_contact dL_law_390 rfl (ha_34 σ54 τ54) rfl rfl (Nat.le_of_ble_eq_true rfl) (Nat.le_of_ble_eq_true rfl) ((dc_Q_contact c55).up (by decide)) ?_
                          refine mr_icmp_eq (pc := 393) 640 dL_law_393 (by decide) (fun q56 => ?_) (fun q56 => ?_)
                          · replace h := (if_pos q56).symm.trans h
                            refine mr_iincv (pc := 640) (4 : Int32) dL_law_640 rfl (by decide) (show mc_V M_law 10 (some (sL, sX)) 643 [.ref 0, .ref 1, .ref 34, .int (x3 + (4 : Int32))] [] (mc_hp σ55 τ55) (some (.int r)) (mc_hp σ' τ') 0 0 from ?_)
                            refine mr_goto (pc := 643) 18 dL_law_643 (by decide) ?_
                            exact mc_V.locs (loc' := [.ref 0, .ref 1, .ref 34, .int (x3 + (4 : Int32))]) ⟨Or.inr rfl, Or.inr rfl, Or.inr rfl, Or.inr rfl, trivial⟩ (ih (x3 + (4 : Int32)) σ55 τ55 r σ' τ' h)
                          · replace h := (if_neg q56).symm.trans h
                            refine mr_iconstv (pc := 396) (0 : Int32) dL_law_396 (by decide) ?_
                            obtain ⟨rfl, rfl, rfl⟩ := os3 h
                            exact mr_iret (pc := 397) rfl (rfl) dL_law_397
                        · replace h := (if_neg q51).symm.trans h
                          by_cases q57 : ((sX x3.toNatClampNeg) &&& (31 : Int32)) = 10
                          · replace h := (if_pos q57).symm.trans h
                            refine mr_tabIn (pc := 32) 366 398 dL_law_32 (by rw [q57]; decide) (by rw [q57]; decide) (by rw [q57]; rfl) (by decide) ?_
                            refine mr_aload_n (pc := 398) dL_law_398 rfl ?_
                            obtain ⟨r58, σ58, τ58, c58, h⟩ := obs h
                            refine mr_callV0 (pc := 399) (ci := 5) [] ok_X5_rests lk_111 st_X5_rests se_X5_rests dL_law_399 rfl (ha_1 σ τ) rfl rfl (Nat.le_of_ble_eq_true rfl) (Nat.le_of_ble_eq_true rfl) ((dc_R_rests c58).up (by decide)) ?_
                            refine mr_aload_n (pc := 402) dL_law_402 rfl ?_
                            obtain ⟨r59, σ59, τ59, c59, h⟩ := obs h
                            refine mr_callV0 (pc := 403) (ci := 6) [] ok_X6_rests lk_112 st_X6_rests se_X6_rests dL_law_403 rfl (ha_34 σ58 τ58) rfl rfl (Nat.le_of_ble_eq_true rfl) (Nat.le_of_ble_eq_true rfl) ((dc_Q_rests c59).up (by decide)) ?_
                            refine mr_icmp_eq (pc := 406) 640 dL_law_406 (by decide) (fun q60 => ?_) (fun q60 => ?_)
                            · replace h := (if_pos q60).symm.trans h
                              refine mr_iincv (pc := 640) (4 : Int32) dL_law_640 rfl (by decide) (show mc_V M_law 10 (some (sL, sX)) 643 [.ref 0, .ref 1, .ref 34, .int (x3 + (4 : Int32))] [] (mc_hp σ59 τ59) (some (.int r)) (mc_hp σ' τ') 0 0 from ?_)
                              refine mr_goto (pc := 643) 18 dL_law_643 (by decide) ?_
                              exact mc_V.locs (loc' := [.ref 0, .ref 1, .ref 34, .int (x3 + (4 : Int32))]) ⟨Or.inr rfl, Or.inr rfl, Or.inr rfl, Or.inr rfl, trivial⟩ (ih (x3 + (4 : Int32)) σ59 τ59 r σ' τ' h)
                            · replace h := (if_neg q60).symm.trans h
                              refine mr_iconstv (pc := 409) (0 : Int32) dL_law_409 (by decide) ?_
                              obtain ⟨rfl, rfl, rfl⟩ := os3 h
                              exact mr_iret (pc := 410) rfl (rfl) dL_law_410
                          · replace h := (if_neg q57).symm.trans h
                            by_cases q61 : ((sX x3.toNatClampNeg) &&& (31 : Int32)) = 11
                            · replace h := (if_pos q61).symm.trans h
                              refine mr_tabIn (pc := 32) 379 411 dL_law_32 (by rw [q61]; decide) (by rw [q61]; decide) (by rw [q61]; rfl) (by decide) ?_
                              refine mr_aload_n (pc := 411) dL_law_411 rfl ?_
                              refine mr_aload_n (pc := 412) dL_law_412 rfl ?_
                              refine mr_iload_n (pc := 413) dL_law_413 rfl ?_
                              refine mr_iconstv (pc := 414) (1 : Int32) dL_law_414 (by decide) ?_
                              refine mr_iadd (pc := 415) dL_law_415 ?_
                              obtain ⟨g62, h⟩ := og h
                              refine mr_sld (pc := 416) rfl dL_law_416 g62 ?_
                              refine mr_aload_n (pc := 417) dL_law_417 rfl ?_
                              refine mr_iload_n (pc := 418) dL_law_418 rfl ?_
                              refine mr_iconstv (pc := 419) (2 : Int32) dL_law_419 (by decide) ?_
                              refine mr_iadd (pc := 420) dL_law_420 ?_
                              obtain ⟨g63, h⟩ := og h
                              refine mr_sld (pc := 421) rfl dL_law_421 g63 ?_
                              obtain ⟨r64, σ64, τ64, c64, h⟩ := obs h
                              refine mr_callV0 (pc := 422) (ci := 5) [.int (sX (x3 + (1 : Int32)).toNatClampNeg), .int (sX (x3 + (2 : Int32)).toNatClampNeg)] ok_X5_bounds lk_113 st_X5_bounds se_X5_bounds dL_law_422 rfl (ha_1 σ τ) rfl rfl (Nat.le_of_ble_eq_true rfl) (Nat.le_of_ble_eq_true rfl) ((dc_R_bounds c64).up (by decide)) ?_
                              refine mr_aload_n (pc := 425) dL_law_425 rfl ?_
                              refine mr_aload_n (pc := 426) dL_law_426 rfl ?_
                              refine mr_iload_n (pc := 427) dL_law_427 rfl ?_
                              refine mr_iconstv (pc := 428) (1 : Int32) dL_law_428 (by decide) ?_
                              refine mr_iadd (pc := 429) dL_law_429 ?_
                              refine mr_sld (pc := 430) rfl dL_law_430 g62 ?_
                              refine mr_aload_n (pc := 431) dL_law_431 rfl ?_
                              refine mr_iload_n (pc := 432) dL_law_432 rfl ?_
                              refine mr_iconstv (pc := 433) (2 : Int32) dL_law_433 (by decide) ?_
                              refine mr_iadd (pc := 434) dL_law_434 ?_
                              refine mr_sld (pc := 435) rfl dL_law_435 g63 ?_
                              obtain ⟨r65, σ65, τ65, c65, h⟩ := obs h
                              refine mr_callV0 (pc := 436) (ci := 6) [.int (sX (x3 + (1 : Int32)).toNatClampNeg), .int (sX (x3 + (2 : Int32)).toNatClampNeg)] ok_X6_bounds lk_114 st_X6_bounds se_X6_bounds dL_law_436 rfl (ha_34 σ64 τ64) rfl rfl (Nat.le_of_ble_eq_true rfl) (Nat.le_of_ble_eq_true rfl) ((dc_Q_bounds c65).up (by decide)) ?_
                              refine mr_lcmp (pc := 439) dL_law_439 ?_
                              refine mr_if_eq (pc := 440) 640 dL_law_440 (by decide) (fun q66 => ?_) (fun q66 => ?_)
                              · replace h := (if_pos q66).symm.trans h
                                refine mr_iincv (pc := 640) (4 : Int32) dL_law_640 rfl (by decide) (show mc_V M_law 10 (some (sL, sX)) 643 [.ref 0, .ref 1, .ref 34, .int (x3 + (4 : Int32))] [] (mc_hp σ65 τ65) (some (.int r)) (mc_hp σ' τ') 0 0 from ?_)
                                refine mr_goto (pc := 643) 18 dL_law_643 (by decide) ?_
                                exact mc_V.locs (loc' := [.ref 0, .ref 1, .ref 34, .int (x3 + (4 : Int32))]) ⟨Or.inr rfl, Or.inr rfl, Or.inr rfl, Or.inr rfl, trivial⟩ (ih (x3 + (4 : Int32)) σ65 τ65 r σ' τ' h)
                              · replace h := (if_neg q66).symm.trans h
                                refine mr_iconstv (pc := 443) (0 : Int32) dL_law_443 (by decide) ?_
                                obtain ⟨rfl, rfl, rfl⟩ := os3 h
                                exact mr_iret (pc := 444) rfl (rfl) dL_law_444
                            · replace h := (if_neg q61).symm.trans h
                              by_cases q67 : ((sX x3.toNatClampNeg) &&& (31 : Int32)) = 12
                              · replace h := (if_pos q67).symm.trans h
                                refine mr_tabIn (pc := 32) 413 445 dL_law_32 (by rw [q67]; decide) (by rw [q67]; decide) (by rw [q67]; rfl) (by decide) ?_
                                refine mr_aload_n (pc := 445) dL_law_445 rfl ?_
                                refine mr_aload_n (pc := 446) dL_law_446 rfl ?_
                                refine mr_iload_n (pc := 447) dL_law_447 rfl ?_
                                refine mr_iconstv (pc := 448) (1 : Int32) dL_law_448 (by decide) ?_
                                refine mr_iadd (pc := 449) dL_law_449 ?_
                                obtain ⟨g68, h⟩ := og h
                                refine mr_sld (pc := 450) rfl dL_law_450 g68 ?_
                                refine mr_aload_n (pc := 451) dL_law_451 rfl ?_
                                refine mr_iload_n (pc := 452) dL_law_452 rfl ?_
                                refine mr_iconstv (pc := 453) (2 : Int32) dL_law_453 (by decide) ?_
                                refine mr_iadd (pc := 454) dL_law_454 ?_
                                obtain ⟨g69, h⟩ := og h
                                refine mr_sld (pc := 455) rfl dL_law_455 g69 ?_
                                refine mr_aload_n (pc := 456) dL_law_456 rfl ?_
                                refine mr_iload_n (pc := 457) dL_law_457 rfl ?_
                                refine mr_iconstv (pc := 458) (3 : Int32) dL_law_458 (by decide) ?_
                                refine mr_iadd (pc := 459) dL_law_459 ?_
                                obtain ⟨g70, h⟩ := og h
                                refine mr_sld (pc := 460) rfl dL_law_460 g70 ?_
                                obtain ⟨r71, σ71, τ71, c71, h⟩ := obs h
                                refine mr_callV0 (pc := 461) (ci := 5) [.int (sX (x3 + (1 : Int32)).toNatClampNeg), .int (sX (x3 + (2 : Int32)).toNatClampNeg), .int (sX (x3 + (3 : Int32)).toNatClampNeg)] ok_X5_bears lk_115 st_X5_bears se_X5_bears dL_law_461 rfl (ha_1 σ τ) rfl rfl (Nat.le_of_ble_eq_true rfl) (Nat.le_of_ble_eq_true rfl) ((dc_R_bears c71).up (by decide)) ?_
                                refine mr_aload_n (pc := 464) dL_law_464 rfl ?_
                                refine mr_aload_n (pc := 465) dL_law_465 rfl ?_
                                refine mr_iload_n (pc := 466) dL_law_466 rfl ?_
                                refine mr_iconstv (pc := 467) (1 : Int32) dL_law_467 (by decide) ?_
                                refine mr_iadd (pc := 468) dL_law_468 ?_
                                refine mr_sld (pc := 469) rfl dL_law_469 g68 ?_
                                refine mr_aload_n (pc := 470) dL_law_470 rfl ?_
                                refine mr_iload_n (pc := 471) dL_law_471 rfl ?_
                                refine mr_iconstv (pc := 472) (2 : Int32) dL_law_472 (by decide) ?_
                                refine mr_iadd (pc := 473) dL_law_473 ?_
                                refine mr_sld (pc := 474) rfl dL_law_474 g69 ?_
                                refine mr_aload_n (pc := 475) dL_law_475 rfl ?_
                                refine mr_iload_n (pc := 476) dL_law_476 rfl ?_
                                refine mr_iconstv (pc := 477) (3 : Int32) dL_law_477 (by decide) ?_
                                refine mr_iadd (pc := 478) dL_law_478 ?_
                                refine mr_sld (pc := 479) rfl dL_law_479 g70 ?_
                                obtain ⟨r72, σ72, τ72, c72, h⟩ := obs h
                                refine mr_callV0 (pc := 480) (ci := 6) [.int (sX (x3 + (1 : Int32)).toNatClampNeg), .int (sX (x3 + (2 : Int32)).toNatClampNeg), .int (sX (x3 + (3 : Int32)).toNatClampNeg)] ok_X6_bears lk_116 st_X6_bears se_X6_bears dL_law_480 rfl (ha_34 σ71 τ71) rfl rfl (Nat.le_of_ble_eq_true rfl) (Nat.le_of_ble_eq_true rfl) ((dc_Q_bears c72).up (by decide)) ?_
                                refine mr_lcmp (pc := 483) dL_law_483 ?_
                                refine mr_if_eq (pc := 484) 640 dL_law_484 (by decide) (fun q73 => ?_) (fun q73 => ?_)
                                · replace h := (if_pos q73).symm.trans h
                                  refine mr_iincv (pc := 640) (4 : Int32) dL_law_640 rfl (by decide) (show mc_V M_law 10 (some (sL, sX)) 643 [.ref 0, .ref 1, .ref 34, .int (x3 + (4 : Int32))] [] (mc_hp σ72 τ72) (some (.int r)) (mc_hp σ' τ') 0 0 from ?_)
                                  refine mr_goto (pc := 643) 18 dL_law_643 (by decide) ?_
                                  exact mc_V.locs (loc' := [.ref 0, .ref 1, .ref 34, .int (x3 + (4 : Int32))]) ⟨Or.inr rfl, Or.inr rfl, Or.inr rfl, Or.inr rfl, trivial⟩ (ih (x3 + (4 : Int32)) σ72 τ72 r σ' τ' h)
                                · replace h := (if_neg q73).symm.trans h
                                  refine mr_iconstv (pc := 487) (0 : Int32) dL_law_487 (by decide) ?_
                                  obtain ⟨rfl, rfl, rfl⟩ := os3 h
                                  exact mr_iret (pc := 488) rfl (rfl) dL_law_488
                              · replace h := (if_neg q67).symm.trans h
                                by_cases q74 : ((sX x3.toNatClampNeg) &&& (31 : Int32)) = 13
                                · replace h := (if_pos q74).symm.trans h
                                  refine mr_tabIn (pc := 32) 457 489 dL_law_32 (by rw [q74]; decide) (by rw [q74]; decide) (by rw [q74]; rfl) (by decide) ?_
                                  refine mr_aload_n (pc := 489) dL_law_489 rfl ?_
                                  refine mr_aload_n (pc := 490) dL_law_490 rfl ?_
                                  refine mr_iload_n (pc := 491) dL_law_491 rfl ?_
                                  refine mr_iconstv (pc := 492) (1 : Int32) dL_law_492 (by decide) ?_
                                  refine mr_iadd (pc := 493) dL_law_493 ?_
                                  obtain ⟨g75, h⟩ := og h
                                  refine mr_sld (pc := 494) rfl dL_law_494 g75 ?_
                                  refine mr_aload_n (pc := 495) dL_law_495 rfl ?_
                                  refine mr_iload_n (pc := 496) dL_law_496 rfl ?_
                                  refine mr_iconstv (pc := 497) (2 : Int32) dL_law_497 (by decide) ?_
                                  refine mr_iadd (pc := 498) dL_law_498 ?_
                                  obtain ⟨g76, h⟩ := og h
                                  refine mr_sld (pc := 499) rfl dL_law_499 g76 ?_
                                  obtain ⟨r77, σ77, τ77, c77, h⟩ := obs h
                                  refine mr_callV0 (pc := 500) (ci := 5) [.int (sX (x3 + (1 : Int32)).toNatClampNeg), .int (sX (x3 + (2 : Int32)).toNatClampNeg)] ok_X5_where lk_117 st_X5_where se_X5_where dL_law_500 rfl (ha_1 σ τ) rfl rfl (Nat.le_of_ble_eq_true rfl) (Nat.le_of_ble_eq_true rfl) ((dc_R_where c77).up (by decide)) ?_
                                  refine mr_aload_n (pc := 503) dL_law_503 rfl ?_
                                  refine mr_aload_n (pc := 504) dL_law_504 rfl ?_
                                  refine mr_iload_n (pc := 505) dL_law_505 rfl ?_
                                  refine mr_iconstv (pc := 506) (1 : Int32) dL_law_506 (by decide) ?_
                                  refine mr_iadd (pc := 507) dL_law_507 ?_
                                  refine mr_sld (pc := 508) rfl dL_law_508 g75 ?_
                                  refine mr_aload_n (pc := 509) dL_law_509 rfl ?_
                                  refine mr_iload_n (pc := 510) dL_law_510 rfl ?_
                                  refine mr_iconstv (pc := 511) (2 : Int32) dL_law_511 (by decide) ?_
                                  refine mr_iadd (pc := 512) dL_law_512 ?_
                                  refine mr_sld (pc := 513) rfl dL_law_513 g76 ?_
                                  obtain ⟨r78, σ78, τ78, c78, h⟩ := obs h
                                  refine mr_callV0 (pc := 514) (ci := 6) [.int (sX (x3 + (1 : Int32)).toNatClampNeg), .int (sX (x3 + (2 : Int32)).toNatClampNeg)] ok_X6_where lk_118 st_X6_where se_X6_where dL_law_514 rfl (ha_34 σ77 τ77) rfl rfl (Nat.le_of_ble_eq_true rfl) (Nat.le_of_ble_eq_true rfl) ((dc_Q_where c78).up (by decide)) ?_
                                  refine mr_icmp_eq (pc := 517) 640 dL_law_517 (by decide) (fun q79 => ?_) (fun q79 => ?_)
                                  · replace h := (if_pos q79).symm.trans h
                                    refine mr_iincv (pc := 640) (4 : Int32) dL_law_640 rfl (by decide) (show mc_V M_law 10 (some (sL, sX)) 643 [.ref 0, .ref 1, .ref 34, .int (x3 + (4 : Int32))] [] (mc_hp σ78 τ78) (some (.int r)) (mc_hp σ' τ') 0 0 from ?_)
                                    refine mr_goto (pc := 643) 18 dL_law_643 (by decide) ?_
                                    exact mc_V.locs (loc' := [.ref 0, .ref 1, .ref 34, .int (x3 + (4 : Int32))]) ⟨Or.inr rfl, Or.inr rfl, Or.inr rfl, Or.inr rfl, trivial⟩ (ih (x3 + (4 : Int32)) σ78 τ78 r σ' τ' h)
                                  · replace h := (if_neg q79).symm.trans h
                                    refine mr_iconstv (pc := 520) (0 : Int32) dL_law_520 (by decide) ?_
                                    obtain ⟨rfl, rfl, rfl⟩ := os3 h
                                    exact mr_iret (pc := 521) rfl (rfl) dL_law_521
                                · replace h := (if_neg q74).symm.trans h
                                  by_cases q80 : ((sX x3.toNatClampNeg) &&& (31 : Int32)) = 14
                                  · replace h := (if_pos q80).symm.trans h
                                    refine mr_tabIn (pc := 32) 490 522 dL_law_32 (by rw [q80]; decide) (by rw [q80]; decide) (by rw [q80]; rfl) (by decide) ?_
                                    refine mr_aload_n (pc := 522) dL_law_522 rfl ?_
                                    refine mr_aload_n (pc := 523) dL_law_523 rfl ?_
                                    refine mr_iload_n (pc := 524) dL_law_524 rfl ?_
                                    refine mr_iconstv (pc := 525) (1 : Int32) dL_law_525 (by decide) ?_
                                    refine mr_iadd (pc := 526) dL_law_526 ?_
                                    obtain ⟨g81, h⟩ := og h
                                    refine mr_sld (pc := 527) rfl dL_law_527 g81 ?_
                                    obtain ⟨r82, σ82, τ82, c82, h⟩ := obs h
                                    refine mr_callV0 (pc := 528) (ci := 5) [.int (sX (x3 + (1 : Int32)).toNatClampNeg)] ok_X5_weights lk_119 st_X5_weights se_X5_weights dL_law_528 rfl (ha_1 σ τ) rfl rfl (Nat.le_of_ble_eq_true rfl) (Nat.le_of_ble_eq_true rfl) ((dc_R_weights c82).up (by decide)) ?_
                                    refine mr_aload_n (pc := 531) dL_law_531 rfl ?_
                                    refine mr_aload_n (pc := 532) dL_law_532 rfl ?_
                                    refine mr_iload_n (pc := 533) dL_law_533 rfl ?_
                                    refine mr_iconstv (pc := 534) (1 : Int32) dL_law_534 (by decide) ?_
                                    refine mr_iadd (pc := 535) dL_law_535 ?_
                                    refine mr_sld (pc := 536) rfl dL_law_536 g81 ?_
                                    obtain ⟨r83, σ83, τ83, c83, h⟩ := obs h
                                    refine mr_callV0 (pc := 537) (ci := 6) [.int (sX (x3 + (1 : Int32)).toNatClampNeg)] ok_X6_weights lk_120 st_X6_weights se_X6_weights dL_law_537 rfl (ha_34 σ82 τ82) rfl rfl (Nat.le_of_ble_eq_true rfl) (Nat.le_of_ble_eq_true rfl) ((dc_Q_weights c83).up (by decide)) ?_
                                    refine mr_icmp_eq (pc := 540) 640 dL_law_540 (by decide) (fun q84 => ?_) (fun q84 => ?_)
                                    · replace h := (if_pos q84).symm.trans h
                                      refine mr_iincv (pc := 640) (4 : Int32) dL_law_640 rfl (by decide) (show mc_V M_law 10 (some (sL, sX)) 643 [.ref 0, .ref 1, .ref 34, .int (x3 + (4 : Int32))] [] (mc_hp σ83 τ83) (some (.int r)) (mc_hp σ' τ') 0 0 from ?_)
                                      refine mr_goto (pc := 643) 18 dL_law_643 (by decide) ?_
                                      exact mc_V.locs (loc' := [.ref 0, .ref 1, .ref 34, .int (x3 + (4 : Int32))]) ⟨Or.inr rfl, Or.inr rfl, Or.inr rfl, Or.inr rfl, trivial⟩ (ih (x3 + (4 : Int32)) σ83 τ83 r σ' τ' h)
                                    · replace h := (if_neg q84).symm.trans h
                                      refine mr_iconstv (pc := 543) (0 : Int32) dL_law_543 (by decide) ?_
                                      obtain ⟨rfl, rfl, rfl⟩ := os3 h
                                      exact mr_iret (pc := 544) rfl (rfl) dL_law_544
                                  · replace h := (if_neg q80).symm.trans h
                                    by_cases q85 : ((sX x3.toNatClampNeg) &&& (31 : Int32)) = 15
                                    · replace h := (if_pos q85).symm.trans h
                                      refine mr_tabIn (pc := 32) 513 545 dL_law_32 (by rw [q85]; decide) (by rw [q85]; decide) (by rw [q85]; rfl) (by decide) ?_
                                      refine mr_aload_n (pc := 545) dL_law_545 rfl ?_
                                      obtain ⟨r86, σ86, τ86, c86, h⟩ := obs h
                                      refine mr_callV0 (pc := 546) (ci := 5) [] ok_X5_key lk_121 st_X5_key se_X5_key dL_law_546 rfl (ha_1 σ τ) rfl rfl (Nat.le_of_ble_eq_true rfl) (Nat.le_of_ble_eq_true rfl) ((dc_R_key c86).up (by decide)) ?_
                                      refine mr_aload_n (pc := 549) dL_law_549 rfl ?_
                                      obtain ⟨r87, σ87, τ87, c87, h⟩ := obs h
                                      refine mr_callV0 (pc := 550) (ci := 6) [] ok_X6_key lk_122 st_X6_key se_X6_key dL_law_550 rfl (ha_34 σ86 τ86) rfl rfl (Nat.le_of_ble_eq_true rfl) (Nat.le_of_ble_eq_true rfl) ((dc_Q_key c87).up (by decide)) ?_
                                      refine mr_icmp_eq (pc := 553) 640 dL_law_553 (by decide) (fun q88 => ?_) (fun q88 => ?_)
                                      · replace h := (if_pos q88).symm.trans h
                                        refine mr_iincv (pc := 640) (4 : Int32) dL_law_640 rfl (by decide) (show mc_V M_law 10 (some (sL, sX)) 643 [.ref 0, .ref 1, .ref 34, .int (x3 + (4 : Int32))] [] (mc_hp σ87 τ87) (some (.int r)) (mc_hp σ' τ') 0 0 from ?_)
                                        refine mr_goto (pc := 643) 18 dL_law_643 (by decide) ?_
                                        exact mc_V.locs (loc' := [.ref 0, .ref 1, .ref 34, .int (x3 + (4 : Int32))]) ⟨Or.inr rfl, Or.inr rfl, Or.inr rfl, Or.inr rfl, trivial⟩ (ih (x3 + (4 : Int32)) σ87 τ87 r σ' τ' h)
                                      · replace h := (if_neg q88).symm.trans h
                                        refine mr_iconstv (pc := 556) (0 : Int32) dL_law_556 (by decide) ?_
                                        obtain ⟨rfl, rfl, rfl⟩ := os3 h
                                        exact mr_iret (pc := 557) rfl (rfl) dL_law_557
                                    · replace h := (if_neg q85).symm.trans h
                                      by_cases q89 : ((sX x3.toNatClampNeg) &&& (31 : Int32)) = 16
                                      · replace h := (if_pos q89).symm.trans h
                                        refine mr_tabIn (pc := 32) 526 558 dL_law_32 (by rw [q89]; decide) (by rw [q89]; decide) (by rw [q89]; rfl) (by decide) ?_
                                        refine mr_aload_n (pc := 558) dL_law_558 rfl ?_
                                        obtain ⟨r90, σ90, τ90, c90, h⟩ := obs h
                                        refine mr_callV0 (pc := 559) (ci := 5) [] ok_X5_hold lk_123 st_X5_hold se_X5_hold dL_law_559 rfl (ha_1 σ τ) rfl rfl (Nat.le_of_ble_eq_true rfl) (Nat.le_of_ble_eq_true rfl) ((dc_R_hold c90).up (by decide)) ?_
                                        refine mr_aload_n (pc := 562) dL_law_562 rfl ?_
                                        obtain ⟨r91, σ91, τ91, c91, h⟩ := obs h
                                        refine mr_callV0 (pc := 563) (ci := 6) [] ok_X6_hold lk_124 st_X6_hold se_X6_hold dL_law_563 rfl (ha_34 σ90 τ90) rfl rfl (Nat.le_of_ble_eq_true rfl) (Nat.le_of_ble_eq_true rfl) ((dc_Q_hold c91).up (by decide)) ?_
                                        refine mr_icmp_eq (pc := 566) 640 dL_law_566 (by decide) (fun q92 => ?_) (fun q92 => ?_)
                                        · replace h := (if_pos q92).symm.trans h
                                          refine mr_iincv (pc := 640) (4 : Int32) dL_law_640 rfl (by decide) (show mc_V M_law 10 (some (sL, sX)) 643 [.ref 0, .ref 1, .ref 34, .int (x3 + (4 : Int32))] [] (mc_hp σ91 τ91) (some (.int r)) (mc_hp σ' τ') 0 0 from ?_)
                                          refine mr_goto (pc := 643) 18 dL_law_643 (by decide) ?_
                                          exact mc_V.locs (loc' := [.ref 0, .ref 1, .ref 34, .int (x3 + (4 : Int32))]) ⟨Or.inr rfl, Or.inr rfl, Or.inr rfl, Or.inr rfl, trivial⟩ (ih (x3 + (4 : Int32)) σ91 τ91 r σ' τ' h)
                                        · replace h := (if_neg q92).symm.trans h
                                          refine mr_iconstv (pc := 569) (0 : Int32) dL_law_569 (by decide) ?_
                                          obtain ⟨rfl, rfl, rfl⟩ := os3 h
                                          exact mr_iret (pc := 570) rfl (rfl) dL_law_570
                                      · replace h := (if_neg q89).symm.trans h
                                        by_cases q93 : ((sX x3.toNatClampNeg) &&& (31 : Int32)) = 17
                                        · replace h := (if_pos q93).symm.trans h
                                          refine mr_tabIn (pc := 32) 539 571 dL_law_32 (by rw [q93]; decide) (by rw [q93]; decide) (by rw [q93]; rfl) (by decide) ?_
                                          refine mr_aload_n (pc := 571) dL_law_571 rfl ?_
                                          refine mr_aload_n (pc := 572) dL_law_572 rfl ?_
                                          refine mr_iload_n (pc := 573) dL_law_573 rfl ?_
                                          refine mr_iconstv (pc := 574) (1 : Int32) dL_law_574 (by decide) ?_
                                          refine mr_iadd (pc := 575) dL_law_575 ?_
                                          obtain ⟨g94, h⟩ := og h
                                          refine mr_sld (pc := 576) rfl dL_law_576 g94 ?_
                                          obtain ⟨r95, σ95, τ95, c95, h⟩ := obs h
                                          refine mr_callV0 (pc := 577) (ci := 5) [.int (sX (x3 + (1 : Int32)).toNatClampNeg)] ok_X5_keep lk_125 st_X5_keep se_X5_keep dL_law_577 rfl (ha_1 σ τ) rfl rfl (Nat.le_of_ble_eq_true rfl) (Nat.le_of_ble_eq_true rfl) ((dc_R_keep c95).up (by decide)) ?_
                                          refine mr_aload_n (pc := 580) dL_law_580 rfl ?_
                                          refine mr_aload_n (pc := 581) dL_law_581 rfl ?_
                                          refine mr_iload_n (pc := 582) dL_law_582 rfl ?_
                                          refine mr_iconstv (pc := 583) (1 : Int32) dL_law_583 (by decide) ?_
                                          refine mr_iadd (pc := 584) dL_law_584 ?_
                                          refine mr_sld (pc := 585) rfl dL_law_585 g94 ?_
                                          obtain ⟨r96, σ96, τ96, c96, h⟩ := obs h
                                          refine mr_callV0 (pc := 586) (ci := 6) [.int (sX (x3 + (1 : Int32)).toNatClampNeg)] ok_X6_keep lk_126 st_X6_keep se_X6_keep dL_law_586 rfl (ha_34 σ95 τ95) rfl rfl (Nat.le_of_ble_eq_true rfl) (Nat.le_of_ble_eq_true rfl) ((dc_Q_keep c96).up (by decide)) ?_
                                          refine mr_icmp_eq (pc := 589) 640 dL_law_589 (by decide) (fun q97 => ?_) (fun q97 => ?_)
                                          · replace h := (if_pos q97).symm.trans h
                                            refine mr_iincv (pc := 640) (4 : Int32) dL_law_640 rfl (by decide) (show mc_V M_law 10 (some (sL, sX)) 643 [.ref 0, .ref 1, .ref 34, .int (x3 + (4 : Int32))] [] (mc_hp σ96 τ96) (some (.int r)) (mc_hp σ' τ') 0 0 from ?_)
                                            refine mr_goto (pc := 643) 18 dL_law_643 (by decide) ?_
                                            exact mc_V.locs (loc' := [.ref 0, .ref 1, .ref 34, .int (x3 + (4 : Int32))]) ⟨Or.inr rfl, Or.inr rfl, Or.inr rfl, Or.inr rfl, trivial⟩ (ih (x3 + (4 : Int32)) σ96 τ96 r σ' τ' h)
                                          · replace h := (if_neg q97).symm.trans h
                                            refine mr_iconstv (pc := 592) (0 : Int32) dL_law_592 (by decide) ?_
                                            obtain ⟨rfl, rfl, rfl⟩ := os3 h
                                            exact mr_iret (pc := 593) rfl (rfl) dL_law_593
                                        · replace h := (if_neg q93).symm.trans h
                                          by_cases q98 : ((sX x3.toNatClampNeg) &&& (31 : Int32)) = 18
                                          · replace h := (if_pos q98).symm.trans h
                                            refine mr_tabIn (pc := 32) 562 594 dL_law_32 (by rw [q98]; decide) (by rw [q98]; decide) (by rw [q98]; rfl) (by decide) ?_
                                            refine mr_aload_n (pc := 594) dL_law_594 rfl ?_
                                            refine mr_aload_n (pc := 595) dL_law_595 rfl ?_
                                            refine mr_iload_n (pc := 596) dL_law_596 rfl ?_
                                            refine mr_iconstv (pc := 597) (1 : Int32) dL_law_597 (by decide) ?_
                                            refine mr_iadd (pc := 598) dL_law_598 ?_
                                            obtain ⟨g99, h⟩ := og h
                                            refine mr_sld (pc := 599) rfl dL_law_599 g99 ?_
                                            obtain ⟨r100, σ100, τ100, c100, h⟩ := obs h
                                            refine mr_callV0 (pc := 600) (ci := 5) [.int (sX (x3 + (1 : Int32)).toNatClampNeg)] ok_X5_back lk_127 st_X5_back se_X5_back dL_law_600 rfl (ha_1 σ τ) rfl rfl (Nat.le_of_ble_eq_true rfl) (Nat.le_of_ble_eq_true rfl) ((dc_R_back c100).up (by decide)) ?_
                                            refine mr_aload_n (pc := 603) dL_law_603 rfl ?_
                                            refine mr_aload_n (pc := 604) dL_law_604 rfl ?_
                                            refine mr_iload_n (pc := 605) dL_law_605 rfl ?_
                                            refine mr_iconstv (pc := 606) (1 : Int32) dL_law_606 (by decide) ?_
                                            refine mr_iadd (pc := 607) dL_law_607 ?_
                                            refine mr_sld (pc := 608) rfl dL_law_608 g99 ?_
                                            obtain ⟨r101, σ101, τ101, c101, h⟩ := obs h
                                            refine mr_callV0 (pc := 609) (ci := 6) [.int (sX (x3 + (1 : Int32)).toNatClampNeg)] ok_X6_back lk_128 st_X6_back se_X6_back dL_law_609 rfl (ha_34 σ100 τ100) rfl rfl (Nat.le_of_ble_eq_true rfl) (Nat.le_of_ble_eq_true rfl) ((dc_Q_back c101).up (by decide)) ?_
                                            refine mr_icmp_eq (pc := 612) 640 dL_law_612 (by decide) (fun q102 => ?_) (fun q102 => ?_)
                                            · replace h := (if_pos q102).symm.trans h
                                              refine mr_iincv (pc := 640) (4 : Int32) dL_law_640 rfl (by decide) (show mc_V M_law 10 (some (sL, sX)) 643 [.ref 0, .ref 1, .ref 34, .int (x3 + (4 : Int32))] [] (mc_hp σ101 τ101) (some (.int r)) (mc_hp σ' τ') 0 0 from ?_)
                                              refine mr_goto (pc := 643) 18 dL_law_643 (by decide) ?_
                                              exact mc_V.locs (loc' := [.ref 0, .ref 1, .ref 34, .int (x3 + (4 : Int32))]) ⟨Or.inr rfl, Or.inr rfl, Or.inr rfl, Or.inr rfl, trivial⟩ (ih (x3 + (4 : Int32)) σ101 τ101 r σ' τ' h)
                                            · replace h := (if_neg q102).symm.trans h
                                              refine mr_iconstv (pc := 615) (0 : Int32) dL_law_615 (by decide) ?_
                                              obtain ⟨rfl, rfl, rfl⟩ := os3 h
                                              exact mr_iret (pc := 616) rfl (rfl) dL_law_616
                                          · replace h := (if_neg q98).symm.trans h
                                            by_cases q103 : ((sX x3.toNatClampNeg) &&& (31 : Int32)) = 19
                                            · replace h := (if_pos q103).symm.trans h
                                              refine mr_tabIn (pc := 32) 585 617 dL_law_32 (by rw [q103]; decide) (by rw [q103]; decide) (by rw [q103]; rfl) (by decide) ?_
                                              refine mr_aload_n (pc := 617) dL_law_617 rfl ?_
                                              refine mr_aload_n (pc := 618) dL_law_618 rfl ?_
                                              refine mr_iload_n (pc := 619) dL_law_619 rfl ?_
                                              refine mr_iconstv (pc := 620) (1 : Int32) dL_law_620 (by decide) ?_
                                              refine mr_iadd (pc := 621) dL_law_621 ?_
                                              obtain ⟨g104, h⟩ := og h
                                              refine mr_sld (pc := 622) rfl dL_law_622 g104 ?_
                                              obtain ⟨r105, σ105, τ105, c105, h⟩ := obs h
                                              refine mr_callV0 (pc := 623) (ci := 5) [.int (sX (x3 + (1 : Int32)).toNatClampNeg)] ok_X5_count lk_129 st_X5_count se_X5_count dL_law_623 rfl (ha_1 σ τ) rfl rfl (Nat.le_of_ble_eq_true rfl) (Nat.le_of_ble_eq_true rfl) ((dc_R_count c105).up (by decide)) ?_
                                              refine mr_aload_n (pc := 626) dL_law_626 rfl ?_
                                              refine mr_aload_n (pc := 627) dL_law_627 rfl ?_
                                              refine mr_iload_n (pc := 628) dL_law_628 rfl ?_
                                              refine mr_iconstv (pc := 629) (1 : Int32) dL_law_629 (by decide) ?_
                                              refine mr_iadd (pc := 630) dL_law_630 ?_
                                              refine mr_sld (pc := 631) rfl dL_law_631 g104 ?_
                                              obtain ⟨r106, σ106, τ106, c106, h⟩ := obs h
                                              refine mr_callV0 (pc := 632) (ci := 6) [.int (sX (x3 + (1 : Int32)).toNatClampNeg)] ok_X6_count lk_130 st_X6_count se_X6_count dL_law_632 rfl (ha_34 σ105 τ105) rfl rfl (Nat.le_of_ble_eq_true rfl) (Nat.le_of_ble_eq_true rfl) ((dc_Q_count c106).up (by decide)) ?_
                                              refine mr_icmp_eq (pc := 635) 640 dL_law_635 (by decide) (fun q107 => ?_) (fun q107 => ?_)
                                              · replace h := (if_pos q107).symm.trans h
                                                refine mr_iincv (pc := 640) (4 : Int32) dL_law_640 rfl (by decide) (show mc_V M_law 10 (some (sL, sX)) 643 [.ref 0, .ref 1, .ref 34, .int (x3 + (4 : Int32))] [] (mc_hp σ106 τ106) (some (.int r)) (mc_hp σ' τ') 0 0 from ?_)
                                                refine mr_goto (pc := 643) 18 dL_law_643 (by decide) ?_
                                                exact mc_V.locs (loc' := [.ref 0, .ref 1, .ref 34, .int (x3 + (4 : Int32))]) ⟨Or.inr rfl, Or.inr rfl, Or.inr rfl, Or.inr rfl, trivial⟩ (ih (x3 + (4 : Int32)) σ106 τ106 r σ' τ' h)
                                              · replace h := (if_neg q107).symm.trans h
                                                refine mr_iconstv (pc := 638) (0 : Int32) dL_law_638 (by decide) ?_
                                                obtain ⟨rfl, rfl, rfl⟩ := os3 h
                                                exact mr_iret (pc := 639) rfl (rfl) dL_law_639
                                            · replace h := (if_neg q103).symm.trans h
                                              refine mr_tabOut (pc := 32) 640 dL_law_32 (by have z3 := lv_neT q3 (a := 0) (by decide); have z8 := lv_neT q8 (a := 1) (by decide); have z12 := lv_neT q12 (a := 2) (by decide); have z16 := lv_neT q16 (a := 3) (by decide); have z23 := lv_neT q23 (a := 4) (by decide); have z28 := lv_neT q28 (a := 5) (by decide); have z34 := lv_neT q34 (a := 6) (by decide); have z41 := lv_neT q41 (a := 7) (by decide); have z45 := lv_neT q45 (a := 8) (by decide); have z51 := lv_neT q51 (a := 9) (by decide); have z57 := lv_neT q57 (a := 10) (by decide); have z61 := lv_neT q61 (a := 11) (by decide); have z67 := lv_neT q67 (a := 12) (by decide); have z74 := lv_neT q74 (a := 13) (by decide); have z80 := lv_neT q80 (a := 14) (by decide); have z85 := lv_neT q85 (a := 15) (by decide); have z89 := lv_neT q89 (a := 16) (by decide); have z93 := lv_neT q93 (a := 17) (by decide); have z98 := lv_neT q98 (a := 18) (by decide); have z103 := lv_neT q103 (a := 19) (by decide); omega) (by decide) ?_
                                              refine mr_iincv (pc := 640) (4 : Int32) dL_law_640 rfl (by decide) (show mc_V M_law 10 (some (sL, sX)) 643 [.ref 0, .ref 1, .ref 34, .int (x3 + (4 : Int32))] [] (mc_hp σ τ) (some (.int r)) (mc_hp σ' τ') 0 0 from ?_)
                                              refine mr_goto (pc := 643) 18 dL_law_643 (by decide) ?_
                                              exact mc_V.locs (loc' := [.ref 0, .ref 1, .ref 34, .int (x3 + (4 : Int32))]) ⟨Or.inr rfl, Or.inr rfl, Or.inr rfl, Or.inr rfl, trivial⟩ (ih (x3 + (4 : Int32)) σ τ r σ' τ' h)
