set_option maxHeartbeats 4000000 in
set_option maxRecDepth 100000 in
theorem dc_R_within {p0 : Int32} {p1 : Int32} {p2 : Int32} {σ : mS} {τ : mT} {r : Int32} {σ' : mS} {τ' : mT} (h : R_within p0 p1 p2 σ τ = some (r, σ', τ')) : mc_V M_X5_within 0 none 0 (mc_entry [.int p0, .int p1, .int p2] 3) [] (mc_hp σ τ) (some (.int r)) (mc_hp σ' τ') 0 0 := by
  unfold R_within at h
  show mc_V M_X5_within 0 none 0 [.int p0, .int p1, .int p2] [] (mc_hp σ τ) (some (.int r)) (mc_hp σ' τ') 0 0
  refine mr_iload_n (pc := 0) dX5_within_0 rfl ?_
  refine mr_iload_n (pc := 1) dX5_within_1 rfl ?_
  refine mr_icmp_lt (pc := 2) 14 dX5_within_2 (by decide) (fun q1 => ?_) (fun q1 => ?_)
  · replace h := (if_pos q1).symm.trans h
    refine mr_iconstv (pc := 14) (0 : Int32) dX5_within_14 (by decide) ?_
    obtain ⟨rfl, rfl, rfl⟩ := os3 h
    exact mr_iret (pc := 15) rfl (rfl) dX5_within_15
  · replace h := (if_neg q1).symm.trans h
    refine mr_iload_n (pc := 5) dX5_within_5 rfl ?_
    refine mr_iload_n (pc := 6) dX5_within_6 rfl ?_
    refine mr_icmp_gt (pc := 7) 14 dX5_within_7 (by decide) (fun q2 => ?_) (fun q2 => ?_)
    · replace h := (if_pos q2).symm.trans h
      refine mr_iconstv (pc := 14) (0 : Int32) dX5_within_14 (by decide) ?_
      obtain ⟨rfl, rfl, rfl⟩ := os3 h
      exact mr_iret (pc := 15) rfl (rfl) dX5_within_15
    · replace h := (if_neg q2).symm.trans h
      refine mr_iconstv (pc := 10) (1 : Int32) dX5_within_10 (by decide) ?_
      refine mr_goto (pc := 11) 15 dX5_within_11 (by decide) ?_
      obtain ⟨rfl, rfl, rfl⟩ := os3 h
      exact mr_iret (pc := 15) rfl (rfl) dX5_within_15
set_option maxHeartbeats 4000000 in
set_option maxRecDepth 100000 in
theorem dc_T_append {p1 : Int32} {σ : mS} {τ : mT} {r : Int32} {σ' : mS} {τ' : mT} (h : T_append p1 σ τ = some (r, σ', τ')) : mc_V M_X4_append 0 none 0 (mc_entry [.ref 27, .int p1] 2) [] (mc_hp σ τ) (some (.int r)) (mc_hp σ' τ') 0 0 := by
  unfold T_append at h
  show mc_V M_X4_append 0 none 0 [.ref 27, .int p1] [] (mc_hp σ τ) (some (.int r)) (mc_hp σ' τ') 0 0
  refine mr_aload_n (pc := 0) dX4_append_0 rfl ?_
  refine mr_getf (pc := 1) (ci := 4) inX4 rfl 1 (by decide) fl_29 dX4_append_1 (ha_27 σ τ) rfl ?_
  refine mr_bipushv (pc := 4) (120 : Int32) dX4_append_4 (by decide) ?_
  refine mr_icmp_lt (pc := 6) 11 dX4_append_6 (by decide) (fun q1 => ?_) (fun q1 => ?_)
  · replace h := (if_pos q1).symm.trans h
    refine mr_aload_n (pc := 11) dX4_append_11 rfl ?_
    refine mr_getf (pc := 12) (ci := 4) inX4 rfl 0 (by decide) fl_28 dX4_append_12 (ha_27 σ τ) rfl ?_
    refine mr_aload_n (pc := 15) dX4_append_15 rfl ?_
    refine mr_getf (pc := 16) (ci := 4) inX4 rfl 1 (by decide) fl_29 dX4_append_16 (ha_27 σ τ) rfl ?_
    refine mr_iload_n (pc := 19) dX4_append_19 rfl ?_
    refine mr_i2s (pc := 20) dX4_append_20 ?_
    obtain ⟨g2, h⟩ := og h
    obtain ⟨σ3, e3, h⟩ := ow h
    refine mr_sast (pc := 21) dX4_append_21 (ha_28 σ τ) (g2) (mc_V.heap (hs_28 e3) ?_)
    refine mr_aload_n (pc := 22) dX4_append_22 rfl ?_
    refine mr_dup (pc := 23) dX4_append_23 rfl ?_
    refine mr_getf (pc := 24) (ci := 4) inX4 rfl 1 (by decide) fl_29 dX4_append_24 (ha_27 σ3 τ) rfl ?_
    refine mr_iconstv (pc := 27) (1 : Int32) dX4_append_27 (by decide) ?_
    refine mr_iadd (pc := 28) dX4_append_28 ?_
    obtain ⟨σ4, e4, h⟩ := ow h
    refine mr_putf (pc := 29) (ci := 4) inX4 tyX4 tyX4_ok nmX4 rfl 1 (by decide) fl_29 rfl dX4_append_29 (ha_27 σ3 τ) (Nat.le_of_ble_eq_true rfl) rfl (mc_V.heap (hs_27_1 e4) ?_)
    refine mr_iconstv (pc := 32) (1 : Int32) dX4_append_32 (by decide) ?_
    obtain ⟨rfl, rfl, rfl⟩ := os3 h
    exact mr_iret (pc := 33) rfl (rfl) dX4_append_33
  · replace h := (if_neg q1).symm.trans h
    refine mr_iconstv (pc := 9) (0 : Int32) dX4_append_9 (by decide) ?_
    obtain ⟨rfl, rfl, rfl⟩ := os3 h
    exact mr_iret (pc := 10) rfl (rfl) dX4_append_10
set_option maxHeartbeats 4000000 in
set_option maxRecDepth 100000 in
theorem dc_T_length {σ : mS} {τ : mT} {r : Int32} {σ' : mS} {τ' : mT} (h : T_length σ τ = some (r, σ', τ')) : mc_V M_X4_length 0 none 0 (mc_entry [.ref 27] 1) [] (mc_hp σ τ) (some (.int r)) (mc_hp σ' τ') 0 0 := by
  unfold T_length at h
  show mc_V M_X4_length 0 none 0 [.ref 27] [] (mc_hp σ τ) (some (.int r)) (mc_hp σ' τ') 0 0
  refine mr_aload_n (pc := 0) dX4_length_0 rfl ?_
  refine mr_getf (pc := 1) (ci := 4) inX4 rfl 1 (by decide) fl_29 dX4_length_1 (ha_27 σ τ) rfl ?_
  obtain ⟨rfl, rfl, rfl⟩ := os3 h
  exact mr_iret (pc := 4) rfl (rfl) dX4_length_4
set_option maxHeartbeats 4000000 in
set_option maxRecDepth 100000 in
theorem dc_R_type {p1 : Int32} {σ : mS} {τ : mT} {r : Int32} {σ' : mS} {τ' : mT} (h : R_type p1 σ τ = some (r, σ', τ')) : mc_V M_X5_type 1 none 0 (mc_entry [.ref 1, .int p1] 2) [] (mc_hp σ τ) (some (.int r)) (mc_hp σ' τ') 0 0 := by
  unfold R_type at h
  show mc_V M_X5_type 1 none 0 [.ref 1, .int p1] [] (mc_hp σ τ) (some (.int r)) (mc_hp σ' τ') 0 0
  refine mr_iload_n (pc := 0) dX5_type_0 rfl ?_
  refine mr_iconstv (pc := 1) (0 : Int32) dX5_type_1 (by decide) ?_
  refine mr_sipushv (pc := 2) (255 : Int32) dX5_type_2 (by decide) ?_
  obtain ⟨r1, σ1, τ1, c1, h⟩ := obs h
  refine mr_callS0 (pc := 5) [.int p1, .int (0 : Int32), .int (255 : Int32)] ok_X5_within lk_1 st_X5_within dX5_type_5 rfl rfl (Nat.le_of_ble_eq_true rfl) (Nat.le_of_ble_eq_true rfl) ((dc_R_within c1).up (by decide)) ?_
  refine mr_if_ne (pc := 8) 13 dX5_type_8 (by decide) (fun q2 => ?_) (fun q2 => ?_)
  · replace h := (if_neg q2).symm.trans h
    refine mr_aload_n (pc := 13) dX5_type_13 rfl ?_
    refine mr_getf (pc := 14) (ci := 5) inX5 rfl 4 (by decide) fl_4 dX5_type_14 (ha_1 σ1 τ1) rfl ?_
    refine mr_iload_n (pc := 17) dX5_type_17 rfl ?_
    obtain ⟨r3, σ3, τ3, c3, h⟩ := obs h
    refine mr_callV0 (pc := 18) (ci := 4) [.int p1] ok_X4_append lk_2 st_X4_append se_X4_append dX5_type_18 rfl (ha_27 σ1 τ1) rfl rfl (Nat.le_of_ble_eq_true rfl) (Nat.le_of_ble_eq_true rfl) ((dc_T_append c3).up (by decide)) ?_
    refine mr_if_eq (pc := 21) 34 dX5_type_21 (by decide) (fun q4 => ?_) (fun q4 => ?_)
    · replace h := (if_pos q4).symm.trans h
      refine mr_bipushv (pc := 34) (-3 : Int32) dX5_type_34 (by decide) ?_
      obtain ⟨rfl, rfl, rfl⟩ := os3 h
      exact mr_iret (pc := 36) rfl (rfl) dX5_type_36
    · replace h := (if_neg q4).symm.trans h
      refine mr_aload_n (pc := 24) dX5_type_24 rfl ?_
      refine mr_getf (pc := 25) (ci := 5) inX5 rfl 4 (by decide) fl_4 dX5_type_25 (ha_1 σ3 τ3) rfl ?_
      obtain ⟨r5, σ5, τ5, c5, h⟩ := obs h
      refine mr_callV0 (pc := 28) (ci := 4) [] ok_X4_length lk_3 st_X4_length se_X4_length dX5_type_28 rfl (ha_27 σ3 τ3) rfl rfl (Nat.le_of_ble_eq_true rfl) (Nat.le_of_ble_eq_true rfl) ((dc_T_length c5).up (by decide)) ?_
      refine mr_goto (pc := 31) 36 dX5_type_31 (by decide) ?_
      obtain ⟨rfl, rfl, rfl⟩ := os3 h
      exact mr_iret (pc := 36) rfl (rfl) dX5_type_36
  · replace h := (if_pos q2).symm.trans h
    refine mr_iconstv (pc := 11) (-1 : Int32) dX5_type_11 (by decide) ?_
    obtain ⟨rfl, rfl, rfl⟩ := os3 h
    exact mr_iret (pc := 12) rfl (rfl) dX5_type_12
set_option maxHeartbeats 4000000 in
set_option maxRecDepth 100000 in
theorem dc_Q_within {p0 : Int32} {p1 : Int32} {p2 : Int32} {σ : mS} {τ : mT} {r : Int32} {σ' : mS} {τ' : mT} (h : Q_within p0 p1 p2 σ τ = some (r, σ', τ')) : mc_V M_X6_within 0 none 0 (mc_entry [.int p0, .int p1, .int p2] 3) [] (mc_hp σ τ) (some (.int r)) (mc_hp σ' τ') 0 0 := by
  unfold Q_within at h
  show mc_V M_X6_within 0 none 0 [.int p0, .int p1, .int p2] [] (mc_hp σ τ) (some (.int r)) (mc_hp σ' τ') 0 0
  refine mr_iload_n (pc := 0) dX6_within_0 rfl ?_
  refine mr_iload_n (pc := 1) dX6_within_1 rfl ?_
  refine mr_icmp_lt (pc := 2) 14 dX6_within_2 (by decide) (fun q1 => ?_) (fun q1 => ?_)
  · replace h := (if_pos q1).symm.trans h
    refine mr_iconstv (pc := 14) (0 : Int32) dX6_within_14 (by decide) ?_
    obtain ⟨rfl, rfl, rfl⟩ := os3 h
    exact mr_iret (pc := 15) rfl (rfl) dX6_within_15
  · replace h := (if_neg q1).symm.trans h
    refine mr_iload_n (pc := 5) dX6_within_5 rfl ?_
    refine mr_iload_n (pc := 6) dX6_within_6 rfl ?_
    refine mr_icmp_gt (pc := 7) 14 dX6_within_7 (by decide) (fun q2 => ?_) (fun q2 => ?_)
    · replace h := (if_pos q2).symm.trans h
      refine mr_iconstv (pc := 14) (0 : Int32) dX6_within_14 (by decide) ?_
      obtain ⟨rfl, rfl, rfl⟩ := os3 h
      exact mr_iret (pc := 15) rfl (rfl) dX6_within_15
    · replace h := (if_neg q2).symm.trans h
      refine mr_iconstv (pc := 10) (1 : Int32) dX6_within_10 (by decide) ?_
      refine mr_goto (pc := 11) 15 dX6_within_11 (by decide) ?_
      obtain ⟨rfl, rfl, rfl⟩ := os3 h
      exact mr_iret (pc := 15) rfl (rfl) dX6_within_15
set_option maxHeartbeats 4000000 in
set_option maxRecDepth 100000 in
theorem dc_Q_type {p1 : Int32} {σ : mS} {τ : mT} {r : Int32} {σ' : mS} {τ' : mT} (h : Q_type p1 σ τ = some (r, σ', τ')) : mc_V M_X6_type 1 none 0 (mc_entry [.ref 34, .int p1] 2) [] (mc_hp σ τ) (some (.int r)) (mc_hp σ' τ') 0 0 := by
  unfold Q_type at h
  show mc_V M_X6_type 1 none 0 [.ref 34, .int p1] [] (mc_hp σ τ) (some (.int r)) (mc_hp σ' τ') 0 0
  refine mr_iload_n (pc := 0) dX6_type_0 rfl ?_
  refine mr_iconstv (pc := 1) (0 : Int32) dX6_type_1 (by decide) ?_
  refine mr_sipushv (pc := 2) (255 : Int32) dX6_type_2 (by decide) ?_
  obtain ⟨r1, σ1, τ1, c1, h⟩ := obs h
  refine mr_callS0 (pc := 5) [.int p1, .int (0 : Int32), .int (255 : Int32)] ok_X6_within lk_131 st_X6_within dX6_type_5 rfl rfl (Nat.le_of_ble_eq_true rfl) (Nat.le_of_ble_eq_true rfl) ((dc_Q_within c1).up (by decide)) ?_
  refine mr_if_ne (pc := 8) 13 dX6_type_8 (by decide) (fun q2 => ?_) (fun q2 => ?_)
  · replace h := (if_neg q2).symm.trans h
    refine mr_aload_n (pc := 13) dX6_type_13 rfl ?_
    refine mr_getf (pc := 14) (ci := 6) inX6 rfl 6 (by decide) fl_54 dX6_type_14 (ha_34 σ1 τ1) rfl ?_
    refine mr_bipushv (pc := 17) (120 : Int32) dX6_type_17 (by decide) ?_
    refine mr_icmp_ne (pc := 19) 25 dX6_type_19 (by decide) (fun q3 => ?_) (fun q3 => ?_)
    · replace h := (if_neg q3).symm.trans h
      refine mr_aload_n (pc := 25) dX6_type_25 rfl ?_
      refine mr_getf (pc := 26) (ci := 6) inX6 rfl 5 (by decide) fl_35 dX6_type_26 (ha_34 σ1 τ1) rfl ?_
      refine mr_aload_n (pc := 29) dX6_type_29 rfl ?_
      refine mr_getf (pc := 30) (ci := 6) inX6 rfl 6 (by decide) fl_54 dX6_type_30 (ha_34 σ1 τ1) rfl ?_
      refine mr_iload_n (pc := 33) dX6_type_33 rfl ?_
      obtain ⟨g4, h⟩ := og h
      obtain ⟨σ5, e5, h⟩ := ow h
      refine mr_iast (pc := 34) dX6_type_34 (ha_39 σ1 τ1) (g4) (mc_V.heap (hs_39 e5) ?_)
      refine mr_aload_n (pc := 35) dX6_type_35 rfl ?_
      refine mr_dup (pc := 36) dX6_type_36 rfl ?_
      refine mr_getf (pc := 37) (ci := 6) inX6 rfl 6 (by decide) fl_54 dX6_type_37 (ha_34 σ5 τ1) rfl ?_
      refine mr_iconstv (pc := 40) (1 : Int32) dX6_type_40 (by decide) ?_
      refine mr_iadd (pc := 41) dX6_type_41 ?_
      obtain ⟨σ6, e6, h⟩ := ow h
      refine mr_putf (pc := 42) (ci := 6) inX6 tyX6 tyX6_ok nmX6 rfl 6 (by decide) fl_54 rfl dX6_type_42 (ha_34 σ5 τ1) (Nat.le_of_ble_eq_true rfl) rfl (mc_V.heap (hs_34_6 e6) ?_)
      refine mr_aload_n (pc := 45) dX6_type_45 rfl ?_
      refine mr_getf (pc := 46) (ci := 6) inX6 rfl 6 (by decide) fl_54 dX6_type_46 (ha_34 σ6 τ1) rfl ?_
      obtain ⟨rfl, rfl, rfl⟩ := os3 h
      exact mr_iret (pc := 49) rfl (rfl) dX6_type_49
    · replace h := (if_pos q3).symm.trans h
      refine mr_bipushv (pc := 22) (-3 : Int32) dX6_type_22 (by decide) ?_
      obtain ⟨rfl, rfl, rfl⟩ := os3 h
      exact mr_iret (pc := 24) rfl (rfl) dX6_type_24
  · replace h := (if_pos q2).symm.trans h
    refine mr_iconstv (pc := 11) (-1 : Int32) dX6_type_11 (by decide) ?_
    obtain ⟨rfl, rfl, rfl⟩ := os3 h
    exact mr_iret (pc := 12) rfl (rfl) dX6_type_12
set_option maxHeartbeats 4000000 in
set_option maxRecDepth 100000 in
theorem dc_T_wipe {σ : mS} {τ : mT} {σ' : mS} {τ' : mT} (h : T_wipe σ τ = some (σ', τ')) : mc_V M_X4_wipe 0 none 0 (mc_entry [.ref 27] 1) [] (mc_hp σ τ) none (mc_hp σ' τ') 0 0 := by
  unfold T_wipe at h
  show mc_V M_X4_wipe 0 none 0 [.ref 27] [] (mc_hp σ τ) none (mc_hp σ' τ') 0 0
  refine mr_aload_n (pc := 0) dX4_wipe_0 rfl ?_
  refine mr_iconstv (pc := 1) (0 : Int32) dX4_wipe_1 (by decide) ?_
  obtain ⟨σ1, e1, h⟩ := ow h
  refine mr_putf (pc := 2) (ci := 4) inX4 tyX4 tyX4_ok nmX4 rfl 1 (by decide) fl_29 rfl dX4_wipe_2 (ha_27 σ τ) (Nat.le_of_ble_eq_true rfl) rfl (mc_V.heap (hs_27_1 e1) ?_)
  obtain ⟨rfl, rfl⟩ := os2 h
  exact mr_ret (pc := 5) rfl dX4_wipe_5
set_option maxHeartbeats 4000000 in
set_option maxRecDepth 100000 in
theorem dc_R_clear {σ : mS} {τ : mT} {r : Int32} {σ' : mS} {τ' : mT} (h : R_clear σ τ = some (r, σ', τ')) : mc_V M_X5_clear 1 none 0 (mc_entry [.ref 1] 2) [] (mc_hp σ τ) (some (.int r)) (mc_hp σ' τ') 0 0 := by
  unfold R_clear at h
  show mc_V M_X5_clear 1 none 0 [.ref 1, .retAddr 0] [] (mc_hp σ τ) (some (.int r)) (mc_hp σ' τ') 0 0
  refine mr_aload_n (pc := 0) dX5_clear_0 rfl ?_
  refine mr_getf (pc := 1) (ci := 5) inX5 rfl 4 (by decide) fl_4 dX5_clear_1 (ha_1 σ τ) rfl ?_
  obtain ⟨r1, σ1, τ1, c1, h⟩ := obs h
  refine mr_callV0 (pc := 4) (ci := 4) [] ok_X4_length lk_3 st_X4_length se_X4_length dX5_clear_4 rfl (ha_27 σ τ) rfl rfl (Nat.le_of_ble_eq_true rfl) (Nat.le_of_ble_eq_true rfl) ((dc_T_length c1).up (by decide)) ?_
  refine mr_istore_n (pc := 7) dX5_clear_7 (Nat.le_of_ble_eq_true rfl) (show mc_V M_X5_clear 1 none 8 [.ref 1, .int r1] [] (mc_hp σ1 τ1) (some (.int r)) (mc_hp σ' τ') 0 0 from ?_)
  refine mr_aload_n (pc := 8) dX5_clear_8 rfl ?_
  refine mr_getf (pc := 9) (ci := 5) inX5 rfl 4 (by decide) fl_4 dX5_clear_9 (ha_1 σ1 τ1) rfl ?_
  obtain ⟨σ2, τ2, c2, h⟩ := ovs h
  refine mr_callV0 (pc := 12) (ci := 4) [] ok_X4_wipe lk_4 st_X4_wipe se_X4_wipe dX5_clear_12 rfl (ha_27 σ1 τ1) rfl rfl (Nat.le_of_ble_eq_true rfl) (Nat.le_of_ble_eq_true rfl) ((dc_T_wipe c2).up (by decide)) ?_
  refine mr_iload_n (pc := 15) dX5_clear_15 rfl ?_
  obtain ⟨rfl, rfl, rfl⟩ := os3 h
  exact mr_iret (pc := 16) rfl (rfl) dX5_clear_16
set_option maxHeartbeats 4000000 in
set_option maxRecDepth 100000 in
theorem dc_Q_clear {σ : mS} {τ : mT} {r : Int32} {σ' : mS} {τ' : mT} (h : Q_clear σ τ = some (r, σ', τ')) : mc_V M_X6_clear 0 none 0 (mc_entry [.ref 34] 2) [] (mc_hp σ τ) (some (.int r)) (mc_hp σ' τ') 0 0 := by
  unfold Q_clear at h
  show mc_V M_X6_clear 0 none 0 [.ref 34, .retAddr 0] [] (mc_hp σ τ) (some (.int r)) (mc_hp σ' τ') 0 0
  refine mr_aload_n (pc := 0) dX6_clear_0 rfl ?_
  refine mr_getf (pc := 1) (ci := 6) inX6 rfl 6 (by decide) fl_54 dX6_clear_1 (ha_34 σ τ) rfl ?_
  refine mr_istore_n (pc := 4) dX6_clear_4 (Nat.le_of_ble_eq_true rfl) (show mc_V M_X6_clear 0 none 5 [.ref 34, .int (σ 34 6)] [] (mc_hp σ τ) (some (.int r)) (mc_hp σ' τ') 0 0 from ?_)
  refine mr_aload_n (pc := 5) dX6_clear_5 rfl ?_
  refine mr_iconstv (pc := 6) (0 : Int32) dX6_clear_6 (by decide) ?_
  obtain ⟨σ1, e1, h⟩ := ow h
  refine mr_putf (pc := 7) (ci := 6) inX6 tyX6 tyX6_ok nmX6 rfl 6 (by decide) fl_54 rfl dX6_clear_7 (ha_34 σ τ) (Nat.le_of_ble_eq_true rfl) rfl (mc_V.heap (hs_34_6 e1) ?_)
  refine mr_iload_n (pc := 10) dX6_clear_10 rfl ?_
  obtain ⟨rfl, rfl, rfl⟩ := os3 h
  exact mr_iret (pc := 11) rfl (rfl) dX6_clear_11
set_option maxHeartbeats 4000000 in
set_option maxRecDepth 100000 in
theorem dc_P_empty_4 {σ : mS} {τ : mT} {σ' : mS} {τ' : mT} (h : P_empty_4 σ τ = some (σ', τ')) : mc_V M_X2_empty 0 none 0 (mc_entry [.ref 4] 1) [] (mc_hp σ τ) none (mc_hp σ' τ') 0 0 := by
  unfold P_empty_4 at h
  show mc_V M_X2_empty 0 none 0 [.ref 4] [] (mc_hp σ τ) none (mc_hp σ' τ') 0 0
  refine mr_aload_n (pc := 0) dX2_empty_0 rfl ?_
  refine mr_getf (pc := 1) (ci := 2) inX2 rfl 0 (by decide) fl_25 dX2_empty_1 (ha_4 σ τ) rfl ?_
  refine mr_bipushv (pc := 4) (20 : Int32) dX2_empty_4 (by decide) ?_
  refine mr_iconstv (pc := 6) (0 : Int32) dX2_empty_6 (by decide) ?_
  obtain ⟨σ1, e1, h⟩ := ow h
  refine mr_iast (pc := 7) dX2_empty_7 (ha_5 σ τ) (vin_ok rfl) (mc_V.heap (hs_5 e1) ?_)
  obtain ⟨rfl, rfl⟩ := os2 h
  exact mr_ret (pc := 8) rfl dX2_empty_8
set_option maxHeartbeats 4000000 in
set_option maxRecDepth 100000 in
theorem dc_T_next {σ : mS} {τ : mT} {r : Int32} {σ' : mS} {τ' : mT} (h : T_next σ τ = some (r, σ', τ')) : mc_V M_X4_next 0 none 0 (mc_entry [.ref 27] 1) [] (mc_hp σ τ) (some (.int r)) (mc_hp σ' τ') 0 0 := by
  unfold T_next at h
  show mc_V M_X4_next 0 none 0 [.ref 27] [] (mc_hp σ τ) (some (.int r)) (mc_hp σ' τ') 0 0
  refine mr_aload_n (pc := 0) dX4_next_0 rfl ?_
  refine mr_getf (pc := 1) (ci := 4) inX4 rfl 2 (by decide) fl_30 dX4_next_1 (ha_27 σ τ) rfl ?_
  refine mr_if_lt (pc := 4) 39 dX4_next_4 (by decide) (fun q1 => ?_) (fun q1 => ?_)
  · replace h := (if_pos q1).symm.trans h
    refine mr_iconstv (pc := 39) (-1 : Int32) dX4_next_39 (by decide) ?_
    obtain ⟨rfl, rfl, rfl⟩ := os3 h
    exact mr_iret (pc := 40) rfl (rfl) dX4_next_40
  · replace h := (if_neg q1).symm.trans h
    refine mr_aload_n (pc := 7) dX4_next_7 rfl ?_
    refine mr_getf (pc := 8) (ci := 4) inX4 rfl 2 (by decide) fl_30 dX4_next_8 (ha_27 σ τ) rfl ?_
    refine mr_aload_n (pc := 11) dX4_next_11 rfl ?_
    refine mr_getf (pc := 12) (ci := 4) inX4 rfl 1 (by decide) fl_29 dX4_next_12 (ha_27 σ τ) rfl ?_
    refine mr_icmp_ge (pc := 15) 39 dX4_next_15 (by decide) (fun q2 => ?_) (fun q2 => ?_)
    · replace h := (if_pos q2).symm.trans h
      refine mr_iconstv (pc := 39) (-1 : Int32) dX4_next_39 (by decide) ?_
      obtain ⟨rfl, rfl, rfl⟩ := os3 h
      exact mr_iret (pc := 40) rfl (rfl) dX4_next_40
    · replace h := (if_neg q2).symm.trans h
      refine mr_aload_n (pc := 18) dX4_next_18 rfl ?_
      refine mr_getf (pc := 19) (ci := 4) inX4 rfl 2 (by decide) fl_30 dX4_next_19 (ha_27 σ τ) rfl ?_
      refine mr_bipushv (pc := 22) (120 : Int32) dX4_next_22 (by decide) ?_
      refine mr_icmp_ge (pc := 24) 39 dX4_next_24 (by decide) (fun q3 => ?_) (fun q3 => ?_)
      · replace h := (if_pos q3).symm.trans h
        refine mr_iconstv (pc := 39) (-1 : Int32) dX4_next_39 (by decide) ?_
        obtain ⟨rfl, rfl, rfl⟩ := os3 h
        exact mr_iret (pc := 40) rfl (rfl) dX4_next_40
      · replace h := (if_neg q3).symm.trans h
        refine mr_aload_n (pc := 27) dX4_next_27 rfl ?_
        refine mr_getf (pc := 28) (ci := 4) inX4 rfl 0 (by decide) fl_28 dX4_next_28 (ha_27 σ τ) rfl ?_
        refine mr_aload_n (pc := 31) dX4_next_31 rfl ?_
        refine mr_getf (pc := 32) (ci := 4) inX4 rfl 2 (by decide) fl_30 dX4_next_32 (ha_27 σ τ) rfl ?_
        obtain ⟨g4, h⟩ := og h
        refine mr_sald (pc := 35) dX4_next_35 (ha_28 σ τ) (g4) ?_
        refine mr_goto (pc := 36) 40 dX4_next_36 (by decide) ?_
        obtain ⟨rfl, rfl, rfl⟩ := os3 h
        exact mr_iret (pc := 40) rfl (rfl) dX4_next_40
set_option maxHeartbeats 4000000 in
set_option maxRecDepth 100000 in
theorem dc_T_skipBlanks_l0 : ∀ (n : Nat), ∀ (σ : mS) (τ : mT) (σ' : mS) (τ' : mT), T_skipBlanks_l0 n σ τ = some (σ', τ') → mc_V M_X4_skipBlanks 1 none 0 [.ref 27] [] (mc_hp σ τ) none (mc_hp σ' τ') 0 0 := by
  intro n
  induction n with
  | zero =>
    intros
    rename_i h
    cases h
  | succ n ih =>
    intro σ τ σ' τ' h
    refine mr_aload_n (pc := 0) dX4_skipBlanks_0 rfl ?_
    refine mr_getf (pc := 1) (ci := 4) inX4 rfl 2 (by decide) fl_30 dX4_skipBlanks_1 (ha_27 σ τ) rfl ?_
    refine mr_aload_n (pc := 4) dX4_skipBlanks_4 rfl ?_
    refine mr_getf (pc := 5) (ci := 4) inX4 rfl 1 (by decide) fl_29 dX4_skipBlanks_5 (ha_27 σ τ) rfl ?_
    refine mr_icmp_ge (pc := 8) 33 dX4_skipBlanks_8 (by decide) (fun q1 => ?_) (fun q1 => ?_)
    · replace h := (if_pos q1).symm.trans h
      obtain ⟨rfl, rfl⟩ := os2 h
      exact mr_ret (pc := 33) rfl dX4_skipBlanks_33
    · replace h := (if_neg q1).symm.trans h
      refine mr_aload_n (pc := 11) dX4_skipBlanks_11 rfl ?_
      obtain ⟨r2, σ2, τ2, c2, h⟩ := obs h
      refine mr_callV0 (pc := 12) (ci := 4) [] ok_X4_next lk_78 st_X4_next se_X4_next dX4_skipBlanks_12 rfl (ha_27 σ τ) rfl rfl (Nat.le_of_ble_eq_true rfl) (Nat.le_of_ble_eq_true rfl) ((dc_T_next c2).up (by decide)) ?_
      refine mr_bipushv (pc := 15) (32 : Int32) dX4_skipBlanks_15 (by decide) ?_
      refine mr_icmp_ne (pc := 17) 33 dX4_skipBlanks_17 (by decide) (fun q3 => ?_) (fun q3 => ?_)
      · replace h := (if_neg q3).symm.trans h
        obtain ⟨rfl, rfl⟩ := os2 h
        exact mr_ret (pc := 33) rfl dX4_skipBlanks_33
      · replace h := (if_pos q3).symm.trans h
        refine mr_aload_n (pc := 20) dX4_skipBlanks_20 rfl ?_
        refine mr_dup (pc := 21) dX4_skipBlanks_21 rfl ?_
        refine mr_getf (pc := 22) (ci := 4) inX4 rfl 2 (by decide) fl_30 dX4_skipBlanks_22 (ha_27 σ2 τ2) rfl ?_
        refine mr_iconstv (pc := 25) (1 : Int32) dX4_skipBlanks_25 (by decide) ?_
        refine mr_iadd (pc := 26) dX4_skipBlanks_26 ?_
        obtain ⟨σ4, e4, h⟩ := ow h
        refine mr_putf (pc := 27) (ci := 4) inX4 tyX4 tyX4_ok nmX4 rfl 2 (by decide) fl_30 rfl dX4_skipBlanks_27 (ha_27 σ2 τ2) (Nat.le_of_ble_eq_true rfl) rfl (mc_V.heap (hs_27_2 e4) ?_)
        refine mr_goto (pc := 30) 0 dX4_skipBlanks_30 (by decide) ?_
        exact mc_V.locs (loc' := [.ref 27]) ⟨Or.inr rfl, trivial⟩ (ih σ4 τ2 σ' τ' h)
set_option maxHeartbeats 4000000 in
set_option maxRecDepth 100000 in
theorem dc_T_skipBlanks {σ : mS} {τ : mT} {σ' : mS} {τ' : mT} (h : T_skipBlanks σ τ = some (σ', τ')) : mc_V M_X4_skipBlanks 1 none 0 (mc_entry [.ref 27] 1) [] (mc_hp σ τ) none (mc_hp σ' τ') 0 0 := by
  unfold T_skipBlanks at h
  show mc_V M_X4_skipBlanks 1 none 0 [.ref 27] [] (mc_hp σ τ) none (mc_hp σ' τ') 0 0
  exact mc_V.locs (loc' := [.ref 27]) ⟨Or.inr rfl, trivial⟩ (dc_T_skipBlanks_l0 mc_F σ τ σ' τ' h)
set_option maxHeartbeats 4000000 in
set_option maxRecDepth 100000 in
theorem dc_P_size_4 {σ : mS} {τ : mT} {r : Int32} {σ' : mS} {τ' : mT} (h : P_size_4 σ τ = some (r, σ', τ')) : mc_V M_X2_size 0 none 0 (mc_entry [.ref 4] 1) [] (mc_hp σ τ) (some (.int r)) (mc_hp σ' τ') 0 0 := by
  unfold P_size_4 at h
  show mc_V M_X2_size 0 none 0 [.ref 4] [] (mc_hp σ τ) (some (.int r)) (mc_hp σ' τ') 0 0
  refine mr_aload_n (pc := 0) dX2_size_0 rfl ?_
  refine mr_getf (pc := 1) (ci := 2) inX2 rfl 0 (by decide) fl_25 dX2_size_1 (ha_4 σ τ) rfl ?_
  refine mr_bipushv (pc := 4) (20 : Int32) dX2_size_4 (by decide) ?_
  refine mr_iald (pc := 6) dX2_size_6 (ha_5 σ τ) (vin_ok rfl) ?_
  obtain ⟨rfl, rfl, rfl⟩ := os3 h
  exact mr_iret (pc := 7) rfl (rfl) dX2_size_7
set_option maxHeartbeats 4000000 in
set_option maxRecDepth 100000 in
theorem dc_T_isFigure {p0 : Int32} {σ : mS} {τ : mT} {r : Int32} {σ' : mS} {τ' : mT} (h : T_isFigure p0 σ τ = some (r, σ', τ')) : mc_V M_X4_isFigure 1 none 0 (mc_entry [.int p0] 1) [] (mc_hp σ τ) (some (.int r)) (mc_hp σ' τ') 0 0 := by
  unfold T_isFigure at h
  show mc_V M_X4_isFigure 1 none 0 [.int p0] [] (mc_hp σ τ) (some (.int r)) (mc_hp σ' τ') 0 0
  refine mr_iload_n (pc := 0) dX4_isFigure_0 rfl ?_
  refine mr_bipushv (pc := 1) (48 : Int32) dX4_isFigure_1 (by decide) ?_
  refine mr_bipushv (pc := 3) (57 : Int32) dX4_isFigure_3 (by decide) ?_
  obtain ⟨r1, σ1, τ1, c1, h⟩ := obs h
  refine mr_callSN0 (pc := 5) [.int p0, .int (48 : Int32), .int (57 : Int32)] ok_X5_within lk_190 st_X5_within dX4_isFigure_5 rfl rfl (Nat.le_of_ble_eq_true rfl) (Nat.le_of_ble_eq_true rfl) ((dc_R_within c1).up (by decide)) ?_
  obtain ⟨g2, h⟩ := og h
  obtain ⟨rfl, rfl, rfl⟩ := os3 h
  exact mr_iret (pc := 8) rfl (nar_b g2) dX4_isFigure_8
set_option maxHeartbeats 4000000 in
set_option maxRecDepth 100000 in
theorem dc_T_readNumber_b127 : ∀ (x3 : Int32) (σ : mS) (τ : mT) (r : Int32) (σ' : mS) (τ' : mT), T_readNumber_b127 x3 σ τ = some (r, σ', τ') → mc_V M_X4_readNumber 2 none 127 [.ref 27, .retAddr 0, .retAddr 0, .int x3, .retAddr 0, .retAddr 0, .retAddr 0] [] (mc_hp σ τ) (some (.int r)) (mc_hp σ' τ') 0 0 := by
  intro x3 σ τ r σ' τ' h
  unfold T_readNumber_b127 at h
  refine mr_aload_n (pc := 127) dX4_readNumber_127 rfl ?_
  refine mr_iload_n (pc := 128) dX4_readNumber_128 rfl ?_
  obtain ⟨σ1, e1, h⟩ := ow h
  refine mr_putf (pc := 129) (ci := 4) inX4 tyX4 tyX4_ok nmX4 rfl 2 (by decide) fl_30 rfl dX4_readNumber_129 (ha_27 σ τ) (Nat.le_of_ble_eq_true rfl) rfl (mc_V.heap (hs_27_2 e1) ?_)
  refine mr_iconstv (pc := 132) (-1 : Int32) dX4_readNumber_132 (by decide) ?_
  obtain ⟨rfl, rfl, rfl⟩ := os3 h
  exact mr_iret (pc := 133) rfl (rfl) dX4_readNumber_133
set_option maxHeartbeats 4000000 in
set_option maxRecDepth 100000 in
theorem dc_T_readNumber_b102 : ∀ (x1 : Int32) (x2 : Int32) (x3 : Int32) (x5 : Int32) (s0 : Int32) (σ : mS) (τ : mT) (r : Int32) (σ' : mS) (τ' : mT), T_readNumber_b102 x1 x2 x3 x5 s0 σ τ = some (r, σ', τ') → mc_V M_X4_readNumber 2 none 102 [.ref 27, .int x1, .int x2, .int x3, .retAddr 0, .int x5, .retAddr 0] [.int s0] (mc_hp σ τ) (some (.int r)) (mc_hp σ' τ') 0 0 := by
  intro x1 x2 x3 x5 s0 σ τ r σ' τ' h
  unfold T_readNumber_b102 at h
  refine mr_istore (pc := 102) dX4_readNumber_102 (Nat.le_of_ble_eq_true rfl) (show mc_V M_X4_readNumber 2 none 104 [.ref 27, .int x1, .int x2, .int x3, .retAddr 0, .int x5, .int s0] [] (mc_hp σ τ) (some (.int r)) (mc_hp σ' τ') 0 0 from ?_)
  refine mr_aload_n (pc := 104) dX4_readNumber_104 rfl ?_
  refine mr_getf (pc := 105) (ci := 4) inX4 rfl 2 (by decide) fl_30 dX4_readNumber_105 (ha_27 σ τ) rfl ?_
  refine mr_iload_n (pc := 108) dX4_readNumber_108 rfl ?_
  refine mr_icmp_eq (pc := 109) 127 dX4_readNumber_109 (by decide) (fun q1 => ?_) (fun q1 => ?_)
  · replace h := (if_pos q1).symm.trans h
    exact mc_V.locs (loc' := [.ref 27, .retAddr 0, .retAddr 0, .int x3, .retAddr 0, .retAddr 0, .retAddr 0]) ⟨Or.inr rfl, Or.inl rfl, Or.inl rfl, Or.inr rfl, Or.inl rfl, Or.inl rfl, Or.inl rfl, trivial⟩ (dc_T_readNumber_b127 x3 σ τ r σ' τ' h)
  · replace h := (if_neg q1).symm.trans h
    refine mr_iload (pc := 112) dX4_readNumber_112 rfl ?_
    refine mr_if_ne (pc := 114) 127 dX4_readNumber_114 (by decide) (fun q2 => ?_) (fun q2 => ?_)
    · replace h := (if_neg q2).symm.trans h
      exact mc_V.locs (loc' := [.ref 27, .retAddr 0, .retAddr 0, .int x3, .retAddr 0, .retAddr 0, .retAddr 0]) ⟨Or.inr rfl, Or.inl rfl, Or.inl rfl, Or.inr rfl, Or.inl rfl, Or.inl rfl, Or.inl rfl, trivial⟩ (dc_T_readNumber_b127 x3 σ τ r σ' τ' h)
    · replace h := (if_pos q2).symm.trans h
      refine mr_iload (pc := 117) dX4_readNumber_117 rfl ?_
      refine mr_iload_n (pc := 119) dX4_readNumber_119 rfl ?_
      refine mr_iload_n (pc := 120) dX4_readNumber_120 rfl ?_
      obtain ⟨r3, σ3, τ3, c3, h⟩ := obs h
      refine mr_callSN0 (pc := 121) [.int x5, .int x1, .int x2] ok_X5_within lk_190 st_X5_within dX4_readNumber_121 rfl rfl (Nat.le_of_ble_eq_true rfl) (Nat.le_of_ble_eq_true rfl) ((dc_R_within c3).up (by decide)) ?_
      refine mr_if_ne (pc := 124) 134 dX4_readNumber_124 (by decide) (fun q4 => ?_) (fun q4 => ?_)
      · replace h := (if_neg q4).symm.trans h
        refine mr_iload (pc := 134) dX4_readNumber_134 rfl ?_
        obtain ⟨rfl, rfl, rfl⟩ := os3 h
        exact mr_iret (pc := 136) rfl (rfl) dX4_readNumber_136
      · replace h := (if_pos q4).symm.trans h
        exact mc_V.locs (loc' := [.ref 27, .retAddr 0, .retAddr 0, .int x3, .retAddr 0, .retAddr 0, .retAddr 0]) ⟨Or.inr rfl, Or.inl rfl, Or.inl rfl, Or.inr rfl, Or.inl rfl, Or.inl rfl, Or.inl rfl, trivial⟩ (dc_T_readNumber_b127 x3 σ3 τ3 r σ' τ' h)
set_option maxHeartbeats 4000000 in
set_option maxRecDepth 100000 in
theorem dc_T_readNumber_b101 : ∀ (x1 : Int32) (x2 : Int32) (x3 : Int32) (x5 : Int32) (σ : mS) (τ : mT) (r : Int32) (σ' : mS) (τ' : mT), T_readNumber_b101 x1 x2 x3 x5 σ τ = some (r, σ', τ') → mc_V M_X4_readNumber 2 none 101 [.ref 27, .int x1, .int x2, .int x3, .retAddr 0, .int x5, .retAddr 0] [] (mc_hp σ τ) (some (.int r)) (mc_hp σ' τ') 0 0 := by
  intro x1 x2 x3 x5 σ τ r σ' τ' h
  unfold T_readNumber_b101 at h
  refine mr_iconstv (pc := 101) (0 : Int32) dX4_readNumber_101 (by decide) ?_
  exact mc_V.locs (loc' := [.ref 27, .int x1, .int x2, .int x3, .retAddr 0, .int x5, .retAddr 0]) ⟨Or.inr rfl, Or.inr rfl, Or.inr rfl, Or.inr rfl, Or.inl rfl, Or.inr rfl, Or.inl rfl, trivial⟩ (dc_T_readNumber_b102 x1 x2 x3 x5 (0 : Int32) σ τ r σ' τ' h)
set_option maxHeartbeats 4000000 in
set_option maxRecDepth 100000 in
theorem dc_T_readNumber_b82 : ∀ (x1 : Int32) (x2 : Int32) (x3 : Int32) (x4 : Int32) (x5 : Int32) (σ : mS) (τ : mT) (r : Int32) (σ' : mS) (τ' : mT), T_readNumber_b82 x1 x2 x3 x4 x5 σ τ = some (r, σ', τ') → mc_V M_X4_readNumber 2 none 82 [.ref 27, .int x1, .int x2, .int x3, .int x4, .int x5, .retAddr 0] [] (mc_hp σ τ) (some (.int r)) (mc_hp σ' τ') 0 0 := by
  intro x1 x2 x3 x4 x5 σ τ r σ' τ' h
  unfold T_readNumber_b82 at h
  refine mr_iload (pc := 82) dX4_readNumber_82 rfl ?_
  refine mr_if_eq (pc := 84) 101 dX4_readNumber_84 (by decide) (fun q1 => ?_) (fun q1 => ?_)
  · replace h := (if_pos q1).symm.trans h
    exact mc_V.locs (loc' := [.ref 27, .int x1, .int x2, .int x3, .retAddr 0, .int x5, .retAddr 0]) ⟨Or.inr rfl, Or.inr rfl, Or.inr rfl, Or.inr rfl, Or.inl rfl, Or.inr rfl, Or.inl rfl, trivial⟩ (dc_T_readNumber_b101 x1 x2 x3 x5 σ τ r σ' τ' h)
  · replace h := (if_neg q1).symm.trans h
    refine mr_aload_n (pc := 87) dX4_readNumber_87 rfl ?_
    refine mr_getf (pc := 88) (ci := 4) inX4 rfl 2 (by decide) fl_30 dX4_readNumber_88 (ha_27 σ τ) rfl ?_
    refine mr_iload_n (pc := 91) dX4_readNumber_91 rfl ?_
    refine mr_isub (pc := 92) dX4_readNumber_92 ?_
    refine mr_iconstv (pc := 93) (1 : Int32) dX4_readNumber_93 (by decide) ?_
    refine mr_icmp_le (pc := 94) 101 dX4_readNumber_94 (by decide) (fun q2 => ?_) (fun q2 => ?_)
    · replace h := (if_pos q2).symm.trans h
      exact mc_V.locs (loc' := [.ref 27, .int x1, .int x2, .int x3, .retAddr 0, .int x5, .retAddr 0]) ⟨Or.inr rfl, Or.inr rfl, Or.inr rfl, Or.inr rfl, Or.inl rfl, Or.inr rfl, Or.inl rfl, trivial⟩ (dc_T_readNumber_b101 x1 x2 x3 x5 σ τ r σ' τ' h)
    · replace h := (if_neg q2).symm.trans h
      refine mr_iconstv (pc := 97) (1 : Int32) dX4_readNumber_97 (by decide) ?_
      refine mr_goto (pc := 98) 102 dX4_readNumber_98 (by decide) ?_
      exact mc_V.locs (loc' := [.ref 27, .int x1, .int x2, .int x3, .retAddr 0, .int x5, .retAddr 0]) ⟨Or.inr rfl, Or.inr rfl, Or.inr rfl, Or.inr rfl, Or.inl rfl, Or.inr rfl, Or.inl rfl, trivial⟩ (dc_T_readNumber_b102 x1 x2 x3 x5 (1 : Int32) σ τ r σ' τ' h)
set_option maxHeartbeats 4000000 in
set_option maxRecDepth 100000 in
theorem dc_T_readNumber_l28 : ∀ (n : Nat), ∀ (x1 : Int32) (x2 : Int32) (x3 : Int32) (x4 : Int32) (x5 : Int32) (σ : mS) (τ : mT) (r : Int32) (σ' : mS) (τ' : mT), T_readNumber_l28 n x1 x2 x3 x4 x5 σ τ = some (r, σ', τ') → mc_V M_X4_readNumber 2 none 28 [.ref 27, .int x1, .int x2, .int x3, .int x4, .int x5, .retAddr 0] [] (mc_hp σ τ) (some (.int r)) (mc_hp σ' τ') 0 0 := by
  intro n
  induction n with
  | zero =>
    intros
    rename_i h
    cases h
  | succ n ih =>
    intro x1 x2 x3 x4 x5 σ τ r σ' τ' h
    refine mr_aload_n (pc := 28) dX4_readNumber_28 rfl ?_
    refine mr_getf (pc := 29) (ci := 4) inX4 rfl 2 (by decide) fl_30 dX4_readNumber_29 (ha_27 σ τ) rfl ?_
    refine mr_aload_n (pc := 32) dX4_readNumber_32 rfl ?_
    refine mr_getf (pc := 33) (ci := 4) inX4 rfl 1 (by decide) fl_29 dX4_readNumber_33 (ha_27 σ τ) rfl ?_
    refine mr_icmp_ge (pc := 36) 82 dX4_readNumber_36 (by decide) (fun q1 => ?_) (fun q1 => ?_)
    · replace h := (if_pos q1).symm.trans h
      exact mc_V.locs (loc' := [.ref 27, .int x1, .int x2, .int x3, .int x4, .int x5, .retAddr 0]) ⟨Or.inr rfl, Or.inr rfl, Or.inr rfl, Or.inr rfl, Or.inr rfl, Or.inr rfl, Or.inl rfl, trivial⟩ (dc_T_readNumber_b82 x1 x2 x3 x4 x5 σ τ r σ' τ' h)
    · replace h := (if_neg q1).symm.trans h
      refine mr_aload_n (pc := 39) dX4_readNumber_39 rfl ?_
      obtain ⟨r2, σ2, τ2, c2, h⟩ := obs h
      refine mr_callV0 (pc := 40) (ci := 4) [] ok_X4_next lk_78 st_X4_next se_X4_next dX4_readNumber_40 rfl (ha_27 σ τ) rfl rfl (Nat.le_of_ble_eq_true rfl) (Nat.le_of_ble_eq_true rfl) ((dc_T_next c2).up (by decide)) ?_
      obtain ⟨r3, σ3, τ3, c3, h⟩ := obs h
      refine mr_callS0 (pc := 43) [.int r2] ok_X4_isFigure lk_87 st_X4_isFigure dX4_readNumber_43 rfl rfl (Nat.le_of_ble_eq_true rfl) (Nat.le_of_ble_eq_true rfl) ((dc_T_isFigure c3).up (by decide)) ?_
      refine mr_if_eq (pc := 46) 82 dX4_readNumber_46 (by decide) (fun q4 => ?_) (fun q4 => ?_)
      · replace h := (if_pos q4).symm.trans h
        exact mc_V.locs (loc' := [.ref 27, .int x1, .int x2, .int x3, .int x4, .int x5, .retAddr 0]) ⟨Or.inr rfl, Or.inr rfl, Or.inr rfl, Or.inr rfl, Or.inr rfl, Or.inr rfl, Or.inl rfl, trivial⟩ (dc_T_readNumber_b82 x1 x2 x3 x4 x5 σ3 τ3 r σ' τ' h)
      · replace h := (if_neg q4).symm.trans h
        refine mr_bipushv (pc := 49) (10 : Int32) dX4_readNumber_49 (by decide) ?_
        refine mr_iload (pc := 51) dX4_readNumber_51 rfl ?_
        refine mr_imul (pc := 53) dX4_readNumber_53 ?_
        refine mr_aload_n (pc := 54) dX4_readNumber_54 rfl ?_
        obtain ⟨r5, σ5, τ5, c5, h⟩ := obs h
        refine mr_callV0 (pc := 55) (ci := 4) [] ok_X4_next lk_78 st_X4_next se_X4_next dX4_readNumber_55 rfl (ha_27 σ3 τ3) rfl rfl (Nat.le_of_ble_eq_true rfl) (Nat.le_of_ble_eq_true rfl) ((dc_T_next c5).up (by decide)) ?_
        refine mr_iadd (pc := 58) dX4_readNumber_58 ?_
        refine mr_bipushv (pc := 59) (48 : Int32) dX4_readNumber_59 (by decide) ?_
        refine mr_isub (pc := 61) dX4_readNumber_61 ?_
        refine mr_bipushv (pc := 62) (100 : Int32) dX4_readNumber_62 (by decide) ?_
        refine mr_mmin (pc := 64) lk_88 dX4_readNumber_64 (Nat.le_of_ble_eq_true rfl) ?_
        refine mr_istore (pc := 67) dX4_readNumber_67 (Nat.le_of_ble_eq_true rfl) (show mc_V M_X4_readNumber 2 none 69 [.ref 27, .int x1, .int x2, .int x3, .int x4, .int (jmin ((((10 : Int32) * x5) + r5) - (48 : Int32)) (100 : Int32)), .retAddr 0] [] (mc_hp σ5 τ5) (some (.int r)) (mc_hp σ' τ') 0 0 from ?_)
        refine mr_aload_n (pc := 69) dX4_readNumber_69 rfl ?_
        refine mr_dup (pc := 70) dX4_readNumber_70 rfl ?_
        refine mr_getf (pc := 71) (ci := 4) inX4 rfl 2 (by decide) fl_30 dX4_readNumber_71 (ha_27 σ5 τ5) rfl ?_
        refine mr_iconstv (pc := 74) (1 : Int32) dX4_readNumber_74 (by decide) ?_
        refine mr_iadd (pc := 75) dX4_readNumber_75 ?_
        obtain ⟨σ6, e6, h⟩ := ow h
        refine mr_putf (pc := 76) (ci := 4) inX4 tyX4 tyX4_ok nmX4 rfl 2 (by decide) fl_30 rfl dX4_readNumber_76 (ha_27 σ5 τ5) (Nat.le_of_ble_eq_true rfl) rfl (mc_V.heap (hs_27_2 e6) ?_)
        refine mr_goto (pc := 79) 28 dX4_readNumber_79 (by decide) ?_
        exact mc_V.locs (loc' := [.ref 27, .int x1, .int x2, .int x3, .int x4, .int (jmin ((((10 : Int32) * x5) + r5) - (48 : Int32)) (100 : Int32)), .retAddr 0]) ⟨Or.inr rfl, Or.inr rfl, Or.inr rfl, Or.inr rfl, Or.inr rfl, Or.inr rfl, Or.inl rfl, trivial⟩ (ih x1 x2 x3 x4 (jmin ((((10 : Int32) * x5) + r5) - (48 : Int32)) (100 : Int32)) σ6 τ5 r σ' τ' h)
set_option maxHeartbeats 4000000 in
set_option maxRecDepth 100000 in
theorem dc_T_readNumber {p1 : Int32} {p2 : Int32} {σ : mS} {τ : mT} {r : Int32} {σ' : mS} {τ' : mT} (h : T_readNumber p1 p2 σ τ = some (r, σ', τ')) : mc_V M_X4_readNumber 2 none 0 (mc_entry [.ref 27, .int p1, .int p2] 7) [] (mc_hp σ τ) (some (.int r)) (mc_hp σ' τ') 0 0 := by
  unfold T_readNumber at h
  show mc_V M_X4_readNumber 2 none 0 [.ref 27, .int p1, .int p2, .retAddr 0, .retAddr 0, .retAddr 0, .retAddr 0] [] (mc_hp σ τ) (some (.int r)) (mc_hp σ' τ') 0 0
  refine mr_aload_n (pc := 0) dX4_readNumber_0 rfl ?_
  obtain ⟨σ1, τ1, c1, h⟩ := ovs h
  refine mr_callV0 (pc := 1) (ci := 4) [] ok_X4_skipBlanks lk_76 st_X4_skipBlanks se_X4_skipBlanks dX4_readNumber_1 rfl (ha_27 σ τ) rfl rfl (Nat.le_of_ble_eq_true rfl) (Nat.le_of_ble_eq_true rfl) ((dc_T_skipBlanks c1).up (by decide)) ?_
  refine mr_aload_n (pc := 4) dX4_readNumber_4 rfl ?_
  refine mr_getf (pc := 5) (ci := 4) inX4 rfl 2 (by decide) fl_30 dX4_readNumber_5 (ha_27 σ1 τ1) rfl ?_
  refine mr_istore_n (pc := 8) dX4_readNumber_8 (Nat.le_of_ble_eq_true rfl) (show mc_V M_X4_readNumber 2 none 9 [.ref 27, .int p1, .int p2, .int (σ1 27 2), .retAddr 0, .retAddr 0, .retAddr 0] [] (mc_hp σ1 τ1) (some (.int r)) (mc_hp σ' τ') 0 0 from ?_)
  refine mr_aload_n (pc := 9) dX4_readNumber_9 rfl ?_
  obtain ⟨r2, σ2, τ2, c2, h⟩ := obs h
  refine mr_callV0 (pc := 10) (ci := 4) [] ok_X4_next lk_78 st_X4_next se_X4_next dX4_readNumber_10 rfl (ha_27 σ1 τ1) rfl rfl (Nat.le_of_ble_eq_true rfl) (Nat.le_of_ble_eq_true rfl) ((dc_T_next c2).up (by decide)) ?_
  refine mr_bipushv (pc := 13) (48 : Int32) dX4_readNumber_13 (by decide) ?_
  refine mr_icmp_ne (pc := 15) 22 dX4_readNumber_15 (by decide) (fun q3 => ?_) (fun q3 => ?_)
  · replace h := (if_neg q3).symm.trans h
    refine mr_iconstv (pc := 22) (0 : Int32) dX4_readNumber_22 (by decide) ?_
    refine mr_istore (pc := 23) dX4_readNumber_23 (Nat.le_of_ble_eq_true rfl) (show mc_V M_X4_readNumber 2 none 25 [.ref 27, .int p1, .int p2, .int (σ1 27 2), .int (0 : Int32), .retAddr 0, .retAddr 0] [] (mc_hp σ2 τ2) (some (.int r)) (mc_hp σ' τ') 0 0 from ?_)
    refine mr_iconstv (pc := 25) (0 : Int32) dX4_readNumber_25 (by decide) ?_
    refine mr_istore (pc := 26) dX4_readNumber_26 (Nat.le_of_ble_eq_true rfl) (show mc_V M_X4_readNumber 2 none 28 [.ref 27, .int p1, .int p2, .int (σ1 27 2), .int (0 : Int32), .int (0 : Int32), .retAddr 0] [] (mc_hp σ2 τ2) (some (.int r)) (mc_hp σ' τ') 0 0 from ?_)
    exact mc_V.locs (loc' := [.ref 27, .int p1, .int p2, .int (σ1 27 2), .int (0 : Int32), .int (0 : Int32), .retAddr 0]) ⟨Or.inr rfl, Or.inr rfl, Or.inr rfl, Or.inr rfl, Or.inr rfl, Or.inr rfl, Or.inl rfl, trivial⟩ (dc_T_readNumber_l28 mc_F p1 p2 (σ1 27 2) (0 : Int32) (0 : Int32) σ2 τ2 r σ' τ' h)
  · replace h := (if_pos q3).symm.trans h
    refine mr_iconstv (pc := 18) (1 : Int32) dX4_readNumber_18 (by decide) ?_
    refine mr_goto (pc := 19) 23 dX4_readNumber_19 (by decide) ?_
    refine mr_istore (pc := 23) dX4_readNumber_23 (Nat.le_of_ble_eq_true rfl) (show mc_V M_X4_readNumber 2 none 25 [.ref 27, .int p1, .int p2, .int (σ1 27 2), .int (1 : Int32), .retAddr 0, .retAddr 0] [] (mc_hp σ2 τ2) (some (.int r)) (mc_hp σ' τ') 0 0 from ?_)
    refine mr_iconstv (pc := 25) (0 : Int32) dX4_readNumber_25 (by decide) ?_
    refine mr_istore (pc := 26) dX4_readNumber_26 (Nat.le_of_ble_eq_true rfl) (show mc_V M_X4_readNumber 2 none 28 [.ref 27, .int p1, .int p2, .int (σ1 27 2), .int (1 : Int32), .int (0 : Int32), .retAddr 0] [] (mc_hp σ2 τ2) (some (.int r)) (mc_hp σ' τ') 0 0 from ?_)
    exact mc_V.locs (loc' := [.ref 27, .int p1, .int p2, .int (σ1 27 2), .int (1 : Int32), .int (0 : Int32), .retAddr 0]) ⟨Or.inr rfl, Or.inr rfl, Or.inr rfl, Or.inr rfl, Or.inr rfl, Or.inr rfl, Or.inl rfl, trivial⟩ (dc_T_readNumber_l28 mc_F p1 p2 (σ1 27 2) (1 : Int32) (0 : Int32) σ2 τ2 r σ' τ' h)
set_option maxHeartbeats 4000000 in
set_option maxRecDepth 100000 in
theorem dc_T_readEnd {σ : mS} {τ : mT} {r : Int32} {σ' : mS} {τ' : mT} (h : T_readEnd σ τ = some (r, σ', τ')) : mc_V M_X4_readEnd 2 none 0 (mc_entry [.ref 27] 1) [] (mc_hp σ τ) (some (.int r)) (mc_hp σ' τ') 0 0 := by
  unfold T_readEnd at h
  show mc_V M_X4_readEnd 2 none 0 [.ref 27] [] (mc_hp σ τ) (some (.int r)) (mc_hp σ' τ') 0 0
  refine mr_aload_n (pc := 0) dX4_readEnd_0 rfl ?_
  obtain ⟨σ1, τ1, c1, h⟩ := ovs h
  refine mr_callV0 (pc := 1) (ci := 4) [] ok_X4_skipBlanks lk_76 st_X4_skipBlanks se_X4_skipBlanks dX4_readEnd_1 rfl (ha_27 σ τ) rfl rfl (Nat.le_of_ble_eq_true rfl) (Nat.le_of_ble_eq_true rfl) ((dc_T_skipBlanks c1).up (by decide)) ?_
  refine mr_aload_n (pc := 4) dX4_readEnd_4 rfl ?_
  obtain ⟨r2, σ2, τ2, c2, h⟩ := obs h
  refine mr_callV0 (pc := 5) (ci := 4) [] ok_X4_next lk_78 st_X4_next se_X4_next dX4_readEnd_5 rfl (ha_27 σ1 τ1) rfl rfl (Nat.le_of_ble_eq_true rfl) (Nat.le_of_ble_eq_true rfl) ((dc_T_next c2).up (by decide)) ?_
  refine mr_bipushv (pc := 8) (59 : Int32) dX4_readEnd_8 (by decide) ?_
  refine mr_icmp_eq (pc := 10) 15 dX4_readEnd_10 (by decide) (fun q3 => ?_) (fun q3 => ?_)
  · replace h := (if_pos q3).symm.trans h
    refine mr_aload_n (pc := 15) dX4_readEnd_15 rfl ?_
    refine mr_dup (pc := 16) dX4_readEnd_16 rfl ?_
    refine mr_getf (pc := 17) (ci := 4) inX4 rfl 2 (by decide) fl_30 dX4_readEnd_17 (ha_27 σ2 τ2) rfl ?_
    refine mr_iconstv (pc := 20) (1 : Int32) dX4_readEnd_20 (by decide) ?_
    refine mr_iadd (pc := 21) dX4_readEnd_21 ?_
    obtain ⟨σ4, e4, h⟩ := ow h
    refine mr_putf (pc := 22) (ci := 4) inX4 tyX4 tyX4_ok nmX4 rfl 2 (by decide) fl_30 rfl dX4_readEnd_22 (ha_27 σ2 τ2) (Nat.le_of_ble_eq_true rfl) rfl (mc_V.heap (hs_27_2 e4) ?_)
    refine mr_iconstv (pc := 25) (1 : Int32) dX4_readEnd_25 (by decide) ?_
    obtain ⟨rfl, rfl, rfl⟩ := os3 h
    exact mr_iret (pc := 26) rfl (rfl) dX4_readEnd_26
  · replace h := (if_neg q3).symm.trans h
    refine mr_iconstv (pc := 13) (0 : Int32) dX4_readEnd_13 (by decide) ?_
    obtain ⟨rfl, rfl, rfl⟩ := os3 h
    exact mr_iret (pc := 14) rfl (rfl) dX4_readEnd_14
set_option maxHeartbeats 4000000 in
set_option maxRecDepth 100000 in
theorem dc_P_has_4 {p1 : Int32} {σ : mS} {τ : mT} {r : Int32} {σ' : mS} {τ' : mT} (h : P_has_4 p1 σ τ = some (r, σ', τ')) : mc_V M_X2_has 0 none 0 (mc_entry [.ref 4, .int p1] 2) [] (mc_hp σ τ) (some (.int r)) (mc_hp σ' τ') 0 0 := by
  unfold P_has_4 at h
  show mc_V M_X2_has 0 none 0 [.ref 4, .int p1] [] (mc_hp σ τ) (some (.int r)) (mc_hp σ' τ') 0 0
  refine mr_iload_n (pc := 0) dX2_has_0 rfl ?_
  refine mr_if_lt (pc := 1) 24 dX2_has_1 (by decide) (fun q1 => ?_) (fun q1 => ?_)
  · replace h := (if_pos q1).symm.trans h
    refine mr_iconstv (pc := 24) (0 : Int32) dX2_has_24 (by decide) ?_
    obtain ⟨rfl, rfl, rfl⟩ := os3 h
    exact mr_iret (pc := 25) rfl (rfl) dX2_has_25
  · replace h := (if_neg q1).symm.trans h
    refine mr_iload_n (pc := 4) dX2_has_4 rfl ?_
    refine mr_aload_n (pc := 5) dX2_has_5 rfl ?_
    refine mr_getf (pc := 6) (ci := 2) inX2 rfl 0 (by decide) fl_25 dX2_has_6 (ha_4 σ τ) rfl ?_
    refine mr_bipushv (pc := 9) (20 : Int32) dX2_has_9 (by decide) ?_
    refine mr_iald (pc := 11) dX2_has_11 (ha_5 σ τ) (vin_ok rfl) ?_
    refine mr_icmp_ge (pc := 12) 24 dX2_has_12 (by decide) (fun q2 => ?_) (fun q2 => ?_)
    · replace h := (if_pos q2).symm.trans h
      refine mr_iconstv (pc := 24) (0 : Int32) dX2_has_24 (by decide) ?_
      obtain ⟨rfl, rfl, rfl⟩ := os3 h
      exact mr_iret (pc := 25) rfl (rfl) dX2_has_25
    · replace h := (if_neg q2).symm.trans h
      refine mr_iload_n (pc := 15) dX2_has_15 rfl ?_
      refine mr_iconstv (pc := 16) (4 : Int32) dX2_has_16 (by decide) ?_
      refine mr_icmp_ge (pc := 17) 24 dX2_has_17 (by decide) (fun q3 => ?_) (fun q3 => ?_)
      · replace h := (if_pos q3).symm.trans h
        refine mr_iconstv (pc := 24) (0 : Int32) dX2_has_24 (by decide) ?_
        obtain ⟨rfl, rfl, rfl⟩ := os3 h
        exact mr_iret (pc := 25) rfl (rfl) dX2_has_25
      · replace h := (if_neg q3).symm.trans h
        refine mr_iconstv (pc := 20) (1 : Int32) dX2_has_20 (by decide) ?_
        refine mr_goto (pc := 21) 25 dX2_has_21 (by decide) ?_
        obtain ⟨rfl, rfl, rfl⟩ := os3 h
        exact mr_iret (pc := 25) rfl (rfl) dX2_has_25
set_option maxHeartbeats 4000000 in
set_option maxRecDepth 100000 in
theorem dc_P_set_4 {p1 : Int32} {p2 : Int32} {p3 : Int32} {σ : mS} {τ : mT} {σ' : mS} {τ' : mT} (h : P_set_4 p1 p2 p3 σ τ = some (σ', τ')) : mc_V M_X2_set 1 none 0 (mc_entry [.ref 4, .int p1, .int p2, .int p3] 4) [] (mc_hp σ τ) none (mc_hp σ' τ') 0 0 := by
  unfold P_set_4 at h
  show mc_V M_X2_set 1 none 0 [.ref 4, .int p1, .int p2, .int p3] [] (mc_hp σ τ) none (mc_hp σ' τ') 0 0
  refine mr_aload_n (pc := 0) dX2_set_0 rfl ?_
  refine mr_iload_n (pc := 1) dX2_set_1 rfl ?_
  obtain ⟨r1, σ1, τ1, c1, h⟩ := obs h
  refine mr_callV0 (pc := 2) (ci := 2) [.int p1] ok_X2_has lk_70 st_X2_has se_X2_has dX2_set_2 rfl (ha_4 σ τ) rfl rfl (Nat.le_of_ble_eq_true rfl) (Nat.le_of_ble_eq_true rfl) ((dc_P_has_4 c1).up (by decide)) ?_
  refine mr_if_eq (pc := 5) 28 dX2_set_5 (by decide) (fun q2 => ?_) (fun q2 => ?_)
  · replace h := (if_pos q2).symm.trans h
    obtain ⟨rfl, rfl⟩ := os2 h
    exact mr_ret (pc := 28) rfl dX2_set_28
  · replace h := (if_neg q2).symm.trans h
    refine mr_iload_n (pc := 8) dX2_set_8 rfl ?_
    refine mr_iconstv (pc := 9) (0 : Int32) dX2_set_9 (by decide) ?_
    refine mr_iconstv (pc := 10) (4 : Int32) dX2_set_10 (by decide) ?_
    obtain ⟨r3, σ3, τ3, c3, h⟩ := obs h
    refine mr_callSN0 (pc := 11) [.int p2, .int (0 : Int32), .int (4 : Int32)] ok_X5_within lk_188 st_X5_within dX2_set_11 rfl rfl (Nat.le_of_ble_eq_true rfl) (Nat.le_of_ble_eq_true rfl) ((dc_R_within c3).up (by decide)) ?_
    refine mr_if_eq (pc := 14) 28 dX2_set_14 (by decide) (fun q4 => ?_) (fun q4 => ?_)
    · replace h := (if_pos q4).symm.trans h
      obtain ⟨rfl, rfl⟩ := os2 h
      exact mr_ret (pc := 28) rfl dX2_set_28
    · replace h := (if_neg q4).symm.trans h
      refine mr_aload_n (pc := 17) dX2_set_17 rfl ?_
      refine mr_getf (pc := 18) (ci := 2) inX2 rfl 0 (by decide) fl_25 dX2_set_18 (ha_4 σ3 τ3) rfl ?_
      refine mr_iload_n (pc := 21) dX2_set_21 rfl ?_
      refine mr_iconstv (pc := 22) (5 : Int32) dX2_set_22 (by decide) ?_
      refine mr_imul (pc := 23) dX2_set_23 ?_
      refine mr_iload_n (pc := 24) dX2_set_24 rfl ?_
      refine mr_iadd (pc := 25) dX2_set_25 ?_
      refine mr_iload_n (pc := 26) dX2_set_26 rfl ?_
      obtain ⟨g5, h⟩ := og h
      obtain ⟨σ6, e6, h⟩ := ow h
      refine mr_iast (pc := 27) dX2_set_27 (ha_5 σ3 τ3) (g5) (mc_V.heap (hs_5 e6) ?_)
      obtain ⟨rfl, rfl⟩ := os2 h
      exact mr_ret (pc := 28) rfl dX2_set_28
set_option maxHeartbeats 4000000 in
set_option maxRecDepth 100000 in
theorem dc_P_add_4 {p1 : Int32} {p2 : Int32} {p3 : Int32} {σ : mS} {τ : mT} {σ' : mS} {τ' : mT} (h : P_add_4 p1 p2 p3 σ τ = some (σ', τ')) : mc_V M_X2_add 2 none 0 (mc_entry [.ref 4, .int p1, .int p2, .int p3] 5) [] (mc_hp σ τ) none (mc_hp σ' τ') 0 0 := by
  unfold P_add_4 at h
  show mc_V M_X2_add 2 none 0 [.ref 4, .int p1, .int p2, .int p3, .retAddr 0] [] (mc_hp σ τ) none (mc_hp σ' τ') 0 0
  refine mr_aload_n (pc := 0) dX2_add_0 rfl ?_
  obtain ⟨r1, σ1, τ1, c1, h⟩ := obs h
  refine mr_callV0 (pc := 1) (ci := 2) [] ok_X2_size lk_71 st_X2_size se_X2_size dX2_add_1 rfl (ha_4 σ τ) rfl rfl (Nat.le_of_ble_eq_true rfl) (Nat.le_of_ble_eq_true rfl) ((dc_P_size_4 c1).up (by decide)) ?_
  refine mr_istore (pc := 4) dX2_add_4 (Nat.le_of_ble_eq_true rfl) (show mc_V M_X2_add 2 none 6 [.ref 4, .int p1, .int p2, .int p3, .int r1] [] (mc_hp σ1 τ1) none (mc_hp σ' τ') 0 0 from ?_)
  refine mr_iload (pc := 6) dX2_add_6 rfl ?_
  refine mr_iconstv (pc := 8) (4 : Int32) dX2_add_8 (by decide) ?_
  refine mr_icmp_lt (pc := 9) 13 dX2_add_9 (by decide) (fun q2 => ?_) (fun q2 => ?_)
  · replace h := (if_pos q2).symm.trans h
    refine mr_aload_n (pc := 13) dX2_add_13 rfl ?_
    refine mr_getf (pc := 14) (ci := 2) inX2 rfl 0 (by decide) fl_25 dX2_add_14 (ha_4 σ1 τ1) rfl ?_
    refine mr_bipushv (pc := 17) (20 : Int32) dX2_add_17 (by decide) ?_
    refine mr_iload (pc := 19) dX2_add_19 rfl ?_
    refine mr_iconstv (pc := 21) (1 : Int32) dX2_add_21 (by decide) ?_
    refine mr_iadd (pc := 22) dX2_add_22 ?_
    obtain ⟨σ3, e3, h⟩ := ow h
    refine mr_iast (pc := 23) dX2_add_23 (ha_5 σ1 τ1) (vin_ok rfl) (mc_V.heap (hs_5 e3) ?_)
    refine mr_aload_n (pc := 24) dX2_add_24 rfl ?_
    refine mr_iload (pc := 25) dX2_add_25 rfl ?_
    refine mr_iconstv (pc := 27) (0 : Int32) dX2_add_27 (by decide) ?_
    refine mr_iload_n (pc := 28) dX2_add_28 rfl ?_
    obtain ⟨σ4, τ4, c4, h⟩ := ovs h
    refine mr_callV0 (pc := 29) (ci := 2) [.int r1, .int (0 : Int32), .int p1] ok_X2_set lk_72 st_X2_set se_X2_set dX2_add_29 rfl (ha_4 σ3 τ1) rfl rfl (Nat.le_of_ble_eq_true rfl) (Nat.le_of_ble_eq_true rfl) ((dc_P_set_4 c4).up (by decide)) ?_
    refine mr_aload_n (pc := 32) dX2_add_32 rfl ?_
    refine mr_iload (pc := 33) dX2_add_33 rfl ?_
    refine mr_iconstv (pc := 35) (1 : Int32) dX2_add_35 (by decide) ?_
    refine mr_iload_n (pc := 36) dX2_add_36 rfl ?_
    obtain ⟨σ5, τ5, c5, h⟩ := ovs h
    refine mr_callV0 (pc := 37) (ci := 2) [.int r1, .int (1 : Int32), .int p2] ok_X2_set lk_72 st_X2_set se_X2_set dX2_add_37 rfl (ha_4 σ4 τ4) rfl rfl (Nat.le_of_ble_eq_true rfl) (Nat.le_of_ble_eq_true rfl) ((dc_P_set_4 c5).up (by decide)) ?_
    refine mr_aload_n (pc := 40) dX2_add_40 rfl ?_
    refine mr_iload (pc := 41) dX2_add_41 rfl ?_
    refine mr_iconstv (pc := 43) (2 : Int32) dX2_add_43 (by decide) ?_
    refine mr_iload_n (pc := 44) dX2_add_44 rfl ?_
    obtain ⟨σ6, τ6, c6, h⟩ := ovs h
    refine mr_callV0 (pc := 45) (ci := 2) [.int r1, .int (2 : Int32), .int p3] ok_X2_set lk_72 st_X2_set se_X2_set dX2_add_45 rfl (ha_4 σ5 τ5) rfl rfl (Nat.le_of_ble_eq_true rfl) (Nat.le_of_ble_eq_true rfl) ((dc_P_set_4 c6).up (by decide)) ?_
    refine mr_aload_n (pc := 48) dX2_add_48 rfl ?_
    refine mr_iload (pc := 49) dX2_add_49 rfl ?_
    refine mr_iconstv (pc := 51) (3 : Int32) dX2_add_51 (by decide) ?_
    refine mr_iconstv (pc := 52) (0 : Int32) dX2_add_52 (by decide) ?_
    obtain ⟨σ7, τ7, c7, h⟩ := ovs h
    refine mr_callV0 (pc := 53) (ci := 2) [.int r1, .int (3 : Int32), .int (0 : Int32)] ok_X2_set lk_72 st_X2_set se_X2_set dX2_add_53 rfl (ha_4 σ6 τ6) rfl rfl (Nat.le_of_ble_eq_true rfl) (Nat.le_of_ble_eq_true rfl) ((dc_P_set_4 c7).up (by decide)) ?_
    refine mr_aload_n (pc := 56) dX2_add_56 rfl ?_
    refine mr_iload (pc := 57) dX2_add_57 rfl ?_
    refine mr_iconstv (pc := 59) (4 : Int32) dX2_add_59 (by decide) ?_
    refine mr_iconstv (pc := 60) (0 : Int32) dX2_add_60 (by decide) ?_
    obtain ⟨σ8, τ8, c8, h⟩ := ovs h
    refine mr_callV0 (pc := 61) (ci := 2) [.int r1, .int (4 : Int32), .int (0 : Int32)] ok_X2_set lk_72 st_X2_set se_X2_set dX2_add_61 rfl (ha_4 σ7 τ7) rfl rfl (Nat.le_of_ble_eq_true rfl) (Nat.le_of_ble_eq_true rfl) ((dc_P_set_4 c8).up (by decide)) ?_
    obtain ⟨rfl, rfl⟩ := os2 h
    exact mr_ret (pc := 64) rfl dX2_add_64
  · replace h := (if_neg q2).symm.trans h
    obtain ⟨rfl, rfl⟩ := os2 h
    exact mr_ret (pc := 12) rfl dX2_add_12
set_option maxHeartbeats 4000000 in
set_option maxRecDepth 100000 in
theorem dc_T_readBlock_4 {σ : mS} {τ : mT} {r : Int32} {σ' : mS} {τ' : mT} (h : T_readBlock_4 σ τ = some (r, σ', τ')) : mc_V M_X4_readBlock 3 none 0 (mc_entry [.ref 27, .ref 4] 5) [] (mc_hp σ τ) (some (.int r)) (mc_hp σ' τ') 0 0 := by
  unfold T_readBlock_4 at h
  show mc_V M_X4_readBlock 3 none 0 [.ref 27, .ref 4, .retAddr 0, .retAddr 0, .retAddr 0] [] (mc_hp σ τ) (some (.int r)) (mc_hp σ' τ') 0 0
  refine mr_aload_n (pc := 0) dX4_readBlock_0 rfl ?_
  obtain ⟨r1, σ1, τ1, c1, h⟩ := obs h
  refine mr_callV0 (pc := 1) (ci := 2) [] ok_X2_size lk_81 st_X2_size se_X2_size dX4_readBlock_1 rfl (ha_4 σ τ) rfl rfl (Nat.le_of_ble_eq_true rfl) (Nat.le_of_ble_eq_true rfl) ((dc_P_size_4 c1).up (by decide)) ?_
  refine mr_iconstv (pc := 4) (4 : Int32) dX4_readBlock_4 (by decide) ?_
  refine mr_icmp_lt (pc := 5) 10 dX4_readBlock_5 (by decide) (fun q2 => ?_) (fun q2 => ?_)
  · replace h := (if_pos q2).symm.trans h
    refine mr_aload_n (pc := 10) dX4_readBlock_10 rfl ?_
    refine mr_dup (pc := 11) dX4_readBlock_11 rfl ?_
    refine mr_getf (pc := 12) (ci := 4) inX4 rfl 2 (by decide) fl_30 dX4_readBlock_12 (ha_27 σ1 τ1) rfl ?_
    refine mr_iconstv (pc := 15) (1 : Int32) dX4_readBlock_15 (by decide) ?_
    refine mr_iadd (pc := 16) dX4_readBlock_16 ?_
    obtain ⟨σ3, e3, h⟩ := ow h
    refine mr_putf (pc := 17) (ci := 4) inX4 tyX4 tyX4_ok nmX4 rfl 2 (by decide) fl_30 rfl dX4_readBlock_17 (ha_27 σ1 τ1) (Nat.le_of_ble_eq_true rfl) rfl (mc_V.heap (hs_27_2 e3) ?_)
    refine mr_aload_n (pc := 20) dX4_readBlock_20 rfl ?_
    refine mr_iconstv (pc := 21) (0 : Int32) dX4_readBlock_21 (by decide) ?_
    refine mr_bipushv (pc := 22) (9 : Int32) dX4_readBlock_22 (by decide) ?_
    obtain ⟨r4, σ4, τ4, c4, h⟩ := obs h
    refine mr_callV0 (pc := 24) (ci := 4) [.int (0 : Int32), .int (9 : Int32)] ok_X4_readNumber lk_82 st_X4_readNumber se_X4_readNumber dX4_readBlock_24 rfl (ha_27 σ3 τ1) rfl rfl (Nat.le_of_ble_eq_true rfl) (Nat.le_of_ble_eq_true rfl) ((dc_T_readNumber c4).up (by decide)) ?_
    refine mr_istore_n (pc := 27) dX4_readBlock_27 (Nat.le_of_ble_eq_true rfl) (show mc_V M_X4_readBlock 3 none 28 [.ref 27, .ref 4, .int r4, .retAddr 0, .retAddr 0] [] (mc_hp σ4 τ4) (some (.int r)) (mc_hp σ' τ') 0 0 from ?_)
    refine mr_iload_n (pc := 28) dX4_readBlock_28 rfl ?_
    refine mr_if_ge (pc := 29) 34 dX4_readBlock_29 (by decide) (fun q5 => ?_) (fun q5 => ?_)
    · replace h := (if_pos q5).symm.trans h
      refine mr_aload_n (pc := 34) dX4_readBlock_34 rfl ?_
      refine mr_iconstv (pc := 35) (1 : Int32) dX4_readBlock_35 (by decide) ?_
      refine mr_iconstv (pc := 36) (3 : Int32) dX4_readBlock_36 (by decide) ?_
      obtain ⟨r6, σ6, τ6, c6, h⟩ := obs h
      refine mr_callV0 (pc := 37) (ci := 4) [.int (1 : Int32), .int (3 : Int32)] ok_X4_readNumber lk_82 st_X4_readNumber se_X4_readNumber dX4_readBlock_37 rfl (ha_27 σ4 τ4) rfl rfl (Nat.le_of_ble_eq_true rfl) (Nat.le_of_ble_eq_true rfl) ((dc_T_readNumber c6).up (by decide)) ?_
      refine mr_istore_n (pc := 40) dX4_readBlock_40 (Nat.le_of_ble_eq_true rfl) (show mc_V M_X4_readBlock 3 none 41 [.ref 27, .ref 4, .int r4, .int r6, .retAddr 0] [] (mc_hp σ6 τ6) (some (.int r)) (mc_hp σ' τ') 0 0 from ?_)
      refine mr_iload_n (pc := 41) dX4_readBlock_41 rfl ?_
      refine mr_if_ge (pc := 42) 47 dX4_readBlock_42 (by decide) (fun q7 => ?_) (fun q7 => ?_)
      · replace h := (if_pos q7).symm.trans h
        refine mr_aload_n (pc := 47) dX4_readBlock_47 rfl ?_
        refine mr_iconstv (pc := 48) (1 : Int32) dX4_readBlock_48 (by decide) ?_
        refine mr_bipushv (pc := 49) (9 : Int32) dX4_readBlock_49 (by decide) ?_
        obtain ⟨r8, σ8, τ8, c8, h⟩ := obs h
        refine mr_callV0 (pc := 51) (ci := 4) [.int (1 : Int32), .int (9 : Int32)] ok_X4_readNumber lk_82 st_X4_readNumber se_X4_readNumber dX4_readBlock_51 rfl (ha_27 σ6 τ6) rfl rfl (Nat.le_of_ble_eq_true rfl) (Nat.le_of_ble_eq_true rfl) ((dc_T_readNumber c8).up (by decide)) ?_
        refine mr_istore (pc := 54) dX4_readBlock_54 (Nat.le_of_ble_eq_true rfl) (show mc_V M_X4_readBlock 3 none 56 [.ref 27, .ref 4, .int r4, .int r6, .int r8] [] (mc_hp σ8 τ8) (some (.int r)) (mc_hp σ' τ') 0 0 from ?_)
        refine mr_iload (pc := 56) dX4_readBlock_56 rfl ?_
        refine mr_if_lt (pc := 58) 68 dX4_readBlock_58 (by decide) (fun q9 => ?_) (fun q9 => ?_)
        · replace h := (if_pos q9).symm.trans h
          refine mr_iconstv (pc := 68) (0 : Int32) dX4_readBlock_68 (by decide) ?_
          obtain ⟨rfl, rfl, rfl⟩ := os3 h
          exact mr_iret (pc := 69) rfl (rfl) dX4_readBlock_69
        · replace h := (if_neg q9).symm.trans h
          refine mr_aload_n (pc := 61) dX4_readBlock_61 rfl ?_
          obtain ⟨r10, σ10, τ10, c10, h⟩ := obs h
          refine mr_callV0 (pc := 62) (ci := 4) [] ok_X4_readEnd lk_83 st_X4_readEnd se_X4_readEnd dX4_readBlock_62 rfl (ha_27 σ8 τ8) rfl rfl (Nat.le_of_ble_eq_true rfl) (Nat.le_of_ble_eq_true rfl) ((dc_T_readEnd c10).up (by decide)) ?_
          refine mr_if_ne (pc := 65) 70 dX4_readBlock_65 (by decide) (fun q11 => ?_) (fun q11 => ?_)
          · replace h := (if_neg q11).symm.trans h
            refine mr_aload_n (pc := 70) dX4_readBlock_70 rfl ?_
            refine mr_iload_n (pc := 71) dX4_readBlock_71 rfl ?_
            refine mr_iload_n (pc := 72) dX4_readBlock_72 rfl ?_
            refine mr_iload (pc := 73) dX4_readBlock_73 rfl ?_
            obtain ⟨σ12, τ12, c12, h⟩ := ovs h
            refine mr_callV0 (pc := 75) (ci := 2) [.int r4, .int r6, .int r8] ok_X2_add lk_84 st_X2_add se_X2_add dX4_readBlock_75 rfl (ha_4 σ10 τ10) rfl rfl (Nat.le_of_ble_eq_true rfl) (Nat.le_of_ble_eq_true rfl) ((dc_P_add_4 c12).up (by decide)) ?_
            refine mr_iconstv (pc := 78) (1 : Int32) dX4_readBlock_78 (by decide) ?_
            obtain ⟨rfl, rfl, rfl⟩ := os3 h
            exact mr_iret (pc := 79) rfl (rfl) dX4_readBlock_79
          · replace h := (if_pos q11).symm.trans h
            refine mr_iconstv (pc := 68) (0 : Int32) dX4_readBlock_68 (by decide) ?_
            obtain ⟨rfl, rfl, rfl⟩ := os3 h
            exact mr_iret (pc := 69) rfl (rfl) dX4_readBlock_69
      · replace h := (if_neg q7).symm.trans h
        refine mr_iconstv (pc := 45) (0 : Int32) dX4_readBlock_45 (by decide) ?_
        obtain ⟨rfl, rfl, rfl⟩ := os3 h
        exact mr_iret (pc := 46) rfl (rfl) dX4_readBlock_46
    · replace h := (if_neg q5).symm.trans h
      refine mr_iconstv (pc := 32) (0 : Int32) dX4_readBlock_32 (by decide) ?_
      obtain ⟨rfl, rfl, rfl⟩ := os3 h
      exact mr_iret (pc := 33) rfl (rfl) dX4_readBlock_33
  · replace h := (if_neg q2).symm.trans h
    refine mr_iconstv (pc := 8) (0 : Int32) dX4_readBlock_8 (by decide) ?_
    obtain ⟨rfl, rfl, rfl⟩ := os3 h
    exact mr_iret (pc := 9) rfl (rfl) dX4_readBlock_9
set_option maxHeartbeats 4000000 in
set_option maxRecDepth 100000 in
theorem dc_P_get_4 {p1 : Int32} {p2 : Int32} {σ : mS} {τ : mT} {r : Int32} {σ' : mS} {τ' : mT} (h : P_get_4 p1 p2 σ τ = some (r, σ', τ')) : mc_V M_X2_get 1 none 0 (mc_entry [.ref 4, .int p1, .int p2] 3) [] (mc_hp σ τ) (some (.int r)) (mc_hp σ' τ') 0 0 := by
  unfold P_get_4 at h
  show mc_V M_X2_get 1 none 0 [.ref 4, .int p1, .int p2] [] (mc_hp σ τ) (some (.int r)) (mc_hp σ' τ') 0 0
  refine mr_aload_n (pc := 0) dX2_get_0 rfl ?_
  refine mr_iload_n (pc := 1) dX2_get_1 rfl ?_
  obtain ⟨r1, σ1, τ1, c1, h⟩ := obs h
  refine mr_callV0 (pc := 2) (ci := 2) [.int p1] ok_X2_has lk_70 st_X2_has se_X2_has dX2_get_2 rfl (ha_4 σ τ) rfl rfl (Nat.le_of_ble_eq_true rfl) (Nat.le_of_ble_eq_true rfl) ((dc_P_has_4 c1).up (by decide)) ?_
  refine mr_if_eq (pc := 5) 17 dX2_get_5 (by decide) (fun q2 => ?_) (fun q2 => ?_)
  · replace h := (if_pos q2).symm.trans h
    refine mr_iconstv (pc := 17) (0 : Int32) dX2_get_17 (by decide) ?_
    obtain ⟨rfl, rfl, rfl⟩ := os3 h
    exact mr_iret (pc := 18) rfl (rfl) dX2_get_18
  · replace h := (if_neg q2).symm.trans h
    refine mr_iload_n (pc := 8) dX2_get_8 rfl ?_
    refine mr_iconstv (pc := 9) (0 : Int32) dX2_get_9 (by decide) ?_
    refine mr_iconstv (pc := 10) (4 : Int32) dX2_get_10 (by decide) ?_
    obtain ⟨r3, σ3, τ3, c3, h⟩ := obs h
    refine mr_callSN0 (pc := 11) [.int p2, .int (0 : Int32), .int (4 : Int32)] ok_X5_within lk_188 st_X5_within dX2_get_11 rfl rfl (Nat.le_of_ble_eq_true rfl) (Nat.le_of_ble_eq_true rfl) ((dc_R_within c3).up (by decide)) ?_
    refine mr_if_ne (pc := 14) 19 dX2_get_14 (by decide) (fun q4 => ?_) (fun q4 => ?_)
    · replace h := (if_neg q4).symm.trans h
      refine mr_aload_n (pc := 19) dX2_get_19 rfl ?_
      refine mr_getf (pc := 20) (ci := 2) inX2 rfl 0 (by decide) fl_25 dX2_get_20 (ha_4 σ3 τ3) rfl ?_
      refine mr_iload_n (pc := 23) dX2_get_23 rfl ?_
      refine mr_iconstv (pc := 24) (5 : Int32) dX2_get_24 (by decide) ?_
      refine mr_imul (pc := 25) dX2_get_25 ?_
      refine mr_iload_n (pc := 26) dX2_get_26 rfl ?_
      refine mr_iadd (pc := 27) dX2_get_27 ?_
      obtain ⟨g5, h⟩ := og h
      refine mr_iald (pc := 28) dX2_get_28 (ha_5 σ3 τ3) (g5) ?_
      obtain ⟨rfl, rfl, rfl⟩ := os3 h
      exact mr_iret (pc := 29) rfl (rfl) dX2_get_29
    · replace h := (if_pos q4).symm.trans h
      refine mr_iconstv (pc := 17) (0 : Int32) dX2_get_17 (by decide) ?_
      obtain ⟨rfl, rfl, rfl⟩ := os3 h
      exact mr_iret (pc := 18) rfl (rfl) dX2_get_18
set_option maxHeartbeats 4000000 in
set_option maxRecDepth 100000 in
theorem dc_T_readLoad_4 {σ : mS} {τ : mT} {r : Int32} {σ' : mS} {τ' : mT} (h : T_readLoad_4 σ τ = some (r, σ', τ')) : mc_V M_X4_readLoad 3 none 0 (mc_entry [.ref 27, .ref 4] 5) [] (mc_hp σ τ) (some (.int r)) (mc_hp σ' τ') 0 0 := by
  unfold T_readLoad_4 at h
  show mc_V M_X4_readLoad 3 none 0 [.ref 27, .ref 4, .retAddr 0, .retAddr 0, .retAddr 0] [] (mc_hp σ τ) (some (.int r)) (mc_hp σ' τ') 0 0
  refine mr_aload_n (pc := 0) dX4_readLoad_0 rfl ?_
  refine mr_dup (pc := 1) dX4_readLoad_1 rfl ?_
  refine mr_getf (pc := 2) (ci := 4) inX4 rfl 2 (by decide) fl_30 dX4_readLoad_2 (ha_27 σ τ) rfl ?_
  refine mr_iconstv (pc := 5) (1 : Int32) dX4_readLoad_5 (by decide) ?_
  refine mr_iadd (pc := 6) dX4_readLoad_6 ?_
  obtain ⟨σ1, e1, h⟩ := ow h
  refine mr_putf (pc := 7) (ci := 4) inX4 tyX4 tyX4_ok nmX4 rfl 2 (by decide) fl_30 rfl dX4_readLoad_7 (ha_27 σ τ) (Nat.le_of_ble_eq_true rfl) rfl (mc_V.heap (hs_27_2 e1) ?_)
  refine mr_aload_n (pc := 10) dX4_readLoad_10 rfl ?_
  refine mr_iconstv (pc := 11) (0 : Int32) dX4_readLoad_11 (by decide) ?_
  refine mr_aload_n (pc := 12) dX4_readLoad_12 rfl ?_
  obtain ⟨r2, σ2, τ2, c2, h⟩ := obs h
  refine mr_callV0 (pc := 13) (ci := 2) [] ok_X2_size lk_81 st_X2_size se_X2_size dX4_readLoad_13 rfl (ha_4 σ1 τ) rfl rfl (Nat.le_of_ble_eq_true rfl) (Nat.le_of_ble_eq_true rfl) ((dc_P_size_4 c2).up (by decide)) ?_
  refine mr_iconstv (pc := 16) (1 : Int32) dX4_readLoad_16 (by decide) ?_
  refine mr_isub (pc := 17) dX4_readLoad_17 ?_
  obtain ⟨r3, σ3, τ3, c3, h⟩ := obs h
  refine mr_callV0 (pc := 18) (ci := 4) [.int (0 : Int32), .int (r2 - (1 : Int32))] ok_X4_readNumber lk_82 st_X4_readNumber se_X4_readNumber dX4_readLoad_18 rfl (ha_27 σ2 τ2) rfl rfl (Nat.le_of_ble_eq_true rfl) (Nat.le_of_ble_eq_true rfl) ((dc_T_readNumber c3).up (by decide)) ?_
  refine mr_istore_n (pc := 21) dX4_readLoad_21 (Nat.le_of_ble_eq_true rfl) (show mc_V M_X4_readLoad 3 none 22 [.ref 27, .ref 4, .int r3, .retAddr 0, .retAddr 0] [] (mc_hp σ3 τ3) (some (.int r)) (mc_hp σ' τ') 0 0 from ?_)
  refine mr_iload_n (pc := 22) dX4_readLoad_22 rfl ?_
  refine mr_if_ge (pc := 23) 28 dX4_readLoad_23 (by decide) (fun q4 => ?_) (fun q4 => ?_)
  · replace h := (if_pos q4).symm.trans h
    refine mr_aload_n (pc := 28) dX4_readLoad_28 rfl ?_
    refine mr_iconstv (pc := 29) (0 : Int32) dX4_readLoad_29 (by decide) ?_
    refine mr_iconstv (pc := 30) (2 : Int32) dX4_readLoad_30 (by decide) ?_
    refine mr_aload_n (pc := 31) dX4_readLoad_31 rfl ?_
    refine mr_iload_n (pc := 32) dX4_readLoad_32 rfl ?_
    refine mr_iconstv (pc := 33) (1 : Int32) dX4_readLoad_33 (by decide) ?_
    obtain ⟨r5, σ5, τ5, c5, h⟩ := obs h
    refine mr_callV0 (pc := 34) (ci := 2) [.int r3, .int (1 : Int32)] ok_X2_get lk_85 st_X2_get se_X2_get dX4_readLoad_34 rfl (ha_4 σ3 τ3) rfl rfl (Nat.le_of_ble_eq_true rfl) (Nat.le_of_ble_eq_true rfl) ((dc_P_get_4 c5).up (by decide)) ?_
    refine mr_imul (pc := 37) dX4_readLoad_37 ?_
    obtain ⟨r6, σ6, τ6, c6, h⟩ := obs h
    refine mr_callV0 (pc := 38) (ci := 4) [.int (0 : Int32), .int ((2 : Int32) * r5)] ok_X4_readNumber lk_82 st_X4_readNumber se_X4_readNumber dX4_readLoad_38 rfl (ha_27 σ5 τ5) rfl rfl (Nat.le_of_ble_eq_true rfl) (Nat.le_of_ble_eq_true rfl) ((dc_T_readNumber c6).up (by decide)) ?_
    refine mr_istore_n (pc := 41) dX4_readLoad_41 (Nat.le_of_ble_eq_true rfl) (show mc_V M_X4_readLoad 3 none 42 [.ref 27, .ref 4, .int r3, .int r6, .retAddr 0] [] (mc_hp σ6 τ6) (some (.int r)) (mc_hp σ' τ') 0 0 from ?_)
    refine mr_iload_n (pc := 42) dX4_readLoad_42 rfl ?_
    refine mr_if_ge (pc := 43) 48 dX4_readLoad_43 (by decide) (fun q7 => ?_) (fun q7 => ?_)
    · replace h := (if_pos q7).symm.trans h
      refine mr_aload_n (pc := 48) dX4_readLoad_48 rfl ?_
      refine mr_iconstv (pc := 49) (0 : Int32) dX4_readLoad_49 (by decide) ?_
      refine mr_bipushv (pc := 50) (20 : Int32) dX4_readLoad_50 (by decide) ?_
      obtain ⟨r8, σ8, τ8, c8, h⟩ := obs h
      refine mr_callV0 (pc := 52) (ci := 4) [.int (0 : Int32), .int (20 : Int32)] ok_X4_readNumber lk_82 st_X4_readNumber se_X4_readNumber dX4_readLoad_52 rfl (ha_27 σ6 τ6) rfl rfl (Nat.le_of_ble_eq_true rfl) (Nat.le_of_ble_eq_true rfl) ((dc_T_readNumber c8).up (by decide)) ?_
      refine mr_istore (pc := 55) dX4_readLoad_55 (Nat.le_of_ble_eq_true rfl) (show mc_V M_X4_readLoad 3 none 57 [.ref 27, .ref 4, .int r3, .int r6, .int r8] [] (mc_hp σ8 τ8) (some (.int r)) (mc_hp σ' τ') 0 0 from ?_)
      refine mr_iload (pc := 57) dX4_readLoad_57 rfl ?_
      refine mr_if_lt (pc := 59) 69 dX4_readLoad_59 (by decide) (fun q9 => ?_) (fun q9 => ?_)
      · replace h := (if_pos q9).symm.trans h
        refine mr_iconstv (pc := 69) (0 : Int32) dX4_readLoad_69 (by decide) ?_
        obtain ⟨rfl, rfl, rfl⟩ := os3 h
        exact mr_iret (pc := 70) rfl (rfl) dX4_readLoad_70
      · replace h := (if_neg q9).symm.trans h
        refine mr_aload_n (pc := 62) dX4_readLoad_62 rfl ?_
        obtain ⟨r10, σ10, τ10, c10, h⟩ := obs h
        refine mr_callV0 (pc := 63) (ci := 4) [] ok_X4_readEnd lk_83 st_X4_readEnd se_X4_readEnd dX4_readLoad_63 rfl (ha_27 σ8 τ8) rfl rfl (Nat.le_of_ble_eq_true rfl) (Nat.le_of_ble_eq_true rfl) ((dc_T_readEnd c10).up (by decide)) ?_
        refine mr_if_ne (pc := 66) 71 dX4_readLoad_66 (by decide) (fun q11 => ?_) (fun q11 => ?_)
        · replace h := (if_neg q11).symm.trans h
          refine mr_aload_n (pc := 71) dX4_readLoad_71 rfl ?_
          refine mr_iload_n (pc := 72) dX4_readLoad_72 rfl ?_
          refine mr_iconstv (pc := 73) (4 : Int32) dX4_readLoad_73 (by decide) ?_
          refine mr_iload_n (pc := 74) dX4_readLoad_74 rfl ?_
          obtain ⟨σ12, τ12, c12, h⟩ := ovs h
          refine mr_callV0 (pc := 75) (ci := 2) [.int r3, .int (4 : Int32), .int r6] ok_X2_set lk_86 st_X2_set se_X2_set dX4_readLoad_75 rfl (ha_4 σ10 τ10) rfl rfl (Nat.le_of_ble_eq_true rfl) (Nat.le_of_ble_eq_true rfl) ((dc_P_set_4 c12).up (by decide)) ?_
          refine mr_aload_n (pc := 78) dX4_readLoad_78 rfl ?_
          refine mr_iload_n (pc := 79) dX4_readLoad_79 rfl ?_
          refine mr_iconstv (pc := 80) (3 : Int32) dX4_readLoad_80 (by decide) ?_
          refine mr_iload (pc := 81) dX4_readLoad_81 rfl ?_
          obtain ⟨σ13, τ13, c13, h⟩ := ovs h
          refine mr_callV0 (pc := 83) (ci := 2) [.int r3, .int (3 : Int32), .int r8] ok_X2_set lk_86 st_X2_set se_X2_set dX4_readLoad_83 rfl (ha_4 σ12 τ12) rfl rfl (Nat.le_of_ble_eq_true rfl) (Nat.le_of_ble_eq_true rfl) ((dc_P_set_4 c13).up (by decide)) ?_
          refine mr_iconstv (pc := 86) (1 : Int32) dX4_readLoad_86 (by decide) ?_
          obtain ⟨rfl, rfl, rfl⟩ := os3 h
          exact mr_iret (pc := 87) rfl (rfl) dX4_readLoad_87
        · replace h := (if_pos q11).symm.trans h
          refine mr_iconstv (pc := 69) (0 : Int32) dX4_readLoad_69 (by decide) ?_
          obtain ⟨rfl, rfl, rfl⟩ := os3 h
          exact mr_iret (pc := 70) rfl (rfl) dX4_readLoad_70
    · replace h := (if_neg q7).symm.trans h
      refine mr_iconstv (pc := 46) (0 : Int32) dX4_readLoad_46 (by decide) ?_
      obtain ⟨rfl, rfl, rfl⟩ := os3 h
      exact mr_iret (pc := 47) rfl (rfl) dX4_readLoad_47
  · replace h := (if_neg q4).symm.trans h
    refine mr_iconstv (pc := 26) (0 : Int32) dX4_readLoad_26 (by decide) ?_
    obtain ⟨rfl, rfl, rfl⟩ := os3 h
    exact mr_iret (pc := 27) rfl (rfl) dX4_readLoad_27
set_option maxHeartbeats 4000000 in
set_option maxRecDepth 100000 in
theorem dc_T_readItem_4 {σ : mS} {τ : mT} {r : Int32} {σ' : mS} {τ' : mT} (h : T_readItem_4 σ τ = some (r, σ', τ')) : mc_V M_X4_readItem 4 none 0 (mc_entry [.ref 27, .ref 4] 2) [] (mc_hp σ τ) (some (.int r)) (mc_hp σ' τ') 0 0 := by
  unfold T_readItem_4 at h
  show mc_V M_X4_readItem 4 none 0 [.ref 27, .ref 4] [] (mc_hp σ τ) (some (.int r)) (mc_hp σ' τ') 0 0
  refine mr_aload_n (pc := 0) dX4_readItem_0 rfl ?_
  obtain ⟨r1, σ1, τ1, c1, h⟩ := obs h
  refine mr_callV0 (pc := 1) (ci := 4) [] ok_X4_next lk_78 st_X4_next se_X4_next dX4_readItem_1 rfl (ha_27 σ τ) rfl rfl (Nat.le_of_ble_eq_true rfl) (Nat.le_of_ble_eq_true rfl) ((dc_T_next c1).up (by decide)) ?_
  by_cases q2 : r1 = 98
  · replace h := (if_pos q2).symm.trans h
    refine mr_lookup (pc := 4) 28 32 dX4_readItem_4 (by decide) (by rw [q2]; rfl) (by decide) ?_
    refine mr_aload_n (pc := 32) dX4_readItem_32 rfl ?_
    refine mr_aload_n (pc := 33) dX4_readItem_33 rfl ?_
    obtain ⟨r3, σ3, τ3, c3, h⟩ := obs h
    refine mr_callV0 (pc := 34) (ci := 4) [.ref 4] ok_X4_readBlock lk_79 st_X4_readBlock se_X4_readBlock dX4_readItem_34 rfl (ha_27 σ1 τ1) rfl rfl (Nat.le_of_ble_eq_true rfl) (Nat.le_of_ble_eq_true rfl) ((dc_T_readBlock_4 c3).up (by decide)) ?_
    obtain ⟨g4, h⟩ := og h
    obtain ⟨rfl, rfl, rfl⟩ := os3 h
    exact mr_iret (pc := 37) rfl (nar_b g4) dX4_readItem_37
  · replace h := (if_neg q2).symm.trans h
    by_cases q5 : r1 = 108
    · replace h := (if_pos q5).symm.trans h
      refine mr_lookup (pc := 4) 34 38 dX4_readItem_4 (by decide) (by rw [q5]; rfl) (by decide) ?_
      refine mr_aload_n (pc := 38) dX4_readItem_38 rfl ?_
      refine mr_aload_n (pc := 39) dX4_readItem_39 rfl ?_
      obtain ⟨r6, σ6, τ6, c6, h⟩ := obs h
      refine mr_callV0 (pc := 40) (ci := 4) [.ref 4] ok_X4_readLoad lk_80 st_X4_readLoad se_X4_readLoad dX4_readItem_40 rfl (ha_27 σ1 τ1) rfl rfl (Nat.le_of_ble_eq_true rfl) (Nat.le_of_ble_eq_true rfl) ((dc_T_readLoad_4 c6).up (by decide)) ?_
      obtain ⟨g7, h⟩ := og h
      obtain ⟨rfl, rfl, rfl⟩ := os3 h
      exact mr_iret (pc := 43) rfl (nar_b g7) dX4_readItem_43
    · replace h := (if_neg q5).symm.trans h
      refine mr_lookup (pc := 4) 40 44 dX4_readItem_4 (by decide) (by show Op.lookupswitch.offset [(98, 28), (108, 34)] 40 _ = _; rw [lv_osw q2 (k := 98) (by decide), lv_osw q5 (k := 108) (by decide)]; rfl) (by decide) ?_
      refine mr_iconstv (pc := 44) (0 : Int32) dX4_readItem_44 (by decide) ?_
      obtain ⟨rfl, rfl, rfl⟩ := os3 h
      exact mr_iret (pc := 45) rfl (rfl) dX4_readItem_45
set_option maxHeartbeats 4000000 in
set_option maxRecDepth 100000 in
theorem dc_T_readInto_4_l11 : ∀ (n : Nat), ∀ (x2 : Int32) (σ : mS) (τ : mT) (r : Int32) (σ' : mS) (τ' : mT), T_readInto_4_l11 n x2 σ τ = some (r, σ', τ') → mc_V M_X4_readInto 5 none 11 [.ref 27, .ref 4, .int x2] [] (mc_hp σ τ) (some (.int r)) (mc_hp σ' τ') 0 0 := by
  intro n
  induction n with
  | zero =>
    intros
    rename_i h
    cases h
  | succ n ih =>
    intro x2 σ τ r σ' τ' h
    refine mr_iload_n (pc := 11) dX4_readInto_11 rfl ?_
    refine mr_bipushv (pc := 12) (120 : Int32) dX4_readInto_12 (by decide) ?_
    refine mr_icmp_gt (pc := 14) 50 dX4_readInto_14 (by decide) (fun q1 => ?_) (fun q1 => ?_)
    · replace h := (if_pos q1).symm.trans h
      refine mr_iconstv (pc := 50) (-1 : Int32) dX4_readInto_50 (by decide) ?_
      obtain ⟨rfl, rfl, rfl⟩ := os3 h
      exact mr_iret (pc := 51) rfl (rfl) dX4_readInto_51
    · replace h := (if_neg q1).symm.trans h
      refine mr_aload_n (pc := 17) dX4_readInto_17 rfl ?_
      obtain ⟨σ2, τ2, c2, h⟩ := ovs h
      refine mr_callV0 (pc := 18) (ci := 4) [] ok_X4_skipBlanks lk_76 st_X4_skipBlanks se_X4_skipBlanks dX4_readInto_18 rfl (ha_27 σ τ) rfl rfl (Nat.le_of_ble_eq_true rfl) (Nat.le_of_ble_eq_true rfl) ((dc_T_skipBlanks c2).up (by decide)) ?_
      refine mr_aload_n (pc := 21) dX4_readInto_21 rfl ?_
      refine mr_getf (pc := 22) (ci := 4) inX4 rfl 2 (by decide) fl_30 dX4_readInto_22 (ha_27 σ2 τ2) rfl ?_
      refine mr_aload_n (pc := 25) dX4_readInto_25 rfl ?_
      refine mr_getf (pc := 26) (ci := 4) inX4 rfl 1 (by decide) fl_29 dX4_readInto_26 (ha_27 σ2 τ2) rfl ?_
      refine mr_icmp_lt (pc := 29) 34 dX4_readInto_29 (by decide) (fun q3 => ?_) (fun q3 => ?_)
      · replace h := (if_pos q3).symm.trans h
        refine mr_aload_n (pc := 34) dX4_readInto_34 rfl ?_
        refine mr_aload_n (pc := 35) dX4_readInto_35 rfl ?_
        obtain ⟨r4, σ4, τ4, c4, h⟩ := obs h
        refine mr_callV0 (pc := 36) (ci := 4) [.ref 4] ok_X4_readItem lk_77 st_X4_readItem se_X4_readItem dX4_readInto_36 rfl (ha_27 σ2 τ2) rfl rfl (Nat.le_of_ble_eq_true rfl) (Nat.le_of_ble_eq_true rfl) ((dc_T_readItem_4 c4).up (by decide)) ?_
        refine mr_if_ne (pc := 39) 44 dX4_readInto_39 (by decide) (fun q5 => ?_) (fun q5 => ?_)
        · replace h := (if_neg q5).symm.trans h
          refine mr_iincv (pc := 44) (1 : Int32) dX4_readInto_44 rfl (by decide) (show mc_V M_X4_readInto 5 none 47 [.ref 27, .ref 4, .int (x2 + (1 : Int32))] [] (mc_hp σ4 τ4) (some (.int r)) (mc_hp σ' τ') 0 0 from ?_)
          refine mr_goto (pc := 47) 11 dX4_readInto_47 (by decide) ?_
          exact mc_V.locs (loc' := [.ref 27, .ref 4, .int (x2 + (1 : Int32))]) ⟨Or.inr rfl, Or.inr rfl, Or.inr rfl, trivial⟩ (ih (x2 + (1 : Int32)) σ4 τ4 r σ' τ' h)
        · replace h := (if_pos q5).symm.trans h
          refine mr_iconstv (pc := 42) (-1 : Int32) dX4_readInto_42 (by decide) ?_
          obtain ⟨rfl, rfl, rfl⟩ := os3 h
          exact mr_iret (pc := 43) rfl (rfl) dX4_readInto_43
      · replace h := (if_neg q3).symm.trans h
        refine mr_iload_n (pc := 32) dX4_readInto_32 rfl ?_
        obtain ⟨rfl, rfl, rfl⟩ := os3 h
        exact mr_iret (pc := 33) rfl (rfl) dX4_readInto_33
set_option maxHeartbeats 4000000 in
set_option maxRecDepth 100000 in
theorem dc_T_readInto_4 {σ : mS} {τ : mT} {r : Int32} {σ' : mS} {τ' : mT} (h : T_readInto_4 σ τ = some (r, σ', τ')) : mc_V M_X4_readInto 5 none 0 (mc_entry [.ref 27, .ref 4] 3) [] (mc_hp σ τ) (some (.int r)) (mc_hp σ' τ') 0 0 := by
  unfold T_readInto_4 at h
  show mc_V M_X4_readInto 5 none 0 [.ref 27, .ref 4, .retAddr 0] [] (mc_hp σ τ) (some (.int r)) (mc_hp σ' τ') 0 0
  refine mr_aload_n (pc := 0) dX4_readInto_0 rfl ?_
  obtain ⟨σ1, τ1, c1, h⟩ := ovs h
  refine mr_callV0 (pc := 1) (ci := 2) [] ok_X2_empty lk_75 st_X2_empty se_X2_empty dX4_readInto_1 rfl (ha_4 σ τ) rfl rfl (Nat.le_of_ble_eq_true rfl) (Nat.le_of_ble_eq_true rfl) ((dc_P_empty_4 c1).up (by decide)) ?_
  refine mr_aload_n (pc := 4) dX4_readInto_4 rfl ?_
  refine mr_iconstv (pc := 5) (0 : Int32) dX4_readInto_5 (by decide) ?_
  obtain ⟨σ2, e2, h⟩ := ow h
  refine mr_putf (pc := 6) (ci := 4) inX4 tyX4 tyX4_ok nmX4 rfl 2 (by decide) fl_30 rfl dX4_readInto_6 (ha_27 σ1 τ1) (Nat.le_of_ble_eq_true rfl) rfl (mc_V.heap (hs_27_2 e2) ?_)
  refine mr_iconstv (pc := 9) (0 : Int32) dX4_readInto_9 (by decide) ?_
  refine mr_istore_n (pc := 10) dX4_readInto_10 (Nat.le_of_ble_eq_true rfl) (show mc_V M_X4_readInto 5 none 11 [.ref 27, .ref 4, .int (0 : Int32)] [] (mc_hp σ2 τ1) (some (.int r)) (mc_hp σ' τ') 0 0 from ?_)
  exact mc_V.locs (loc' := [.ref 27, .ref 4, .int (0 : Int32)]) ⟨Or.inr rfl, Or.inr rfl, Or.inr rfl, trivial⟩ (dc_T_readInto_4_l11 mc_F (0 : Int32) σ2 τ1 r σ' τ' h)
set_option maxHeartbeats 4000000 in
set_option maxRecDepth 100000 in
theorem dc_S_write_29_2 {p1 : Int32} {σ : mS} {τ : mT} {σ' : mS} {τ' : mT} (h : S_write_29_2 p1 σ τ = some (σ', τ')) : mc_V M_X3_write 1 none 0 (mc_entry [.ref 29, .int p1, .ref 2] 3) [] (mc_hp σ τ) none (mc_hp σ' τ') 0 0 := by
  unfold S_write_29_2 at h
  show mc_V M_X3_write 1 none 0 [.ref 29, .int p1, .ref 2] [] (mc_hp σ τ) none (mc_hp σ' τ') 0 0
  refine mr_iload_n (pc := 0) dX3_write_0 rfl ?_
  refine mr_iconstv (pc := 1) (0 : Int32) dX3_write_1 (by decide) ?_
  refine mr_aload_n (pc := 2) dX3_write_2 rfl ?_
  refine mr_getf (pc := 3) (ci := 3) inX3 rfl 0 (by decide) fl_26 dX3_write_3 (ha_29 σ τ) rfl ?_
  refine mr_iconstv (pc := 6) (1 : Int32) dX3_write_6 (by decide) ?_
  refine mr_isub (pc := 7) dX3_write_7 ?_
  obtain ⟨r1, σ1, τ1, c1, h⟩ := obs h
  refine mr_callSN0 (pc := 8) [.int p1, .int (0 : Int32), .int ((6 : Int32) - (1 : Int32))] ok_X5_within lk_189 st_X5_within dX3_write_8 rfl rfl (Nat.le_of_ble_eq_true rfl) (Nat.le_of_ble_eq_true rfl) ((dc_R_within c1).up (by decide)) ?_
  refine mr_if_eq (pc := 11) 32 dX3_write_11 (by decide) (fun q2 => ?_) (fun q2 => ?_)
  · replace h := (if_pos q2).symm.trans h
    obtain ⟨rfl, rfl⟩ := os2 h
    exact mr_ret (pc := 32) rfl dX3_write_32
  · replace h := (if_neg q2).symm.trans h
    refine mr_aload_n (pc := 14) dX3_write_14 rfl ?_
    refine mr_getfN (pc := 15) (ci := 2) inX2 rfl 0 (by decide) fl_58 dX3_write_15 (ha_2 σ1 τ1) rfl ?_
    refine mr_iconstv (pc := 18) (0 : Int32) dX3_write_18 (by decide) ?_
    refine mr_aload_n (pc := 19) dX3_write_19 rfl ?_
    refine mr_getf (pc := 20) (ci := 3) inX3 rfl 1 (by decide) fl_27 dX3_write_20 (ha_29 σ1 τ1) rfl ?_
    refine mr_iload_n (pc := 23) dX3_write_23 rfl ?_
    refine mr_bipushv (pc := 24) (21 : Int32) dX3_write_24 (by decide) ?_
    refine mr_imul (pc := 26) dX3_write_26 ?_
    refine mr_bipushv (pc := 27) (21 : Int32) dX3_write_27 (by decide) ?_
    obtain ⟨g3, h⟩ := og h
    obtain ⟨g4, h⟩ := og h
    obtain ⟨σ5, e5, h⟩ := ow h
    refine mr_copy (pc := 29) cp_X3 cp_nat cp_stat cp_ini dX3_write_29 (ha_3 σ1 τ1) (ha_30 σ1 τ1) (by decide) g3 (by decide) (Nat.le_of_ble_eq_true rfl) (Nat.not_lt.mp g4) (Nat.le_of_ble_eq_true rfl) (mc_V.heap (hc_30 e5) ?_)
    obtain ⟨rfl, rfl⟩ := os2 h
    exact mr_ret (pc := 32) rfl dX3_write_32
set_option maxHeartbeats 4000000 in
set_option maxRecDepth 100000 in
theorem dc_S_forgetFirst_29 {σ : mS} {τ : mT} {σ' : mS} {τ' : mT} (h : S_forgetFirst_29 σ τ = some (σ', τ')) : mc_V M_X3_forgetFirst 1 none 0 (mc_entry [.ref 29] 1) [] (mc_hp σ τ) none (mc_hp σ' τ') 0 0 := by
  unfold S_forgetFirst_29 at h
  show mc_V M_X3_forgetFirst 1 none 0 [.ref 29] [] (mc_hp σ τ) none (mc_hp σ' τ') 0 0
  refine mr_aload_n (pc := 0) dX3_forgetFirst_0 rfl ?_
  refine mr_getf (pc := 1) (ci := 3) inX3 rfl 1 (by decide) fl_27 dX3_forgetFirst_1 (ha_29 σ τ) rfl ?_
  refine mr_bipushv (pc := 4) (21 : Int32) dX3_forgetFirst_4 (by decide) ?_
  refine mr_aload_n (pc := 6) dX3_forgetFirst_6 rfl ?_
  refine mr_getf (pc := 7) (ci := 3) inX3 rfl 1 (by decide) fl_27 dX3_forgetFirst_7 (ha_29 σ τ) rfl ?_
  refine mr_iconstv (pc := 10) (0 : Int32) dX3_forgetFirst_10 (by decide) ?_
  refine mr_aload_n (pc := 11) dX3_forgetFirst_11 rfl ?_
  refine mr_getf (pc := 12) (ci := 3) inX3 rfl 0 (by decide) fl_26 dX3_forgetFirst_12 (ha_29 σ τ) rfl ?_
  refine mr_iconstv (pc := 15) (1 : Int32) dX3_forgetFirst_15 (by decide) ?_
  refine mr_isub (pc := 16) dX3_forgetFirst_16 ?_
  refine mr_bipushv (pc := 17) (21 : Int32) dX3_forgetFirst_17 (by decide) ?_
  refine mr_imul (pc := 19) dX3_forgetFirst_19 ?_
  obtain ⟨g1, h⟩ := og h
  obtain ⟨g2, h⟩ := og h
  obtain ⟨g3, h⟩ := og h
  obtain ⟨σ4, e4, h⟩ := ow h
  refine mr_copy (pc := 20) cp_X3 cp_nat cp_stat cp_ini dX3_forgetFirst_20 (ha_30 σ τ) (ha_30 σ τ) (by decide) (by decide) g1 (Nat.not_lt.mp g2) (Nat.not_lt.mp g3) (Nat.le_of_ble_eq_true rfl) (mc_V.heap (hc_30 e4) ?_)
  obtain ⟨rfl, rfl⟩ := os2 h
  exact mr_ret (pc := 23) rfl dX3_forgetFirst_23
set_option maxHeartbeats 4000000 in
set_option maxRecDepth 100000 in
theorem dc_R_remember_b21 : ∀ (σ : mS) (τ : mT) (σ' : mS) (τ' : mT), R_remember_b21 σ τ = some (σ', τ') → mc_V M_X5_remember 2 none 21 [.ref 1] [] (mc_hp σ τ) none (mc_hp σ' τ') 0 0 := by
  intro σ τ σ' τ' h
  unfold R_remember_b21 at h
  refine mr_aload_n (pc := 21) dX5_remember_21 rfl ?_
  refine mr_getf (pc := 22) (ci := 5) inX5 rfl 5 (by decide) fl_5 dX5_remember_22 (ha_1 σ τ) rfl ?_
  refine mr_aload_n (pc := 25) dX5_remember_25 rfl ?_
  refine mr_getf (pc := 26) (ci := 5) inX5 rfl 8 (by decide) fl_8 dX5_remember_26 (ha_1 σ τ) rfl ?_
  refine mr_aload_n (pc := 29) dX5_remember_29 rfl ?_
  refine mr_getf (pc := 30) (ci := 5) inX5 rfl 0 (by decide) fl_0 dX5_remember_30 (ha_1 σ τ) rfl ?_
  obtain ⟨σ1, τ1, c1, h⟩ := ovs h
  refine mr_callV0 (pc := 33) (ci := 3) [.int (σ 1 8), .ref 2] ok_X3_write lk_32 st_X3_write se_X3_write dX5_remember_33 rfl (ha_29 σ τ) rfl rfl (Nat.le_of_ble_eq_true rfl) (Nat.le_of_ble_eq_true rfl) ((dc_S_write_29_2 c1).up (by decide)) ?_
  refine mr_aload_n (pc := 36) dX5_remember_36 rfl ?_
  refine mr_dup (pc := 37) dX5_remember_37 rfl ?_
  refine mr_getf (pc := 38) (ci := 5) inX5 rfl 8 (by decide) fl_8 dX5_remember_38 (ha_1 σ1 τ1) rfl ?_
  refine mr_iconstv (pc := 41) (1 : Int32) dX5_remember_41 (by decide) ?_
  refine mr_iadd (pc := 42) dX5_remember_42 ?_
  obtain ⟨σ2, e2, h⟩ := ow h
  refine mr_putf (pc := 43) (ci := 5) inX5 tyX5 tyX5_ok nmX5 rfl 8 (by decide) fl_8 rfl dX5_remember_43 (ha_1 σ1 τ1) (Nat.le_of_ble_eq_true rfl) rfl (mc_V.heap (hs_1_8 e2) ?_)
  obtain ⟨rfl, rfl⟩ := os2 h
  exact mr_ret (pc := 46) rfl dX5_remember_46
set_option maxHeartbeats 4000000 in
set_option maxRecDepth 100000 in
theorem dc_R_remember {σ : mS} {τ : mT} {σ' : mS} {τ' : mT} (h : R_remember σ τ = some (σ', τ')) : mc_V M_X5_remember 2 none 0 (mc_entry [.ref 1] 1) [] (mc_hp σ τ) none (mc_hp σ' τ') 0 0 := by
  unfold R_remember at h
  show mc_V M_X5_remember 2 none 0 [.ref 1] [] (mc_hp σ τ) none (mc_hp σ' τ') 0 0
  refine mr_aload_n (pc := 0) dX5_remember_0 rfl ?_
  refine mr_getf (pc := 1) (ci := 5) inX5 rfl 8 (by decide) fl_8 dX5_remember_1 (ha_1 σ τ) rfl ?_
  refine mr_bipushv (pc := 4) (6 : Int32) dX5_remember_4 (by decide) ?_
  refine mr_icmp_lt (pc := 6) 21 dX5_remember_6 (by decide) (fun q1 => ?_) (fun q1 => ?_)
  · replace h := (if_pos q1).symm.trans h
    exact mc_V.locs (loc' := [.ref 1]) ⟨Or.inr rfl, trivial⟩ (dc_R_remember_b21 σ τ σ' τ' h)
  · replace h := (if_neg q1).symm.trans h
    refine mr_aload_n (pc := 9) dX5_remember_9 rfl ?_
    refine mr_getf (pc := 10) (ci := 5) inX5 rfl 5 (by decide) fl_5 dX5_remember_10 (ha_1 σ τ) rfl ?_
    obtain ⟨σ2, τ2, c2, h⟩ := ovs h
    refine mr_callV0 (pc := 13) (ci := 3) [] ok_X3_forgetFirst lk_35 st_X3_forgetFirst se_X3_forgetFirst dX5_remember_13 rfl (ha_29 σ τ) rfl rfl (Nat.le_of_ble_eq_true rfl) (Nat.le_of_ble_eq_true rfl) ((dc_S_forgetFirst_29 c2).up (by decide)) ?_
    refine mr_aload_n (pc := 16) dX5_remember_16 rfl ?_
    refine mr_iconstv (pc := 17) (5 : Int32) dX5_remember_17 (by decide) ?_
    obtain ⟨σ3, e3, h⟩ := ow h
    refine mr_putf (pc := 18) (ci := 5) inX5 tyX5 tyX5_ok nmX5 rfl 8 (by decide) fl_8 rfl dX5_remember_18 (ha_1 σ2 τ2) (Nat.le_of_ble_eq_true rfl) rfl (mc_V.heap (hs_1_8 e3) ?_)
    exact mc_V.locs (loc' := [.ref 1]) ⟨Or.inr rfl, trivial⟩ (dc_R_remember_b21 σ3 τ2 σ' τ' h)
set_option maxHeartbeats 4000000 in
set_option maxRecDepth 100000 in
theorem dc_P_copy_2_4 {σ : mS} {τ : mT} {σ' : mS} {τ' : mT} (h : P_copy_2_4 σ τ = some (σ', τ')) : mc_V M_X2_copy 1 none 0 (mc_entry [.ref 2, .ref 4] 2) [] (mc_hp σ τ) none (mc_hp σ' τ') 0 0 := by
  unfold P_copy_2_4 at h
  show mc_V M_X2_copy 1 none 0 [.ref 2, .ref 4] [] (mc_hp σ τ) none (mc_hp σ' τ') 0 0
  refine mr_aload_n (pc := 0) dX2_copy_0 rfl ?_
  refine mr_getf (pc := 1) (ci := 2) inX2 rfl 0 (by decide) fl_25 dX2_copy_1 (ha_4 σ τ) rfl ?_
  refine mr_iconstv (pc := 4) (0 : Int32) dX2_copy_4 (by decide) ?_
  refine mr_aload_n (pc := 5) dX2_copy_5 rfl ?_
  refine mr_getf (pc := 6) (ci := 2) inX2 rfl 0 (by decide) fl_25 dX2_copy_6 (ha_2 σ τ) rfl ?_
  refine mr_iconstv (pc := 9) (0 : Int32) dX2_copy_9 (by decide) ?_
  refine mr_bipushv (pc := 10) (21 : Int32) dX2_copy_10 (by decide) ?_
  obtain ⟨σ1, e1, h⟩ := ow h
  refine mr_copy (pc := 12) cp_X2 cp_nat cp_stat cp_ini dX2_copy_12 (ha_5 σ τ) (ha_3 σ τ) (by decide) (by decide) (by decide) (Nat.le_of_ble_eq_true rfl) (Nat.le_of_ble_eq_true rfl) (Nat.le_of_ble_eq_true rfl) (mc_V.heap (hc_3 e1) ?_)
  obtain ⟨rfl, rfl⟩ := os2 h
  exact mr_ret (pc := 15) rfl dX2_copy_15
set_option maxHeartbeats 4000000 in
set_option maxRecDepth 100000 in
theorem dc_T_place {σ : mS} {τ : mT} {r : Int32} {σ' : mS} {τ' : mT} (h : T_place σ τ = some (r, σ', τ')) : mc_V M_X4_place 0 none 0 (mc_entry [.ref 27] 1) [] (mc_hp σ τ) (some (.int r)) (mc_hp σ' τ') 0 0 := by
  unfold T_place at h
  show mc_V M_X4_place 0 none 0 [.ref 27] [] (mc_hp σ τ) (some (.int r)) (mc_hp σ' τ') 0 0
  refine mr_aload_n (pc := 0) dX4_place_0 rfl ?_
  refine mr_getf (pc := 1) (ci := 4) inX4 rfl 2 (by decide) fl_30 dX4_place_1 (ha_27 σ τ) rfl ?_
  obtain ⟨rfl, rfl, rfl⟩ := os3 h
  exact mr_iret (pc := 4) rfl (rfl) dX4_place_4
set_option maxHeartbeats 4000000 in
set_option maxRecDepth 100000 in
theorem dc_R_tells {σ : mS} {τ : mT} {r : Int32} {σ' : mS} {τ' : mT} (h : R_tells σ τ = some (r, σ', τ')) : mc_V M_X5_tells 6 none 0 (mc_entry [.ref 1] 2) [] (mc_hp σ τ) (some (.int r)) (mc_hp σ' τ') 0 0 := by
  unfold R_tells at h
  show mc_V M_X5_tells 6 none 0 [.ref 1, .retAddr 0] [] (mc_hp σ τ) (some (.int r)) (mc_hp σ' τ') 0 0
  refine mr_aload_n (pc := 0) dX5_tells_0 rfl ?_
  refine mr_getf (pc := 1) (ci := 5) inX5 rfl 4 (by decide) fl_4 dX5_tells_1 (ha_1 σ τ) rfl ?_
  refine mr_aload_n (pc := 4) dX5_tells_4 rfl ?_
  refine mr_getf (pc := 5) (ci := 5) inX5 rfl 1 (by decide) fl_1 dX5_tells_5 (ha_1 σ τ) rfl ?_
  obtain ⟨r1, σ1, τ1, c1, h⟩ := obs h
  refine mr_callV0 (pc := 8) (ci := 4) [.ref 4] ok_X4_readInto lk_5 st_X4_readInto se_X4_readInto dX5_tells_8 rfl (ha_27 σ τ) rfl rfl (Nat.le_of_ble_eq_true rfl) (Nat.le_of_ble_eq_true rfl) ((dc_T_readInto_4 c1).up (by decide)) ?_
  refine mr_istore_n (pc := 11) dX5_tells_11 (Nat.le_of_ble_eq_true rfl) (show mc_V M_X5_tells 6 none 12 [.ref 1, .int r1] [] (mc_hp σ1 τ1) (some (.int r)) (mc_hp σ' τ') 0 0 from ?_)
  refine mr_iload_n (pc := 12) dX5_tells_12 rfl ?_
  refine mr_if_ge (pc := 13) 27 dX5_tells_13 (by decide) (fun q2 => ?_) (fun q2 => ?_)
  · replace h := (if_pos q2).symm.trans h
    refine mr_aload_n (pc := 27) dX5_tells_27 rfl ?_
    obtain ⟨σ3, τ3, c3, h⟩ := ovs h
    refine mr_callV0 (pc := 28) (ci := 5) [] ok_X5_remember lk_7 st_X5_remember se_X5_remember dX5_tells_28 rfl (ha_1 σ1 τ1) rfl rfl (Nat.le_of_ble_eq_true rfl) (Nat.le_of_ble_eq_true rfl) ((dc_R_remember c3).up (by decide)) ?_
    refine mr_aload_n (pc := 31) dX5_tells_31 rfl ?_
    refine mr_getf (pc := 32) (ci := 5) inX5 rfl 0 (by decide) fl_0 dX5_tells_32 (ha_1 σ3 τ3) rfl ?_
    refine mr_aload_n (pc := 35) dX5_tells_35 rfl ?_
    refine mr_getf (pc := 36) (ci := 5) inX5 rfl 1 (by decide) fl_1 dX5_tells_36 (ha_1 σ3 τ3) rfl ?_
    obtain ⟨σ4, τ4, c4, h⟩ := ovs h
    refine mr_callV0 (pc := 39) (ci := 2) [.ref 4] ok_X2_copy lk_8 st_X2_copy se_X2_copy dX5_tells_39 rfl (ha_2 σ3 τ3) rfl rfl (Nat.le_of_ble_eq_true rfl) (Nat.le_of_ble_eq_true rfl) ((dc_P_copy_2_4 c4).up (by decide)) ?_
    refine mr_aload_n (pc := 42) dX5_tells_42 rfl ?_
    refine mr_getf (pc := 43) (ci := 5) inX5 rfl 4 (by decide) fl_4 dX5_tells_43 (ha_1 σ4 τ4) rfl ?_
    obtain ⟨σ5, τ5, c5, h⟩ := ovs h
    refine mr_callV0 (pc := 46) (ci := 4) [] ok_X4_wipe lk_4 st_X4_wipe se_X4_wipe dX5_tells_46 rfl (ha_27 σ4 τ4) rfl rfl (Nat.le_of_ble_eq_true rfl) (Nat.le_of_ble_eq_true rfl) ((dc_T_wipe c5).up (by decide)) ?_
    refine mr_iload_n (pc := 49) dX5_tells_49 rfl ?_
    obtain ⟨rfl, rfl, rfl⟩ := os3 h
    exact mr_iret (pc := 50) rfl (rfl) dX5_tells_50
  · replace h := (if_neg q2).symm.trans h
    refine mr_bipushv (pc := 16) (-10 : Int32) dX5_tells_16 (by decide) ?_
    refine mr_aload_n (pc := 18) dX5_tells_18 rfl ?_
    refine mr_getf (pc := 19) (ci := 5) inX5 rfl 4 (by decide) fl_4 dX5_tells_19 (ha_1 σ1 τ1) rfl ?_
    obtain ⟨r6, σ6, τ6, c6, h⟩ := obs h
    refine mr_callV0 (pc := 22) (ci := 4) [] ok_X4_place lk_6 st_X4_place se_X4_place dX5_tells_22 rfl (ha_27 σ1 τ1) rfl rfl (Nat.le_of_ble_eq_true rfl) (Nat.le_of_ble_eq_true rfl) ((dc_T_place c6).up (by decide)) ?_
    refine mr_isub (pc := 25) dX5_tells_25 ?_
    obtain ⟨rfl, rfl, rfl⟩ := os3 h
    exact mr_iret (pc := 26) rfl (rfl) dX5_tells_26
set_option maxHeartbeats 4000000 in
set_option maxRecDepth 100000 in
theorem dc_Q_lays_48_l2 : ∀ (n : Nat), ∀ (x2 : Int32) (x3 : Int32) (σ : mS) (τ : mT) (σ' : mS) (τ' : mT), Q_lays_48_l2 n x2 x3 σ τ = some (σ', τ') → mc_V M_X6_lays 0 none 2 [.ref 34, .ref 48, .int x2, .int x3] [] (mc_hp σ τ) none (mc_hp σ' τ') 0 0 := by
  intro n
  induction n with
  | zero =>
    intros
    rename_i h
    cases h
  | succ n ih =>
    intro x2 x3 σ τ σ' τ' h
    refine mr_iload_n (pc := 2) dX6_lays_2 rfl ?_
    refine mr_bipushv (pc := 3) (21 : Int32) dX6_lays_3 (by decide) ?_
    refine mr_icmp_ge (pc := 5) 25 dX6_lays_5 (by decide) (fun q1 => ?_) (fun q1 => ?_)
    · replace h := (if_pos q1).symm.trans h
      obtain ⟨rfl, rfl⟩ := os2 h
      exact mr_ret (pc := 25) rfl dX6_lays_25
    · replace h := (if_neg q1).symm.trans h
      refine mr_aload_n (pc := 8) dX6_lays_8 rfl ?_
      refine mr_iload_n (pc := 9) dX6_lays_9 rfl ?_
      refine mr_iload_n (pc := 10) dX6_lays_10 rfl ?_
      refine mr_iadd (pc := 11) dX6_lays_11 ?_
      refine mr_aload_n (pc := 12) dX6_lays_12 rfl ?_
      refine mr_getf (pc := 13) (ci := 6) inX6 rfl 0 (by decide) fl_31 dX6_lays_13 (ha_34 σ τ) rfl ?_
      refine mr_iload_n (pc := 16) dX6_lays_16 rfl ?_
      obtain ⟨g2, h⟩ := og h
      refine mr_iald (pc := 17) dX6_lays_17 (ha_35 σ τ) (g2) ?_
      obtain ⟨g3, h⟩ := og h
      obtain ⟨σ4, e4, h⟩ := ow h
      refine mr_iast (pc := 18) dX6_lays_18 (ha_48 σ τ) (g3) (mc_V.heap (hs_48 e4) ?_)
      refine mr_iincv (pc := 19) (1 : Int32) dX6_lays_19 rfl (by decide) (show mc_V M_X6_lays 0 none 22 [.ref 34, .ref 48, .int x2, .int (x3 + (1 : Int32))] [] (mc_hp σ4 τ) none (mc_hp σ' τ') 0 0 from ?_)
      refine mr_goto (pc := 22) 2 dX6_lays_22 (by decide) ?_
      exact mc_V.locs (loc' := [.ref 34, .ref 48, .int x2, .int (x3 + (1 : Int32))]) ⟨Or.inr rfl, Or.inr rfl, Or.inr rfl, Or.inr rfl, trivial⟩ (ih x2 (x3 + (1 : Int32)) σ4 τ σ' τ' h)
set_option maxHeartbeats 4000000 in
set_option maxRecDepth 100000 in
theorem dc_Q_lays_48 {p2 : Int32} {σ : mS} {τ : mT} {σ' : mS} {τ' : mT} (h : Q_lays_48 p2 σ τ = some (σ', τ')) : mc_V M_X6_lays 0 none 0 (mc_entry [.ref 34, .ref 48, .int p2] 4) [] (mc_hp σ τ) none (mc_hp σ' τ') 0 0 := by
  unfold Q_lays_48 at h
  show mc_V M_X6_lays 0 none 0 [.ref 34, .ref 48, .int p2, .retAddr 0] [] (mc_hp σ τ) none (mc_hp σ' τ') 0 0
  refine mr_iconstv (pc := 0) (0 : Int32) dX6_lays_0 (by decide) ?_
  refine mr_istore_n (pc := 1) dX6_lays_1 (Nat.le_of_ble_eq_true rfl) (show mc_V M_X6_lays 0 none 2 [.ref 34, .ref 48, .int p2, .int (0 : Int32)] [] (mc_hp σ τ) none (mc_hp σ' τ') 0 0 from ?_)
  exact mc_V.locs (loc' := [.ref 34, .ref 48, .int p2, .int (0 : Int32)]) ⟨Or.inr rfl, Or.inr rfl, Or.inr rfl, Or.inr rfl, trivial⟩ (dc_Q_lays_48_l2 mc_F p2 (0 : Int32) σ τ σ' τ' h)
set_option maxHeartbeats 4000000 in
set_option maxRecDepth 100000 in
theorem dc_Q_skips_b38 : ∀ (σ : mS) (τ : mT) (σ' : mS) (τ' : mT), Q_skips_b38 σ τ = some (σ', τ') → mc_V M_X6_skips 0 none 38 [.ref 34] [] (mc_hp σ τ) none (mc_hp σ' τ') 0 0 := by
  intro σ τ σ' τ' h
  unfold Q_skips_b38 at h
  refine mr_aload_n (pc := 38) dX6_skips_38 rfl ?_
  refine mr_aload_n (pc := 39) dX6_skips_39 rfl ?_
  refine mr_getf (pc := 40) (ci := 6) inX6 rfl 23 (by decide) fl_53 dX6_skips_40 (ha_34 σ τ) rfl ?_
  obtain ⟨σ1, e1, h⟩ := ow h
  refine mr_putf (pc := 43) (ci := 6) inX6 tyX6 tyX6_ok nmX6 rfl 24 (by decide) fl_55 rfl dX6_skips_43 (ha_34 σ τ) (Nat.le_of_ble_eq_true rfl) rfl (mc_V.heap (hs_34_24 e1) ?_)
  obtain ⟨rfl, rfl⟩ := os2 h
  exact mr_ret (pc := 46) rfl dX6_skips_46
set_option maxHeartbeats 4000000 in
set_option maxRecDepth 100000 in
theorem dc_Q_skips_l0 : ∀ (n : Nat), ∀ (σ : mS) (τ : mT) (σ' : mS) (τ' : mT), Q_skips_l0 n σ τ = some (σ', τ') → mc_V M_X6_skips 0 none 0 [.ref 34] [] (mc_hp σ τ) none (mc_hp σ' τ') 0 0 := by
  intro n
  induction n with
  | zero =>
    intros
    rename_i h
    cases h
  | succ n ih =>
    intro σ τ σ' τ' h
    refine mr_aload_n (pc := 0) dX6_skips_0 rfl ?_
    refine mr_getf (pc := 1) (ci := 6) inX6 rfl 23 (by decide) fl_53 dX6_skips_1 (ha_34 σ τ) rfl ?_
    refine mr_aload_n (pc := 4) dX6_skips_4 rfl ?_
    refine mr_getf (pc := 5) (ci := 6) inX6 rfl 6 (by decide) fl_54 dX6_skips_5 (ha_34 σ τ) rfl ?_
    refine mr_icmp_ge (pc := 8) 38 dX6_skips_8 (by decide) (fun q1 => ?_) (fun q1 => ?_)
    · replace h := (if_pos q1).symm.trans h
      exact mc_V.locs (loc' := [.ref 34]) ⟨Or.inr rfl, trivial⟩ (dc_Q_skips_b38 σ τ σ' τ' h)
    · replace h := (if_neg q1).symm.trans h
      refine mr_aload_n (pc := 11) dX6_skips_11 rfl ?_
      refine mr_getf (pc := 12) (ci := 6) inX6 rfl 5 (by decide) fl_35 dX6_skips_12 (ha_34 σ τ) rfl ?_
      refine mr_aload_n (pc := 15) dX6_skips_15 rfl ?_
      refine mr_getf (pc := 16) (ci := 6) inX6 rfl 23 (by decide) fl_53 dX6_skips_16 (ha_34 σ τ) rfl ?_
      obtain ⟨g2, h⟩ := og h
      refine mr_iald (pc := 19) dX6_skips_19 (ha_39 σ τ) (g2) ?_
      refine mr_bipushv (pc := 20) (32 : Int32) dX6_skips_20 (by decide) ?_
      refine mr_icmp_ne (pc := 22) 38 dX6_skips_22 (by decide) (fun q3 => ?_) (fun q3 => ?_)
      · replace h := (if_neg q3).symm.trans h
        exact mc_V.locs (loc' := [.ref 34]) ⟨Or.inr rfl, trivial⟩ (dc_Q_skips_b38 σ τ σ' τ' h)
      · replace h := (if_pos q3).symm.trans h
        refine mr_aload_n (pc := 25) dX6_skips_25 rfl ?_
        refine mr_dup (pc := 26) dX6_skips_26 rfl ?_
        refine mr_getf (pc := 27) (ci := 6) inX6 rfl 23 (by decide) fl_53 dX6_skips_27 (ha_34 σ τ) rfl ?_
        refine mr_iconstv (pc := 30) (1 : Int32) dX6_skips_30 (by decide) ?_
        refine mr_iadd (pc := 31) dX6_skips_31 ?_
        obtain ⟨σ4, e4, h⟩ := ow h
        refine mr_putf (pc := 32) (ci := 6) inX6 tyX6 tyX6_ok nmX6 rfl 23 (by decide) fl_53 rfl dX6_skips_32 (ha_34 σ τ) (Nat.le_of_ble_eq_true rfl) rfl (mc_V.heap (hs_34_23 e4) ?_)
        refine mr_goto (pc := 35) 0 dX6_skips_35 (by decide) ?_
        exact mc_V.locs (loc' := [.ref 34]) ⟨Or.inr rfl, trivial⟩ (ih σ4 τ σ' τ' h)
set_option maxHeartbeats 4000000 in
set_option maxRecDepth 100000 in
theorem dc_Q_skips {σ : mS} {τ : mT} {σ' : mS} {τ' : mT} (h : Q_skips σ τ = some (σ', τ')) : mc_V M_X6_skips 0 none 0 (mc_entry [.ref 34] 1) [] (mc_hp σ τ) none (mc_hp σ' τ') 0 0 := by
  unfold Q_skips at h
  show mc_V M_X6_skips 0 none 0 [.ref 34] [] (mc_hp σ τ) none (mc_hp σ' τ') 0 0
  exact mc_V.locs (loc' := [.ref 34]) ⟨Or.inr rfl, trivial⟩ (dc_Q_skips_l0 mc_F σ τ σ' τ' h)
