set_option maxHeartbeats 4000000 in
set_option maxRecDepth 100000 in
theorem dc_R_weighs {p1 : Int32} {p2 : Int32} {σ : mS} {τ : mT} {r : Int32} {σ' : mS} {τ' : mT} (h : R_weighs p1 p2 σ τ = some (r, σ', τ')) : mc_V M_X5_weighs 3 none 0 (mc_entry [.ref 1, .int p1, .int p2] 4) [] (mc_hp σ τ) (some (.int r)) (mc_hp σ' τ') 0 0 := by
  unfold R_weighs at h
  show mc_V M_X5_weighs 3 none 0 [.ref 1, .int p1, .int p2, .retAddr 0] [] (mc_hp σ τ) (some (.int r)) (mc_hp σ' τ') 0 0
  refine mr_aload_n (pc := 0) dX5_weighs_0 rfl ?_
  refine mr_getf (pc := 1) (ci := 5) inX5 rfl 0 (by decide) fl_0 dX5_weighs_1 (ha_1 σ τ) rfl ?_
  refine mr_iload_n (pc := 4) dX5_weighs_4 rfl ?_
  obtain ⟨r1, σ1, τ1, c1, h⟩ := obs h
  refine mr_callV0 (pc := 5) (ci := 2) [.int p1] ok_X2_has lk_14 st_X2_has se_X2_has dX5_weighs_5 rfl (ha_2 σ τ) rfl rfl (Nat.le_of_ble_eq_true rfl) (Nat.le_of_ble_eq_true rfl) ((dc_P_has_2 c1).up (by decide)) ?_
  refine mr_if_eq (pc := 8) 21 dX5_weighs_8 (by decide) (fun q2 => ?_) (fun q2 => ?_)
  · replace h := (if_pos q2).symm.trans h
    refine mr_iconstv (pc := 21) (-1 : Int32) dX5_weighs_21 (by decide) ?_
    obtain ⟨rfl, rfl, rfl⟩ := os3 h
    exact mr_iret (pc := 22) rfl (rfl) dX5_weighs_22
  · replace h := (if_neg q2).symm.trans h
    refine mr_iload_n (pc := 11) dX5_weighs_11 rfl ?_
    refine mr_iconstv (pc := 12) (1 : Int32) dX5_weighs_12 (by decide) ?_
    refine mr_bipushv (pc := 13) (9 : Int32) dX5_weighs_13 (by decide) ?_
    obtain ⟨r3, σ3, τ3, c3, h⟩ := obs h
    refine mr_callS0 (pc := 15) [.int p2, .int (1 : Int32), .int (9 : Int32)] ok_X5_within lk_1 st_X5_within dX5_weighs_15 rfl rfl (Nat.le_of_ble_eq_true rfl) (Nat.le_of_ble_eq_true rfl) ((dc_R_within c3).up (by decide)) ?_
    refine mr_if_ne (pc := 18) 23 dX5_weighs_18 (by decide) (fun q4 => ?_) (fun q4 => ?_)
    · replace h := (if_neg q4).symm.trans h
      refine mr_aload_n (pc := 23) dX5_weighs_23 rfl ?_
      refine mr_getf (pc := 24) (ci := 5) inX5 rfl 0 (by decide) fl_0 dX5_weighs_24 (ha_1 σ3 τ3) rfl ?_
      refine mr_iload_n (pc := 27) dX5_weighs_27 rfl ?_
      refine mr_iconstv (pc := 28) (2 : Int32) dX5_weighs_28 (by decide) ?_
      obtain ⟨r5, σ5, τ5, c5, h⟩ := obs h
      refine mr_callV0 (pc := 29) (ci := 2) [.int p1, .int (2 : Int32)] ok_X2_get lk_17 st_X2_get se_X2_get dX5_weighs_29 rfl (ha_2 σ3 τ3) rfl rfl (Nat.le_of_ble_eq_true rfl) (Nat.le_of_ble_eq_true rfl) ((dc_P_get_2 c5).up (by decide)) ?_
      refine mr_istore_n (pc := 32) dX5_weighs_32 (Nat.le_of_ble_eq_true rfl) (show mc_V M_X5_weighs 3 none 33 [.ref 1, .int p1, .int p2, .int r5] [] (mc_hp σ5 τ5) (some (.int r)) (mc_hp σ' τ') 0 0 from ?_)
      refine mr_iload_n (pc := 33) dX5_weighs_33 rfl ?_
      refine mr_iload_n (pc := 34) dX5_weighs_34 rfl ?_
      refine mr_icmp_ne (pc := 35) 41 dX5_weighs_35 (by decide) (fun q6 => ?_) (fun q6 => ?_)
      · replace h := (if_neg q6).symm.trans h
        refine mr_aload_n (pc := 41) dX5_weighs_41 rfl ?_
        obtain ⟨σ7, τ7, c7, h⟩ := ovs h
        refine mr_callV0 (pc := 42) (ci := 5) [] ok_X5_remember lk_7 st_X5_remember se_X5_remember dX5_weighs_42 rfl (ha_1 σ5 τ5) rfl rfl (Nat.le_of_ble_eq_true rfl) (Nat.le_of_ble_eq_true rfl) ((dc_R_remember c7).up (by decide)) ?_
        refine mr_aload_n (pc := 45) dX5_weighs_45 rfl ?_
        refine mr_getf (pc := 46) (ci := 5) inX5 rfl 0 (by decide) fl_0 dX5_weighs_46 (ha_1 σ7 τ7) rfl ?_
        refine mr_iload_n (pc := 49) dX5_weighs_49 rfl ?_
        refine mr_iconstv (pc := 50) (2 : Int32) dX5_weighs_50 (by decide) ?_
        refine mr_iload_n (pc := 51) dX5_weighs_51 rfl ?_
        obtain ⟨σ8, τ8, c8, h⟩ := ovs h
        refine mr_callV0 (pc := 52) (ci := 2) [.int p1, .int (2 : Int32), .int p2] ok_X2_set lk_18 st_X2_set se_X2_set dX5_weighs_52 rfl (ha_2 σ7 τ7) rfl rfl (Nat.le_of_ble_eq_true rfl) (Nat.le_of_ble_eq_true rfl) ((dc_P_set_2 c8).up (by decide)) ?_
        refine mr_iload_n (pc := 55) dX5_weighs_55 rfl ?_
        obtain ⟨rfl, rfl, rfl⟩ := os3 h
        exact mr_iret (pc := 56) rfl (rfl) dX5_weighs_56
      · replace h := (if_pos q6).symm.trans h
        refine mr_bipushv (pc := 38) (-2 : Int32) dX5_weighs_38 (by decide) ?_
        obtain ⟨rfl, rfl, rfl⟩ := os3 h
        exact mr_iret (pc := 40) rfl (rfl) dX5_weighs_40
    · replace h := (if_pos q4).symm.trans h
      refine mr_iconstv (pc := 21) (-1 : Int32) dX5_weighs_21 (by decide) ?_
      obtain ⟨rfl, rfl, rfl⟩ := os3 h
      exact mr_iret (pc := 22) rfl (rfl) dX5_weighs_22
set_option maxHeartbeats 4000000 in
set_option maxRecDepth 100000 in
theorem dc_Q_weighs {p1 : Int32} {p2 : Int32} {σ : mS} {τ : mT} {r : Int32} {σ' : mS} {τ' : mT} (h : Q_weighs p1 p2 σ τ = some (r, σ', τ')) : mc_V M_X6_weighs 2 none 0 (mc_entry [.ref 34, .int p1, .int p2] 4) [] (mc_hp σ τ) (some (.int r)) (mc_hp σ' τ') 0 0 := by
  unfold Q_weighs at h
  show mc_V M_X6_weighs 2 none 0 [.ref 34, .int p1, .int p2, .retAddr 0] [] (mc_hp σ τ) (some (.int r)) (mc_hp σ' τ') 0 0
  refine mr_aload_n (pc := 0) dX6_weighs_0 rfl ?_
  refine mr_iload_n (pc := 1) dX6_weighs_1 rfl ?_
  obtain ⟨r1, σ1, τ1, c1, h⟩ := obs h
  refine mr_callV0 (pc := 2) (ci := 6) [.int p1] ok_X6_isBlock lk_170 st_X6_isBlock se_X6_isBlock dX6_weighs_2 rfl (ha_34 σ τ) rfl rfl (Nat.le_of_ble_eq_true rfl) (Nat.le_of_ble_eq_true rfl) ((dc_Q_isBlock c1).up (by decide)) ?_
  refine mr_if_eq (pc := 5) 18 dX6_weighs_5 (by decide) (fun q2 => ?_) (fun q2 => ?_)
  · replace h := (if_pos q2).symm.trans h
    refine mr_iconstv (pc := 18) (-1 : Int32) dX6_weighs_18 (by decide) ?_
    obtain ⟨rfl, rfl, rfl⟩ := os3 h
    exact mr_iret (pc := 19) rfl (rfl) dX6_weighs_19
  · replace h := (if_neg q2).symm.trans h
    refine mr_iload_n (pc := 8) dX6_weighs_8 rfl ?_
    refine mr_iconstv (pc := 9) (1 : Int32) dX6_weighs_9 (by decide) ?_
    refine mr_bipushv (pc := 10) (9 : Int32) dX6_weighs_10 (by decide) ?_
    obtain ⟨r3, σ3, τ3, c3, h⟩ := obs h
    refine mr_callS0 (pc := 12) [.int p2, .int (1 : Int32), .int (9 : Int32)] ok_X6_within lk_131 st_X6_within dX6_weighs_12 rfl rfl (Nat.le_of_ble_eq_true rfl) (Nat.le_of_ble_eq_true rfl) ((dc_Q_within c3).up (by decide)) ?_
    refine mr_if_ne (pc := 15) 20 dX6_weighs_15 (by decide) (fun q4 => ?_) (fun q4 => ?_)
    · replace h := (if_neg q4).symm.trans h
      refine mr_aload_n (pc := 20) dX6_weighs_20 rfl ?_
      refine mr_iload_n (pc := 21) dX6_weighs_21 rfl ?_
      refine mr_iconstv (pc := 22) (3 : Int32) dX6_weighs_22 (by decide) ?_
      obtain ⟨r5, σ5, τ5, c5, h⟩ := obs h
      refine mr_callV0 (pc := 23) (ci := 6) [.int p1, .int (3 : Int32)] ok_X6_get lk_132 st_X6_get se_X6_get dX6_weighs_23 rfl (ha_34 σ3 τ3) rfl rfl (Nat.le_of_ble_eq_true rfl) (Nat.le_of_ble_eq_true rfl) ((dc_Q_get c5).up (by decide)) ?_
      refine mr_istore_n (pc := 26) dX6_weighs_26 (Nat.le_of_ble_eq_true rfl) (show mc_V M_X6_weighs 2 none 27 [.ref 34, .int p1, .int p2, .int r5] [] (mc_hp σ5 τ5) (some (.int r)) (mc_hp σ' τ') 0 0 from ?_)
      refine mr_iload_n (pc := 27) dX6_weighs_27 rfl ?_
      refine mr_iload_n (pc := 28) dX6_weighs_28 rfl ?_
      refine mr_icmp_ne (pc := 29) 35 dX6_weighs_29 (by decide) (fun q6 => ?_) (fun q6 => ?_)
      · replace h := (if_neg q6).symm.trans h
        refine mr_aload_n (pc := 35) dX6_weighs_35 rfl ?_
        refine mr_aload_n (pc := 36) dX6_weighs_36 rfl ?_
        refine mr_getf (pc := 37) (ci := 6) inX6 rfl 26 (by decide) fl_44 dX6_weighs_37 (ha_34 σ5 τ5) rfl ?_
        refine mr_iconstv (pc := 40) (0 : Int32) dX6_weighs_40 (by decide) ?_
        obtain ⟨σ7, τ7, c7, h⟩ := ovs h
        refine mr_callV0 (pc := 41) (ci := 6) [.ref 48, .int (0 : Int32)] ok_X6_lays lk_165 st_X6_lays se_X6_lays dX6_weighs_41 rfl (ha_34 σ5 τ5) rfl rfl (Nat.le_of_ble_eq_true rfl) (Nat.le_of_ble_eq_true rfl) ((dc_Q_lays_48 c7).up (by decide)) ?_
        refine mr_aload_n (pc := 44) dX6_weighs_44 rfl ?_
        obtain ⟨σ8, τ8, c8, h⟩ := ovs h
        refine mr_callV0 (pc := 45) (ci := 6) [] ok_X6_keeps lk_168 st_X6_keeps se_X6_keeps dX6_weighs_45 rfl (ha_34 σ7 τ7) rfl rfl (Nat.le_of_ble_eq_true rfl) (Nat.le_of_ble_eq_true rfl) ((dc_Q_keeps c8).up (by decide)) ?_
        refine mr_aload_n (pc := 48) dX6_weighs_48 rfl ?_
        refine mr_getf (pc := 49) (ci := 6) inX6 rfl 0 (by decide) fl_31 dX6_weighs_49 (ha_34 σ8 τ8) rfl ?_
        refine mr_iconstv (pc := 52) (5 : Int32) dX6_weighs_52 (by decide) ?_
        refine mr_iload_n (pc := 53) dX6_weighs_53 rfl ?_
        refine mr_imul (pc := 54) dX6_weighs_54 ?_
        refine mr_iconstv (pc := 55) (3 : Int32) dX6_weighs_55 (by decide) ?_
        refine mr_iadd (pc := 56) dX6_weighs_56 ?_
        refine mr_iload_n (pc := 57) dX6_weighs_57 rfl ?_
        obtain ⟨g9, h⟩ := og h
        obtain ⟨σ10, e10, h⟩ := ow h
        refine mr_iast (pc := 58) dX6_weighs_58 (ha_35 σ8 τ8) (g9) (mc_V.heap (hs_35 e10) ?_)
        refine mr_iload_n (pc := 59) dX6_weighs_59 rfl ?_
        obtain ⟨rfl, rfl, rfl⟩ := os3 h
        exact mr_iret (pc := 60) rfl (rfl) dX6_weighs_60
      · replace h := (if_pos q6).symm.trans h
        refine mr_bipushv (pc := 32) (-2 : Int32) dX6_weighs_32 (by decide) ?_
        obtain ⟨rfl, rfl, rfl⟩ := os3 h
        exact mr_iret (pc := 34) rfl (rfl) dX6_weighs_34
    · replace h := (if_pos q4).symm.trans h
      refine mr_iconstv (pc := 18) (-1 : Int32) dX6_weighs_18 (by decide) ?_
      obtain ⟨rfl, rfl, rfl⟩ := os3 h
      exact mr_iret (pc := 19) rfl (rfl) dX6_weighs_19
set_option maxHeartbeats 4000000 in
set_option maxRecDepth 100000 in
theorem dc_R_isSpot {p1 : Int32} {p2 : Int32} {σ : mS} {τ : mT} {r : Int32} {σ' : mS} {τ' : mT} (h : R_isSpot p1 p2 σ τ = some (r, σ', τ')) : mc_V M_X5_isSpot 2 none 0 (mc_entry [.ref 1, .int p1, .int p2] 3) [] (mc_hp σ τ) (some (.int r)) (mc_hp σ' τ') 0 0 := by
  unfold R_isSpot at h
  show mc_V M_X5_isSpot 2 none 0 [.ref 1, .int p1, .int p2] [] (mc_hp σ τ) (some (.int r)) (mc_hp σ' τ') 0 0
  refine mr_aload_n (pc := 0) dX5_isSpot_0 rfl ?_
  refine mr_getf (pc := 1) (ci := 5) inX5 rfl 0 (by decide) fl_0 dX5_isSpot_1 (ha_1 σ τ) rfl ?_
  refine mr_iload_n (pc := 4) dX5_isSpot_4 rfl ?_
  obtain ⟨r1, σ1, τ1, c1, h⟩ := obs h
  refine mr_callV0 (pc := 5) (ci := 2) [.int p1] ok_X2_has lk_14 st_X2_has se_X2_has dX5_isSpot_5 rfl (ha_2 σ τ) rfl rfl (Nat.le_of_ble_eq_true rfl) (Nat.le_of_ble_eq_true rfl) ((dc_P_has_2 c1).up (by decide)) ?_
  refine mr_if_eq (pc := 8) 34 dX5_isSpot_8 (by decide) (fun q2 => ?_) (fun q2 => ?_)
  · replace h := (if_pos q2).symm.trans h
    refine mr_iconstv (pc := 34) (0 : Int32) dX5_isSpot_34 (by decide) ?_
    obtain ⟨rfl, rfl, rfl⟩ := os3 h
    exact mr_iret (pc := 35) rfl (rfl) dX5_isSpot_35
  · replace h := (if_neg q2).symm.trans h
    refine mr_iload_n (pc := 11) dX5_isSpot_11 rfl ?_
    refine mr_iconstv (pc := 12) (0 : Int32) dX5_isSpot_12 (by decide) ?_
    refine mr_iconstv (pc := 13) (2 : Int32) dX5_isSpot_13 (by decide) ?_
    refine mr_aload_n (pc := 14) dX5_isSpot_14 rfl ?_
    refine mr_getf (pc := 15) (ci := 5) inX5 rfl 0 (by decide) fl_0 dX5_isSpot_15 (ha_1 σ1 τ1) rfl ?_
    refine mr_iload_n (pc := 18) dX5_isSpot_18 rfl ?_
    refine mr_iconstv (pc := 19) (1 : Int32) dX5_isSpot_19 (by decide) ?_
    obtain ⟨r3, σ3, τ3, c3, h⟩ := obs h
    refine mr_callV0 (pc := 20) (ci := 2) [.int p1, .int (1 : Int32)] ok_X2_get lk_17 st_X2_get se_X2_get dX5_isSpot_20 rfl (ha_2 σ1 τ1) rfl rfl (Nat.le_of_ble_eq_true rfl) (Nat.le_of_ble_eq_true rfl) ((dc_P_get_2 c3).up (by decide)) ?_
    refine mr_imul (pc := 23) dX5_isSpot_23 ?_
    obtain ⟨r4, σ4, τ4, c4, h⟩ := obs h
    refine mr_callS0 (pc := 24) [.int p2, .int (0 : Int32), .int ((2 : Int32) * r3)] ok_X5_within lk_1 st_X5_within dX5_isSpot_24 rfl rfl (Nat.le_of_ble_eq_true rfl) (Nat.le_of_ble_eq_true rfl) ((dc_R_within c4).up (by decide)) ?_
    refine mr_if_eq (pc := 27) 34 dX5_isSpot_27 (by decide) (fun q5 => ?_) (fun q5 => ?_)
    · replace h := (if_pos q5).symm.trans h
      refine mr_iconstv (pc := 34) (0 : Int32) dX5_isSpot_34 (by decide) ?_
      obtain ⟨rfl, rfl, rfl⟩ := os3 h
      exact mr_iret (pc := 35) rfl (rfl) dX5_isSpot_35
    · replace h := (if_neg q5).symm.trans h
      refine mr_iconstv (pc := 30) (1 : Int32) dX5_isSpot_30 (by decide) ?_
      refine mr_goto (pc := 31) 35 dX5_isSpot_31 (by decide) ?_
      obtain ⟨rfl, rfl, rfl⟩ := os3 h
      exact mr_iret (pc := 35) rfl (rfl) dX5_isSpot_35
set_option maxHeartbeats 4000000 in
set_option maxRecDepth 100000 in
theorem dc_R_loads_b54 : ∀ (x1 : Int32) (x2 : Int32) (x3 : Int32) (x4 : Int32) (σ : mS) (τ : mT) (r : Int32) (σ' : mS) (τ' : mT), R_loads_b54 x1 x2 x3 x4 σ τ = some (r, σ', τ') → mc_V M_X5_loads 3 none 54 [.ref 1, .int x1, .int x2, .int x3, .int x4] [] (mc_hp σ τ) (some (.int r)) (mc_hp σ' τ') 0 0 := by
  intro x1 x2 x3 x4 σ τ r σ' τ' h
  unfold R_loads_b54 at h
  refine mr_aload_n (pc := 54) dX5_loads_54 rfl ?_
  obtain ⟨σ1, τ1, c1, h⟩ := ovs h
  refine mr_callV0 (pc := 55) (ci := 5) [] ok_X5_remember lk_7 st_X5_remember se_X5_remember dX5_loads_55 rfl (ha_1 σ τ) rfl rfl (Nat.le_of_ble_eq_true rfl) (Nat.le_of_ble_eq_true rfl) ((dc_R_remember c1).up (by decide)) ?_
  refine mr_aload_n (pc := 58) dX5_loads_58 rfl ?_
  refine mr_getf (pc := 59) (ci := 5) inX5 rfl 0 (by decide) fl_0 dX5_loads_59 (ha_1 σ1 τ1) rfl ?_
  refine mr_iload_n (pc := 62) dX5_loads_62 rfl ?_
  refine mr_iconstv (pc := 63) (3 : Int32) dX5_loads_63 (by decide) ?_
  refine mr_iload_n (pc := 64) dX5_loads_64 rfl ?_
  obtain ⟨σ2, τ2, c2, h⟩ := ovs h
  refine mr_callV0 (pc := 65) (ci := 2) [.int x1, .int (3 : Int32), .int x3] ok_X2_set lk_18 st_X2_set se_X2_set dX5_loads_65 rfl (ha_2 σ1 τ1) rfl rfl (Nat.le_of_ble_eq_true rfl) (Nat.le_of_ble_eq_true rfl) ((dc_P_set_2 c2).up (by decide)) ?_
  refine mr_aload_n (pc := 68) dX5_loads_68 rfl ?_
  refine mr_getf (pc := 69) (ci := 5) inX5 rfl 0 (by decide) fl_0 dX5_loads_69 (ha_1 σ2 τ2) rfl ?_
  refine mr_iload_n (pc := 72) dX5_loads_72 rfl ?_
  refine mr_iconstv (pc := 73) (4 : Int32) dX5_loads_73 (by decide) ?_
  refine mr_iload_n (pc := 74) dX5_loads_74 rfl ?_
  obtain ⟨σ3, τ3, c3, h⟩ := ovs h
  refine mr_callV0 (pc := 75) (ci := 2) [.int x1, .int (4 : Int32), .int x2] ok_X2_set lk_18 st_X2_set se_X2_set dX5_loads_75 rfl (ha_2 σ2 τ2) rfl rfl (Nat.le_of_ble_eq_true rfl) (Nat.le_of_ble_eq_true rfl) ((dc_P_set_2 c3).up (by decide)) ?_
  refine mr_iload (pc := 78) dX5_loads_78 rfl ?_
  obtain ⟨rfl, rfl, rfl⟩ := os3 h
  exact mr_iret (pc := 80) rfl (rfl) dX5_loads_80
set_option maxHeartbeats 4000000 in
set_option maxRecDepth 100000 in
theorem dc_R_loads {p1 : Int32} {p2 : Int32} {p3 : Int32} {σ : mS} {τ : mT} {r : Int32} {σ' : mS} {τ' : mT} (h : R_loads p1 p2 p3 σ τ = some (r, σ', τ')) : mc_V M_X5_loads 3 none 0 (mc_entry [.ref 1, .int p1, .int p2, .int p3] 5) [] (mc_hp σ τ) (some (.int r)) (mc_hp σ' τ') 0 0 := by
  unfold R_loads at h
  show mc_V M_X5_loads 3 none 0 [.ref 1, .int p1, .int p2, .int p3, .retAddr 0] [] (mc_hp σ τ) (some (.int r)) (mc_hp σ' τ') 0 0
  refine mr_aload_n (pc := 0) dX5_loads_0 rfl ?_
  refine mr_iload_n (pc := 1) dX5_loads_1 rfl ?_
  refine mr_iload_n (pc := 2) dX5_loads_2 rfl ?_
  obtain ⟨r1, σ1, τ1, c1, h⟩ := obs h
  refine mr_callV0 (pc := 3) (ci := 5) [.int p1, .int p2] ok_X5_isSpot lk_19 st_X5_isSpot se_X5_isSpot dX5_loads_3 rfl (ha_1 σ τ) rfl rfl (Nat.le_of_ble_eq_true rfl) (Nat.le_of_ble_eq_true rfl) ((dc_R_isSpot c1).up (by decide)) ?_
  refine mr_if_eq (pc := 6) 19 dX5_loads_6 (by decide) (fun q2 => ?_) (fun q2 => ?_)
  · replace h := (if_pos q2).symm.trans h
    refine mr_iconstv (pc := 19) (-1 : Int32) dX5_loads_19 (by decide) ?_
    obtain ⟨rfl, rfl, rfl⟩ := os3 h
    exact mr_iret (pc := 20) rfl (rfl) dX5_loads_20
  · replace h := (if_neg q2).symm.trans h
    refine mr_iload_n (pc := 9) dX5_loads_9 rfl ?_
    refine mr_iconstv (pc := 10) (0 : Int32) dX5_loads_10 (by decide) ?_
    refine mr_bipushv (pc := 11) (20 : Int32) dX5_loads_11 (by decide) ?_
    obtain ⟨r3, σ3, τ3, c3, h⟩ := obs h
    refine mr_callS0 (pc := 13) [.int p3, .int (0 : Int32), .int (20 : Int32)] ok_X5_within lk_1 st_X5_within dX5_loads_13 rfl rfl (Nat.le_of_ble_eq_true rfl) (Nat.le_of_ble_eq_true rfl) ((dc_R_within c3).up (by decide)) ?_
    refine mr_if_ne (pc := 16) 21 dX5_loads_16 (by decide) (fun q4 => ?_) (fun q4 => ?_)
    · replace h := (if_neg q4).symm.trans h
      refine mr_aload_n (pc := 21) dX5_loads_21 rfl ?_
      refine mr_getf (pc := 22) (ci := 5) inX5 rfl 0 (by decide) fl_0 dX5_loads_22 (ha_1 σ3 τ3) rfl ?_
      refine mr_iload_n (pc := 25) dX5_loads_25 rfl ?_
      refine mr_iconstv (pc := 26) (3 : Int32) dX5_loads_26 (by decide) ?_
      obtain ⟨r5, σ5, τ5, c5, h⟩ := obs h
      refine mr_callV0 (pc := 27) (ci := 2) [.int p1, .int (3 : Int32)] ok_X2_get lk_17 st_X2_get se_X2_get dX5_loads_27 rfl (ha_2 σ3 τ3) rfl rfl (Nat.le_of_ble_eq_true rfl) (Nat.le_of_ble_eq_true rfl) ((dc_P_get_2 c5).up (by decide)) ?_
      refine mr_istore (pc := 30) dX5_loads_30 (Nat.le_of_ble_eq_true rfl) (show mc_V M_X5_loads 3 none 32 [.ref 1, .int p1, .int p2, .int p3, .int r5] [] (mc_hp σ5 τ5) (some (.int r)) (mc_hp σ' τ') 0 0 from ?_)
      refine mr_iload (pc := 32) dX5_loads_32 rfl ?_
      refine mr_iload_n (pc := 34) dX5_loads_34 rfl ?_
      refine mr_icmp_ne (pc := 35) 54 dX5_loads_35 (by decide) (fun q6 => ?_) (fun q6 => ?_)
      · replace h := (if_neg q6).symm.trans h
        exact mc_V.locs (loc' := [.ref 1, .int p1, .int p2, .int p3, .int r5]) ⟨Or.inr rfl, Or.inr rfl, Or.inr rfl, Or.inr rfl, Or.inr rfl, trivial⟩ (dc_R_loads_b54 p1 p2 p3 r5 σ5 τ5 r σ' τ' h)
      · replace h := (if_pos q6).symm.trans h
        refine mr_aload_n (pc := 38) dX5_loads_38 rfl ?_
        refine mr_getf (pc := 39) (ci := 5) inX5 rfl 0 (by decide) fl_0 dX5_loads_39 (ha_1 σ5 τ5) rfl ?_
        refine mr_iload_n (pc := 42) dX5_loads_42 rfl ?_
        refine mr_iconstv (pc := 43) (4 : Int32) dX5_loads_43 (by decide) ?_
        obtain ⟨r7, σ7, τ7, c7, h⟩ := obs h
        refine mr_callV0 (pc := 44) (ci := 2) [.int p1, .int (4 : Int32)] ok_X2_get lk_17 st_X2_get se_X2_get dX5_loads_44 rfl (ha_2 σ5 τ5) rfl rfl (Nat.le_of_ble_eq_true rfl) (Nat.le_of_ble_eq_true rfl) ((dc_P_get_2 c7).up (by decide)) ?_
        refine mr_iload_n (pc := 47) dX5_loads_47 rfl ?_
        refine mr_icmp_ne (pc := 48) 54 dX5_loads_48 (by decide) (fun q8 => ?_) (fun q8 => ?_)
        · replace h := (if_neg q8).symm.trans h
          exact mc_V.locs (loc' := [.ref 1, .int p1, .int p2, .int p3, .int r5]) ⟨Or.inr rfl, Or.inr rfl, Or.inr rfl, Or.inr rfl, Or.inr rfl, trivial⟩ (dc_R_loads_b54 p1 p2 p3 r5 σ7 τ7 r σ' τ' h)
        · replace h := (if_pos q8).symm.trans h
          refine mr_bipushv (pc := 51) (-2 : Int32) dX5_loads_51 (by decide) ?_
          obtain ⟨rfl, rfl, rfl⟩ := os3 h
          exact mr_iret (pc := 53) rfl (rfl) dX5_loads_53
    · replace h := (if_pos q4).symm.trans h
      refine mr_iconstv (pc := 19) (-1 : Int32) dX5_loads_19 (by decide) ?_
      obtain ⟨rfl, rfl, rfl⟩ := os3 h
      exact mr_iret (pc := 20) rfl (rfl) dX5_loads_20
set_option maxHeartbeats 4000000 in
set_option maxRecDepth 100000 in
theorem dc_Q_isSpot {p1 : Int32} {p2 : Int32} {σ : mS} {τ : mT} {r : Int32} {σ' : mS} {τ' : mT} (h : Q_isSpot p1 p2 σ τ = some (r, σ', τ')) : mc_V M_X6_isSpot 2 none 0 (mc_entry [.ref 34, .int p1, .int p2] 3) [] (mc_hp σ τ) (some (.int r)) (mc_hp σ' τ') 0 0 := by
  unfold Q_isSpot at h
  show mc_V M_X6_isSpot 2 none 0 [.ref 34, .int p1, .int p2] [] (mc_hp σ τ) (some (.int r)) (mc_hp σ' τ') 0 0
  refine mr_aload_n (pc := 0) dX6_isSpot_0 rfl ?_
  refine mr_iload_n (pc := 1) dX6_isSpot_1 rfl ?_
  obtain ⟨r1, σ1, τ1, c1, h⟩ := obs h
  refine mr_callV0 (pc := 2) (ci := 6) [.int p1] ok_X6_isBlock lk_170 st_X6_isBlock se_X6_isBlock dX6_isSpot_2 rfl (ha_34 σ τ) rfl rfl (Nat.le_of_ble_eq_true rfl) (Nat.le_of_ble_eq_true rfl) ((dc_Q_isBlock c1).up (by decide)) ?_
  refine mr_if_eq (pc := 5) 28 dX6_isSpot_5 (by decide) (fun q2 => ?_) (fun q2 => ?_)
  · replace h := (if_pos q2).symm.trans h
    refine mr_iconstv (pc := 28) (0 : Int32) dX6_isSpot_28 (by decide) ?_
    obtain ⟨rfl, rfl, rfl⟩ := os3 h
    exact mr_iret (pc := 29) rfl (rfl) dX6_isSpot_29
  · replace h := (if_neg q2).symm.trans h
    refine mr_iload_n (pc := 8) dX6_isSpot_8 rfl ?_
    refine mr_iconstv (pc := 9) (0 : Int32) dX6_isSpot_9 (by decide) ?_
    refine mr_iconstv (pc := 10) (2 : Int32) dX6_isSpot_10 (by decide) ?_
    refine mr_aload_n (pc := 11) dX6_isSpot_11 rfl ?_
    refine mr_iload_n (pc := 12) dX6_isSpot_12 rfl ?_
    refine mr_iconstv (pc := 13) (2 : Int32) dX6_isSpot_13 (by decide) ?_
    obtain ⟨r3, σ3, τ3, c3, h⟩ := obs h
    refine mr_callV0 (pc := 14) (ci := 6) [.int p1, .int (2 : Int32)] ok_X6_get lk_132 st_X6_get se_X6_get dX6_isSpot_14 rfl (ha_34 σ1 τ1) rfl rfl (Nat.le_of_ble_eq_true rfl) (Nat.le_of_ble_eq_true rfl) ((dc_Q_get c3).up (by decide)) ?_
    refine mr_imul (pc := 17) dX6_isSpot_17 ?_
    obtain ⟨r4, σ4, τ4, c4, h⟩ := obs h
    refine mr_callS0 (pc := 18) [.int p2, .int (0 : Int32), .int ((2 : Int32) * r3)] ok_X6_within lk_131 st_X6_within dX6_isSpot_18 rfl rfl (Nat.le_of_ble_eq_true rfl) (Nat.le_of_ble_eq_true rfl) ((dc_Q_within c4).up (by decide)) ?_
    refine mr_if_eq (pc := 21) 28 dX6_isSpot_21 (by decide) (fun q5 => ?_) (fun q5 => ?_)
    · replace h := (if_pos q5).symm.trans h
      refine mr_iconstv (pc := 28) (0 : Int32) dX6_isSpot_28 (by decide) ?_
      obtain ⟨rfl, rfl, rfl⟩ := os3 h
      exact mr_iret (pc := 29) rfl (rfl) dX6_isSpot_29
    · replace h := (if_neg q5).symm.trans h
      refine mr_iconstv (pc := 24) (1 : Int32) dX6_isSpot_24 (by decide) ?_
      refine mr_goto (pc := 25) 29 dX6_isSpot_25 (by decide) ?_
      obtain ⟨rfl, rfl, rfl⟩ := os3 h
      exact mr_iret (pc := 29) rfl (rfl) dX6_isSpot_29
set_option maxHeartbeats 4000000 in
set_option maxRecDepth 100000 in
theorem dc_Q_loads_b48 : ∀ (x1 : Int32) (x2 : Int32) (x3 : Int32) (x4 : Int32) (σ : mS) (τ : mT) (r : Int32) (σ' : mS) (τ' : mT), Q_loads_b48 x1 x2 x3 x4 σ τ = some (r, σ', τ') → mc_V M_X6_loads 3 none 48 [.ref 34, .int x1, .int x2, .int x3, .int x4] [] (mc_hp σ τ) (some (.int r)) (mc_hp σ' τ') 0 0 := by
  intro x1 x2 x3 x4 σ τ r σ' τ' h
  unfold Q_loads_b48 at h
  refine mr_aload_n (pc := 48) dX6_loads_48 rfl ?_
  refine mr_aload_n (pc := 49) dX6_loads_49 rfl ?_
  refine mr_getf (pc := 50) (ci := 6) inX6 rfl 26 (by decide) fl_44 dX6_loads_50 (ha_34 σ τ) rfl ?_
  refine mr_iconstv (pc := 53) (0 : Int32) dX6_loads_53 (by decide) ?_
  obtain ⟨σ1, τ1, c1, h⟩ := ovs h
  refine mr_callV0 (pc := 54) (ci := 6) [.ref 48, .int (0 : Int32)] ok_X6_lays lk_165 st_X6_lays se_X6_lays dX6_loads_54 rfl (ha_34 σ τ) rfl rfl (Nat.le_of_ble_eq_true rfl) (Nat.le_of_ble_eq_true rfl) ((dc_Q_lays_48 c1).up (by decide)) ?_
  refine mr_aload_n (pc := 57) dX6_loads_57 rfl ?_
  obtain ⟨σ2, τ2, c2, h⟩ := ovs h
  refine mr_callV0 (pc := 58) (ci := 6) [] ok_X6_keeps lk_168 st_X6_keeps se_X6_keeps dX6_loads_58 rfl (ha_34 σ1 τ1) rfl rfl (Nat.le_of_ble_eq_true rfl) (Nat.le_of_ble_eq_true rfl) ((dc_Q_keeps c2).up (by decide)) ?_
  refine mr_aload_n (pc := 61) dX6_loads_61 rfl ?_
  refine mr_getf (pc := 62) (ci := 6) inX6 rfl 0 (by decide) fl_31 dX6_loads_62 (ha_34 σ2 τ2) rfl ?_
  refine mr_iconstv (pc := 65) (5 : Int32) dX6_loads_65 (by decide) ?_
  refine mr_iload_n (pc := 66) dX6_loads_66 rfl ?_
  refine mr_imul (pc := 67) dX6_loads_67 ?_
  refine mr_iconstv (pc := 68) (4 : Int32) dX6_loads_68 (by decide) ?_
  refine mr_iadd (pc := 69) dX6_loads_69 ?_
  refine mr_iload_n (pc := 70) dX6_loads_70 rfl ?_
  obtain ⟨g3, h⟩ := og h
  obtain ⟨σ4, e4, h⟩ := ow h
  refine mr_iast (pc := 71) dX6_loads_71 (ha_35 σ2 τ2) (g3) (mc_V.heap (hs_35 e4) ?_)
  refine mr_aload_n (pc := 72) dX6_loads_72 rfl ?_
  refine mr_getf (pc := 73) (ci := 6) inX6 rfl 0 (by decide) fl_31 dX6_loads_73 (ha_34 σ4 τ2) rfl ?_
  refine mr_iconstv (pc := 76) (5 : Int32) dX6_loads_76 (by decide) ?_
  refine mr_iload_n (pc := 77) dX6_loads_77 rfl ?_
  refine mr_imul (pc := 78) dX6_loads_78 ?_
  refine mr_iconstv (pc := 79) (5 : Int32) dX6_loads_79 (by decide) ?_
  refine mr_iadd (pc := 80) dX6_loads_80 ?_
  refine mr_iload_n (pc := 81) dX6_loads_81 rfl ?_
  obtain ⟨g5, h⟩ := og h
  obtain ⟨σ6, e6, h⟩ := ow h
  refine mr_iast (pc := 82) dX6_loads_82 (ha_35 σ4 τ2) (g5) (mc_V.heap (hs_35 e6) ?_)
  refine mr_iload (pc := 83) dX6_loads_83 rfl ?_
  obtain ⟨rfl, rfl, rfl⟩ := os3 h
  exact mr_iret (pc := 85) rfl (rfl) dX6_loads_85
set_option maxHeartbeats 4000000 in
set_option maxRecDepth 100000 in
theorem dc_Q_loads {p1 : Int32} {p2 : Int32} {p3 : Int32} {σ : mS} {τ : mT} {r : Int32} {σ' : mS} {τ' : mT} (h : Q_loads p1 p2 p3 σ τ = some (r, σ', τ')) : mc_V M_X6_loads 3 none 0 (mc_entry [.ref 34, .int p1, .int p2, .int p3] 5) [] (mc_hp σ τ) (some (.int r)) (mc_hp σ' τ') 0 0 := by
  unfold Q_loads at h
  show mc_V M_X6_loads 3 none 0 [.ref 34, .int p1, .int p2, .int p3, .retAddr 0] [] (mc_hp σ τ) (some (.int r)) (mc_hp σ' τ') 0 0
  refine mr_aload_n (pc := 0) dX6_loads_0 rfl ?_
  refine mr_iload_n (pc := 1) dX6_loads_1 rfl ?_
  refine mr_iload_n (pc := 2) dX6_loads_2 rfl ?_
  obtain ⟨r1, σ1, τ1, c1, h⟩ := obs h
  refine mr_callV0 (pc := 3) (ci := 6) [.int p1, .int p2] ok_X6_isSpot lk_173 st_X6_isSpot se_X6_isSpot dX6_loads_3 rfl (ha_34 σ τ) rfl rfl (Nat.le_of_ble_eq_true rfl) (Nat.le_of_ble_eq_true rfl) ((dc_Q_isSpot c1).up (by decide)) ?_
  refine mr_if_eq (pc := 6) 19 dX6_loads_6 (by decide) (fun q2 => ?_) (fun q2 => ?_)
  · replace h := (if_pos q2).symm.trans h
    refine mr_iconstv (pc := 19) (-1 : Int32) dX6_loads_19 (by decide) ?_
    obtain ⟨rfl, rfl, rfl⟩ := os3 h
    exact mr_iret (pc := 20) rfl (rfl) dX6_loads_20
  · replace h := (if_neg q2).symm.trans h
    refine mr_iload_n (pc := 9) dX6_loads_9 rfl ?_
    refine mr_iconstv (pc := 10) (0 : Int32) dX6_loads_10 (by decide) ?_
    refine mr_bipushv (pc := 11) (20 : Int32) dX6_loads_11 (by decide) ?_
    obtain ⟨r3, σ3, τ3, c3, h⟩ := obs h
    refine mr_callS0 (pc := 13) [.int p3, .int (0 : Int32), .int (20 : Int32)] ok_X6_within lk_131 st_X6_within dX6_loads_13 rfl rfl (Nat.le_of_ble_eq_true rfl) (Nat.le_of_ble_eq_true rfl) ((dc_Q_within c3).up (by decide)) ?_
    refine mr_if_ne (pc := 16) 21 dX6_loads_16 (by decide) (fun q4 => ?_) (fun q4 => ?_)
    · replace h := (if_neg q4).symm.trans h
      refine mr_aload_n (pc := 21) dX6_loads_21 rfl ?_
      refine mr_iload_n (pc := 22) dX6_loads_22 rfl ?_
      refine mr_iconstv (pc := 23) (4 : Int32) dX6_loads_23 (by decide) ?_
      obtain ⟨r5, σ5, τ5, c5, h⟩ := obs h
      refine mr_callV0 (pc := 24) (ci := 6) [.int p1, .int (4 : Int32)] ok_X6_get lk_132 st_X6_get se_X6_get dX6_loads_24 rfl (ha_34 σ3 τ3) rfl rfl (Nat.le_of_ble_eq_true rfl) (Nat.le_of_ble_eq_true rfl) ((dc_Q_get c5).up (by decide)) ?_
      refine mr_istore (pc := 27) dX6_loads_27 (Nat.le_of_ble_eq_true rfl) (show mc_V M_X6_loads 3 none 29 [.ref 34, .int p1, .int p2, .int p3, .int r5] [] (mc_hp σ5 τ5) (some (.int r)) (mc_hp σ' τ') 0 0 from ?_)
      refine mr_iload (pc := 29) dX6_loads_29 rfl ?_
      refine mr_iload_n (pc := 31) dX6_loads_31 rfl ?_
      refine mr_icmp_ne (pc := 32) 48 dX6_loads_32 (by decide) (fun q6 => ?_) (fun q6 => ?_)
      · replace h := (if_neg q6).symm.trans h
        exact mc_V.locs (loc' := [.ref 34, .int p1, .int p2, .int p3, .int r5]) ⟨Or.inr rfl, Or.inr rfl, Or.inr rfl, Or.inr rfl, Or.inr rfl, trivial⟩ (dc_Q_loads_b48 p1 p2 p3 r5 σ5 τ5 r σ' τ' h)
      · replace h := (if_pos q6).symm.trans h
        refine mr_aload_n (pc := 35) dX6_loads_35 rfl ?_
        refine mr_iload_n (pc := 36) dX6_loads_36 rfl ?_
        refine mr_iconstv (pc := 37) (5 : Int32) dX6_loads_37 (by decide) ?_
        obtain ⟨r7, σ7, τ7, c7, h⟩ := obs h
        refine mr_callV0 (pc := 38) (ci := 6) [.int p1, .int (5 : Int32)] ok_X6_get lk_132 st_X6_get se_X6_get dX6_loads_38 rfl (ha_34 σ5 τ5) rfl rfl (Nat.le_of_ble_eq_true rfl) (Nat.le_of_ble_eq_true rfl) ((dc_Q_get c7).up (by decide)) ?_
        refine mr_iload_n (pc := 41) dX6_loads_41 rfl ?_
        refine mr_icmp_ne (pc := 42) 48 dX6_loads_42 (by decide) (fun q8 => ?_) (fun q8 => ?_)
        · replace h := (if_neg q8).symm.trans h
          exact mc_V.locs (loc' := [.ref 34, .int p1, .int p2, .int p3, .int r5]) ⟨Or.inr rfl, Or.inr rfl, Or.inr rfl, Or.inr rfl, Or.inr rfl, trivial⟩ (dc_Q_loads_b48 p1 p2 p3 r5 σ7 τ7 r σ' τ' h)
        · replace h := (if_pos q8).symm.trans h
          refine mr_bipushv (pc := 45) (-2 : Int32) dX6_loads_45 (by decide) ?_
          obtain ⟨rfl, rfl, rfl⟩ := os3 h
          exact mr_iret (pc := 47) rfl (rfl) dX6_loads_47
    · replace h := (if_pos q4).symm.trans h
      refine mr_iconstv (pc := 19) (-1 : Int32) dX6_loads_19 (by decide) ?_
      obtain ⟨rfl, rfl, rfl⟩ := os3 h
      exact mr_iret (pc := 20) rfl (rfl) dX6_loads_20
set_option maxHeartbeats 4000000 in
set_option maxRecDepth 100000 in
theorem dc_S_read_29_2 {p1 : Int32} {σ : mS} {τ : mT} {σ' : mS} {τ' : mT} (h : S_read_29_2 p1 σ τ = some (σ', τ')) : mc_V M_X3_read 1 none 0 (mc_entry [.ref 29, .int p1, .ref 2] 3) [] (mc_hp σ τ) none (mc_hp σ' τ') 0 0 := by
  unfold S_read_29_2 at h
  show mc_V M_X3_read 1 none 0 [.ref 29, .int p1, .ref 2] [] (mc_hp σ τ) none (mc_hp σ' τ') 0 0
  refine mr_iload_n (pc := 0) dX3_read_0 rfl ?_
  refine mr_iconstv (pc := 1) (0 : Int32) dX3_read_1 (by decide) ?_
  refine mr_aload_n (pc := 2) dX3_read_2 rfl ?_
  refine mr_getf (pc := 3) (ci := 3) inX3 rfl 0 (by decide) fl_26 dX3_read_3 (ha_29 σ τ) rfl ?_
  refine mr_iconstv (pc := 6) (1 : Int32) dX3_read_6 (by decide) ?_
  refine mr_isub (pc := 7) dX3_read_7 ?_
  obtain ⟨r1, σ1, τ1, c1, h⟩ := obs h
  refine mr_callSN0 (pc := 8) [.int p1, .int (0 : Int32), .int ((6 : Int32) - (1 : Int32))] ok_X5_within lk_189 st_X5_within dX3_read_8 rfl rfl (Nat.le_of_ble_eq_true rfl) (Nat.le_of_ble_eq_true rfl) ((dc_R_within c1).up (by decide)) ?_
  refine mr_if_eq (pc := 11) 32 dX3_read_11 (by decide) (fun q2 => ?_) (fun q2 => ?_)
  · replace h := (if_pos q2).symm.trans h
    obtain ⟨rfl, rfl⟩ := os2 h
    exact mr_ret (pc := 32) rfl dX3_read_32
  · replace h := (if_neg q2).symm.trans h
    refine mr_aload_n (pc := 14) dX3_read_14 rfl ?_
    refine mr_getf (pc := 15) (ci := 3) inX3 rfl 1 (by decide) fl_27 dX3_read_15 (ha_29 σ1 τ1) rfl ?_
    refine mr_iload_n (pc := 18) dX3_read_18 rfl ?_
    refine mr_bipushv (pc := 19) (21 : Int32) dX3_read_19 (by decide) ?_
    refine mr_imul (pc := 21) dX3_read_21 ?_
    refine mr_aload_n (pc := 22) dX3_read_22 rfl ?_
    refine mr_getfN (pc := 23) (ci := 2) inX2 rfl 0 (by decide) fl_58 dX3_read_23 (ha_2 σ1 τ1) rfl ?_
    refine mr_iconstv (pc := 26) (0 : Int32) dX3_read_26 (by decide) ?_
    refine mr_bipushv (pc := 27) (21 : Int32) dX3_read_27 (by decide) ?_
    obtain ⟨g3, h⟩ := og h
    obtain ⟨g4, h⟩ := og h
    obtain ⟨σ5, e5, h⟩ := ow h
    refine mr_copy (pc := 29) cp_X3 cp_nat cp_stat cp_ini dX3_read_29 (ha_30 σ1 τ1) (ha_3 σ1 τ1) g3 (by decide) (by decide) (Nat.not_lt.mp g4) (Nat.le_of_ble_eq_true rfl) (Nat.le_of_ble_eq_true rfl) (mc_V.heap (hc_3 e5) ?_)
    obtain ⟨rfl, rfl⟩ := os2 h
    exact mr_ret (pc := 32) rfl dX3_read_32
set_option maxHeartbeats 4000000 in
set_option maxRecDepth 100000 in
theorem dc_R_undo {σ : mS} {τ : mT} {r : Int32} {σ' : mS} {τ' : mT} (h : R_undo σ τ = some (r, σ', τ')) : mc_V M_X5_undo 2 none 0 (mc_entry [.ref 1] 1) [] (mc_hp σ τ) (some (.int r)) (mc_hp σ' τ') 0 0 := by
  unfold R_undo at h
  show mc_V M_X5_undo 2 none 0 [.ref 1] [] (mc_hp σ τ) (some (.int r)) (mc_hp σ' τ') 0 0
  refine mr_aload_n (pc := 0) dX5_undo_0 rfl ?_
  refine mr_getf (pc := 1) (ci := 5) inX5 rfl 8 (by decide) fl_8 dX5_undo_1 (ha_1 σ τ) rfl ?_
  refine mr_if_gt (pc := 4) 10 dX5_undo_4 (by decide) (fun q1 => ?_) (fun q1 => ?_)
  · replace h := (if_pos q1).symm.trans h
    refine mr_aload_n (pc := 10) dX5_undo_10 rfl ?_
    refine mr_dup (pc := 11) dX5_undo_11 rfl ?_
    refine mr_getf (pc := 12) (ci := 5) inX5 rfl 8 (by decide) fl_8 dX5_undo_12 (ha_1 σ τ) rfl ?_
    refine mr_iconstv (pc := 15) (1 : Int32) dX5_undo_15 (by decide) ?_
    refine mr_isub (pc := 16) dX5_undo_16 ?_
    obtain ⟨σ2, e2, h⟩ := ow h
    refine mr_putf (pc := 17) (ci := 5) inX5 tyX5 tyX5_ok nmX5 rfl 8 (by decide) fl_8 rfl dX5_undo_17 (ha_1 σ τ) (Nat.le_of_ble_eq_true rfl) rfl (mc_V.heap (hs_1_8 e2) ?_)
    refine mr_aload_n (pc := 20) dX5_undo_20 rfl ?_
    refine mr_getf (pc := 21) (ci := 5) inX5 rfl 5 (by decide) fl_5 dX5_undo_21 (ha_1 σ2 τ) rfl ?_
    refine mr_aload_n (pc := 24) dX5_undo_24 rfl ?_
    refine mr_getf (pc := 25) (ci := 5) inX5 rfl 8 (by decide) fl_8 dX5_undo_25 (ha_1 σ2 τ) rfl ?_
    refine mr_aload_n (pc := 28) dX5_undo_28 rfl ?_
    refine mr_getf (pc := 29) (ci := 5) inX5 rfl 0 (by decide) fl_0 dX5_undo_29 (ha_1 σ2 τ) rfl ?_
    obtain ⟨σ3, τ3, c3, h⟩ := ovs h
    refine mr_callV0 (pc := 32) (ci := 3) [.int (σ2 1 8), .ref 2] ok_X3_read lk_20 st_X3_read se_X3_read dX5_undo_32 rfl (ha_29 σ2 τ) rfl rfl (Nat.le_of_ble_eq_true rfl) (Nat.le_of_ble_eq_true rfl) ((dc_S_read_29_2 c3).up (by decide)) ?_
    refine mr_aload_n (pc := 35) dX5_undo_35 rfl ?_
    refine mr_getf (pc := 36) (ci := 5) inX5 rfl 8 (by decide) fl_8 dX5_undo_36 (ha_1 σ3 τ3) rfl ?_
    obtain ⟨rfl, rfl, rfl⟩ := os3 h
    exact mr_iret (pc := 39) rfl (rfl) dX5_undo_39
  · replace h := (if_neg q1).symm.trans h
    refine mr_bipushv (pc := 7) (-2 : Int32) dX5_undo_7 (by decide) ?_
    obtain ⟨rfl, rfl, rfl⟩ := os3 h
    exact mr_iret (pc := 9) rfl (rfl) dX5_undo_9
set_option maxHeartbeats 4000000 in
set_option maxRecDepth 100000 in
theorem dc_Q_takes_36_l2 : ∀ (n : Nat), ∀ (x2 : Int32) (x3 : Int32) (σ : mS) (τ : mT) (σ' : mS) (τ' : mT), Q_takes_36_l2 n x2 x3 σ τ = some (σ', τ') → mc_V M_X6_takes 0 none 2 [.ref 34, .ref 36, .int x2, .int x3] [] (mc_hp σ τ) none (mc_hp σ' τ') 0 0 := by
  intro n
  induction n with
  | zero =>
    intros
    rename_i h
    cases h
  | succ n ih =>
    intro x2 x3 σ τ σ' τ' h
    refine mr_iload_n (pc := 2) dX6_takes_2 rfl ?_
    refine mr_bipushv (pc := 3) (21 : Int32) dX6_takes_3 (by decide) ?_
    refine mr_icmp_ge (pc := 5) 25 dX6_takes_5 (by decide) (fun q1 => ?_) (fun q1 => ?_)
    · replace h := (if_pos q1).symm.trans h
      obtain ⟨rfl, rfl⟩ := os2 h
      exact mr_ret (pc := 25) rfl dX6_takes_25
    · replace h := (if_neg q1).symm.trans h
      refine mr_aload_n (pc := 8) dX6_takes_8 rfl ?_
      refine mr_getf (pc := 9) (ci := 6) inX6 rfl 0 (by decide) fl_31 dX6_takes_9 (ha_34 σ τ) rfl ?_
      refine mr_iload_n (pc := 12) dX6_takes_12 rfl ?_
      refine mr_aload_n (pc := 13) dX6_takes_13 rfl ?_
      refine mr_iload_n (pc := 14) dX6_takes_14 rfl ?_
      refine mr_iload_n (pc := 15) dX6_takes_15 rfl ?_
      refine mr_iadd (pc := 16) dX6_takes_16 ?_
      obtain ⟨g2, h⟩ := og h
      refine mr_iald (pc := 17) dX6_takes_17 (ha_36 σ τ) (g2) ?_
      obtain ⟨g3, h⟩ := og h
      obtain ⟨σ4, e4, h⟩ := ow h
      refine mr_iast (pc := 18) dX6_takes_18 (ha_35 σ τ) (g3) (mc_V.heap (hs_35 e4) ?_)
      refine mr_iincv (pc := 19) (1 : Int32) dX6_takes_19 rfl (by decide) (show mc_V M_X6_takes 0 none 22 [.ref 34, .ref 36, .int x2, .int (x3 + (1 : Int32))] [] (mc_hp σ4 τ) none (mc_hp σ' τ') 0 0 from ?_)
      refine mr_goto (pc := 22) 2 dX6_takes_22 (by decide) ?_
      exact mc_V.locs (loc' := [.ref 34, .ref 36, .int x2, .int (x3 + (1 : Int32))]) ⟨Or.inr rfl, Or.inr rfl, Or.inr rfl, Or.inr rfl, trivial⟩ (ih x2 (x3 + (1 : Int32)) σ4 τ σ' τ' h)
set_option maxHeartbeats 4000000 in
set_option maxRecDepth 100000 in
theorem dc_Q_takes_36 {p2 : Int32} {σ : mS} {τ : mT} {σ' : mS} {τ' : mT} (h : Q_takes_36 p2 σ τ = some (σ', τ')) : mc_V M_X6_takes 0 none 0 (mc_entry [.ref 34, .ref 36, .int p2] 4) [] (mc_hp σ τ) none (mc_hp σ' τ') 0 0 := by
  unfold Q_takes_36 at h
  show mc_V M_X6_takes 0 none 0 [.ref 34, .ref 36, .int p2, .retAddr 0] [] (mc_hp σ τ) none (mc_hp σ' τ') 0 0
  refine mr_iconstv (pc := 0) (0 : Int32) dX6_takes_0 (by decide) ?_
  refine mr_istore_n (pc := 1) dX6_takes_1 (Nat.le_of_ble_eq_true rfl) (show mc_V M_X6_takes 0 none 2 [.ref 34, .ref 36, .int p2, .int (0 : Int32)] [] (mc_hp σ τ) none (mc_hp σ' τ') 0 0 from ?_)
  exact mc_V.locs (loc' := [.ref 34, .ref 36, .int p2, .int (0 : Int32)]) ⟨Or.inr rfl, Or.inr rfl, Or.inr rfl, Or.inr rfl, trivial⟩ (dc_Q_takes_36_l2 mc_F p2 (0 : Int32) σ τ σ' τ' h)
set_option maxHeartbeats 4000000 in
set_option maxRecDepth 100000 in
theorem dc_Q_undo {σ : mS} {τ : mT} {r : Int32} {σ' : mS} {τ' : mT} (h : Q_undo σ τ = some (r, σ', τ')) : mc_V M_X6_undo 1 none 0 (mc_entry [.ref 34] 1) [] (mc_hp σ τ) (some (.int r)) (mc_hp σ' τ') 0 0 := by
  unfold Q_undo at h
  show mc_V M_X6_undo 1 none 0 [.ref 34] [] (mc_hp σ τ) (some (.int r)) (mc_hp σ' τ') 0 0
  refine mr_aload_n (pc := 0) dX6_undo_0 rfl ?_
  refine mr_getf (pc := 1) (ci := 6) inX6 rfl 2 (by decide) fl_57 dX6_undo_1 (ha_34 σ τ) rfl ?_
  refine mr_if_ne (pc := 4) 10 dX6_undo_4 (by decide) (fun q1 => ?_) (fun q1 => ?_)
  · replace h := (if_neg q1).symm.trans h
    refine mr_aload_n (pc := 10) dX6_undo_10 rfl ?_
    refine mr_dup (pc := 11) dX6_undo_11 rfl ?_
    refine mr_getf (pc := 12) (ci := 6) inX6 rfl 2 (by decide) fl_57 dX6_undo_12 (ha_34 σ τ) rfl ?_
    refine mr_iconstv (pc := 15) (1 : Int32) dX6_undo_15 (by decide) ?_
    refine mr_isub (pc := 16) dX6_undo_16 ?_
    obtain ⟨σ2, e2, h⟩ := ow h
    refine mr_putf (pc := 17) (ci := 6) inX6 tyX6 tyX6_ok nmX6 rfl 2 (by decide) fl_57 rfl dX6_undo_17 (ha_34 σ τ) (Nat.le_of_ble_eq_true rfl) rfl (mc_V.heap (hs_34_2 e2) ?_)
    refine mr_aload_n (pc := 20) dX6_undo_20 rfl ?_
    refine mr_aload_n (pc := 21) dX6_undo_21 rfl ?_
    refine mr_getf (pc := 22) (ci := 6) inX6 rfl 1 (by decide) fl_32 dX6_undo_22 (ha_34 σ2 τ) rfl ?_
    refine mr_bipushv (pc := 25) (21 : Int32) dX6_undo_25 (by decide) ?_
    refine mr_aload_n (pc := 27) dX6_undo_27 rfl ?_
    refine mr_getf (pc := 28) (ci := 6) inX6 rfl 2 (by decide) fl_57 dX6_undo_28 (ha_34 σ2 τ) rfl ?_
    refine mr_imul (pc := 31) dX6_undo_31 ?_
    obtain ⟨σ3, τ3, c3, h⟩ := ovs h
    refine mr_callV0 (pc := 32) (ci := 6) [.ref 36, .int ((21 : Int32) * (σ2 34 2))] ok_X6_takes lk_167 st_X6_takes se_X6_takes dX6_undo_32 rfl (ha_34 σ2 τ) rfl rfl (Nat.le_of_ble_eq_true rfl) (Nat.le_of_ble_eq_true rfl) ((dc_Q_takes_36 c3).up (by decide)) ?_
    refine mr_aload_n (pc := 35) dX6_undo_35 rfl ?_
    refine mr_getf (pc := 36) (ci := 6) inX6 rfl 2 (by decide) fl_57 dX6_undo_36 (ha_34 σ3 τ3) rfl ?_
    obtain ⟨rfl, rfl, rfl⟩ := os3 h
    exact mr_iret (pc := 39) rfl (rfl) dX6_undo_39
  · replace h := (if_pos q1).symm.trans h
    refine mr_bipushv (pc := 7) (-2 : Int32) dX6_undo_7 (by decide) ?_
    obtain ⟨rfl, rfl, rfl⟩ := os3 h
    exact mr_iret (pc := 9) rfl (rfl) dX6_undo_9
set_option maxHeartbeats 4000000 in
set_option maxRecDepth 100000 in
theorem dc_Y_under {p1 : Int32} {σ : mS} {τ : mT} {r : Int32} {σ' : mS} {τ' : mT} (h : Y_under p1 σ τ = some (r, σ', τ')) : mc_V M_X1_under 1 none 0 (mc_entry [.ref 6, .int p1] 2) [] (mc_hp σ τ) (some (.int r)) (mc_hp σ' τ') 0 0 := by
  unfold Y_under at h
  show mc_V M_X1_under 1 none 0 [.ref 6, .int p1] [] (mc_hp σ τ) (some (.int r)) (mc_hp σ' τ') 0 0
  refine mr_iload_n (pc := 0) dX1_under_0 rfl ?_
  refine mr_iconstv (pc := 1) (0 : Int32) dX1_under_1 (by decide) ?_
  refine mr_aload_n (pc := 2) dX1_under_2 rfl ?_
  refine mr_getf (pc := 3) (ci := 1) inX1 rfl 8 (by decide) fl_23 dX1_under_3 (ha_6 σ τ) rfl ?_
  refine mr_iconstv (pc := 6) (1 : Int32) dX1_under_6 (by decide) ?_
  refine mr_isub (pc := 7) dX1_under_7 ?_
  obtain ⟨r1, σ1, τ1, c1, h⟩ := obs h
  refine mr_callSN0 (pc := 8) [.int p1, .int (0 : Int32), .int ((σ 6 8) - (1 : Int32))] ok_X5_within lk_187 st_X5_within dX1_under_8 rfl rfl (Nat.le_of_ble_eq_true rfl) (Nat.le_of_ble_eq_true rfl) ((dc_R_within c1).up (by decide)) ?_
  refine mr_if_eq (pc := 11) 23 dX1_under_11 (by decide) (fun q2 => ?_) (fun q2 => ?_)
  · replace h := (if_pos q2).symm.trans h
    refine mr_iconstv (pc := 23) (0 : Int32) dX1_under_23 (by decide) ?_
    obtain ⟨rfl, rfl, rfl⟩ := os3 h
    exact mr_iret (pc := 24) rfl (rfl) dX1_under_24
  · replace h := (if_neg q2).symm.trans h
    refine mr_aload_n (pc := 14) dX1_under_14 rfl ?_
    refine mr_getf (pc := 15) (ci := 1) inX1 rfl 3 (by decide) fl_18 dX1_under_15 (ha_6 σ1 τ1) rfl ?_
    refine mr_iload_n (pc := 18) dX1_under_18 rfl ?_
    obtain ⟨g3, h⟩ := og h
    refine mr_iald (pc := 19) dX1_under_19 (ha_10 σ1 τ1) (g3) ?_
    refine mr_goto (pc := 20) 24 dX1_under_20 (by decide) ?_
    obtain ⟨rfl, rfl, rfl⟩ := os3 h
    exact mr_iret (pc := 24) rfl (rfl) dX1_under_24
set_option maxHeartbeats 4000000 in
set_option maxRecDepth 100000 in
theorem dc_R_block {p1 : Int32} {p2 : Int32} {σ : mS} {τ : mT} {r : Int32} {σ' : mS} {τ' : mT} (h : R_block p1 p2 σ τ = some (r, σ', τ')) : mc_V M_X5_block 3 none 0 (mc_entry [.ref 1, .int p1, .int p2] 3) [] (mc_hp σ τ) (some (.int r)) (mc_hp σ' τ') 0 0 := by
  unfold R_block at h
  show mc_V M_X5_block 3 none 0 [.ref 1, .int p1, .int p2] [] (mc_hp σ τ) (some (.int r)) (mc_hp σ' τ') 0 0
  refine mr_aload_n (pc := 0) dX5_block_0 rfl ?_
  refine mr_getf (pc := 1) (ci := 5) inX5 rfl 0 (by decide) fl_0 dX5_block_1 (ha_1 σ τ) rfl ?_
  refine mr_iload_n (pc := 4) dX5_block_4 rfl ?_
  obtain ⟨r1, σ1, τ1, c1, h⟩ := obs h
  refine mr_callV0 (pc := 5) (ci := 2) [.int p1] ok_X2_has lk_14 st_X2_has se_X2_has dX5_block_5 rfl (ha_2 σ τ) rfl rfl (Nat.le_of_ble_eq_true rfl) (Nat.le_of_ble_eq_true rfl) ((dc_P_has_2 c1).up (by decide)) ?_
  refine mr_if_eq (pc := 8) 21 dX5_block_8 (by decide) (fun q2 => ?_) (fun q2 => ?_)
  · replace h := (if_pos q2).symm.trans h
    refine mr_iconstv (pc := 21) (-1 : Int32) dX5_block_21 (by decide) ?_
    obtain ⟨rfl, rfl, rfl⟩ := os3 h
    exact mr_iret (pc := 22) rfl (rfl) dX5_block_22
  · replace h := (if_neg q2).symm.trans h
    refine mr_iload_n (pc := 11) dX5_block_11 rfl ?_
    refine mr_iconstv (pc := 12) (0 : Int32) dX5_block_12 (by decide) ?_
    refine mr_bipushv (pc := 13) (7 : Int32) dX5_block_13 (by decide) ?_
    obtain ⟨r3, σ3, τ3, c3, h⟩ := obs h
    refine mr_callS0 (pc := 15) [.int p2, .int (0 : Int32), .int (7 : Int32)] ok_X5_within lk_1 st_X5_within dX5_block_15 rfl rfl (Nat.le_of_ble_eq_true rfl) (Nat.le_of_ble_eq_true rfl) ((dc_R_within c3).up (by decide)) ?_
    refine mr_if_ne (pc := 18) 23 dX5_block_18 (by decide) (fun q4 => ?_) (fun q4 => ?_)
    · replace h := (if_neg q4).symm.trans h
      refine mr_iload_n (pc := 23) dX5_block_23 rfl ?_
      refine mr_iconstv (pc := 24) (5 : Int32) dX5_block_24 (by decide) ?_
      refine mr_icmp_ge (pc := 25) 38 dX5_block_25 (by decide) (fun q5 => ?_) (fun q5 => ?_)
      · replace h := (if_pos q5).symm.trans h
        refine mr_aload_n (pc := 38) dX5_block_38 rfl ?_
        refine mr_getf (pc := 39) (ci := 5) inX5 rfl 2 (by decide) fl_2 dX5_block_39 (ha_1 σ3 τ3) rfl ?_
        refine mr_aload_n (pc := 42) dX5_block_42 rfl ?_
        refine mr_getf (pc := 43) (ci := 5) inX5 rfl 0 (by decide) fl_0 dX5_block_43 (ha_1 σ3 τ3) rfl ?_
        obtain ⟨σ6, τ6, c6, h⟩ := ovs h
        refine mr_callV0 (pc := 46) (ci := 1) [.ref 2] ok_X1_find lk_12 st_X1_find se_X1_find dX5_block_46 rfl (ha_6 σ3 τ3) rfl rfl (Nat.le_of_ble_eq_true rfl) (Nat.le_of_ble_eq_true rfl) ((dc_Y_find_2 c6).up (by decide)) ?_
        refine mr_iload_n (pc := 49) dX5_block_49 rfl ?_
        by_cases q7 : p2 = 5
        · replace h := (if_pos q7).symm.trans h
          refine mr_lookup (pc := 50) 26 76 dX5_block_50 (by decide) (by rw [q7]; rfl) (by decide) ?_
          refine mr_aload_n (pc := 76) dX5_block_76 rfl ?_
          refine mr_getf (pc := 77) (ci := 5) inX5 rfl 2 (by decide) fl_2 dX5_block_77 (ha_1 σ6 τ6) rfl ?_
          refine mr_iload_n (pc := 80) dX5_block_80 rfl ?_
          obtain ⟨r8, σ8, τ8, c8, h⟩ := obs h
          refine mr_callV0 (pc := 81) (ci := 1) [.int p1] ok_X1_level lk_13 st_X1_level se_X1_level dX5_block_81 rfl (ha_6 σ6 τ6) rfl rfl (Nat.le_of_ble_eq_true rfl) (Nat.le_of_ble_eq_true rfl) ((dc_Y_level c8).up (by decide)) ?_
          obtain ⟨rfl, rfl, rfl⟩ := os3 h
          exact mr_iret (pc := 84) rfl (rfl) dX5_block_84
        · replace h := (if_neg q7).symm.trans h
          by_cases q9 : p2 = 6
          · replace h := (if_pos q9).symm.trans h
            refine mr_lookup (pc := 50) 35 85 dX5_block_50 (by decide) (by rw [q9]; rfl) (by decide) ?_
            refine mr_aload_n (pc := 85) dX5_block_85 rfl ?_
            refine mr_getf (pc := 86) (ci := 5) inX5 rfl 2 (by decide) fl_2 dX5_block_86 (ha_1 σ6 τ6) rfl ?_
            refine mr_iload_n (pc := 89) dX5_block_89 rfl ?_
            obtain ⟨r10, σ10, τ10, c10, h⟩ := obs h
            refine mr_callV0 (pc := 90) (ci := 1) [.int p1] ok_X1_under lk_21 st_X1_under se_X1_under dX5_block_90 rfl (ha_6 σ6 τ6) rfl rfl (Nat.le_of_ble_eq_true rfl) (Nat.le_of_ble_eq_true rfl) ((dc_Y_under c10).up (by decide)) ?_
            obtain ⟨rfl, rfl, rfl⟩ := os3 h
            exact mr_iret (pc := 93) rfl (rfl) dX5_block_93
          · replace h := (if_neg q9).symm.trans h
            refine mr_lookup (pc := 50) 44 94 dX5_block_50 (by decide) (by show Op.lookupswitch.offset [(5, 26), (6, 35)] 44 _ = _; rw [lv_osw q7 (k := 5) (by decide), lv_osw q9 (k := 6) (by decide)]; rfl) (by decide) ?_
            refine mr_aload_n (pc := 94) dX5_block_94 rfl ?_
            refine mr_getf (pc := 95) (ci := 5) inX5 rfl 2 (by decide) fl_2 dX5_block_95 (ha_1 σ6 τ6) rfl ?_
            refine mr_iload_n (pc := 98) dX5_block_98 rfl ?_
            obtain ⟨r11, σ11, τ11, c11, h⟩ := obs h
            refine mr_callV0 (pc := 99) (ci := 1) [.int p1] ok_X1_over lk_15 st_X1_over se_X1_over dX5_block_99 rfl (ha_6 σ6 τ6) rfl rfl (Nat.le_of_ble_eq_true rfl) (Nat.le_of_ble_eq_true rfl) ((dc_Y_over c11).up (by decide)) ?_
            obtain ⟨rfl, rfl, rfl⟩ := os3 h
            exact mr_iret (pc := 102) rfl (rfl) dX5_block_102
      · replace h := (if_neg q5).symm.trans h
        refine mr_aload_n (pc := 28) dX5_block_28 rfl ?_
        refine mr_getf (pc := 29) (ci := 5) inX5 rfl 0 (by decide) fl_0 dX5_block_29 (ha_1 σ3 τ3) rfl ?_
        refine mr_iload_n (pc := 32) dX5_block_32 rfl ?_
        refine mr_iload_n (pc := 33) dX5_block_33 rfl ?_
        obtain ⟨r12, σ12, τ12, c12, h⟩ := obs h
        refine mr_callV0 (pc := 34) (ci := 2) [.int p1, .int p2] ok_X2_get lk_17 st_X2_get se_X2_get dX5_block_34 rfl (ha_2 σ3 τ3) rfl rfl (Nat.le_of_ble_eq_true rfl) (Nat.le_of_ble_eq_true rfl) ((dc_P_get_2 c12).up (by decide)) ?_
        obtain ⟨rfl, rfl, rfl⟩ := os3 h
        exact mr_iret (pc := 37) rfl (rfl) dX5_block_37
    · replace h := (if_pos q4).symm.trans h
      refine mr_iconstv (pc := 21) (-1 : Int32) dX5_block_21 (by decide) ?_
      obtain ⟨rfl, rfl, rfl⟩ := os3 h
      exact mr_iret (pc := 22) rfl (rfl) dX5_block_22
set_option maxHeartbeats 4000000 in
set_option maxRecDepth 100000 in
theorem dc_Q_tellBlock {p1 : Int32} {p2 : Int32} {σ : mS} {τ : mT} {r : Int32} {σ' : mS} {τ' : mT} (h : Q_tellBlock p1 p2 σ τ = some (r, σ', τ')) : mc_V M_X6_tellBlock 6 none 0 (mc_entry [.ref 34, .int p1, .int p2] 3) [] (mc_hp σ τ) (some (.int r)) (mc_hp σ' τ') 0 0 := by
  unfold Q_tellBlock at h
  show mc_V M_X6_tellBlock 6 none 0 [.ref 34, .int p1, .int p2] [] (mc_hp σ τ) (some (.int r)) (mc_hp σ' τ') 0 0
  refine mr_iload_n (pc := 0) dX6_tellBlock_0 rfl ?_
  refine mr_iconstv (pc := 1) (5 : Int32) dX6_tellBlock_1 (by decide) ?_
  refine mr_icmp_ge (pc := 2) 14 dX6_tellBlock_2 (by decide) (fun q1 => ?_) (fun q1 => ?_)
  · replace h := (if_pos q1).symm.trans h
    refine mr_aload_n (pc := 14) dX6_tellBlock_14 rfl ?_
    obtain ⟨σ2, τ2, c2, h⟩ := ovs h
    refine mr_callV0 (pc := 15) (ci := 6) [] ok_X6_layAll lk_152 st_X6_layAll se_X6_layAll dX6_tellBlock_15 rfl (ha_34 σ τ) rfl rfl (Nat.le_of_ble_eq_true rfl) (Nat.le_of_ble_eq_true rfl) ((dc_Q_layAll c2).up (by decide)) ?_
    refine mr_iload_n (pc := 18) dX6_tellBlock_18 rfl ?_
    refine mr_iconstv (pc := 19) (5 : Int32) dX6_tellBlock_19 (by decide) ?_
    refine mr_icmp_ne (pc := 20) 32 dX6_tellBlock_20 (by decide) (fun q3 => ?_) (fun q3 => ?_)
    · replace h := (if_neg q3).symm.trans h
      refine mr_iload_n (pc := 32) dX6_tellBlock_32 rfl ?_
      refine mr_bipushv (pc := 33) (6 : Int32) dX6_tellBlock_33 (by decide) ?_
      refine mr_icmp_ne (pc := 35) 47 dX6_tellBlock_35 (by decide) (fun q4 => ?_) (fun q4 => ?_)
      · replace h := (if_neg q4).symm.trans h
        refine mr_aload_n (pc := 47) dX6_tellBlock_47 rfl ?_
        refine mr_iload_n (pc := 48) dX6_tellBlock_48 rfl ?_
        obtain ⟨r5, σ5, τ5, c5, h⟩ := obs h
        refine mr_callV0 (pc := 49) (ci := 6) [.int p1] ok_X6_above lk_171 st_X6_above se_X6_above dX6_tellBlock_49 rfl (ha_34 σ2 τ2) rfl rfl (Nat.le_of_ble_eq_true rfl) (Nat.le_of_ble_eq_true rfl) ((dc_Q_above c5).up (by decide)) ?_
        obtain ⟨rfl, rfl, rfl⟩ := os3 h
        exact mr_iret (pc := 52) rfl (rfl) dX6_tellBlock_52
      · replace h := (if_pos q4).symm.trans h
        refine mr_aload_n (pc := 38) dX6_tellBlock_38 rfl ?_
        refine mr_getf (pc := 39) (ci := 6) inX6 rfl 8 (by decide) fl_37 dX6_tellBlock_39 (ha_34 σ2 τ2) rfl ?_
        refine mr_iload_n (pc := 42) dX6_tellBlock_42 rfl ?_
        obtain ⟨g6, h⟩ := og h
        refine mr_iald (pc := 43) dX6_tellBlock_43 (ha_41 σ2 τ2) (g6) ?_
        refine mr_goto (pc := 44) 52 dX6_tellBlock_44 (by decide) ?_
        obtain ⟨rfl, rfl, rfl⟩ := os3 h
        exact mr_iret (pc := 52) rfl (rfl) dX6_tellBlock_52
    · replace h := (if_pos q3).symm.trans h
      refine mr_aload_n (pc := 23) dX6_tellBlock_23 rfl ?_
      refine mr_getf (pc := 24) (ci := 6) inX6 rfl 7 (by decide) fl_36 dX6_tellBlock_24 (ha_34 σ2 τ2) rfl ?_
      refine mr_iload_n (pc := 27) dX6_tellBlock_27 rfl ?_
      obtain ⟨g7, h⟩ := og h
      refine mr_iald (pc := 28) dX6_tellBlock_28 (ha_40 σ2 τ2) (g7) ?_
      refine mr_goto (pc := 29) 52 dX6_tellBlock_29 (by decide) ?_
      obtain ⟨rfl, rfl, rfl⟩ := os3 h
      exact mr_iret (pc := 52) rfl (rfl) dX6_tellBlock_52
  · replace h := (if_neg q1).symm.trans h
    refine mr_aload_n (pc := 5) dX6_tellBlock_5 rfl ?_
    refine mr_iload_n (pc := 6) dX6_tellBlock_6 rfl ?_
    refine mr_iload_n (pc := 7) dX6_tellBlock_7 rfl ?_
    refine mr_iconstv (pc := 8) (1 : Int32) dX6_tellBlock_8 (by decide) ?_
    refine mr_iadd (pc := 9) dX6_tellBlock_9 ?_
    obtain ⟨r8, σ8, τ8, c8, h⟩ := obs h
    refine mr_callV0 (pc := 10) (ci := 6) [.int p1, .int (p2 + (1 : Int32))] ok_X6_get lk_132 st_X6_get se_X6_get dX6_tellBlock_10 rfl (ha_34 σ τ) rfl rfl (Nat.le_of_ble_eq_true rfl) (Nat.le_of_ble_eq_true rfl) ((dc_Q_get c8).up (by decide)) ?_
    obtain ⟨rfl, rfl, rfl⟩ := os3 h
    exact mr_iret (pc := 13) rfl (rfl) dX6_tellBlock_13
set_option maxHeartbeats 4000000 in
set_option maxRecDepth 100000 in
theorem dc_Q_block {p1 : Int32} {p2 : Int32} {σ : mS} {τ : mT} {r : Int32} {σ' : mS} {τ' : mT} (h : Q_block p1 p2 σ τ = some (r, σ', τ')) : mc_V M_X6_block 7 none 0 (mc_entry [.ref 34, .int p1, .int p2] 3) [] (mc_hp σ τ) (some (.int r)) (mc_hp σ' τ') 0 0 := by
  unfold Q_block at h
  show mc_V M_X6_block 7 none 0 [.ref 34, .int p1, .int p2] [] (mc_hp σ τ) (some (.int r)) (mc_hp σ' τ') 0 0
  refine mr_aload_n (pc := 0) dX6_block_0 rfl ?_
  refine mr_iload_n (pc := 1) dX6_block_1 rfl ?_
  obtain ⟨r1, σ1, τ1, c1, h⟩ := obs h
  refine mr_callV0 (pc := 2) (ci := 6) [.int p1] ok_X6_isBlock lk_170 st_X6_isBlock se_X6_isBlock dX6_block_2 rfl (ha_34 σ τ) rfl rfl (Nat.le_of_ble_eq_true rfl) (Nat.le_of_ble_eq_true rfl) ((dc_Q_isBlock c1).up (by decide)) ?_
  refine mr_if_eq (pc := 5) 27 dX6_block_5 (by decide) (fun q2 => ?_) (fun q2 => ?_)
  · replace h := (if_pos q2).symm.trans h
    refine mr_iconstv (pc := 27) (-1 : Int32) dX6_block_27 (by decide) ?_
    obtain ⟨rfl, rfl, rfl⟩ := os3 h
    exact mr_iret (pc := 28) rfl (rfl) dX6_block_28
  · replace h := (if_neg q2).symm.trans h
    refine mr_iload_n (pc := 8) dX6_block_8 rfl ?_
    refine mr_iconstv (pc := 9) (0 : Int32) dX6_block_9 (by decide) ?_
    refine mr_bipushv (pc := 10) (7 : Int32) dX6_block_10 (by decide) ?_
    obtain ⟨r3, σ3, τ3, c3, h⟩ := obs h
    refine mr_callS0 (pc := 12) [.int p2, .int (0 : Int32), .int (7 : Int32)] ok_X6_within lk_131 st_X6_within dX6_block_12 rfl rfl (Nat.le_of_ble_eq_true rfl) (Nat.le_of_ble_eq_true rfl) ((dc_Q_within c3).up (by decide)) ?_
    refine mr_if_eq (pc := 15) 27 dX6_block_15 (by decide) (fun q4 => ?_) (fun q4 => ?_)
    · replace h := (if_pos q4).symm.trans h
      refine mr_iconstv (pc := 27) (-1 : Int32) dX6_block_27 (by decide) ?_
      obtain ⟨rfl, rfl, rfl⟩ := os3 h
      exact mr_iret (pc := 28) rfl (rfl) dX6_block_28
    · replace h := (if_neg q4).symm.trans h
      refine mr_aload_n (pc := 18) dX6_block_18 rfl ?_
      refine mr_iload_n (pc := 19) dX6_block_19 rfl ?_
      refine mr_iload_n (pc := 20) dX6_block_20 rfl ?_
      obtain ⟨r5, σ5, τ5, c5, h⟩ := obs h
      refine mr_callV0 (pc := 21) (ci := 6) [.int p1, .int p2] ok_X6_tellBlock lk_174 st_X6_tellBlock se_X6_tellBlock dX6_block_21 rfl (ha_34 σ3 τ3) rfl rfl (Nat.le_of_ble_eq_true rfl) (Nat.le_of_ble_eq_true rfl) ((dc_Q_tellBlock c5).up (by decide)) ?_
      refine mr_goto (pc := 24) 28 dX6_block_24 (by decide) ?_
      obtain ⟨rfl, rfl, rfl⟩ := os3 h
      exact mr_iret (pc := 28) rfl (rfl) dX6_block_28
set_option maxHeartbeats 4000000 in
set_option maxRecDepth 100000 in
theorem dc_Y_contacts {σ : mS} {τ : mT} {r : Int32} {σ' : mS} {τ' : mT} (h : Y_contacts σ τ = some (r, σ', τ')) : mc_V M_X1_contacts 0 none 0 (mc_entry [.ref 6] 1) [] (mc_hp σ τ) (some (.int r)) (mc_hp σ' τ') 0 0 := by
  unfold Y_contacts at h
  show mc_V M_X1_contacts 0 none 0 [.ref 6] [] (mc_hp σ τ) (some (.int r)) (mc_hp σ' τ') 0 0
  refine mr_aload_n (pc := 0) dX1_contacts_0 rfl ?_
  refine mr_getf (pc := 1) (ci := 1) inX1 rfl 9 (by decide) fl_24 dX1_contacts_1 (ha_6 σ τ) rfl ?_
  obtain ⟨rfl, rfl, rfl⟩ := os3 h
  exact mr_iret (pc := 4) rfl (rfl) dX1_contacts_4
set_option maxHeartbeats 4000000 in
set_option maxRecDepth 100000 in
theorem dc_Y_upper {p1 : Int32} {σ : mS} {τ : mT} {r : Int32} {σ' : mS} {τ' : mT} (h : Y_upper p1 σ τ = some (r, σ', τ')) : mc_V M_X1_upper 1 none 0 (mc_entry [.ref 6, .int p1] 2) [] (mc_hp σ τ) (some (.int r)) (mc_hp σ' τ') 0 0 := by
  unfold Y_upper at h
  show mc_V M_X1_upper 1 none 0 [.ref 6, .int p1] [] (mc_hp σ τ) (some (.int r)) (mc_hp σ' τ') 0 0
  refine mr_iload_n (pc := 0) dX1_upper_0 rfl ?_
  refine mr_iconstv (pc := 1) (0 : Int32) dX1_upper_1 (by decide) ?_
  refine mr_aload_n (pc := 2) dX1_upper_2 rfl ?_
  refine mr_getf (pc := 3) (ci := 1) inX1 rfl 9 (by decide) fl_24 dX1_upper_3 (ha_6 σ τ) rfl ?_
  refine mr_iconstv (pc := 6) (1 : Int32) dX1_upper_6 (by decide) ?_
  refine mr_isub (pc := 7) dX1_upper_7 ?_
  obtain ⟨r1, σ1, τ1, c1, h⟩ := obs h
  refine mr_callSN0 (pc := 8) [.int p1, .int (0 : Int32), .int ((σ 6 9) - (1 : Int32))] ok_X5_within lk_187 st_X5_within dX1_upper_8 rfl rfl (Nat.le_of_ble_eq_true rfl) (Nat.le_of_ble_eq_true rfl) ((dc_R_within c1).up (by decide)) ?_
  refine mr_if_eq (pc := 11) 23 dX1_upper_11 (by decide) (fun q2 => ?_) (fun q2 => ?_)
  · replace h := (if_pos q2).symm.trans h
    refine mr_bipushv (pc := 23) (-9 : Int32) dX1_upper_23 (by decide) ?_
    obtain ⟨rfl, rfl, rfl⟩ := os3 h
    exact mr_iret (pc := 25) rfl (rfl) dX1_upper_25
  · replace h := (if_neg q2).symm.trans h
    refine mr_aload_n (pc := 14) dX1_upper_14 rfl ?_
    refine mr_getf (pc := 15) (ci := 1) inX1 rfl 5 (by decide) fl_20 dX1_upper_15 (ha_6 σ1 τ1) rfl ?_
    refine mr_iload_n (pc := 18) dX1_upper_18 rfl ?_
    obtain ⟨g3, h⟩ := og h
    refine mr_iald (pc := 19) dX1_upper_19 (ha_12 σ1 τ1) (g3) ?_
    refine mr_goto (pc := 20) 25 dX1_upper_20 (by decide) ?_
    obtain ⟨rfl, rfl, rfl⟩ := os3 h
    exact mr_iret (pc := 25) rfl (rfl) dX1_upper_25
set_option maxHeartbeats 4000000 in
set_option maxRecDepth 100000 in
theorem dc_Y_lower {p1 : Int32} {σ : mS} {τ : mT} {r : Int32} {σ' : mS} {τ' : mT} (h : Y_lower p1 σ τ = some (r, σ', τ')) : mc_V M_X1_lower 1 none 0 (mc_entry [.ref 6, .int p1] 2) [] (mc_hp σ τ) (some (.int r)) (mc_hp σ' τ') 0 0 := by
  unfold Y_lower at h
  show mc_V M_X1_lower 1 none 0 [.ref 6, .int p1] [] (mc_hp σ τ) (some (.int r)) (mc_hp σ' τ') 0 0
  refine mr_iload_n (pc := 0) dX1_lower_0 rfl ?_
  refine mr_iconstv (pc := 1) (0 : Int32) dX1_lower_1 (by decide) ?_
  refine mr_aload_n (pc := 2) dX1_lower_2 rfl ?_
  refine mr_getf (pc := 3) (ci := 1) inX1 rfl 9 (by decide) fl_24 dX1_lower_3 (ha_6 σ τ) rfl ?_
  refine mr_iconstv (pc := 6) (1 : Int32) dX1_lower_6 (by decide) ?_
  refine mr_isub (pc := 7) dX1_lower_7 ?_
  obtain ⟨r1, σ1, τ1, c1, h⟩ := obs h
  refine mr_callSN0 (pc := 8) [.int p1, .int (0 : Int32), .int ((σ 6 9) - (1 : Int32))] ok_X5_within lk_187 st_X5_within dX1_lower_8 rfl rfl (Nat.le_of_ble_eq_true rfl) (Nat.le_of_ble_eq_true rfl) ((dc_R_within c1).up (by decide)) ?_
  refine mr_if_eq (pc := 11) 23 dX1_lower_11 (by decide) (fun q2 => ?_) (fun q2 => ?_)
  · replace h := (if_pos q2).symm.trans h
    refine mr_bipushv (pc := 23) (-9 : Int32) dX1_lower_23 (by decide) ?_
    obtain ⟨rfl, rfl, rfl⟩ := os3 h
    exact mr_iret (pc := 25) rfl (rfl) dX1_lower_25
  · replace h := (if_neg q2).symm.trans h
    refine mr_aload_n (pc := 14) dX1_lower_14 rfl ?_
    refine mr_getf (pc := 15) (ci := 1) inX1 rfl 6 (by decide) fl_21 dX1_lower_15 (ha_6 σ1 τ1) rfl ?_
    refine mr_iload_n (pc := 18) dX1_lower_18 rfl ?_
    obtain ⟨g3, h⟩ := og h
    refine mr_iald (pc := 19) dX1_lower_19 (ha_13 σ1 τ1) (g3) ?_
    refine mr_goto (pc := 20) 25 dX1_lower_20 (by decide) ?_
    obtain ⟨rfl, rfl, rfl⟩ := os3 h
    exact mr_iret (pc := 25) rfl (rfl) dX1_lower_25
set_option maxHeartbeats 4000000 in
set_option maxRecDepth 100000 in
theorem dc_Y_x {p1 : Int32} {σ : mS} {τ : mT} {r : Int32} {σ' : mS} {τ' : mT} (h : Y_x p1 σ τ = some (r, σ', τ')) : mc_V M_X1_x 1 none 0 (mc_entry [.ref 6, .int p1] 2) [] (mc_hp σ τ) (some (.int r)) (mc_hp σ' τ') 0 0 := by
  unfold Y_x at h
  show mc_V M_X1_x 1 none 0 [.ref 6, .int p1] [] (mc_hp σ τ) (some (.int r)) (mc_hp σ' τ') 0 0
  refine mr_iload_n (pc := 0) dX1_x_0 rfl ?_
  refine mr_iconstv (pc := 1) (0 : Int32) dX1_x_1 (by decide) ?_
  refine mr_aload_n (pc := 2) dX1_x_2 rfl ?_
  refine mr_getf (pc := 3) (ci := 1) inX1 rfl 9 (by decide) fl_24 dX1_x_3 (ha_6 σ τ) rfl ?_
  refine mr_iconstv (pc := 6) (1 : Int32) dX1_x_6 (by decide) ?_
  refine mr_isub (pc := 7) dX1_x_7 ?_
  obtain ⟨r1, σ1, τ1, c1, h⟩ := obs h
  refine mr_callSN0 (pc := 8) [.int p1, .int (0 : Int32), .int ((σ 6 9) - (1 : Int32))] ok_X5_within lk_187 st_X5_within dX1_x_8 rfl rfl (Nat.le_of_ble_eq_true rfl) (Nat.le_of_ble_eq_true rfl) ((dc_R_within c1).up (by decide)) ?_
  refine mr_if_eq (pc := 11) 23 dX1_x_11 (by decide) (fun q2 => ?_) (fun q2 => ?_)
  · replace h := (if_pos q2).symm.trans h
    refine mr_iconstv (pc := 23) (0 : Int32) dX1_x_23 (by decide) ?_
    obtain ⟨rfl, rfl, rfl⟩ := os3 h
    exact mr_iret (pc := 24) rfl (rfl) dX1_x_24
  · replace h := (if_neg q2).symm.trans h
    refine mr_aload_n (pc := 14) dX1_x_14 rfl ?_
    refine mr_getf (pc := 15) (ci := 1) inX1 rfl 7 (by decide) fl_22 dX1_x_15 (ha_6 σ1 τ1) rfl ?_
    refine mr_iload_n (pc := 18) dX1_x_18 rfl ?_
    obtain ⟨g3, h⟩ := og h
    refine mr_iald (pc := 19) dX1_x_19 (ha_14 σ1 τ1) (g3) ?_
    refine mr_goto (pc := 20) 24 dX1_x_20 (by decide) ?_
    obtain ⟨rfl, rfl, rfl⟩ := os3 h
    exact mr_iret (pc := 24) rfl (rfl) dX1_x_24
set_option maxHeartbeats 4000000 in
set_option maxRecDepth 100000 in
theorem dc_R_contact {p1 : Int32} {p2 : Int32} {σ : mS} {τ : mT} {r : Int32} {σ' : mS} {τ' : mT} (h : R_contact p1 p2 σ τ = some (r, σ', τ')) : mc_V M_X5_contact 3 none 0 (mc_entry [.ref 1, .int p1, .int p2] 3) [] (mc_hp σ τ) (some (.int r)) (mc_hp σ' τ') 0 0 := by
  unfold R_contact at h
  show mc_V M_X5_contact 3 none 0 [.ref 1, .int p1, .int p2] [] (mc_hp σ τ) (some (.int r)) (mc_hp σ' τ') 0 0
  refine mr_aload_n (pc := 0) dX5_contact_0 rfl ?_
  refine mr_getf (pc := 1) (ci := 5) inX5 rfl 2 (by decide) fl_2 dX5_contact_1 (ha_1 σ τ) rfl ?_
  refine mr_aload_n (pc := 4) dX5_contact_4 rfl ?_
  refine mr_getf (pc := 5) (ci := 5) inX5 rfl 0 (by decide) fl_0 dX5_contact_5 (ha_1 σ τ) rfl ?_
  obtain ⟨σ1, τ1, c1, h⟩ := ovs h
  refine mr_callV0 (pc := 8) (ci := 1) [.ref 2] ok_X1_find lk_12 st_X1_find se_X1_find dX5_contact_8 rfl (ha_6 σ τ) rfl rfl (Nat.le_of_ble_eq_true rfl) (Nat.le_of_ble_eq_true rfl) ((dc_Y_find_2 c1).up (by decide)) ?_
  refine mr_iload_n (pc := 11) dX5_contact_11 rfl ?_
  refine mr_iconstv (pc := 12) (0 : Int32) dX5_contact_12 (by decide) ?_
  refine mr_aload_n (pc := 13) dX5_contact_13 rfl ?_
  refine mr_getf (pc := 14) (ci := 5) inX5 rfl 2 (by decide) fl_2 dX5_contact_14 (ha_1 σ1 τ1) rfl ?_
  obtain ⟨r2, σ2, τ2, c2, h⟩ := obs h
  refine mr_callV0 (pc := 17) (ci := 1) [] ok_X1_contacts lk_22 st_X1_contacts se_X1_contacts dX5_contact_17 rfl (ha_6 σ1 τ1) rfl rfl (Nat.le_of_ble_eq_true rfl) (Nat.le_of_ble_eq_true rfl) ((dc_Y_contacts c2).up (by decide)) ?_
  refine mr_iconstv (pc := 20) (1 : Int32) dX5_contact_20 (by decide) ?_
  refine mr_isub (pc := 21) dX5_contact_21 ?_
  obtain ⟨r3, σ3, τ3, c3, h⟩ := obs h
  refine mr_callS0 (pc := 22) [.int p1, .int (0 : Int32), .int (r2 - (1 : Int32))] ok_X5_within lk_1 st_X5_within dX5_contact_22 rfl rfl (Nat.le_of_ble_eq_true rfl) (Nat.le_of_ble_eq_true rfl) ((dc_R_within c3).up (by decide)) ?_
  refine mr_if_ne (pc := 25) 30 dX5_contact_25 (by decide) (fun q4 => ?_) (fun q4 => ?_)
  · replace h := (if_neg q4).symm.trans h
    refine mr_iload_n (pc := 30) dX5_contact_30 rfl ?_
    by_cases q5 : p2 = 0
    · replace h := (if_pos q5).symm.trans h
      refine mr_tabIn (pc := 31) 25 56 dX5_contact_31 (by rw [q5]; decide) (by rw [q5]; decide) (by rw [q5]; rfl) (by decide) ?_
      refine mr_aload_n (pc := 56) dX5_contact_56 rfl ?_
      refine mr_getf (pc := 57) (ci := 5) inX5 rfl 2 (by decide) fl_2 dX5_contact_57 (ha_1 σ3 τ3) rfl ?_
      refine mr_iload_n (pc := 60) dX5_contact_60 rfl ?_
      obtain ⟨r6, σ6, τ6, c6, h⟩ := obs h
      refine mr_callV0 (pc := 61) (ci := 1) [.int p1] ok_X1_upper lk_23 st_X1_upper se_X1_upper dX5_contact_61 rfl (ha_6 σ3 τ3) rfl rfl (Nat.le_of_ble_eq_true rfl) (Nat.le_of_ble_eq_true rfl) ((dc_Y_upper c6).up (by decide)) ?_
      obtain ⟨rfl, rfl, rfl⟩ := os3 h
      exact mr_iret (pc := 64) rfl (rfl) dX5_contact_64
    · replace h := (if_neg q5).symm.trans h
      by_cases q7 : p2 = 1
      · replace h := (if_pos q7).symm.trans h
        refine mr_tabIn (pc := 31) 34 65 dX5_contact_31 (by rw [q7]; decide) (by rw [q7]; decide) (by rw [q7]; rfl) (by decide) ?_
        refine mr_aload_n (pc := 65) dX5_contact_65 rfl ?_
        refine mr_getf (pc := 66) (ci := 5) inX5 rfl 2 (by decide) fl_2 dX5_contact_66 (ha_1 σ3 τ3) rfl ?_
        refine mr_iload_n (pc := 69) dX5_contact_69 rfl ?_
        obtain ⟨r8, σ8, τ8, c8, h⟩ := obs h
        refine mr_callV0 (pc := 70) (ci := 1) [.int p1] ok_X1_lower lk_24 st_X1_lower se_X1_lower dX5_contact_70 rfl (ha_6 σ3 τ3) rfl rfl (Nat.le_of_ble_eq_true rfl) (Nat.le_of_ble_eq_true rfl) ((dc_Y_lower c8).up (by decide)) ?_
        obtain ⟨rfl, rfl, rfl⟩ := os3 h
        exact mr_iret (pc := 73) rfl (rfl) dX5_contact_73
      · replace h := (if_neg q7).symm.trans h
        by_cases q9 : p2 = 2
        · replace h := (if_pos q9).symm.trans h
          refine mr_tabIn (pc := 31) 43 74 dX5_contact_31 (by rw [q9]; decide) (by rw [q9]; decide) (by rw [q9]; rfl) (by decide) ?_
          refine mr_aload_n (pc := 74) dX5_contact_74 rfl ?_
          refine mr_getf (pc := 75) (ci := 5) inX5 rfl 2 (by decide) fl_2 dX5_contact_75 (ha_1 σ3 τ3) rfl ?_
          refine mr_iload_n (pc := 78) dX5_contact_78 rfl ?_
          obtain ⟨r10, σ10, τ10, c10, h⟩ := obs h
          refine mr_callV0 (pc := 79) (ci := 1) [.int p1] ok_X1_x lk_25 st_X1_x se_X1_x dX5_contact_79 rfl (ha_6 σ3 τ3) rfl rfl (Nat.le_of_ble_eq_true rfl) (Nat.le_of_ble_eq_true rfl) ((dc_Y_x c10).up (by decide)) ?_
          obtain ⟨rfl, rfl, rfl⟩ := os3 h
          exact mr_iret (pc := 82) rfl (rfl) dX5_contact_82
        · replace h := (if_neg q9).symm.trans h
          refine mr_tabOut (pc := 31) 83 dX5_contact_31 (by have z5 := lv_neT q5 (a := 0) (by decide); have z7 := lv_neT q7 (a := 1) (by decide); have z9 := lv_neT q9 (a := 2) (by decide); omega) (by decide) ?_
          refine mr_iconstv (pc := 83) (-1 : Int32) dX5_contact_83 (by decide) ?_
          obtain ⟨rfl, rfl, rfl⟩ := os3 h
          exact mr_iret (pc := 84) rfl (rfl) dX5_contact_84
  · replace h := (if_pos q4).symm.trans h
    refine mr_iconstv (pc := 28) (-1 : Int32) dX5_contact_28 (by decide) ?_
    obtain ⟨rfl, rfl, rfl⟩ := os3 h
    exact mr_iret (pc := 29) rfl (rfl) dX5_contact_29
set_option maxHeartbeats 4000000 in
set_option maxRecDepth 100000 in
theorem dc_Q_isContact {p1 : Int32} {σ : mS} {τ : mT} {r : Int32} {σ' : mS} {τ' : mT} (h : Q_isContact p1 σ τ = some (r, σ', τ')) : mc_V M_X6_isContact 6 none 0 (mc_entry [.ref 34, .int p1] 2) [] (mc_hp σ τ) (some (.int r)) (mc_hp σ' τ') 0 0 := by
  unfold Q_isContact at h
  show mc_V M_X6_isContact 6 none 0 [.ref 34, .int p1] [] (mc_hp σ τ) (some (.int r)) (mc_hp σ' τ') 0 0
  refine mr_aload_n (pc := 0) dX6_isContact_0 rfl ?_
  obtain ⟨σ1, τ1, c1, h⟩ := ovs h
  refine mr_callV0 (pc := 1) (ci := 6) [] ok_X6_layAll lk_152 st_X6_layAll se_X6_layAll dX6_isContact_1 rfl (ha_34 σ τ) rfl rfl (Nat.le_of_ble_eq_true rfl) (Nat.le_of_ble_eq_true rfl) ((dc_Q_layAll c1).up (by decide)) ?_
  refine mr_iload_n (pc := 4) dX6_isContact_4 rfl ?_
  refine mr_iconstv (pc := 5) (0 : Int32) dX6_isContact_5 (by decide) ?_
  refine mr_aload_n (pc := 6) dX6_isContact_6 rfl ?_
  refine mr_getf (pc := 7) (ci := 6) inX6 rfl 9 (by decide) fl_45 dX6_isContact_7 (ha_34 σ1 τ1) rfl ?_
  refine mr_iconstv (pc := 10) (1 : Int32) dX6_isContact_10 (by decide) ?_
  refine mr_isub (pc := 11) dX6_isContact_11 ?_
  obtain ⟨r2, σ2, τ2, c2, h⟩ := obs h
  refine mr_callS0 (pc := 12) [.int p1, .int (0 : Int32), .int ((σ1 34 9) - (1 : Int32))] ok_X6_within lk_131 st_X6_within dX6_isContact_12 rfl rfl (Nat.le_of_ble_eq_true rfl) (Nat.le_of_ble_eq_true rfl) ((dc_Q_within c2).up (by decide)) ?_
  obtain ⟨g3, h⟩ := og h
  obtain ⟨rfl, rfl, rfl⟩ := os3 h
  exact mr_iret (pc := 15) rfl (nar_b g3) dX6_isContact_15
set_option maxHeartbeats 4000000 in
set_option maxRecDepth 100000 in
theorem dc_Q_contact {p1 : Int32} {p2 : Int32} {σ : mS} {τ : mT} {r : Int32} {σ' : mS} {τ' : mT} (h : Q_contact p1 p2 σ τ = some (r, σ', τ')) : mc_V M_X6_contact 7 none 0 (mc_entry [.ref 34, .int p1, .int p2] 3) [] (mc_hp σ τ) (some (.int r)) (mc_hp σ' τ') 0 0 := by
  unfold Q_contact at h
  show mc_V M_X6_contact 7 none 0 [.ref 34, .int p1, .int p2] [] (mc_hp σ τ) (some (.int r)) (mc_hp σ' τ') 0 0
  refine mr_aload_n (pc := 0) dX6_contact_0 rfl ?_
  refine mr_iload_n (pc := 1) dX6_contact_1 rfl ?_
  obtain ⟨r1, σ1, τ1, c1, h⟩ := obs h
  refine mr_callV0 (pc := 2) (ci := 6) [.int p1] ok_X6_isContact lk_175 st_X6_isContact se_X6_isContact dX6_contact_2 rfl (ha_34 σ τ) rfl rfl (Nat.le_of_ble_eq_true rfl) (Nat.le_of_ble_eq_true rfl) ((dc_Q_isContact c1).up (by decide)) ?_
  refine mr_if_eq (pc := 5) 17 dX6_contact_5 (by decide) (fun q2 => ?_) (fun q2 => ?_)
  · replace h := (if_pos q2).symm.trans h
    refine mr_iconstv (pc := 17) (-1 : Int32) dX6_contact_17 (by decide) ?_
    obtain ⟨rfl, rfl, rfl⟩ := os3 h
    exact mr_iret (pc := 18) rfl (rfl) dX6_contact_18
  · replace h := (if_neg q2).symm.trans h
    refine mr_iload_n (pc := 8) dX6_contact_8 rfl ?_
    refine mr_iconstv (pc := 9) (0 : Int32) dX6_contact_9 (by decide) ?_
    refine mr_iconstv (pc := 10) (2 : Int32) dX6_contact_10 (by decide) ?_
    obtain ⟨r3, σ3, τ3, c3, h⟩ := obs h
    refine mr_callS0 (pc := 11) [.int p2, .int (0 : Int32), .int (2 : Int32)] ok_X6_within lk_131 st_X6_within dX6_contact_11 rfl rfl (Nat.le_of_ble_eq_true rfl) (Nat.le_of_ble_eq_true rfl) ((dc_Q_within c3).up (by decide)) ?_
    refine mr_if_ne (pc := 14) 19 dX6_contact_14 (by decide) (fun q4 => ?_) (fun q4 => ?_)
    · replace h := (if_neg q4).symm.trans h
      refine mr_iload_n (pc := 19) dX6_contact_19 rfl ?_
      refine mr_if_ne (pc := 20) 32 dX6_contact_20 (by decide) (fun q5 => ?_) (fun q5 => ?_)
      · replace h := (if_neg q5).symm.trans h
        refine mr_iload_n (pc := 32) dX6_contact_32 rfl ?_
        refine mr_iconstv (pc := 33) (1 : Int32) dX6_contact_33 (by decide) ?_
        refine mr_icmp_ne (pc := 34) 46 dX6_contact_34 (by decide) (fun q6 => ?_) (fun q6 => ?_)
        · replace h := (if_neg q6).symm.trans h
          refine mr_aload_n (pc := 46) dX6_contact_46 rfl ?_
          refine mr_getf (pc := 47) (ci := 6) inX6 rfl 12 (by decide) fl_40 dX6_contact_47 (ha_34 σ3 τ3) rfl ?_
          refine mr_iload_n (pc := 50) dX6_contact_50 rfl ?_
          obtain ⟨g7, h⟩ := og h
          refine mr_iald (pc := 51) dX6_contact_51 (ha_44 σ3 τ3) (g7) ?_
          obtain ⟨rfl, rfl, rfl⟩ := os3 h
          exact mr_iret (pc := 52) rfl (rfl) dX6_contact_52
        · replace h := (if_pos q6).symm.trans h
          refine mr_aload_n (pc := 37) dX6_contact_37 rfl ?_
          refine mr_getf (pc := 38) (ci := 6) inX6 rfl 11 (by decide) fl_39 dX6_contact_38 (ha_34 σ3 τ3) rfl ?_
          refine mr_iload_n (pc := 41) dX6_contact_41 rfl ?_
          obtain ⟨g8, h⟩ := og h
          refine mr_iald (pc := 42) dX6_contact_42 (ha_43 σ3 τ3) (g8) ?_
          refine mr_goto (pc := 43) 52 dX6_contact_43 (by decide) ?_
          obtain ⟨rfl, rfl, rfl⟩ := os3 h
          exact mr_iret (pc := 52) rfl (rfl) dX6_contact_52
      · replace h := (if_pos q5).symm.trans h
        refine mr_aload_n (pc := 23) dX6_contact_23 rfl ?_
        refine mr_getf (pc := 24) (ci := 6) inX6 rfl 10 (by decide) fl_38 dX6_contact_24 (ha_34 σ3 τ3) rfl ?_
        refine mr_iload_n (pc := 27) dX6_contact_27 rfl ?_
        obtain ⟨g9, h⟩ := og h
        refine mr_iald (pc := 28) dX6_contact_28 (ha_42 σ3 τ3) (g9) ?_
        refine mr_goto (pc := 29) 52 dX6_contact_29 (by decide) ?_
        obtain ⟨rfl, rfl, rfl⟩ := os3 h
        exact mr_iret (pc := 52) rfl (rfl) dX6_contact_52
    · replace h := (if_pos q4).symm.trans h
      refine mr_iconstv (pc := 17) (-1 : Int32) dX6_contact_17 (by decide) ?_
      obtain ⟨rfl, rfl, rfl⟩ := os3 h
      exact mr_iret (pc := 18) rfl (rfl) dX6_contact_18
set_option maxHeartbeats 4000000 in
set_option maxRecDepth 100000 in
theorem dc_B_poseBlock_2_6_b93 (k55 : Int32 → Int32 → Int32 → mS → mT → Option (mS × mT)) (hk55 : ∀ (x3 : Int32) (x4 : Int32) (x5 : Int32) (σ : mS) (τ : mT) (σ' : mS) (τ' : mT), k55 x3 x4 x5 σ τ = some (σ', τ') → mc_V M_X0_poseBlock 2 none 55 [.ref 15, .ref 2, .ref 6, .int x3, .int x4, .int x5, .retAddr 0] [] (mc_hp σ τ) none (mc_hp σ' τ') 0 0) : ∀ (x3 : Int32) (x4 : Int32) (x5 : Int32) (s0 : Int32) (σ : mS) (τ : mT) (σ' : mS) (τ' : mT), B_poseBlock_2_6_b93 k55 x3 x4 x5 s0 σ τ = some (σ', τ') → mc_V M_X0_poseBlock 2 none 93 [.ref 15, .ref 2, .ref 6, .int x3, .int x4, .int x5, .retAddr 0] [.int s0] (mc_hp σ τ) none (mc_hp σ' τ') 0 0 := by
  intro x3 x4 x5 s0 σ τ σ' τ' h
  unfold B_poseBlock_2_6_b93 at h
  refine mr_istore (pc := 93) dX0_poseBlock_93 (Nat.le_of_ble_eq_true rfl) (show mc_V M_X0_poseBlock 2 none 95 [.ref 15, .ref 2, .ref 6, .int x3, .int x4, .int x5, .int s0] [] (mc_hp σ τ) none (mc_hp σ' τ') 0 0 from ?_)
  refine mr_aload_n (pc := 95) dX0_poseBlock_95 rfl ?_
  refine mr_getf (pc := 96) (ci := 0) inX0 rfl 0 (by decide) fl_9 dX0_poseBlock_96 (ha_15 σ τ) rfl ?_
  refine mr_iload (pc := 99) dX0_poseBlock_99 rfl ?_
  obtain ⟨g1, h⟩ := og h
  refine mr_aald (pc := 101) dX0_poseBlock_101 (ha_16 σ τ) (g1) (gr_some (g1)) ?_
  refine mr_iload (pc := 102) dX0_poseBlock_102 rfl ?_
  refine mr_iload (pc := 104) dX0_poseBlock_104 rfl ?_
  refine mr_i2l (pc := 106) dX0_poseBlock_106 ?_
  obtain ⟨g2, h⟩ := og h
  obtain ⟨τ3, e3, h⟩ := ow h
  refine mr_gst (pc := 107) dX0_poseBlock_107 (g1) (g2) e3 ?_
  refine mr_aload_n (pc := 108) dX0_poseBlock_108 rfl ?_
  refine mr_getf (pc := 109) (ci := 0) inX0 rfl 0 (by decide) fl_9 dX0_poseBlock_109 (ha_15 σ τ3) rfl ?_
  refine mr_iload (pc := 112) dX0_poseBlock_112 rfl ?_
  refine mr_iconstv (pc := 114) (1 : Int32) dX0_poseBlock_114 (by decide) ?_
  refine mr_iadd (pc := 115) dX0_poseBlock_115 ?_
  obtain ⟨g4, h⟩ := og h
  refine mr_aald (pc := 116) dX0_poseBlock_116 (ha_16 σ τ3) (g4) (gr_some (g4)) ?_
  refine mr_iload (pc := 117) dX0_poseBlock_117 rfl ?_
  refine mr_iload (pc := 119) dX0_poseBlock_119 rfl ?_
  refine mr_aload_n (pc := 121) dX0_poseBlock_121 rfl ?_
  refine mr_iload (pc := 122) dX0_poseBlock_122 rfl ?_
  obtain ⟨r5, σ5, τ5, c5, h⟩ := obs h
  refine mr_callV0 (pc := 124) (ci := 1) [.int x5] ok_X1_x lk_47 st_X1_x se_X1_x dX0_poseBlock_124 rfl (ha_6 σ τ3) rfl rfl (Nat.le_of_ble_eq_true rfl) (Nat.le_of_ble_eq_true rfl) ((dc_Y_x c5).up (by decide)) ?_
  refine mr_aload_n (pc := 127) dX0_poseBlock_127 rfl ?_
  refine mr_iload_n (pc := 128) dX0_poseBlock_128 rfl ?_
  refine mr_iconstv (pc := 129) (0 : Int32) dX0_poseBlock_129 (by decide) ?_
  obtain ⟨r6, σ6, τ6, c6, h⟩ := obs h
  refine mr_callV0 (pc := 130) (ci := 2) [.int x3, .int (0 : Int32)] ok_X2_get lk_48 st_X2_get se_X2_get dX0_poseBlock_130 rfl (ha_2 σ5 τ5) rfl rfl (Nat.le_of_ble_eq_true rfl) (Nat.le_of_ble_eq_true rfl) ((dc_P_get_2 c6).up (by decide)) ?_
  refine mr_isub (pc := 133) dX0_poseBlock_133 ?_
  refine mr_imul (pc := 134) dX0_poseBlock_134 ?_
  refine mr_i2l (pc := 135) dX0_poseBlock_135 ?_
  obtain ⟨τ7, e7, h⟩ := ow h
  refine mr_gst (pc := 136) dX0_poseBlock_136 (g4) (g2) e7 ?_
  refine mr_iincv (pc := 137) (1 : Int32) dX0_poseBlock_137 rfl (by decide) (show mc_V M_X0_poseBlock 2 none 140 [.ref 15, .ref 2, .ref 6, .int x3, .int x4, .int (x5 + (1 : Int32)), .int s0] [] (mc_hp σ6 τ7) none (mc_hp σ' τ') 0 0 from ?_)
  refine mr_goto (pc := 140) 55 dX0_poseBlock_140 (by decide) ?_
  exact mc_V.locs (loc' := [.ref 15, .ref 2, .ref 6, .int x3, .int x4, .int (x5 + (1 : Int32)), .retAddr 0]) ⟨Or.inr rfl, Or.inr rfl, Or.inr rfl, Or.inr rfl, Or.inr rfl, Or.inr rfl, Or.inl rfl, trivial⟩ (hk55 x3 x4 (x5 + (1 : Int32)) σ6 τ7 σ' τ' h)
set_option maxHeartbeats 4000000 in
set_option maxRecDepth 100000 in
theorem dc_B_poseBlock_2_6_l55 : ∀ (n : Nat), ∀ (x3 : Int32) (x4 : Int32) (x5 : Int32) (σ : mS) (τ : mT) (σ' : mS) (τ' : mT), B_poseBlock_2_6_l55 n x3 x4 x5 σ τ = some (σ', τ') → mc_V M_X0_poseBlock 2 none 55 [.ref 15, .ref 2, .ref 6, .int x3, .int x4, .int x5, .retAddr 0] [] (mc_hp σ τ) none (mc_hp σ' τ') 0 0 := by
  intro n
  induction n with
  | zero =>
    intros
    rename_i h
    cases h
  | succ n ih =>
    intro x3 x4 x5 σ τ σ' τ' h
    refine mr_iload (pc := 55) dX0_poseBlock_55 rfl ?_
    refine mr_aload_n (pc := 57) dX0_poseBlock_57 rfl ?_
    refine mr_getf (pc := 58) (ci := 0) inX0 rfl 4 (by decide) fl_13 dX0_poseBlock_58 (ha_15 σ τ) rfl ?_
    refine mr_icmp_ge (pc := 61) 143 dX0_poseBlock_61 (by decide) (fun q1 => ?_) (fun q1 => ?_)
    · replace h := (if_pos q1).symm.trans h
      refine mr_aload_n (pc := 143) dX0_poseBlock_143 rfl ?_
      refine mr_iload_n (pc := 144) dX0_poseBlock_144 rfl ?_
      refine mr_iconstv (pc := 145) (2 : Int32) dX0_poseBlock_145 (by decide) ?_
      obtain ⟨r2, σ2, τ2, c2, h⟩ := obs h
      refine mr_callV0 (pc := 146) (ci := 2) [.int x3, .int (2 : Int32)] ok_X2_get lk_48 st_X2_get se_X2_get dX0_poseBlock_146 rfl (ha_2 σ τ) rfl rfl (Nat.le_of_ble_eq_true rfl) (Nat.le_of_ble_eq_true rfl) ((dc_P_get_2 c2).up (by decide)) ?_
      refine mr_istore (pc := 149) dX0_poseBlock_149 (Nat.le_of_ble_eq_true rfl) (show mc_V M_X0_poseBlock 2 none 151 [.ref 15, .ref 2, .ref 6, .int x3, .int x4, .int r2, .retAddr 0] [] (mc_hp σ2 τ2) none (mc_hp σ' τ') 0 0 from ?_)
      refine mr_aload_n (pc := 151) dX0_poseBlock_151 rfl ?_
      refine mr_iload_n (pc := 152) dX0_poseBlock_152 rfl ?_
      refine mr_iconstv (pc := 153) (3 : Int32) dX0_poseBlock_153 (by decide) ?_
      obtain ⟨r3, σ3, τ3, c3, h⟩ := obs h
      refine mr_callV0 (pc := 154) (ci := 2) [.int x3, .int (3 : Int32)] ok_X2_get lk_48 st_X2_get se_X2_get dX0_poseBlock_154 rfl (ha_2 σ2 τ2) rfl rfl (Nat.le_of_ble_eq_true rfl) (Nat.le_of_ble_eq_true rfl) ((dc_P_get_2 c3).up (by decide)) ?_
      refine mr_istore (pc := 157) dX0_poseBlock_157 (Nat.le_of_ble_eq_true rfl) (show mc_V M_X0_poseBlock 2 none 159 [.ref 15, .ref 2, .ref 6, .int x3, .int x4, .int r2, .int r3] [] (mc_hp σ3 τ3) none (mc_hp σ' τ') 0 0 from ?_)
      refine mr_aload_n (pc := 159) dX0_poseBlock_159 rfl ?_
      refine mr_getf (pc := 160) (ci := 0) inX0 rfl 0 (by decide) fl_9 dX0_poseBlock_160 (ha_15 σ3 τ3) rfl ?_
      refine mr_iload (pc := 163) dX0_poseBlock_163 rfl ?_
      obtain ⟨g4, h⟩ := og h
      refine mr_aald (pc := 165) dX0_poseBlock_165 (ha_16 σ3 τ3) (g4) (gr_some (g4)) ?_
      refine mr_bipushv (pc := 166) (13 : Int32) dX0_poseBlock_166 (by decide) ?_
      refine mr_iload (pc := 168) dX0_poseBlock_168 rfl ?_
      refine mr_iload (pc := 170) dX0_poseBlock_170 rfl ?_
      refine mr_iadd (pc := 172) dX0_poseBlock_172 ?_
      refine mr_i2l (pc := 173) dX0_poseBlock_173 ?_
      obtain ⟨τ5, e5, h⟩ := ow h
      refine mr_gst (pc := 174) dX0_poseBlock_174 (g4) (vin_ok rfl) e5 ?_
      refine mr_aload_n (pc := 175) dX0_poseBlock_175 rfl ?_
      refine mr_getf (pc := 176) (ci := 0) inX0 rfl 0 (by decide) fl_9 dX0_poseBlock_176 (ha_15 σ3 τ5) rfl ?_
      refine mr_iload (pc := 179) dX0_poseBlock_179 rfl ?_
      refine mr_iconstv (pc := 181) (1 : Int32) dX0_poseBlock_181 (by decide) ?_
      refine mr_iadd (pc := 182) dX0_poseBlock_182 ?_
      obtain ⟨g6, h⟩ := og h
      refine mr_aald (pc := 183) dX0_poseBlock_183 (ha_16 σ3 τ5) (g6) (gr_some (g6)) ?_
      refine mr_bipushv (pc := 184) (13 : Int32) dX0_poseBlock_184 (by decide) ?_
      refine mr_iload (pc := 186) dX0_poseBlock_186 rfl ?_
      refine mr_aload_n (pc := 188) dX0_poseBlock_188 rfl ?_
      refine mr_iload_n (pc := 189) dX0_poseBlock_189 rfl ?_
      refine mr_iconstv (pc := 190) (1 : Int32) dX0_poseBlock_190 (by decide) ?_
      obtain ⟨r7, σ7, τ7, c7, h⟩ := obs h
      refine mr_callV0 (pc := 191) (ci := 2) [.int x3, .int (1 : Int32)] ok_X2_get lk_48 st_X2_get se_X2_get dX0_poseBlock_191 rfl (ha_2 σ3 τ5) rfl rfl (Nat.le_of_ble_eq_true rfl) (Nat.le_of_ble_eq_true rfl) ((dc_P_get_2 c7).up (by decide)) ?_
      refine mr_imul (pc := 194) dX0_poseBlock_194 ?_
      refine mr_iload (pc := 195) dX0_poseBlock_195 rfl ?_
      refine mr_aload_n (pc := 197) dX0_poseBlock_197 rfl ?_
      refine mr_iload_n (pc := 198) dX0_poseBlock_198 rfl ?_
      refine mr_iconstv (pc := 199) (4 : Int32) dX0_poseBlock_199 (by decide) ?_
      obtain ⟨r8, σ8, τ8, c8, h⟩ := obs h
      refine mr_callV0 (pc := 200) (ci := 2) [.int x3, .int (4 : Int32)] ok_X2_get lk_48 st_X2_get se_X2_get dX0_poseBlock_200 rfl (ha_2 σ7 τ7) rfl rfl (Nat.le_of_ble_eq_true rfl) (Nat.le_of_ble_eq_true rfl) ((dc_P_get_2 c8).up (by decide)) ?_
      refine mr_imul (pc := 203) dX0_poseBlock_203 ?_
      refine mr_iadd (pc := 204) dX0_poseBlock_204 ?_
      refine mr_i2l (pc := 205) dX0_poseBlock_205 ?_
      obtain ⟨τ9, e9, h⟩ := ow h
      refine mr_gst (pc := 206) dX0_poseBlock_206 (g6) (vin_ok rfl) e9 ?_
      obtain ⟨rfl, rfl⟩ := os2 h
      exact mr_ret (pc := 207) rfl dX0_poseBlock_207
    · replace h := (if_neg q1).symm.trans h
      refine mr_aload_n (pc := 64) dX0_poseBlock_64 rfl ?_
      refine mr_iload (pc := 65) dX0_poseBlock_65 rfl ?_
      obtain ⟨r10, σ10, τ10, c10, h⟩ := obs h
      refine mr_callV0 (pc := 67) (ci := 1) [.int x5] ok_X1_upper lk_45 st_X1_upper se_X1_upper dX0_poseBlock_67 rfl (ha_6 σ τ) rfl rfl (Nat.le_of_ble_eq_true rfl) (Nat.le_of_ble_eq_true rfl) ((dc_Y_upper c10).up (by decide)) ?_
      refine mr_iload_n (pc := 70) dX0_poseBlock_70 rfl ?_
      refine mr_icmp_ne (pc := 71) 78 dX0_poseBlock_71 (by decide) (fun q11 => ?_) (fun q11 => ?_)
      · replace h := (if_neg q11).symm.trans h
        refine mr_aload_n (pc := 78) dX0_poseBlock_78 rfl ?_
        refine mr_iload (pc := 79) dX0_poseBlock_79 rfl ?_
        obtain ⟨r12, σ12, τ12, c12, h⟩ := obs h
        refine mr_callV0 (pc := 81) (ci := 1) [.int x5] ok_X1_lower lk_46 st_X1_lower se_X1_lower dX0_poseBlock_81 rfl (ha_6 σ10 τ10) rfl rfl (Nat.le_of_ble_eq_true rfl) (Nat.le_of_ble_eq_true rfl) ((dc_Y_lower c12).up (by decide)) ?_
        refine mr_iload_n (pc := 84) dX0_poseBlock_84 rfl ?_
        refine mr_icmp_ne (pc := 85) 92 dX0_poseBlock_85 (by decide) (fun q13 => ?_) (fun q13 => ?_)
        · replace h := (if_neg q13).symm.trans h
          refine mr_iconstv (pc := 92) (0 : Int32) dX0_poseBlock_92 (by decide) ?_
          exact mc_V.locs (loc' := [.ref 15, .ref 2, .ref 6, .int x3, .int x4, .int x5, .retAddr 0]) ⟨Or.inr rfl, Or.inr rfl, Or.inr rfl, Or.inr rfl, Or.inr rfl, Or.inr rfl, Or.inl rfl, trivial⟩ (dc_B_poseBlock_2_6_b93 (B_poseBlock_2_6_l55 n) ih x3 x4 x5 (0 : Int32) σ12 τ12 σ' τ' h)
        · replace h := (if_pos q13).symm.trans h
          refine mr_iconstv (pc := 88) (-1 : Int32) dX0_poseBlock_88 (by decide) ?_
          refine mr_goto (pc := 89) 93 dX0_poseBlock_89 (by decide) ?_
          exact mc_V.locs (loc' := [.ref 15, .ref 2, .ref 6, .int x3, .int x4, .int x5, .retAddr 0]) ⟨Or.inr rfl, Or.inr rfl, Or.inr rfl, Or.inr rfl, Or.inr rfl, Or.inr rfl, Or.inl rfl, trivial⟩ (dc_B_poseBlock_2_6_b93 (B_poseBlock_2_6_l55 n) ih x3 x4 x5 (-1 : Int32) σ12 τ12 σ' τ' h)
      · replace h := (if_pos q11).symm.trans h
        refine mr_iconstv (pc := 74) (1 : Int32) dX0_poseBlock_74 (by decide) ?_
        refine mr_goto (pc := 75) 93 dX0_poseBlock_75 (by decide) ?_
        exact mc_V.locs (loc' := [.ref 15, .ref 2, .ref 6, .int x3, .int x4, .int x5, .retAddr 0]) ⟨Or.inr rfl, Or.inr rfl, Or.inr rfl, Or.inr rfl, Or.inr rfl, Or.inr rfl, Or.inl rfl, trivial⟩ (dc_B_poseBlock_2_6_b93 (B_poseBlock_2_6_l55 n) ih x3 x4 x5 (1 : Int32) σ10 τ10 σ' τ' h)
set_option maxHeartbeats 4000000 in
set_option maxRecDepth 100000 in
theorem dc_B_poseBlock_2_6 {p3 : Int32} {σ : mS} {τ : mT} {σ' : mS} {τ' : mT} (h : B_poseBlock_2_6 p3 σ τ = some (σ', τ')) : mc_V M_X0_poseBlock 2 none 0 (mc_entry [.ref 15, .ref 2, .ref 6, .int p3] 7) [] (mc_hp σ τ) none (mc_hp σ' τ') 0 0 := by
  unfold B_poseBlock_2_6 at h
  show mc_V M_X0_poseBlock 2 none 0 [.ref 15, .ref 2, .ref 6, .int p3, .retAddr 0, .retAddr 0, .retAddr 0] [] (mc_hp σ τ) none (mc_hp σ' τ') 0 0
  refine mr_aload_n (pc := 0) dX0_poseBlock_0 rfl ?_
  refine mr_getf (pc := 1) (ci := 0) inX0 rfl 3 (by decide) fl_12 dX0_poseBlock_1 (ha_15 σ τ) rfl ?_
  refine mr_istore (pc := 4) dX0_poseBlock_4 (Nat.le_of_ble_eq_true rfl) (show mc_V M_X0_poseBlock 2 none 6 [.ref 15, .ref 2, .ref 6, .int p3, .int (σ 15 3), .retAddr 0, .retAddr 0] [] (mc_hp σ τ) none (mc_hp σ' τ') 0 0 from ?_)
  refine mr_aload_n (pc := 6) dX0_poseBlock_6 rfl ?_
  refine mr_dup (pc := 7) dX0_poseBlock_7 rfl ?_
  refine mr_getf (pc := 8) (ci := 0) inX0 rfl 3 (by decide) fl_12 dX0_poseBlock_8 (ha_15 σ τ) rfl ?_
  refine mr_iconstv (pc := 11) (2 : Int32) dX0_poseBlock_11 (by decide) ?_
  refine mr_iadd (pc := 12) dX0_poseBlock_12 ?_
  obtain ⟨σ1, e1, h⟩ := ow h
  refine mr_putf (pc := 13) (ci := 0) inX0 tyX0 tyX0_ok nmX0 rfl 3 (by decide) fl_12 rfl dX0_poseBlock_13 (ha_15 σ τ) (Nat.le_of_ble_eq_true rfl) rfl (mc_V.heap (hs_15_3 e1) ?_)
  refine mr_aload_n (pc := 16) dX0_poseBlock_16 rfl ?_
  refine mr_getf (pc := 17) (ci := 0) inX0 rfl 2 (by decide) fl_11 dX0_poseBlock_17 (ha_15 σ1 τ) rfl ?_
  refine mr_iload_n (pc := 20) dX0_poseBlock_20 rfl ?_
  refine mr_iload (pc := 21) dX0_poseBlock_21 rfl ?_
  obtain ⟨g2, h⟩ := og h
  obtain ⟨σ3, e3, h⟩ := ow h
  refine mr_iast (pc := 23) dX0_poseBlock_23 (ha_26 σ1 τ) (g2) (mc_V.heap (hs_26 e3) ?_)
  refine mr_aload_n (pc := 24) dX0_poseBlock_24 rfl ?_
  refine mr_getf (pc := 25) (ci := 0) inX0 rfl 1 (by decide) fl_10 dX0_poseBlock_25 (ha_15 σ3 τ) rfl ?_
  refine mr_iload (pc := 28) dX0_poseBlock_28 rfl ?_
  refine mr_bipushv (pc := 30) (13 : Int32) dX0_poseBlock_30 (by decide) ?_
  refine mr_iload (pc := 32) dX0_poseBlock_32 rfl ?_
  refine mr_iadd (pc := 34) dX0_poseBlock_34 ?_
  obtain ⟨g4, h⟩ := og h
  obtain ⟨σ5, e5, h⟩ := ow h
  refine mr_iast (pc := 35) dX0_poseBlock_35 (ha_25 σ3 τ) (g4) (mc_V.heap (hs_25 e5) ?_)
  refine mr_aload_n (pc := 36) dX0_poseBlock_36 rfl ?_
  refine mr_getf (pc := 37) (ci := 0) inX0 rfl 1 (by decide) fl_10 dX0_poseBlock_37 (ha_15 σ5 τ) rfl ?_
  refine mr_iload (pc := 40) dX0_poseBlock_40 rfl ?_
  refine mr_iconstv (pc := 42) (1 : Int32) dX0_poseBlock_42 (by decide) ?_
  refine mr_iadd (pc := 43) dX0_poseBlock_43 ?_
  refine mr_bipushv (pc := 44) (13 : Int32) dX0_poseBlock_44 (by decide) ?_
  refine mr_iload (pc := 46) dX0_poseBlock_46 rfl ?_
  refine mr_iadd (pc := 48) dX0_poseBlock_48 ?_
  refine mr_iconstv (pc := 49) (1 : Int32) dX0_poseBlock_49 (by decide) ?_
  refine mr_iadd (pc := 50) dX0_poseBlock_50 ?_
  obtain ⟨g6, h⟩ := og h
  obtain ⟨σ7, e7, h⟩ := ow h
  refine mr_iast (pc := 51) dX0_poseBlock_51 (ha_25 σ5 τ) (g6) (mc_V.heap (hs_25 e7) ?_)
  refine mr_iconstv (pc := 52) (0 : Int32) dX0_poseBlock_52 (by decide) ?_
  refine mr_istore (pc := 53) dX0_poseBlock_53 (Nat.le_of_ble_eq_true rfl) (show mc_V M_X0_poseBlock 2 none 55 [.ref 15, .ref 2, .ref 6, .int p3, .int (σ 15 3), .int (0 : Int32), .retAddr 0] [] (mc_hp σ7 τ) none (mc_hp σ' τ') 0 0 from ?_)
  exact mc_V.locs (loc' := [.ref 15, .ref 2, .ref 6, .int p3, .int (σ 15 3), .int (0 : Int32), .retAddr 0]) ⟨Or.inr rfl, Or.inr rfl, Or.inr rfl, Or.inr rfl, Or.inr rfl, Or.inr rfl, Or.inl rfl, trivial⟩ (dc_B_poseBlock_2_6_l55 mc_F p3 (σ 15 3) (0 : Int32) σ7 τ σ' τ' h)
set_option maxHeartbeats 4000000 in
set_option maxRecDepth 100000 in
theorem dc_B_pose_2_6_l26 : ∀ (n : Nat), ∀ (x3 : Int32) (x4 : Int32) (σ : mS) (τ : mT) (σ' : mS) (τ' : mT), B_pose_2_6_l26 n x3 x4 σ τ = some (σ', τ') → mc_V M_X0_pose 3 none 26 [.ref 15, .ref 2, .ref 6, .int x3, .int x4] [] (mc_hp σ τ) none (mc_hp σ' τ') 0 0 := by
  intro n
  induction n with
  | zero =>
    intros
    rename_i h
    cases h
  | succ n ih =>
    intro x3 x4 σ τ σ' τ' h
    refine mr_iload (pc := 26) dX0_pose_26 rfl ?_
    refine mr_aload_n (pc := 28) dX0_pose_28 rfl ?_
    obtain ⟨r1, σ1, τ1, c1, h⟩ := obs h
    refine mr_callV0 (pc := 29) (ci := 2) [] ok_X2_size lk_43 st_X2_size se_X2_size dX0_pose_29 rfl (ha_2 σ τ) rfl rfl (Nat.le_of_ble_eq_true rfl) (Nat.le_of_ble_eq_true rfl) ((dc_P_size_2 c1).up (by decide)) ?_
    refine mr_icmp_ge (pc := 32) 83 dX0_pose_32 (by decide) (fun q2 => ?_) (fun q2 => ?_)
    · replace h := (if_pos q2).symm.trans h
      obtain ⟨rfl, rfl⟩ := os2 h
      exact mr_ret (pc := 83) rfl dX0_pose_83
    · replace h := (if_neg q2).symm.trans h
      refine mr_iload (pc := 35) dX0_pose_35 rfl ?_
      refine mr_iconstv (pc := 37) (4 : Int32) dX0_pose_37 (by decide) ?_
      refine mr_icmp_ge (pc := 38) 83 dX0_pose_38 (by decide) (fun q3 => ?_) (fun q3 => ?_)
      · replace h := (if_pos q3).symm.trans h
        obtain ⟨rfl, rfl⟩ := os2 h
        exact mr_ret (pc := 83) rfl dX0_pose_83
      · replace h := (if_neg q3).symm.trans h
        refine mr_aload_n (pc := 41) dX0_pose_41 rfl ?_
        refine mr_getf (pc := 42) (ci := 0) inX0 rfl 2 (by decide) fl_11 dX0_pose_42 (ha_15 σ1 τ1) rfl ?_
        refine mr_iload (pc := 45) dX0_pose_45 rfl ?_
        refine mr_iconstv (pc := 47) (-1 : Int32) dX0_pose_47 (by decide) ?_
        obtain ⟨g4, h⟩ := og h
        obtain ⟨σ5, e5, h⟩ := ow h
        refine mr_iast (pc := 48) dX0_pose_48 (ha_26 σ1 τ1) (g4) (mc_V.heap (hs_26 e5) ?_)
        refine mr_iload_n (pc := 49) dX0_pose_49 rfl ?_
        refine mr_iload (pc := 50) dX0_pose_50 rfl ?_
        refine mr_ishr (pc := 52) dX0_pose_52 ?_
        refine mr_iconstv (pc := 53) (1 : Int32) dX0_pose_53 (by decide) ?_
        refine mr_iand (pc := 54) dX0_pose_54 ?_
        refine mr_if_ne (pc := 55) 77 dX0_pose_55 (by decide) (fun q6 => ?_) (fun q6 => ?_)
        · replace h := (if_neg q6).symm.trans h
          refine mr_iincv (pc := 77) (1 : Int32) dX0_pose_77 rfl (by decide) (show mc_V M_X0_pose 3 none 80 [.ref 15, .ref 2, .ref 6, .int x3, .int (x4 + (1 : Int32))] [] (mc_hp σ5 τ1) none (mc_hp σ' τ') 0 0 from ?_)
          refine mr_goto (pc := 80) 26 dX0_pose_80 (by decide) ?_
          exact mc_V.locs (loc' := [.ref 15, .ref 2, .ref 6, .int x3, .int (x4 + (1 : Int32))]) ⟨Or.inr rfl, Or.inr rfl, Or.inr rfl, Or.inr rfl, Or.inr rfl, trivial⟩ (ih x3 (x4 + (1 : Int32)) σ5 τ1 σ' τ' h)
        · replace h := (if_pos q6).symm.trans h
          refine mr_aload_n (pc := 58) dX0_pose_58 rfl ?_
          refine mr_getf (pc := 59) (ci := 0) inX0 rfl 3 (by decide) fl_12 dX0_pose_59 (ha_15 σ5 τ1) rfl ?_
          refine mr_iconstv (pc := 62) (2 : Int32) dX0_pose_62 (by decide) ?_
          refine mr_iadd (pc := 63) dX0_pose_63 ?_
          refine mr_bipushv (pc := 64) (8 : Int32) dX0_pose_64 (by decide) ?_
          refine mr_icmp_gt (pc := 66) 77 dX0_pose_66 (by decide) (fun q7 => ?_) (fun q7 => ?_)
          · replace h := (if_pos q7).symm.trans h
            refine mr_iincv (pc := 77) (1 : Int32) dX0_pose_77 rfl (by decide) (show mc_V M_X0_pose 3 none 80 [.ref 15, .ref 2, .ref 6, .int x3, .int (x4 + (1 : Int32))] [] (mc_hp σ5 τ1) none (mc_hp σ' τ') 0 0 from ?_)
            refine mr_goto (pc := 80) 26 dX0_pose_80 (by decide) ?_
            exact mc_V.locs (loc' := [.ref 15, .ref 2, .ref 6, .int x3, .int (x4 + (1 : Int32))]) ⟨Or.inr rfl, Or.inr rfl, Or.inr rfl, Or.inr rfl, Or.inr rfl, trivial⟩ (ih x3 (x4 + (1 : Int32)) σ5 τ1 σ' τ' h)
          · replace h := (if_neg q7).symm.trans h
            refine mr_aload_n (pc := 69) dX0_pose_69 rfl ?_
            refine mr_aload_n (pc := 70) dX0_pose_70 rfl ?_
            refine mr_aload_n (pc := 71) dX0_pose_71 rfl ?_
            refine mr_iload (pc := 72) dX0_pose_72 rfl ?_
            obtain ⟨σ8, τ8, c8, h⟩ := ovs h
            refine mr_callV0 (pc := 74) (ci := 0) [.ref 2, .ref 6, .int x4] ok_X0_poseBlock lk_44 st_X0_poseBlock se_X0_poseBlock dX0_pose_74 rfl (ha_15 σ5 τ1) rfl rfl (Nat.le_of_ble_eq_true rfl) (Nat.le_of_ble_eq_true rfl) ((dc_B_poseBlock_2_6 c8).up (by decide)) ?_
            refine mr_iincv (pc := 77) (1 : Int32) dX0_pose_77 rfl (by decide) (show mc_V M_X0_pose 3 none 80 [.ref 15, .ref 2, .ref 6, .int x3, .int (x4 + (1 : Int32))] [] (mc_hp σ8 τ8) none (mc_hp σ' τ') 0 0 from ?_)
            refine mr_goto (pc := 80) 26 dX0_pose_80 (by decide) ?_
            exact mc_V.locs (loc' := [.ref 15, .ref 2, .ref 6, .int x3, .int (x4 + (1 : Int32))]) ⟨Or.inr rfl, Or.inr rfl, Or.inr rfl, Or.inr rfl, Or.inr rfl, trivial⟩ (ih x3 (x4 + (1 : Int32)) σ8 τ8 σ' τ' h)
set_option maxHeartbeats 4000000 in
set_option maxRecDepth 100000 in
theorem dc_B_pose_2_6 {p3 : Int32} {σ : mS} {τ : mT} {σ' : mS} {τ' : mT} (h : B_pose_2_6 p3 σ τ = some (σ', τ')) : mc_V M_X0_pose 3 none 0 (mc_entry [.ref 15, .ref 2, .ref 6, .int p3] 5) [] (mc_hp σ τ) none (mc_hp σ' τ') 0 0 := by
  unfold B_pose_2_6 at h
  show mc_V M_X0_pose 3 none 0 [.ref 15, .ref 2, .ref 6, .int p3, .retAddr 0] [] (mc_hp σ τ) none (mc_hp σ' τ') 0 0
  refine mr_aload_n (pc := 0) dX0_pose_0 rfl ?_
  refine mr_iconstv (pc := 1) (0 : Int32) dX0_pose_1 (by decide) ?_
  obtain ⟨σ1, e1, h⟩ := ow h
  refine mr_putf (pc := 2) (ci := 0) inX0 tyX0 tyX0_ok nmX0 rfl 3 (by decide) fl_12 rfl dX0_pose_2 (ha_15 σ τ) (Nat.le_of_ble_eq_true rfl) rfl (mc_V.heap (hs_15_3 e1) ?_)
  refine mr_aload_n (pc := 5) dX0_pose_5 rfl ?_
  refine mr_aload_n (pc := 6) dX0_pose_6 rfl ?_
  obtain ⟨r2, σ2, τ2, c2, h⟩ := obs h
  refine mr_callV0 (pc := 7) (ci := 1) [] ok_X1_contacts lk_41 st_X1_contacts se_X1_contacts dX0_pose_7 rfl (ha_6 σ1 τ) rfl rfl (Nat.le_of_ble_eq_true rfl) (Nat.le_of_ble_eq_true rfl) ((dc_Y_contacts c2).up (by decide)) ?_
  refine mr_bipushv (pc := 10) (12 : Int32) dX0_pose_10 (by decide) ?_
  refine mr_mmin (pc := 12) lk_42 dX0_pose_12 (Nat.le_of_ble_eq_true rfl) ?_
  obtain ⟨σ3, e3, h⟩ := ow h
  refine mr_putf (pc := 15) (ci := 0) inX0 tyX0 tyX0_ok nmX0 rfl 4 (by decide) fl_13 rfl dX0_pose_15 (ha_15 σ2 τ2) (Nat.le_of_ble_eq_true rfl) rfl (mc_V.heap (hs_15_4 e3) ?_)
  refine mr_aload_n (pc := 18) dX0_pose_18 rfl ?_
  refine mr_lconstv (pc := 19) (1 : Int64) dX0_pose_19 (by decide) ?_
  obtain ⟨τ4, e4, h⟩ := ow h
  refine mr_putf (pc := 20) (ci := 0) inX0 tyX0 tyX0_ok nmX0 rfl 5 (by decide) fl_14 rfl dX0_pose_20 (ha_15 σ3 τ2) (Nat.le_of_ble_eq_true rfl) rfl (mc_V.heap (hs_15_5 e4) ?_)
  refine mr_iconstv (pc := 23) (0 : Int32) dX0_pose_23 (by decide) ?_
  refine mr_istore (pc := 24) dX0_pose_24 (Nat.le_of_ble_eq_true rfl) (show mc_V M_X0_pose 3 none 26 [.ref 15, .ref 2, .ref 6, .int p3, .int (0 : Int32)] [] (mc_hp σ3 τ4) none (mc_hp σ' τ') 0 0 from ?_)
  exact mc_V.locs (loc' := [.ref 15, .ref 2, .ref 6, .int p3, .int (0 : Int32)]) ⟨Or.inr rfl, Or.inr rfl, Or.inr rfl, Or.inr rfl, Or.inr rfl, trivial⟩ (dc_B_pose_2_6_l26 mc_F p3 (0 : Int32) σ3 τ4 σ' τ' h)
