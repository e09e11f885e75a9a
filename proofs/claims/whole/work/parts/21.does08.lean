set_option maxHeartbeats 4000000 in
set_option maxRecDepth 100000 in
theorem dc_R_isBalanced_4 {p2 : Int32} {σ : mS} {τ : mT} {r : Int32} {σ' : mS} {τ' : mT} (h : R_isBalanced_4 p2 σ τ = some (r, σ', τ')) : mc_V M_X5_isBalanced 4 none 0 (mc_entry [.ref 1, .ref 4, .int p2] 3) [] (mc_hp σ τ) (some (.int r)) (mc_hp σ' τ') 0 0 := by
  unfold R_isBalanced_4 at h
  show mc_V M_X5_isBalanced 4 none 0 [.ref 1, .ref 4, .int p2] [] (mc_hp σ τ) (some (.int r)) (mc_hp σ' τ') 0 0
  refine mr_aload_n (pc := 0) dX5_isBalanced_0 rfl ?_
  refine mr_getf (pc := 1) (ci := 5) inX5 rfl 2 (by decide) fl_2 dX5_isBalanced_1 (ha_1 σ τ) rfl ?_
  refine mr_aload_n (pc := 4) dX5_isBalanced_4 rfl ?_
  obtain ⟨σ1, τ1, c1, h⟩ := ovs h
  refine mr_callV0 (pc := 5) (ci := 1) [.ref 4] ok_X1_find lk_12 st_X1_find se_X1_find dX5_isBalanced_5 rfl (ha_6 σ τ) rfl rfl (Nat.le_of_ble_eq_true rfl) (Nat.le_of_ble_eq_true rfl) ((dc_Y_find_4 c1).up (by decide)) ?_
  refine mr_aload_n (pc := 8) dX5_isBalanced_8 rfl ?_
  refine mr_getf (pc := 9) (ci := 5) inX5 rfl 3 (by decide) fl_3 dX5_isBalanced_9 (ha_1 σ1 τ1) rfl ?_
  refine mr_aload_n (pc := 12) dX5_isBalanced_12 rfl ?_
  refine mr_aload_n (pc := 13) dX5_isBalanced_13 rfl ?_
  refine mr_getf (pc := 14) (ci := 5) inX5 rfl 2 (by decide) fl_2 dX5_isBalanced_14 (ha_1 σ1 τ1) rfl ?_
  refine mr_iload_n (pc := 17) dX5_isBalanced_17 rfl ?_
  obtain ⟨σ2, τ2, c2, h⟩ := ovs h
  refine mr_callV0 (pc := 18) (ci := 0) [.ref 4, .ref 6, .int p2] ok_X0_pose lk_27 st_X0_pose se_X0_pose dX5_isBalanced_18 rfl (ha_15 σ1 τ1) rfl rfl (Nat.le_of_ble_eq_true rfl) (Nat.le_of_ble_eq_true rfl) ((dc_B_pose_4_6 c2).up (by decide)) ?_
  refine mr_aload_n (pc := 21) dX5_isBalanced_21 rfl ?_
  refine mr_getf (pc := 22) (ci := 5) inX5 rfl 3 (by decide) fl_3 dX5_isBalanced_22 (ha_1 σ2 τ2) rfl ?_
  obtain ⟨r3, σ3, τ3, c3, h⟩ := obs h
  refine mr_callV0 (pc := 25) (ci := 0) [] ok_X0_solve lk_36 st_X0_solve se_X0_solve dX5_isBalanced_25 rfl (ha_15 σ2 τ2) rfl rfl (Nat.le_of_ble_eq_true rfl) (Nat.le_of_ble_eq_true rfl) ((dc_B_solve c3).up (by decide)) ?_
  obtain ⟨g4, h⟩ := og h
  obtain ⟨rfl, rfl, rfl⟩ := os3 h
  exact mr_iret (pc := 28) rfl (nar_b g4) dX5_isBalanced_28
set_option maxHeartbeats 4000000 in
set_option maxRecDepth 100000 in
theorem dc_R_where_l29 : ∀ (n : Nat), ∀ (x1 : Int32) (x2 : Int32) (x3 : Int32) (x4 : Int32) (σ : mS) (τ : mT) (r : Int32) (σ' : mS) (τ' : mT), R_where_l29 n x1 x2 x3 x4 σ τ = some (r, σ', τ') → mc_V M_X5_where 5 none 29 [.ref 1, .int x1, .int x2, .int x3, .int x4] [] (mc_hp σ τ) (some (.int r)) (mc_hp σ' τ') 0 0 := by
  intro n
  induction n with
  | zero =>
    intros
    rename_i h
    cases h
  | succ n ih =>
    intro x1 x2 x3 x4 σ τ r σ' τ' h
    refine mr_iload (pc := 29) dX5_where_29 rfl ?_
    refine mr_bipushv (pc := 31) (9 : Int32) dX5_where_31 (by decide) ?_
    refine mr_icmp_gt (pc := 33) 83 dX5_where_33 (by decide) (fun q1 => ?_) (fun q1 => ?_)
    · replace h := (if_pos q1).symm.trans h
      refine mr_iload_n (pc := 83) dX5_where_83 rfl ?_
      obtain ⟨rfl, rfl, rfl⟩ := os3 h
      exact mr_iret (pc := 84) rfl (rfl) dX5_where_84
    · replace h := (if_neg q1).symm.trans h
      refine mr_aload_n (pc := 36) dX5_where_36 rfl ?_
      refine mr_getf (pc := 37) (ci := 5) inX5 rfl 1 (by decide) fl_1 dX5_where_37 (ha_1 σ τ) rfl ?_
      refine mr_aload_n (pc := 40) dX5_where_40 rfl ?_
      refine mr_getf (pc := 41) (ci := 5) inX5 rfl 0 (by decide) fl_0 dX5_where_41 (ha_1 σ τ) rfl ?_
      obtain ⟨σ2, τ2, c2, h⟩ := ovs h
      refine mr_callV0 (pc := 44) (ci := 2) [.ref 2] ok_X2_copy lk_8 st_X2_copy se_X2_copy dX5_where_44 rfl (ha_4 σ τ) rfl rfl (Nat.le_of_ble_eq_true rfl) (Nat.le_of_ble_eq_true rfl) ((dc_P_copy_4_2 c2).up (by decide)) ?_
      refine mr_aload_n (pc := 47) dX5_where_47 rfl ?_
      refine mr_getf (pc := 48) (ci := 5) inX5 rfl 1 (by decide) fl_1 dX5_where_48 (ha_1 σ2 τ2) rfl ?_
      refine mr_iload (pc := 51) dX5_where_51 rfl ?_
      refine mr_iload_n (pc := 53) dX5_where_53 rfl ?_
      refine mr_iload_n (pc := 54) dX5_where_54 rfl ?_
      obtain ⟨σ3, τ3, c3, h⟩ := ovs h
      refine mr_callV0 (pc := 55) (ci := 2) [.int x4, .int x1, .int x2] ok_X2_add lk_11 st_X2_add se_X2_add dX5_where_55 rfl (ha_4 σ2 τ2) rfl rfl (Nat.le_of_ble_eq_true rfl) (Nat.le_of_ble_eq_true rfl) ((dc_P_add_4 c3).up (by decide)) ?_
      refine mr_aload_n (pc := 58) dX5_where_58 rfl ?_
      refine mr_aload_n (pc := 59) dX5_where_59 rfl ?_
      refine mr_getf (pc := 60) (ci := 5) inX5 rfl 1 (by decide) fl_1 dX5_where_60 (ha_1 σ3 τ3) rfl ?_
      refine mr_iconstv (pc := 63) (0 : Int32) dX5_where_63 (by decide) ?_
      obtain ⟨r4, σ4, τ4, c4, h⟩ := obs h
      refine mr_callV0 (pc := 64) (ci := 5) [.ref 4, .int (0 : Int32)] ok_X5_isBalanced lk_26 st_X5_isBalanced se_X5_isBalanced dX5_where_64 rfl (ha_1 σ3 τ3) rfl rfl (Nat.le_of_ble_eq_true rfl) (Nat.le_of_ble_eq_true rfl) ((dc_R_isBalanced_4 c4).up (by decide)) ?_
      refine mr_if_eq (pc := 67) 77 dX5_where_67 (by decide) (fun q5 => ?_) (fun q5 => ?_)
      · replace h := (if_pos q5).symm.trans h
        refine mr_iincv (pc := 77) (1 : Int32) dX5_where_77 rfl (by decide) (show mc_V M_X5_where 5 none 80 [.ref 1, .int x1, .int x2, .int x3, .int (x4 + (1 : Int32))] [] (mc_hp σ4 τ4) (some (.int r)) (mc_hp σ' τ') 0 0 from ?_)
        refine mr_goto (pc := 80) 29 dX5_where_80 (by decide) ?_
        exact mc_V.locs (loc' := [.ref 1, .int x1, .int x2, .int x3, .int (x4 + (1 : Int32))]) ⟨Or.inr rfl, Or.inr rfl, Or.inr rfl, Or.inr rfl, Or.inr rfl, trivial⟩ (ih x1 x2 x3 (x4 + (1 : Int32)) σ4 τ4 r σ' τ' h)
      · replace h := (if_neg q5).symm.trans h
        refine mr_iload_n (pc := 70) dX5_where_70 rfl ?_
        refine mr_iconstv (pc := 71) (1 : Int32) dX5_where_71 (by decide) ?_
        refine mr_iload (pc := 72) dX5_where_72 rfl ?_
        refine mr_ishl (pc := 74) dX5_where_74 ?_
        refine mr_ior (pc := 75) dX5_where_75 ?_
        refine mr_istore_n (pc := 76) dX5_where_76 (Nat.le_of_ble_eq_true rfl) (show mc_V M_X5_where 5 none 77 [.ref 1, .int x1, .int x2, .int (x3 ||| ((1 : Int32) <<< (x4 &&& 31))), .int x4] [] (mc_hp σ4 τ4) (some (.int r)) (mc_hp σ' τ') 0 0 from ?_)
        refine mr_iincv (pc := 77) (1 : Int32) dX5_where_77 rfl (by decide) (show mc_V M_X5_where 5 none 80 [.ref 1, .int x1, .int x2, .int (x3 ||| ((1 : Int32) <<< (x4 &&& 31))), .int (x4 + (1 : Int32))] [] (mc_hp σ4 τ4) (some (.int r)) (mc_hp σ' τ') 0 0 from ?_)
        refine mr_goto (pc := 80) 29 dX5_where_80 (by decide) ?_
        exact mc_V.locs (loc' := [.ref 1, .int x1, .int x2, .int (x3 ||| ((1 : Int32) <<< (x4 &&& 31))), .int (x4 + (1 : Int32))]) ⟨Or.inr rfl, Or.inr rfl, Or.inr rfl, Or.inr rfl, Or.inr rfl, trivial⟩ (ih x1 x2 (x3 ||| ((1 : Int32) <<< (x4 &&& 31))) (x4 + (1 : Int32)) σ4 τ4 r σ' τ' h)
set_option maxHeartbeats 4000000 in
set_option maxRecDepth 100000 in
theorem dc_R_where {p1 : Int32} {p2 : Int32} {σ : mS} {τ : mT} {r : Int32} {σ' : mS} {τ' : mT} (h : R_where p1 p2 σ τ = some (r, σ', τ')) : mc_V M_X5_where 5 none 0 (mc_entry [.ref 1, .int p1, .int p2] 5) [] (mc_hp σ τ) (some (.int r)) (mc_hp σ' τ') 0 0 := by
  unfold R_where at h
  show mc_V M_X5_where 5 none 0 [.ref 1, .int p1, .int p2, .retAddr 0, .retAddr 0] [] (mc_hp σ τ) (some (.int r)) (mc_hp σ' τ') 0 0
  refine mr_iload_n (pc := 0) dX5_where_0 rfl ?_
  refine mr_iload_n (pc := 1) dX5_where_1 rfl ?_
  obtain ⟨r1, σ1, τ1, c1, h⟩ := obs h
  refine mr_callS0 (pc := 2) [.int p1, .int p2] ok_X5_isBlock lk_9 st_X5_isBlock dX5_where_2 rfl rfl (Nat.le_of_ble_eq_true rfl) (Nat.le_of_ble_eq_true rfl) ((dc_R_isBlock c1).up (by decide)) ?_
  refine mr_if_ne (pc := 5) 10 dX5_where_5 (by decide) (fun q2 => ?_) (fun q2 => ?_)
  · replace h := (if_neg q2).symm.trans h
    refine mr_aload_n (pc := 10) dX5_where_10 rfl ?_
    refine mr_getf (pc := 11) (ci := 5) inX5 rfl 0 (by decide) fl_0 dX5_where_11 (ha_1 σ1 τ1) rfl ?_
    obtain ⟨r3, σ3, τ3, c3, h⟩ := obs h
    refine mr_callV0 (pc := 14) (ci := 2) [] ok_X2_size lk_10 st_X2_size se_X2_size dX5_where_14 rfl (ha_2 σ1 τ1) rfl rfl (Nat.le_of_ble_eq_true rfl) (Nat.le_of_ble_eq_true rfl) ((dc_P_size_2 c3).up (by decide)) ?_
    refine mr_iconstv (pc := 17) (4 : Int32) dX5_where_17 (by decide) ?_
    refine mr_icmp_lt (pc := 18) 24 dX5_where_18 (by decide) (fun q4 => ?_) (fun q4 => ?_)
    · replace h := (if_pos q4).symm.trans h
      refine mr_iconstv (pc := 24) (0 : Int32) dX5_where_24 (by decide) ?_
      refine mr_istore_n (pc := 25) dX5_where_25 (Nat.le_of_ble_eq_true rfl) (show mc_V M_X5_where 5 none 26 [.ref 1, .int p1, .int p2, .int (0 : Int32), .retAddr 0] [] (mc_hp σ3 τ3) (some (.int r)) (mc_hp σ' τ') 0 0 from ?_)
      refine mr_iconstv (pc := 26) (0 : Int32) dX5_where_26 (by decide) ?_
      refine mr_istore (pc := 27) dX5_where_27 (Nat.le_of_ble_eq_true rfl) (show mc_V M_X5_where 5 none 29 [.ref 1, .int p1, .int p2, .int (0 : Int32), .int (0 : Int32)] [] (mc_hp σ3 τ3) (some (.int r)) (mc_hp σ' τ') 0 0 from ?_)
      exact mc_V.locs (loc' := [.ref 1, .int p1, .int p2, .int (0 : Int32), .int (0 : Int32)]) ⟨Or.inr rfl, Or.inr rfl, Or.inr rfl, Or.inr rfl, Or.inr rfl, trivial⟩ (dc_R_where_l29 mc_F p1 p2 (0 : Int32) (0 : Int32) σ3 τ3 r σ' τ' h)
    · replace h := (if_neg q4).symm.trans h
      refine mr_bipushv (pc := 21) (-3 : Int32) dX5_where_21 (by decide) ?_
      obtain ⟨rfl, rfl, rfl⟩ := os3 h
      exact mr_iret (pc := 23) rfl (rfl) dX5_where_23
  · replace h := (if_pos q2).symm.trans h
    refine mr_iconstv (pc := 8) (-1 : Int32) dX5_where_8 (by decide) ?_
    obtain ⟨rfl, rfl, rfl⟩ := os3 h
    exact mr_iret (pc := 9) rfl (rfl) dX5_where_9
set_option maxHeartbeats 4000000 in
set_option maxRecDepth 100000 in
theorem dc_Q_where_b60 (k29 : Int32 → Int32 → Int32 → Int32 → mS → mT → Option (Int32 × mS × mT)) (hk29 : ∀ (x1 : Int32) (x2 : Int32) (x3 : Int32) (x4 : Int32) (σ : mS) (τ : mT) (r : Int32) (σ' : mS) (τ' : mT), k29 x1 x2 x3 x4 σ τ = some (r, σ', τ') → mc_V M_X6_where 8 none 29 [.ref 34, .int x1, .int x2, .int x3, .int x4] [] (mc_hp σ τ) (some (.int r)) (mc_hp σ' τ') 0 0) : ∀ (x1 : Int32) (x2 : Int32) (x4 : Int32) (s0 : Int32) (s1 : Int32) (σ : mS) (τ : mT) (r : Int32) (σ' : mS) (τ' : mT), Q_where_b60 k29 x1 x2 x4 s0 s1 σ τ = some (r, σ', τ') → mc_V M_X6_where 8 none 60 [.ref 34, .int x1, .int x2, .retAddr 0, .int x4] [.int s1, .int s0] (mc_hp σ τ) (some (.int r)) (mc_hp σ' τ') 0 0 := by
  intro x1 x2 x4 s0 s1 σ τ r σ' τ' h
  unfold Q_where_b60 at h
  refine mr_ior (pc := 60) dX6_where_60 ?_
  refine mr_istore_n (pc := 61) dX6_where_61 (Nat.le_of_ble_eq_true rfl) (show mc_V M_X6_where 8 none 62 [.ref 34, .int x1, .int x2, .int (s0 ||| s1), .int x4] [] (mc_hp σ τ) (some (.int r)) (mc_hp σ' τ') 0 0 from ?_)
  refine mr_aload_n (pc := 62) dX6_where_62 rfl ?_
  refine mr_getf (pc := 63) (ci := 6) inX6 rfl 0 (by decide) fl_31 dX6_where_63 (ha_34 σ τ) rfl ?_
  refine mr_iconstv (pc := 66) (0 : Int32) dX6_where_66 (by decide) ?_
  refine mr_dup2 (pc := 67) dX6_where_67 rfl rfl ?_
  refine mr_iald (pc := 68) dX6_where_68 (ha_35 σ τ) (vin_ok rfl) ?_
  refine mr_iconstv (pc := 69) (1 : Int32) dX6_where_69 (by decide) ?_
  refine mr_isub (pc := 70) dX6_where_70 ?_
  obtain ⟨σ1, e1, h⟩ := ow h
  refine mr_iast (pc := 71) dX6_where_71 (ha_35 σ τ) (vin_ok rfl) (mc_V.heap (hs_35 e1) ?_)
  refine mr_iincv (pc := 72) (1 : Int32) dX6_where_72 rfl (by decide) (show mc_V M_X6_where 8 none 75 [.ref 34, .int x1, .int x2, .int (s0 ||| s1), .int (x4 + (1 : Int32))] [] (mc_hp σ1 τ) (some (.int r)) (mc_hp σ' τ') 0 0 from ?_)
  refine mr_goto (pc := 75) 29 dX6_where_75 (by decide) ?_
  exact mc_V.locs (loc' := [.ref 34, .int x1, .int x2, .int (s0 ||| s1), .int (x4 + (1 : Int32))]) ⟨Or.inr rfl, Or.inr rfl, Or.inr rfl, Or.inr rfl, Or.inr rfl, trivial⟩ (hk29 x1 x2 (s0 ||| s1) (x4 + (1 : Int32)) σ1 τ r σ' τ' h)
set_option maxHeartbeats 4000000 in
set_option maxRecDepth 100000 in
theorem dc_Q_where_l29 : ∀ (n : Nat), ∀ (x1 : Int32) (x2 : Int32) (x3 : Int32) (x4 : Int32) (σ : mS) (τ : mT) (r : Int32) (σ' : mS) (τ' : mT), Q_where_l29 n x1 x2 x3 x4 σ τ = some (r, σ', τ') → mc_V M_X6_where 8 none 29 [.ref 34, .int x1, .int x2, .int x3, .int x4] [] (mc_hp σ τ) (some (.int r)) (mc_hp σ' τ') 0 0 := by
  intro n
  induction n with
  | zero =>
    intros
    rename_i h
    cases h
  | succ n ih =>
    intro x1 x2 x3 x4 σ τ r σ' τ' h
    refine mr_iload (pc := 29) dX6_where_29 rfl ?_
    refine mr_bipushv (pc := 31) (10 : Int32) dX6_where_31 (by decide) ?_
    refine mr_icmp_ge (pc := 33) 78 dX6_where_33 (by decide) (fun q1 => ?_) (fun q1 => ?_)
    · replace h := (if_pos q1).symm.trans h
      refine mr_iload_n (pc := 78) dX6_where_78 rfl ?_
      obtain ⟨rfl, rfl, rfl⟩ := os3 h
      exact mr_iret (pc := 79) rfl (rfl) dX6_where_79
    · replace h := (if_neg q1).symm.trans h
      refine mr_aload_n (pc := 36) dX6_where_36 rfl ?_
      refine mr_iload (pc := 37) dX6_where_37 rfl ?_
      refine mr_iload_n (pc := 39) dX6_where_39 rfl ?_
      refine mr_iload_n (pc := 40) dX6_where_40 rfl ?_
      obtain ⟨σ2, τ2, c2, h⟩ := ovs h
      refine mr_callV0 (pc := 41) (ci := 6) [.int x4, .int x1, .int x2] ok_X6_appends lk_162 st_X6_appends se_X6_appends dX6_where_41 rfl (ha_34 σ τ) rfl rfl (Nat.le_of_ble_eq_true rfl) (Nat.le_of_ble_eq_true rfl) ((dc_Q_appends c2).up (by decide)) ?_
      refine mr_iload_n (pc := 44) dX6_where_44 rfl ?_
      refine mr_aload_n (pc := 45) dX6_where_45 rfl ?_
      obtain ⟨r3, σ3, τ3, c3, h⟩ := obs h
      refine mr_callV0 (pc := 46) (ci := 6) [] ok_X6_isResting lk_176 st_X6_isResting se_X6_isResting dX6_where_46 rfl (ha_34 σ2 τ2) rfl rfl (Nat.le_of_ble_eq_true rfl) (Nat.le_of_ble_eq_true rfl) ((dc_Q_isResting c3).up (by decide)) ?_
      refine mr_if_eq (pc := 49) 59 dX6_where_49 (by decide) (fun q4 => ?_) (fun q4 => ?_)
      · replace h := (if_pos q4).symm.trans h
        refine mr_iconstv (pc := 59) (0 : Int32) dX6_where_59 (by decide) ?_
        exact mc_V.locs (loc' := [.ref 34, .int x1, .int x2, .retAddr 0, .int x4]) ⟨Or.inr rfl, Or.inr rfl, Or.inr rfl, Or.inl rfl, Or.inr rfl, trivial⟩ (dc_Q_where_b60 (Q_where_l29 n) ih x1 x2 x4 x3 (0 : Int32) σ3 τ3 r σ' τ' h)
      · replace h := (if_neg q4).symm.trans h
        refine mr_iconstv (pc := 52) (1 : Int32) dX6_where_52 (by decide) ?_
        refine mr_iload (pc := 53) dX6_where_53 rfl ?_
        refine mr_ishl (pc := 55) dX6_where_55 ?_
        refine mr_goto (pc := 56) 60 dX6_where_56 (by decide) ?_
        exact mc_V.locs (loc' := [.ref 34, .int x1, .int x2, .retAddr 0, .int x4]) ⟨Or.inr rfl, Or.inr rfl, Or.inr rfl, Or.inl rfl, Or.inr rfl, trivial⟩ (dc_Q_where_b60 (Q_where_l29 n) ih x1 x2 x4 x3 ((1 : Int32) <<< (x4 &&& 31)) σ3 τ3 r σ' τ' h)
set_option maxHeartbeats 4000000 in
set_option maxRecDepth 100000 in
theorem dc_Q_where {p1 : Int32} {p2 : Int32} {σ : mS} {τ : mT} {r : Int32} {σ' : mS} {τ' : mT} (h : Q_where p1 p2 σ τ = some (r, σ', τ')) : mc_V M_X6_where 8 none 0 (mc_entry [.ref 34, .int p1, .int p2] 5) [] (mc_hp σ τ) (some (.int r)) (mc_hp σ' τ') 0 0 := by
  unfold Q_where at h
  show mc_V M_X6_where 8 none 0 [.ref 34, .int p1, .int p2, .retAddr 0, .retAddr 0] [] (mc_hp σ τ) (some (.int r)) (mc_hp σ' τ') 0 0
  refine mr_iconstv (pc := 0) (0 : Int32) dX6_where_0 (by decide) ?_
  refine mr_iload_n (pc := 1) dX6_where_1 rfl ?_
  refine mr_iload_n (pc := 2) dX6_where_2 rfl ?_
  obtain ⟨r1, σ1, τ1, c1, h⟩ := obs h
  refine mr_callS0 (pc := 3) [.int (0 : Int32), .int p1, .int p2] ok_X6_fits lk_169 st_X6_fits dX6_where_3 rfl rfl (Nat.le_of_ble_eq_true rfl) (Nat.le_of_ble_eq_true rfl) ((dc_Q_fits c1).up (by decide)) ?_
  refine mr_if_ne (pc := 6) 11 dX6_where_6 (by decide) (fun q2 => ?_) (fun q2 => ?_)
  · replace h := (if_neg q2).symm.trans h
    refine mr_aload_n (pc := 11) dX6_where_11 rfl ?_
    refine mr_getf (pc := 12) (ci := 6) inX6 rfl 0 (by decide) fl_31 dX6_where_12 (ha_34 σ1 τ1) rfl ?_
    refine mr_iconstv (pc := 15) (0 : Int32) dX6_where_15 (by decide) ?_
    refine mr_iald (pc := 16) dX6_where_16 (ha_35 σ1 τ1) (vin_ok rfl) ?_
    refine mr_iconstv (pc := 17) (4 : Int32) dX6_where_17 (by decide) ?_
    refine mr_icmp_ne (pc := 18) 24 dX6_where_18 (by decide) (fun q3 => ?_) (fun q3 => ?_)
    · replace h := (if_neg q3).symm.trans h
      refine mr_iconstv (pc := 24) (0 : Int32) dX6_where_24 (by decide) ?_
      refine mr_istore_n (pc := 25) dX6_where_25 (Nat.le_of_ble_eq_true rfl) (show mc_V M_X6_where 8 none 26 [.ref 34, .int p1, .int p2, .int (0 : Int32), .retAddr 0] [] (mc_hp σ1 τ1) (some (.int r)) (mc_hp σ' τ') 0 0 from ?_)
      refine mr_iconstv (pc := 26) (0 : Int32) dX6_where_26 (by decide) ?_
      refine mr_istore (pc := 27) dX6_where_27 (Nat.le_of_ble_eq_true rfl) (show mc_V M_X6_where 8 none 29 [.ref 34, .int p1, .int p2, .int (0 : Int32), .int (0 : Int32)] [] (mc_hp σ1 τ1) (some (.int r)) (mc_hp σ' τ') 0 0 from ?_)
      exact mc_V.locs (loc' := [.ref 34, .int p1, .int p2, .int (0 : Int32), .int (0 : Int32)]) ⟨Or.inr rfl, Or.inr rfl, Or.inr rfl, Or.inr rfl, Or.inr rfl, trivial⟩ (dc_Q_where_l29 mc_F p1 p2 (0 : Int32) (0 : Int32) σ1 τ1 r σ' τ' h)
    · replace h := (if_pos q3).symm.trans h
      refine mr_bipushv (pc := 21) (-3 : Int32) dX6_where_21 (by decide) ?_
      obtain ⟨rfl, rfl, rfl⟩ := os3 h
      exact mr_iret (pc := 23) rfl (rfl) dX6_where_23
  · replace h := (if_pos q2).symm.trans h
    refine mr_iconstv (pc := 9) (-1 : Int32) dX6_where_9 (by decide) ?_
    obtain ⟨rfl, rfl, rfl⟩ := os3 h
    exact mr_iret (pc := 10) rfl (rfl) dX6_where_10
set_option maxHeartbeats 4000000 in
set_option maxRecDepth 100000 in
theorem dc_R_weights_l28 : ∀ (n : Nat), ∀ (x1 : Int32) (x2 : Int32) (x3 : Int32) (σ : mS) (τ : mT) (r : Int32) (σ' : mS) (τ' : mT), R_weights_l28 n x1 x2 x3 σ τ = some (r, σ', τ') → mc_V M_X5_weights 5 none 28 [.ref 1, .int x1, .int x2, .int x3] [] (mc_hp σ τ) (some (.int r)) (mc_hp σ' τ') 0 0 := by
  intro n
  induction n with
  | zero =>
    intros
    rename_i h
    cases h
  | succ n ih =>
    intro x1 x2 x3 σ τ r σ' τ' h
    refine mr_iload_n (pc := 28) dX5_weights_28 rfl ?_
    refine mr_bipushv (pc := 29) (9 : Int32) dX5_weights_29 (by decide) ?_
    refine mr_icmp_gt (pc := 31) 68 dX5_weights_31 (by decide) (fun q1 => ?_) (fun q1 => ?_)
    · replace h := (if_pos q1).symm.trans h
      refine mr_iload_n (pc := 68) dX5_weights_68 rfl ?_
      obtain ⟨rfl, rfl, rfl⟩ := os3 h
      exact mr_iret (pc := 69) rfl (rfl) dX5_weights_69
    · replace h := (if_neg q1).symm.trans h
      refine mr_aload_n (pc := 34) dX5_weights_34 rfl ?_
      refine mr_getf (pc := 35) (ci := 5) inX5 rfl 1 (by decide) fl_1 dX5_weights_35 (ha_1 σ τ) rfl ?_
      refine mr_iload_n (pc := 38) dX5_weights_38 rfl ?_
      refine mr_iconstv (pc := 39) (2 : Int32) dX5_weights_39 (by decide) ?_
      refine mr_iload_n (pc := 40) dX5_weights_40 rfl ?_
      obtain ⟨σ2, τ2, c2, h⟩ := ovs h
      refine mr_callV0 (pc := 41) (ci := 2) [.int x1, .int (2 : Int32), .int x3] ok_X2_set lk_18 st_X2_set se_X2_set dX5_weights_41 rfl (ha_4 σ τ) rfl rfl (Nat.le_of_ble_eq_true rfl) (Nat.le_of_ble_eq_true rfl) ((dc_P_set_4 c2).up (by decide)) ?_
      refine mr_aload_n (pc := 44) dX5_weights_44 rfl ?_
      refine mr_aload_n (pc := 45) dX5_weights_45 rfl ?_
      refine mr_getf (pc := 46) (ci := 5) inX5 rfl 1 (by decide) fl_1 dX5_weights_46 (ha_1 σ2 τ2) rfl ?_
      refine mr_iconstv (pc := 49) (0 : Int32) dX5_weights_49 (by decide) ?_
      obtain ⟨r3, σ3, τ3, c3, h⟩ := obs h
      refine mr_callV0 (pc := 50) (ci := 5) [.ref 4, .int (0 : Int32)] ok_X5_isBalanced lk_26 st_X5_isBalanced se_X5_isBalanced dX5_weights_50 rfl (ha_1 σ2 τ2) rfl rfl (Nat.le_of_ble_eq_true rfl) (Nat.le_of_ble_eq_true rfl) ((dc_R_isBalanced_4 c3).up (by decide)) ?_
      refine mr_if_eq (pc := 53) 62 dX5_weights_53 (by decide) (fun q4 => ?_) (fun q4 => ?_)
      · replace h := (if_pos q4).symm.trans h
        refine mr_iincv (pc := 62) (1 : Int32) dX5_weights_62 rfl (by decide) (show mc_V M_X5_weights 5 none 65 [.ref 1, .int x1, .int x2, .int (x3 + (1 : Int32))] [] (mc_hp σ3 τ3) (some (.int r)) (mc_hp σ' τ') 0 0 from ?_)
        refine mr_goto (pc := 65) 28 dX5_weights_65 (by decide) ?_
        exact mc_V.locs (loc' := [.ref 1, .int x1, .int x2, .int (x3 + (1 : Int32))]) ⟨Or.inr rfl, Or.inr rfl, Or.inr rfl, Or.inr rfl, trivial⟩ (ih x1 x2 (x3 + (1 : Int32)) σ3 τ3 r σ' τ' h)
      · replace h := (if_neg q4).symm.trans h
        refine mr_iload_n (pc := 56) dX5_weights_56 rfl ?_
        refine mr_iconstv (pc := 57) (1 : Int32) dX5_weights_57 (by decide) ?_
        refine mr_iload_n (pc := 58) dX5_weights_58 rfl ?_
        refine mr_ishl (pc := 59) dX5_weights_59 ?_
        refine mr_ior (pc := 60) dX5_weights_60 ?_
        refine mr_istore_n (pc := 61) dX5_weights_61 (Nat.le_of_ble_eq_true rfl) (show mc_V M_X5_weights 5 none 62 [.ref 1, .int x1, .int (x2 ||| ((1 : Int32) <<< (x3 &&& 31))), .int x3] [] (mc_hp σ3 τ3) (some (.int r)) (mc_hp σ' τ') 0 0 from ?_)
        refine mr_iincv (pc := 62) (1 : Int32) dX5_weights_62 rfl (by decide) (show mc_V M_X5_weights 5 none 65 [.ref 1, .int x1, .int (x2 ||| ((1 : Int32) <<< (x3 &&& 31))), .int (x3 + (1 : Int32))] [] (mc_hp σ3 τ3) (some (.int r)) (mc_hp σ' τ') 0 0 from ?_)
        refine mr_goto (pc := 65) 28 dX5_weights_65 (by decide) ?_
        exact mc_V.locs (loc' := [.ref 1, .int x1, .int (x2 ||| ((1 : Int32) <<< (x3 &&& 31))), .int (x3 + (1 : Int32))]) ⟨Or.inr rfl, Or.inr rfl, Or.inr rfl, Or.inr rfl, trivial⟩ (ih x1 (x2 ||| ((1 : Int32) <<< (x3 &&& 31))) (x3 + (1 : Int32)) σ3 τ3 r σ' τ' h)
set_option maxHeartbeats 4000000 in
set_option maxRecDepth 100000 in
theorem dc_R_weights {p1 : Int32} {σ : mS} {τ : mT} {r : Int32} {σ' : mS} {τ' : mT} (h : R_weights p1 σ τ = some (r, σ', τ')) : mc_V M_X5_weights 5 none 0 (mc_entry [.ref 1, .int p1] 4) [] (mc_hp σ τ) (some (.int r)) (mc_hp σ' τ') 0 0 := by
  unfold R_weights at h
  show mc_V M_X5_weights 5 none 0 [.ref 1, .int p1, .retAddr 0, .retAddr 0] [] (mc_hp σ τ) (some (.int r)) (mc_hp σ' τ') 0 0
  refine mr_aload_n (pc := 0) dX5_weights_0 rfl ?_
  refine mr_getf (pc := 1) (ci := 5) inX5 rfl 0 (by decide) fl_0 dX5_weights_1 (ha_1 σ τ) rfl ?_
  refine mr_iload_n (pc := 4) dX5_weights_4 rfl ?_
  obtain ⟨r1, σ1, τ1, c1, h⟩ := obs h
  refine mr_callV0 (pc := 5) (ci := 2) [.int p1] ok_X2_has lk_14 st_X2_has se_X2_has dX5_weights_5 rfl (ha_2 σ τ) rfl rfl (Nat.le_of_ble_eq_true rfl) (Nat.le_of_ble_eq_true rfl) ((dc_P_has_2 c1).up (by decide)) ?_
  refine mr_if_ne (pc := 8) 13 dX5_weights_8 (by decide) (fun q2 => ?_) (fun q2 => ?_)
  · replace h := (if_neg q2).symm.trans h
    refine mr_iconstv (pc := 13) (0 : Int32) dX5_weights_13 (by decide) ?_
    refine mr_istore_n (pc := 14) dX5_weights_14 (Nat.le_of_ble_eq_true rfl) (show mc_V M_X5_weights 5 none 15 [.ref 1, .int p1, .int (0 : Int32), .retAddr 0] [] (mc_hp σ1 τ1) (some (.int r)) (mc_hp σ' τ') 0 0 from ?_)
    refine mr_aload_n (pc := 15) dX5_weights_15 rfl ?_
    refine mr_getf (pc := 16) (ci := 5) inX5 rfl 1 (by decide) fl_1 dX5_weights_16 (ha_1 σ1 τ1) rfl ?_
    refine mr_aload_n (pc := 19) dX5_weights_19 rfl ?_
    refine mr_getf (pc := 20) (ci := 5) inX5 rfl 0 (by decide) fl_0 dX5_weights_20 (ha_1 σ1 τ1) rfl ?_
    obtain ⟨σ3, τ3, c3, h⟩ := ovs h
    refine mr_callV0 (pc := 23) (ci := 2) [.ref 2] ok_X2_copy lk_8 st_X2_copy se_X2_copy dX5_weights_23 rfl (ha_4 σ1 τ1) rfl rfl (Nat.le_of_ble_eq_true rfl) (Nat.le_of_ble_eq_true rfl) ((dc_P_copy_4_2 c3).up (by decide)) ?_
    refine mr_iconstv (pc := 26) (1 : Int32) dX5_weights_26 (by decide) ?_
    refine mr_istore_n (pc := 27) dX5_weights_27 (Nat.le_of_ble_eq_true rfl) (show mc_V M_X5_weights 5 none 28 [.ref 1, .int p1, .int (0 : Int32), .int (1 : Int32)] [] (mc_hp σ3 τ3) (some (.int r)) (mc_hp σ' τ') 0 0 from ?_)
    exact mc_V.locs (loc' := [.ref 1, .int p1, .int (0 : Int32), .int (1 : Int32)]) ⟨Or.inr rfl, Or.inr rfl, Or.inr rfl, Or.inr rfl, trivial⟩ (dc_R_weights_l28 mc_F p1 (0 : Int32) (1 : Int32) σ3 τ3 r σ' τ' h)
  · replace h := (if_pos q2).symm.trans h
    refine mr_iconstv (pc := 11) (-1 : Int32) dX5_weights_11 (by decide) ?_
    obtain ⟨rfl, rfl, rfl⟩ := os3 h
    exact mr_iret (pc := 12) rfl (rfl) dX5_weights_12
set_option maxHeartbeats 4000000 in
set_option maxRecDepth 100000 in
theorem dc_Q_weights_l22 : ∀ (n : Nat), ∀ (x1 : Int32) (x2 : Int32) (x3 : Int32) (x4 : Int32) (σ : mS) (τ : mT) (r : Int32) (σ' : mS) (τ' : mT), Q_weights_l22 n x1 x2 x3 x4 σ τ = some (r, σ', τ') → mc_V M_X6_weights 8 none 22 [.ref 34, .int x1, .int x2, .int x3, .int x4] [] (mc_hp σ τ) (some (.int r)) (mc_hp σ' τ') 0 0 := by
  intro n
  induction n with
  | zero =>
    intros
    rename_i h
    cases h
  | succ n ih =>
    intro x1 x2 x3 x4 σ τ r σ' τ' h
    refine mr_iload (pc := 22) dX6_weights_22 rfl ?_
    refine mr_bipushv (pc := 24) (10 : Int32) dX6_weights_24 (by decide) ?_
    refine mr_icmp_ge (pc := 26) 65 dX6_weights_26 (by decide) (fun q1 => ?_) (fun q1 => ?_)
    · replace h := (if_pos q1).symm.trans h
      refine mr_aload_n (pc := 65) dX6_weights_65 rfl ?_
      refine mr_getf (pc := 66) (ci := 6) inX6 rfl 0 (by decide) fl_31 dX6_weights_66 (ha_34 σ τ) rfl ?_
      refine mr_iconstv (pc := 69) (5 : Int32) dX6_weights_69 (by decide) ?_
      refine mr_iload_n (pc := 70) dX6_weights_70 rfl ?_
      refine mr_imul (pc := 71) dX6_weights_71 ?_
      refine mr_iconstv (pc := 72) (3 : Int32) dX6_weights_72 (by decide) ?_
      refine mr_iadd (pc := 73) dX6_weights_73 ?_
      refine mr_iload_n (pc := 74) dX6_weights_74 rfl ?_
      obtain ⟨g2, h⟩ := og h
      obtain ⟨σ3, e3, h⟩ := ow h
      refine mr_iast (pc := 75) dX6_weights_75 (ha_35 σ τ) (g2) (mc_V.heap (hs_35 e3) ?_)
      refine mr_iload_n (pc := 76) dX6_weights_76 rfl ?_
      obtain ⟨rfl, rfl, rfl⟩ := os3 h
      exact mr_iret (pc := 77) rfl (rfl) dX6_weights_77
    · replace h := (if_neg q1).symm.trans h
      refine mr_aload_n (pc := 29) dX6_weights_29 rfl ?_
      refine mr_getf (pc := 30) (ci := 6) inX6 rfl 0 (by decide) fl_31 dX6_weights_30 (ha_34 σ τ) rfl ?_
      refine mr_iconstv (pc := 33) (5 : Int32) dX6_weights_33 (by decide) ?_
      refine mr_iload_n (pc := 34) dX6_weights_34 rfl ?_
      refine mr_imul (pc := 35) dX6_weights_35 ?_
      refine mr_iconstv (pc := 36) (3 : Int32) dX6_weights_36 (by decide) ?_
      refine mr_iadd (pc := 37) dX6_weights_37 ?_
      refine mr_iload (pc := 38) dX6_weights_38 rfl ?_
      obtain ⟨g4, h⟩ := og h
      obtain ⟨σ5, e5, h⟩ := ow h
      refine mr_iast (pc := 40) dX6_weights_40 (ha_35 σ τ) (g4) (mc_V.heap (hs_35 e5) ?_)
      refine mr_iload_n (pc := 41) dX6_weights_41 rfl ?_
      refine mr_aload_n (pc := 42) dX6_weights_42 rfl ?_
      obtain ⟨r6, σ6, τ6, c6, h⟩ := obs h
      refine mr_callV0 (pc := 43) (ci := 6) [] ok_X6_isResting lk_176 st_X6_isResting se_X6_isResting dX6_weights_43 rfl (ha_34 σ5 τ) rfl rfl (Nat.le_of_ble_eq_true rfl) (Nat.le_of_ble_eq_true rfl) ((dc_Q_isResting c6).up (by decide)) ?_
      refine mr_if_eq (pc := 46) 56 dX6_weights_46 (by decide) (fun q7 => ?_) (fun q7 => ?_)
      · replace h := (if_pos q7).symm.trans h
        refine mr_iconstv (pc := 56) (0 : Int32) dX6_weights_56 (by decide) ?_
        refine mr_ior (pc := 57) dX6_weights_57 ?_
        refine mr_istore_n (pc := 58) dX6_weights_58 (Nat.le_of_ble_eq_true rfl) (show mc_V M_X6_weights 8 none 59 [.ref 34, .int x1, .int x2, .int (x3 ||| (0 : Int32)), .int x4] [] (mc_hp σ6 τ6) (some (.int r)) (mc_hp σ' τ') 0 0 from ?_)
        refine mr_iincv (pc := 59) (1 : Int32) dX6_weights_59 rfl (by decide) (show mc_V M_X6_weights 8 none 62 [.ref 34, .int x1, .int x2, .int (x3 ||| (0 : Int32)), .int (x4 + (1 : Int32))] [] (mc_hp σ6 τ6) (some (.int r)) (mc_hp σ' τ') 0 0 from ?_)
        refine mr_goto (pc := 62) 22 dX6_weights_62 (by decide) ?_
        exact mc_V.locs (loc' := [.ref 34, .int x1, .int x2, .int (x3 ||| (0 : Int32)), .int (x4 + (1 : Int32))]) ⟨Or.inr rfl, Or.inr rfl, Or.inr rfl, Or.inr rfl, Or.inr rfl, trivial⟩ (ih x1 x2 (x3 ||| (0 : Int32)) (x4 + (1 : Int32)) σ6 τ6 r σ' τ' h)
      · replace h := (if_neg q7).symm.trans h
        refine mr_iconstv (pc := 49) (1 : Int32) dX6_weights_49 (by decide) ?_
        refine mr_iload (pc := 50) dX6_weights_50 rfl ?_
        refine mr_ishl (pc := 52) dX6_weights_52 ?_
        refine mr_goto (pc := 53) 57 dX6_weights_53 (by decide) ?_
        refine mr_ior (pc := 57) dX6_weights_57 ?_
        refine mr_istore_n (pc := 58) dX6_weights_58 (Nat.le_of_ble_eq_true rfl) (show mc_V M_X6_weights 8 none 59 [.ref 34, .int x1, .int x2, .int (x3 ||| ((1 : Int32) <<< (x4 &&& 31))), .int x4] [] (mc_hp σ6 τ6) (some (.int r)) (mc_hp σ' τ') 0 0 from ?_)
        refine mr_iincv (pc := 59) (1 : Int32) dX6_weights_59 rfl (by decide) (show mc_V M_X6_weights 8 none 62 [.ref 34, .int x1, .int x2, .int (x3 ||| ((1 : Int32) <<< (x4 &&& 31))), .int (x4 + (1 : Int32))] [] (mc_hp σ6 τ6) (some (.int r)) (mc_hp σ' τ') 0 0 from ?_)
        refine mr_goto (pc := 62) 22 dX6_weights_62 (by decide) ?_
        exact mc_V.locs (loc' := [.ref 34, .int x1, .int x2, .int (x3 ||| ((1 : Int32) <<< (x4 &&& 31))), .int (x4 + (1 : Int32))]) ⟨Or.inr rfl, Or.inr rfl, Or.inr rfl, Or.inr rfl, Or.inr rfl, trivial⟩ (ih x1 x2 (x3 ||| ((1 : Int32) <<< (x4 &&& 31))) (x4 + (1 : Int32)) σ6 τ6 r σ' τ' h)
set_option maxHeartbeats 4000000 in
set_option maxRecDepth 100000 in
theorem dc_Q_weights {p1 : Int32} {σ : mS} {τ : mT} {r : Int32} {σ' : mS} {τ' : mT} (h : Q_weights p1 σ τ = some (r, σ', τ')) : mc_V M_X6_weights 8 none 0 (mc_entry [.ref 34, .int p1] 5) [] (mc_hp σ τ) (some (.int r)) (mc_hp σ' τ') 0 0 := by
  unfold Q_weights at h
  show mc_V M_X6_weights 8 none 0 [.ref 34, .int p1, .retAddr 0, .retAddr 0, .retAddr 0] [] (mc_hp σ τ) (some (.int r)) (mc_hp σ' τ') 0 0
  refine mr_aload_n (pc := 0) dX6_weights_0 rfl ?_
  refine mr_iload_n (pc := 1) dX6_weights_1 rfl ?_
  obtain ⟨r1, σ1, τ1, c1, h⟩ := obs h
  refine mr_callV0 (pc := 2) (ci := 6) [.int p1] ok_X6_isBlock lk_170 st_X6_isBlock se_X6_isBlock dX6_weights_2 rfl (ha_34 σ τ) rfl rfl (Nat.le_of_ble_eq_true rfl) (Nat.le_of_ble_eq_true rfl) ((dc_Q_isBlock c1).up (by decide)) ?_
  refine mr_if_ne (pc := 5) 10 dX6_weights_5 (by decide) (fun q2 => ?_) (fun q2 => ?_)
  · replace h := (if_neg q2).symm.trans h
    refine mr_aload_n (pc := 10) dX6_weights_10 rfl ?_
    refine mr_iload_n (pc := 11) dX6_weights_11 rfl ?_
    refine mr_iconstv (pc := 12) (3 : Int32) dX6_weights_12 (by decide) ?_
    obtain ⟨r3, σ3, τ3, c3, h⟩ := obs h
    refine mr_callV0 (pc := 13) (ci := 6) [.int p1, .int (3 : Int32)] ok_X6_get lk_132 st_X6_get se_X6_get dX6_weights_13 rfl (ha_34 σ1 τ1) rfl rfl (Nat.le_of_ble_eq_true rfl) (Nat.le_of_ble_eq_true rfl) ((dc_Q_get c3).up (by decide)) ?_
    refine mr_istore_n (pc := 16) dX6_weights_16 (Nat.le_of_ble_eq_true rfl) (show mc_V M_X6_weights 8 none 17 [.ref 34, .int p1, .int r3, .retAddr 0, .retAddr 0] [] (mc_hp σ3 τ3) (some (.int r)) (mc_hp σ' τ') 0 0 from ?_)
    refine mr_iconstv (pc := 17) (0 : Int32) dX6_weights_17 (by decide) ?_
    refine mr_istore_n (pc := 18) dX6_weights_18 (Nat.le_of_ble_eq_true rfl) (show mc_V M_X6_weights 8 none 19 [.ref 34, .int p1, .int r3, .int (0 : Int32), .retAddr 0] [] (mc_hp σ3 τ3) (some (.int r)) (mc_hp σ' τ') 0 0 from ?_)
    refine mr_iconstv (pc := 19) (1 : Int32) dX6_weights_19 (by decide) ?_
    refine mr_istore (pc := 20) dX6_weights_20 (Nat.le_of_ble_eq_true rfl) (show mc_V M_X6_weights 8 none 22 [.ref 34, .int p1, .int r3, .int (0 : Int32), .int (1 : Int32)] [] (mc_hp σ3 τ3) (some (.int r)) (mc_hp σ' τ') 0 0 from ?_)
    exact mc_V.locs (loc' := [.ref 34, .int p1, .int r3, .int (0 : Int32), .int (1 : Int32)]) ⟨Or.inr rfl, Or.inr rfl, Or.inr rfl, Or.inr rfl, Or.inr rfl, trivial⟩ (dc_Q_weights_l22 mc_F p1 r3 (0 : Int32) (1 : Int32) σ3 τ3 r σ' τ' h)
  · replace h := (if_pos q2).symm.trans h
    refine mr_iconstv (pc := 8) (-1 : Int32) dX6_weights_8 (by decide) ?_
    obtain ⟨rfl, rfl, rfl⟩ := os3 h
    exact mr_iret (pc := 9) rfl (rfl) dX6_weights_9
set_option maxHeartbeats 4000000 in
set_option maxRecDepth 100000 in
theorem dc_P_takeOut_4 {p1 : Int32} {σ : mS} {τ : mT} {σ' : mS} {τ' : mT} (h : P_takeOut_4 p1 σ τ = some (σ', τ')) : mc_V M_X2_takeOut 1 none 0 (mc_entry [.ref 4, .int p1] 3) [] (mc_hp σ τ) none (mc_hp σ' τ') 0 0 := by
  unfold P_takeOut_4 at h
  show mc_V M_X2_takeOut 1 none 0 [.ref 4, .int p1, .retAddr 0] [] (mc_hp σ τ) none (mc_hp σ' τ') 0 0
  refine mr_aload_n (pc := 0) dX2_takeOut_0 rfl ?_
  refine mr_iload_n (pc := 1) dX2_takeOut_1 rfl ?_
  obtain ⟨r1, σ1, τ1, c1, h⟩ := obs h
  refine mr_callV0 (pc := 2) (ci := 2) [.int p1] ok_X2_has lk_70 st_X2_has se_X2_has dX2_takeOut_2 rfl (ha_4 σ τ) rfl rfl (Nat.le_of_ble_eq_true rfl) (Nat.le_of_ble_eq_true rfl) ((dc_P_has_4 c1).up (by decide)) ?_
  refine mr_if_ne (pc := 5) 9 dX2_takeOut_5 (by decide) (fun q2 => ?_) (fun q2 => ?_)
  · replace h := (if_neg q2).symm.trans h
    refine mr_aload_n (pc := 9) dX2_takeOut_9 rfl ?_
    obtain ⟨r3, σ3, τ3, c3, h⟩ := obs h
    refine mr_callV0 (pc := 10) (ci := 2) [] ok_X2_size lk_71 st_X2_size se_X2_size dX2_takeOut_10 rfl (ha_4 σ1 τ1) rfl rfl (Nat.le_of_ble_eq_true rfl) (Nat.le_of_ble_eq_true rfl) ((dc_P_size_4 c3).up (by decide)) ?_
    refine mr_iconstv (pc := 13) (1 : Int32) dX2_takeOut_13 (by decide) ?_
    refine mr_isub (pc := 14) dX2_takeOut_14 ?_
    refine mr_iload_n (pc := 15) dX2_takeOut_15 rfl ?_
    refine mr_isub (pc := 16) dX2_takeOut_16 ?_
    refine mr_istore_n (pc := 17) dX2_takeOut_17 (Nat.le_of_ble_eq_true rfl) (show mc_V M_X2_takeOut 1 none 18 [.ref 4, .int p1, .int ((r3 - (1 : Int32)) - p1)] [] (mc_hp σ3 τ3) none (mc_hp σ' τ') 0 0 from ?_)
    refine mr_aload_n (pc := 18) dX2_takeOut_18 rfl ?_
    refine mr_getf (pc := 19) (ci := 2) inX2 rfl 0 (by decide) fl_25 dX2_takeOut_19 (ha_4 σ3 τ3) rfl ?_
    refine mr_iload_n (pc := 22) dX2_takeOut_22 rfl ?_
    refine mr_iconstv (pc := 23) (1 : Int32) dX2_takeOut_23 (by decide) ?_
    refine mr_iadd (pc := 24) dX2_takeOut_24 ?_
    refine mr_iconstv (pc := 25) (5 : Int32) dX2_takeOut_25 (by decide) ?_
    refine mr_imul (pc := 26) dX2_takeOut_26 ?_
    refine mr_aload_n (pc := 27) dX2_takeOut_27 rfl ?_
    refine mr_getf (pc := 28) (ci := 2) inX2 rfl 0 (by decide) fl_25 dX2_takeOut_28 (ha_4 σ3 τ3) rfl ?_
    refine mr_iload_n (pc := 31) dX2_takeOut_31 rfl ?_
    refine mr_iconstv (pc := 32) (5 : Int32) dX2_takeOut_32 (by decide) ?_
    refine mr_imul (pc := 33) dX2_takeOut_33 ?_
    refine mr_iload_n (pc := 34) dX2_takeOut_34 rfl ?_
    refine mr_iconstv (pc := 35) (5 : Int32) dX2_takeOut_35 (by decide) ?_
    refine mr_imul (pc := 36) dX2_takeOut_36 ?_
    obtain ⟨g4, h⟩ := og h
    obtain ⟨g5, h⟩ := og h
    obtain ⟨g6, h⟩ := og h
    obtain ⟨g7, h⟩ := og h
    obtain ⟨g8, h⟩ := og h
    obtain ⟨σ9, e9, h⟩ := ow h
    refine mr_copy (pc := 37) cp_X2 cp_nat cp_stat cp_ini dX2_takeOut_37 (ha_5 σ3 τ3) (ha_5 σ3 τ3) g4 g5 g6 (Nat.not_lt.mp g7) (Nat.not_lt.mp g8) (Nat.le_of_ble_eq_true rfl) (mc_V.heap (hc_5 e9) ?_)
    refine mr_aload_n (pc := 40) dX2_takeOut_40 rfl ?_
    refine mr_getf (pc := 41) (ci := 2) inX2 rfl 0 (by decide) fl_25 dX2_takeOut_41 (ha_4 σ9 τ3) rfl ?_
    refine mr_bipushv (pc := 44) (20 : Int32) dX2_takeOut_44 (by decide) ?_
    refine mr_dup2 (pc := 46) dX2_takeOut_46 rfl rfl ?_
    refine mr_iald (pc := 47) dX2_takeOut_47 (ha_5 σ9 τ3) (vin_ok rfl) ?_
    refine mr_iconstv (pc := 48) (1 : Int32) dX2_takeOut_48 (by decide) ?_
    refine mr_isub (pc := 49) dX2_takeOut_49 ?_
    obtain ⟨σ10, e10, h⟩ := ow h
    refine mr_iast (pc := 50) dX2_takeOut_50 (ha_5 σ9 τ3) (vin_ok rfl) (mc_V.heap (hs_5 e10) ?_)
    obtain ⟨rfl, rfl⟩ := os2 h
    exact mr_ret (pc := 51) rfl dX2_takeOut_51
  · replace h := (if_pos q2).symm.trans h
    obtain ⟨rfl, rfl⟩ := os2 h
    exact mr_ret (pc := 8) rfl dX2_takeOut_8
set_option maxHeartbeats 4000000 in
set_option maxRecDepth 100000 in
theorem dc_R_restsWithout {p1 : Int32} {σ : mS} {τ : mT} {r : Int32} {σ' : mS} {τ' : mT} (h : R_restsWithout p1 σ τ = some (r, σ', τ')) : mc_V M_X5_restsWithout 5 none 0 (mc_entry [.ref 1, .int p1] 2) [] (mc_hp σ τ) (some (.int r)) (mc_hp σ' τ') 0 0 := by
  unfold R_restsWithout at h
  show mc_V M_X5_restsWithout 5 none 0 [.ref 1, .int p1] [] (mc_hp σ τ) (some (.int r)) (mc_hp σ' τ') 0 0
  refine mr_aload_n (pc := 0) dX5_restsWithout_0 rfl ?_
  refine mr_getf (pc := 1) (ci := 5) inX5 rfl 1 (by decide) fl_1 dX5_restsWithout_1 (ha_1 σ τ) rfl ?_
  refine mr_aload_n (pc := 4) dX5_restsWithout_4 rfl ?_
  refine mr_getf (pc := 5) (ci := 5) inX5 rfl 0 (by decide) fl_0 dX5_restsWithout_5 (ha_1 σ τ) rfl ?_
  obtain ⟨σ1, τ1, c1, h⟩ := ovs h
  refine mr_callV0 (pc := 8) (ci := 2) [.ref 2] ok_X2_copy lk_8 st_X2_copy se_X2_copy dX5_restsWithout_8 rfl (ha_4 σ τ) rfl rfl (Nat.le_of_ble_eq_true rfl) (Nat.le_of_ble_eq_true rfl) ((dc_P_copy_4_2 c1).up (by decide)) ?_
  refine mr_aload_n (pc := 11) dX5_restsWithout_11 rfl ?_
  refine mr_getf (pc := 12) (ci := 5) inX5 rfl 1 (by decide) fl_1 dX5_restsWithout_12 (ha_1 σ1 τ1) rfl ?_
  refine mr_iload_n (pc := 15) dX5_restsWithout_15 rfl ?_
  obtain ⟨σ2, τ2, c2, h⟩ := ovs h
  refine mr_callV0 (pc := 16) (ci := 2) [.int p1] ok_X2_takeOut lk_16 st_X2_takeOut se_X2_takeOut dX5_restsWithout_16 rfl (ha_4 σ1 τ1) rfl rfl (Nat.le_of_ble_eq_true rfl) (Nat.le_of_ble_eq_true rfl) ((dc_P_takeOut_4 c2).up (by decide)) ?_
  refine mr_aload_n (pc := 19) dX5_restsWithout_19 rfl ?_
  refine mr_aload_n (pc := 20) dX5_restsWithout_20 rfl ?_
  refine mr_getf (pc := 21) (ci := 5) inX5 rfl 1 (by decide) fl_1 dX5_restsWithout_21 (ha_1 σ2 τ2) rfl ?_
  refine mr_iconstv (pc := 24) (0 : Int32) dX5_restsWithout_24 (by decide) ?_
  obtain ⟨r3, σ3, τ3, c3, h⟩ := obs h
  refine mr_callV0 (pc := 25) (ci := 5) [.ref 4, .int (0 : Int32)] ok_X5_isBalanced lk_26 st_X5_isBalanced se_X5_isBalanced dX5_restsWithout_25 rfl (ha_1 σ2 τ2) rfl rfl (Nat.le_of_ble_eq_true rfl) (Nat.le_of_ble_eq_true rfl) ((dc_R_isBalanced_4 c3).up (by decide)) ?_
  obtain ⟨g4, h⟩ := og h
  obtain ⟨rfl, rfl, rfl⟩ := os3 h
  exact mr_iret (pc := 28) rfl (nar_b g4) dX5_restsWithout_28
set_option maxHeartbeats 4000000 in
set_option maxRecDepth 100000 in
theorem dc_R_key_l17 : ∀ (n : Nat), ∀ (x1 : Int32) (σ : mS) (τ : mT) (r : Int32) (σ' : mS) (τ' : mT), R_key_l17 n x1 σ τ = some (r, σ', τ') → mc_V M_X5_key 6 none 17 [.ref 1, .int x1] [] (mc_hp σ τ) (some (.int r)) (mc_hp σ' τ') 0 0 := by
  intro n
  induction n with
  | zero =>
    intros
    rename_i h
    cases h
  | succ n ih =>
    intro x1 σ τ r σ' τ' h
    refine mr_iload_n (pc := 17) dX5_key_17 rfl ?_
    refine mr_aload_n (pc := 18) dX5_key_18 rfl ?_
    refine mr_getf (pc := 19) (ci := 5) inX5 rfl 0 (by decide) fl_0 dX5_key_19 (ha_1 σ τ) rfl ?_
    obtain ⟨r1, σ1, τ1, c1, h⟩ := obs h
    refine mr_callV0 (pc := 22) (ci := 2) [] ok_X2_size lk_10 st_X2_size se_X2_size dX5_key_22 rfl (ha_2 σ τ) rfl rfl (Nat.le_of_ble_eq_true rfl) (Nat.le_of_ble_eq_true rfl) ((dc_P_size_2 c1).up (by decide)) ?_
    refine mr_icmp_ge (pc := 25) 66 dX5_key_25 (by decide) (fun q2 => ?_) (fun q2 => ?_)
    · replace h := (if_pos q2).symm.trans h
      refine mr_bipushv (pc := 66) (-9 : Int32) dX5_key_66 (by decide) ?_
      obtain ⟨rfl, rfl, rfl⟩ := os3 h
      exact mr_iret (pc := 68) rfl (rfl) dX5_key_68
    · replace h := (if_neg q2).symm.trans h
      refine mr_aload_n (pc := 28) dX5_key_28 rfl ?_
      refine mr_getf (pc := 29) (ci := 5) inX5 rfl 2 (by decide) fl_2 dX5_key_29 (ha_1 σ1 τ1) rfl ?_
      refine mr_aload_n (pc := 32) dX5_key_32 rfl ?_
      refine mr_getf (pc := 33) (ci := 5) inX5 rfl 0 (by decide) fl_0 dX5_key_33 (ha_1 σ1 τ1) rfl ?_
      obtain ⟨σ3, τ3, c3, h⟩ := ovs h
      refine mr_callV0 (pc := 36) (ci := 1) [.ref 2] ok_X1_find lk_12 st_X1_find se_X1_find dX5_key_36 rfl (ha_6 σ1 τ1) rfl rfl (Nat.le_of_ble_eq_true rfl) (Nat.le_of_ble_eq_true rfl) ((dc_Y_find_2 c3).up (by decide)) ?_
      refine mr_aload_n (pc := 39) dX5_key_39 rfl ?_
      refine mr_getf (pc := 40) (ci := 5) inX5 rfl 2 (by decide) fl_2 dX5_key_40 (ha_1 σ3 τ3) rfl ?_
      refine mr_iload_n (pc := 43) dX5_key_43 rfl ?_
      obtain ⟨r4, σ4, τ4, c4, h⟩ := obs h
      refine mr_callV0 (pc := 44) (ci := 1) [.int x1] ok_X1_over lk_15 st_X1_over se_X1_over dX5_key_44 rfl (ha_6 σ3 τ3) rfl rfl (Nat.le_of_ble_eq_true rfl) (Nat.le_of_ble_eq_true rfl) ((dc_Y_over c4).up (by decide)) ?_
      refine mr_if_ne (pc := 47) 60 dX5_key_47 (by decide) (fun q5 => ?_) (fun q5 => ?_)
      · replace h := (if_neg q5).symm.trans h
        refine mr_iincv (pc := 60) (1 : Int32) dX5_key_60 rfl (by decide) (show mc_V M_X5_key 6 none 63 [.ref 1, .int (x1 + (1 : Int32))] [] (mc_hp σ4 τ4) (some (.int r)) (mc_hp σ' τ') 0 0 from ?_)
        refine mr_goto (pc := 63) 17 dX5_key_63 (by decide) ?_
        exact mc_V.locs (loc' := [.ref 1, .int (x1 + (1 : Int32))]) ⟨Or.inr rfl, Or.inr rfl, trivial⟩ (ih (x1 + (1 : Int32)) σ4 τ4 r σ' τ' h)
      · replace h := (if_pos q5).symm.trans h
        refine mr_aload_n (pc := 50) dX5_key_50 rfl ?_
        refine mr_iload_n (pc := 51) dX5_key_51 rfl ?_
        obtain ⟨r6, σ6, τ6, c6, h⟩ := obs h
        refine mr_callV0 (pc := 52) (ci := 5) [.int x1] ok_X5_restsWithout lk_30 st_X5_restsWithout se_X5_restsWithout dX5_key_52 rfl (ha_1 σ4 τ4) rfl rfl (Nat.le_of_ble_eq_true rfl) (Nat.le_of_ble_eq_true rfl) ((dc_R_restsWithout c6).up (by decide)) ?_
        refine mr_if_ne (pc := 55) 60 dX5_key_55 (by decide) (fun q7 => ?_) (fun q7 => ?_)
        · replace h := (if_neg q7).symm.trans h
          refine mr_iincv (pc := 60) (1 : Int32) dX5_key_60 rfl (by decide) (show mc_V M_X5_key 6 none 63 [.ref 1, .int (x1 + (1 : Int32))] [] (mc_hp σ6 τ6) (some (.int r)) (mc_hp σ' τ') 0 0 from ?_)
          refine mr_goto (pc := 63) 17 dX5_key_63 (by decide) ?_
          exact mc_V.locs (loc' := [.ref 1, .int (x1 + (1 : Int32))]) ⟨Or.inr rfl, Or.inr rfl, trivial⟩ (ih (x1 + (1 : Int32)) σ6 τ6 r σ' τ' h)
        · replace h := (if_pos q7).symm.trans h
          refine mr_iload_n (pc := 58) dX5_key_58 rfl ?_
          obtain ⟨rfl, rfl, rfl⟩ := os3 h
          exact mr_iret (pc := 59) rfl (rfl) dX5_key_59
set_option maxHeartbeats 4000000 in
set_option maxRecDepth 100000 in
theorem dc_R_key {σ : mS} {τ : mT} {r : Int32} {σ' : mS} {τ' : mT} (h : R_key σ τ = some (r, σ', τ')) : mc_V M_X5_key 6 none 0 (mc_entry [.ref 1] 2) [] (mc_hp σ τ) (some (.int r)) (mc_hp σ' τ') 0 0 := by
  unfold R_key at h
  show mc_V M_X5_key 6 none 0 [.ref 1, .retAddr 0] [] (mc_hp σ τ) (some (.int r)) (mc_hp σ' τ') 0 0
  refine mr_aload_n (pc := 0) dX5_key_0 rfl ?_
  refine mr_aload_n (pc := 1) dX5_key_1 rfl ?_
  refine mr_getf (pc := 2) (ci := 5) inX5 rfl 0 (by decide) fl_0 dX5_key_2 (ha_1 σ τ) rfl ?_
  refine mr_iconstv (pc := 5) (0 : Int32) dX5_key_5 (by decide) ?_
  obtain ⟨r1, σ1, τ1, c1, h⟩ := obs h
  refine mr_callV0 (pc := 6) (ci := 5) [.ref 2, .int (0 : Int32)] ok_X5_isBalanced lk_26 st_X5_isBalanced se_X5_isBalanced dX5_key_6 rfl (ha_1 σ τ) rfl rfl (Nat.le_of_ble_eq_true rfl) (Nat.le_of_ble_eq_true rfl) ((dc_R_isBalanced_2 c1).up (by decide)) ?_
  refine mr_if_ne (pc := 9) 15 dX5_key_9 (by decide) (fun q2 => ?_) (fun q2 => ?_)
  · replace h := (if_neg q2).symm.trans h
    refine mr_iconstv (pc := 15) (0 : Int32) dX5_key_15 (by decide) ?_
    refine mr_istore_n (pc := 16) dX5_key_16 (Nat.le_of_ble_eq_true rfl) (show mc_V M_X5_key 6 none 17 [.ref 1, .int (0 : Int32)] [] (mc_hp σ1 τ1) (some (.int r)) (mc_hp σ' τ') 0 0 from ?_)
    exact mc_V.locs (loc' := [.ref 1, .int (0 : Int32)]) ⟨Or.inr rfl, Or.inr rfl, trivial⟩ (dc_R_key_l17 mc_F (0 : Int32) σ1 τ1 r σ' τ' h)
  · replace h := (if_pos q2).symm.trans h
    refine mr_bipushv (pc := 12) (-9 : Int32) dX5_key_12 (by decide) ?_
    obtain ⟨rfl, rfl, rfl⟩ := os3 h
    exact mr_iret (pc := 14) rfl (rfl) dX5_key_14
set_option maxHeartbeats 4000000 in
set_option maxRecDepth 100000 in
theorem dc_Q_restsWithout {p1 : Int32} {σ : mS} {τ : mT} {r : Int32} {σ' : mS} {τ' : mT} (h : Q_restsWithout p1 σ τ = some (r, σ', τ')) : mc_V M_X6_restsWithout 8 none 0 (mc_entry [.ref 34, .int p1] 3) [] (mc_hp σ τ) (some (.int r)) (mc_hp σ' τ') 0 0 := by
  unfold Q_restsWithout at h
  show mc_V M_X6_restsWithout 8 none 0 [.ref 34, .int p1, .retAddr 0] [] (mc_hp σ τ) (some (.int r)) (mc_hp σ' τ') 0 0
  refine mr_aload_n (pc := 0) dX6_restsWithout_0 rfl ?_
  refine mr_aload_n (pc := 1) dX6_restsWithout_1 rfl ?_
  refine mr_getf (pc := 2) (ci := 6) inX6 rfl 26 (by decide) fl_44 dX6_restsWithout_2 (ha_34 σ τ) rfl ?_
  refine mr_iconstv (pc := 5) (0 : Int32) dX6_restsWithout_5 (by decide) ?_
  obtain ⟨σ1, τ1, c1, h⟩ := ovs h
  refine mr_callV0 (pc := 6) (ci := 6) [.ref 48, .int (0 : Int32)] ok_X6_lays lk_165 st_X6_lays se_X6_lays dX6_restsWithout_6 rfl (ha_34 σ τ) rfl rfl (Nat.le_of_ble_eq_true rfl) (Nat.le_of_ble_eq_true rfl) ((dc_Q_lays_48 c1).up (by decide)) ?_
  refine mr_aload_n (pc := 9) dX6_restsWithout_9 rfl ?_
  refine mr_iload_n (pc := 10) dX6_restsWithout_10 rfl ?_
  obtain ⟨σ2, τ2, c2, h⟩ := ovs h
  refine mr_callV0 (pc := 11) (ci := 6) [.int p1] ok_X6_removes lk_172 st_X6_removes se_X6_removes dX6_restsWithout_11 rfl (ha_34 σ1 τ1) rfl rfl (Nat.le_of_ble_eq_true rfl) (Nat.le_of_ble_eq_true rfl) ((dc_Q_removes c2).up (by decide)) ?_
  refine mr_aload_n (pc := 14) dX6_restsWithout_14 rfl ?_
  obtain ⟨r3, σ3, τ3, c3, h⟩ := obs h
  refine mr_callV0 (pc := 15) (ci := 6) [] ok_X6_isResting lk_176 st_X6_isResting se_X6_isResting dX6_restsWithout_15 rfl (ha_34 σ2 τ2) rfl rfl (Nat.le_of_ble_eq_true rfl) (Nat.le_of_ble_eq_true rfl) ((dc_Q_isResting c3).up (by decide)) ?_
  refine mr_istore_n (pc := 18) dX6_restsWithout_18 (Nat.le_of_ble_eq_true rfl) (show mc_V M_X6_restsWithout 8 none 19 [.ref 34, .int p1, .int r3] [] (mc_hp σ3 τ3) (some (.int r)) (mc_hp σ' τ') 0 0 from ?_)
  refine mr_aload_n (pc := 19) dX6_restsWithout_19 rfl ?_
  refine mr_aload_n (pc := 20) dX6_restsWithout_20 rfl ?_
  refine mr_getf (pc := 21) (ci := 6) inX6 rfl 26 (by decide) fl_44 dX6_restsWithout_21 (ha_34 σ3 τ3) rfl ?_
  refine mr_iconstv (pc := 24) (0 : Int32) dX6_restsWithout_24 (by decide) ?_
  obtain ⟨σ4, τ4, c4, h⟩ := ovs h
  refine mr_callV0 (pc := 25) (ci := 6) [.ref 48, .int (0 : Int32)] ok_X6_takes lk_167 st_X6_takes se_X6_takes dX6_restsWithout_25 rfl (ha_34 σ3 τ3) rfl rfl (Nat.le_of_ble_eq_true rfl) (Nat.le_of_ble_eq_true rfl) ((dc_Q_takes_48 c4).up (by decide)) ?_
  refine mr_iload_n (pc := 28) dX6_restsWithout_28 rfl ?_
  obtain ⟨g5, h⟩ := og h
  obtain ⟨rfl, rfl, rfl⟩ := os3 h
  exact mr_iret (pc := 29) rfl (nar_b g5) dX6_restsWithout_29
set_option maxHeartbeats 4000000 in
set_option maxRecDepth 100000 in
theorem dc_Q_key_l12 : ∀ (n : Nat), ∀ (x1 : Int32) (σ : mS) (τ : mT) (r : Int32) (σ' : mS) (τ' : mT), Q_key_l12 n x1 σ τ = some (r, σ', τ') → mc_V M_X6_key 9 none 12 [.ref 34, .int x1] [] (mc_hp σ τ) (some (.int r)) (mc_hp σ' τ') 0 0 := by
  intro n
  induction n with
  | zero =>
    intros
    rename_i h
    cases h
  | succ n ih =>
    intro x1 σ τ r σ' τ' h
    refine mr_iload_n (pc := 12) dX6_key_12 rfl ?_
    refine mr_aload_n (pc := 13) dX6_key_13 rfl ?_
    obtain ⟨r1, σ1, τ1, c1, h⟩ := obs h
    refine mr_callV0 (pc := 14) (ci := 6) [] ok_X6_many lk_138 st_X6_many se_X6_many dX6_key_14 rfl (ha_34 σ τ) rfl rfl (Nat.le_of_ble_eq_true rfl) (Nat.le_of_ble_eq_true rfl) ((dc_Q_many c1).up (by decide)) ?_
    refine mr_icmp_ge (pc := 17) 48 dX6_key_17 (by decide) (fun q2 => ?_) (fun q2 => ?_)
    · replace h := (if_pos q2).symm.trans h
      refine mr_bipushv (pc := 48) (-9 : Int32) dX6_key_48 (by decide) ?_
      obtain ⟨rfl, rfl, rfl⟩ := os3 h
      exact mr_iret (pc := 50) rfl (rfl) dX6_key_50
    · replace h := (if_neg q2).symm.trans h
      refine mr_aload_n (pc := 20) dX6_key_20 rfl ?_
      obtain ⟨σ3, τ3, c3, h⟩ := ovs h
      refine mr_callV0 (pc := 21) (ci := 6) [] ok_X6_layAll lk_152 st_X6_layAll se_X6_layAll dX6_key_21 rfl (ha_34 σ1 τ1) rfl rfl (Nat.le_of_ble_eq_true rfl) (Nat.le_of_ble_eq_true rfl) ((dc_Q_layAll c3).up (by decide)) ?_
      refine mr_aload_n (pc := 24) dX6_key_24 rfl ?_
      refine mr_iload_n (pc := 25) dX6_key_25 rfl ?_
      obtain ⟨r4, σ4, τ4, c4, h⟩ := obs h
      refine mr_callV0 (pc := 26) (ci := 6) [.int x1] ok_X6_above lk_171 st_X6_above se_X6_above dX6_key_26 rfl (ha_34 σ3 τ3) rfl rfl (Nat.le_of_ble_eq_true rfl) (Nat.le_of_ble_eq_true rfl) ((dc_Q_above c4).up (by decide)) ?_
      refine mr_if_ne (pc := 29) 42 dX6_key_29 (by decide) (fun q5 => ?_) (fun q5 => ?_)
      · replace h := (if_neg q5).symm.trans h
        refine mr_iincv (pc := 42) (1 : Int32) dX6_key_42 rfl (by decide) (show mc_V M_X6_key 9 none 45 [.ref 34, .int (x1 + (1 : Int32))] [] (mc_hp σ4 τ4) (some (.int r)) (mc_hp σ' τ') 0 0 from ?_)
        refine mr_goto (pc := 45) 12 dX6_key_45 (by decide) ?_
        exact mc_V.locs (loc' := [.ref 34, .int (x1 + (1 : Int32))]) ⟨Or.inr rfl, Or.inr rfl, trivial⟩ (ih (x1 + (1 : Int32)) σ4 τ4 r σ' τ' h)
      · replace h := (if_pos q5).symm.trans h
        refine mr_aload_n (pc := 32) dX6_key_32 rfl ?_
        refine mr_iload_n (pc := 33) dX6_key_33 rfl ?_
        obtain ⟨r6, σ6, τ6, c6, h⟩ := obs h
        refine mr_callV0 (pc := 34) (ci := 6) [.int x1] ok_X6_restsWithout lk_178 st_X6_restsWithout se_X6_restsWithout dX6_key_34 rfl (ha_34 σ4 τ4) rfl rfl (Nat.le_of_ble_eq_true rfl) (Nat.le_of_ble_eq_true rfl) ((dc_Q_restsWithout c6).up (by decide)) ?_
        refine mr_if_ne (pc := 37) 42 dX6_key_37 (by decide) (fun q7 => ?_) (fun q7 => ?_)
        · replace h := (if_neg q7).symm.trans h
          refine mr_iincv (pc := 42) (1 : Int32) dX6_key_42 rfl (by decide) (show mc_V M_X6_key 9 none 45 [.ref 34, .int (x1 + (1 : Int32))] [] (mc_hp σ6 τ6) (some (.int r)) (mc_hp σ' τ') 0 0 from ?_)
          refine mr_goto (pc := 45) 12 dX6_key_45 (by decide) ?_
          exact mc_V.locs (loc' := [.ref 34, .int (x1 + (1 : Int32))]) ⟨Or.inr rfl, Or.inr rfl, trivial⟩ (ih (x1 + (1 : Int32)) σ6 τ6 r σ' τ' h)
        · replace h := (if_pos q7).symm.trans h
          refine mr_iload_n (pc := 40) dX6_key_40 rfl ?_
          obtain ⟨rfl, rfl, rfl⟩ := os3 h
          exact mr_iret (pc := 41) rfl (rfl) dX6_key_41
set_option maxHeartbeats 4000000 in
set_option maxRecDepth 100000 in
theorem dc_Q_key {σ : mS} {τ : mT} {r : Int32} {σ' : mS} {τ' : mT} (h : Q_key σ τ = some (r, σ', τ')) : mc_V M_X6_key 9 none 0 (mc_entry [.ref 34] 2) [] (mc_hp σ τ) (some (.int r)) (mc_hp σ' τ') 0 0 := by
  unfold Q_key at h
  show mc_V M_X6_key 9 none 0 [.ref 34, .retAddr 0] [] (mc_hp σ τ) (some (.int r)) (mc_hp σ' τ') 0 0
  refine mr_aload_n (pc := 0) dX6_key_0 rfl ?_
  obtain ⟨r1, σ1, τ1, c1, h⟩ := obs h
  refine mr_callV0 (pc := 1) (ci := 6) [] ok_X6_isResting lk_176 st_X6_isResting se_X6_isResting dX6_key_1 rfl (ha_34 σ τ) rfl rfl (Nat.le_of_ble_eq_true rfl) (Nat.le_of_ble_eq_true rfl) ((dc_Q_isResting c1).up (by decide)) ?_
  refine mr_if_ne (pc := 4) 10 dX6_key_4 (by decide) (fun q2 => ?_) (fun q2 => ?_)
  · replace h := (if_neg q2).symm.trans h
    refine mr_iconstv (pc := 10) (0 : Int32) dX6_key_10 (by decide) ?_
    refine mr_istore_n (pc := 11) dX6_key_11 (Nat.le_of_ble_eq_true rfl) (show mc_V M_X6_key 9 none 12 [.ref 34, .int (0 : Int32)] [] (mc_hp σ1 τ1) (some (.int r)) (mc_hp σ' τ') 0 0 from ?_)
    exact mc_V.locs (loc' := [.ref 34, .int (0 : Int32)]) ⟨Or.inr rfl, Or.inr rfl, trivial⟩ (dc_Q_key_l12 mc_F (0 : Int32) σ1 τ1 r σ' τ' h)
  · replace h := (if_pos q2).symm.trans h
    refine mr_bipushv (pc := 7) (-9 : Int32) dX6_key_7 (by decide) ?_
    obtain ⟨rfl, rfl, rfl⟩ := os3 h
    exact mr_iret (pc := 9) rfl (rfl) dX6_key_9
set_option maxHeartbeats 4000000 in
set_option maxRecDepth 100000 in
theorem dc_Z_bitCount {p0 : Int32} {σ : mS} {τ : mT} {r : Int32} {σ' : mS} {τ' : mT} (h : Z_bitCount p0 σ τ = some (r, σ', τ')) : mc_V M_J6_bitCount_0f7a4 0 none 0 (mc_entry [.int p0] 1) [] (mc_hp σ τ) (some (.int r)) (mc_hp σ' τ') 0 0 := by
  unfold Z_bitCount at h
  show mc_V M_J6_bitCount_0f7a4 0 none 0 [.int p0] [] (mc_hp σ τ) (some (.int r)) (mc_hp σ' τ') 0 0
  refine mr_iload_n (pc := 0) dJ6_bitCount_0f7a4_0 rfl ?_
  refine mr_iload_n (pc := 1) dJ6_bitCount_0f7a4_1 rfl ?_
  refine mr_iconstv (pc := 2) (1 : Int32) dJ6_bitCount_0f7a4_2 (by decide) ?_
  refine mr_iushr (pc := 3) dJ6_bitCount_0f7a4_3 ?_
  refine mr_ldcw (pc := 4) kI_J6_265 dJ6_bitCount_0f7a4_4 ?_
  refine mr_iand (pc := 7) dJ6_bitCount_0f7a4_7 ?_
  refine mr_isub (pc := 8) dJ6_bitCount_0f7a4_8 ?_
  refine mr_istore_n (pc := 9) dJ6_bitCount_0f7a4_9 (Nat.le_of_ble_eq_true rfl) (show mc_V M_J6_bitCount_0f7a4 0 none 10 [.int (p0 - (((p0.toUInt32 >>> ((1 : Int32).toUInt32 &&& Int32.toUInt32 31)).toInt32) &&& (1431655765 : Int32)))] [] (mc_hp σ τ) (some (.int r)) (mc_hp σ' τ') 0 0 from ?_)
  refine mr_iload_n (pc := 10) dJ6_bitCount_0f7a4_10 rfl ?_
  refine mr_ldcw (pc := 11) kI_J6_266 dJ6_bitCount_0f7a4_11 ?_
  refine mr_iand (pc := 14) dJ6_bitCount_0f7a4_14 ?_
  refine mr_iload_n (pc := 15) dJ6_bitCount_0f7a4_15 rfl ?_
  refine mr_iconstv (pc := 16) (2 : Int32) dJ6_bitCount_0f7a4_16 (by decide) ?_
  refine mr_iushr (pc := 17) dJ6_bitCount_0f7a4_17 ?_
  refine mr_ldcw (pc := 18) kI_J6_266 dJ6_bitCount_0f7a4_18 ?_
  refine mr_iand (pc := 21) dJ6_bitCount_0f7a4_21 ?_
  refine mr_iadd (pc := 22) dJ6_bitCount_0f7a4_22 ?_
  refine mr_istore_n (pc := 23) dJ6_bitCount_0f7a4_23 (Nat.le_of_ble_eq_true rfl) (show mc_V M_J6_bitCount_0f7a4 0 none 24 [.int (((p0 - (((p0.toUInt32 >>> ((1 : Int32).toUInt32 &&& Int32.toUInt32 31)).toInt32) &&& (1431655765 : Int32))) &&& (858993459 : Int32)) + ((((p0 - (((p0.toUInt32 >>> ((1 : Int32).toUInt32 &&& Int32.toUInt32 31)).toInt32) &&& (1431655765 : Int32))).toUInt32 >>> ((2 : Int32).toUInt32 &&& Int32.toUInt32 31)).toInt32) &&& (858993459 : Int32)))] [] (mc_hp σ τ) (some (.int r)) (mc_hp σ' τ') 0 0 from ?_)
  refine mr_iload_n (pc := 24) dJ6_bitCount_0f7a4_24 rfl ?_
  refine mr_iload_n (pc := 25) dJ6_bitCount_0f7a4_25 rfl ?_
  refine mr_iconstv (pc := 26) (4 : Int32) dJ6_bitCount_0f7a4_26 (by decide) ?_
  refine mr_iushr (pc := 27) dJ6_bitCount_0f7a4_27 ?_
  refine mr_iadd (pc := 28) dJ6_bitCount_0f7a4_28 ?_
  refine mr_ldcw (pc := 29) kI_J6_267 dJ6_bitCount_0f7a4_29 ?_
  refine mr_iand (pc := 32) dJ6_bitCount_0f7a4_32 ?_
  refine mr_istore_n (pc := 33) dJ6_bitCount_0f7a4_33 (Nat.le_of_ble_eq_true rfl) (show mc_V M_J6_bitCount_0f7a4 0 none 34 [.int (((((p0 - (((p0.toUInt32 >>> ((1 : Int32).toUInt32 &&& Int32.toUInt32 31)).toInt32) &&& (1431655765 : Int32))) &&& (858993459 : Int32)) + ((((p0 - (((p0.toUInt32 >>> ((1 : Int32).toUInt32 &&& Int32.toUInt32 31)).toInt32) &&& (1431655765 : Int32))).toUInt32 >>> ((2 : Int32).toUInt32 &&& Int32.toUInt32 31)).toInt32) &&& (858993459 : Int32))) + (((((p0 - (((p0.toUInt32 >>> ((1 : Int32).toUInt32 &&& Int32.toUInt32 31)).toInt32) &&& (1431655765 : Int32))) &&& (858993459 : Int32)) + ((((p0 - (((p0.toUInt32 >>> ((1 : Int32).toUInt32 &&& Int32.toUInt32 31)).toInt32) &&& (1431655765 : Int32))).toUInt32 >>> ((2 : Int32).toUInt32 &&& Int32.toUInt32 31)).toInt32) &&& (858993459 : Int32))).toUInt32 >>> ((4 : Int32).toUInt32 &&& Int32.toUInt32 31)).toInt32)) &&& (252645135 : Int32))] [] (mc_hp σ τ) (some (.int r)) (mc_hp σ' τ') 0 0 from ?_)
  refine mr_iload_n (pc := 34) dJ6_bitCount_0f7a4_34 rfl ?_
  refine mr_iload_n (pc := 35) dJ6_bitCount_0f7a4_35 rfl ?_
  refine mr_bipushv (pc := 36) (8 : Int32) dJ6_bitCount_0f7a4_36 (by decide) ?_
  refine mr_iushr (pc := 38) dJ6_bitCount_0f7a4_38 ?_
  refine mr_iadd (pc := 39) dJ6_bitCount_0f7a4_39 ?_
  refine mr_istore_n (pc := 40) dJ6_bitCount_0f7a4_40 (Nat.le_of_ble_eq_true rfl) (show mc_V M_J6_bitCount_0f7a4 0 none 41 [.int ((((((p0 - (((p0.toUInt32 >>> ((1 : Int32).toUInt32 &&& Int32.toUInt32 31)).toInt32) &&& (1431655765 : Int32))) &&& (858993459 : Int32)) + ((((p0 - (((p0.toUInt32 >>> ((1 : Int32).toUInt32 &&& Int32.toUInt32 31)).toInt32) &&& (1431655765 : Int32))).toUInt32 >>> ((2 : Int32).toUInt32 &&& Int32.toUInt32 31)).toInt32) &&& (858993459 : Int32))) + (((((p0 - (((p0.toUInt32 >>> ((1 : Int32).toUInt32 &&& Int32.toUInt32 31)).toInt32) &&& (1431655765 : Int32))) &&& (858993459 : Int32)) + ((((p0 - (((p0.toUInt32 >>> ((1 : Int32).toUInt32 &&& Int32.toUInt32 31)).toInt32) &&& (1431655765 : Int32))).toUInt32 >>> ((2 : Int32).toUInt32 &&& Int32.toUInt32 31)).toInt32) &&& (858993459 : Int32))).toUInt32 >>> ((4 : Int32).toUInt32 &&& Int32.toUInt32 31)).toInt32)) &&& (252645135 : Int32)) + (((((((p0 - (((p0.toUInt32 >>> ((1 : Int32).toUInt32 &&& Int32.toUInt32 31)).toInt32) &&& (1431655765 : Int32))) &&& (858993459 : Int32)) + ((((p0 - (((p0.toUInt32 >>> ((1 : Int32).toUInt32 &&& Int32.toUInt32 31)).toInt32) &&& (1431655765 : Int32))).toUInt32 >>> ((2 : Int32).toUInt32 &&& Int32.toUInt32 31)).toInt32) &&& (858993459 : Int32))) + (((((p0 - (((p0.toUInt32 >>> ((1 : Int32).toUInt32 &&& Int32.toUInt32 31)).toInt32) &&& (1431655765 : Int32))) &&& (858993459 : Int32)) + ((((p0 - (((p0.toUInt32 >>> ((1 : Int32).toUInt32 &&& Int32.toUInt32 31)).toInt32) &&& (1431655765 : Int32))).toUInt32 >>> ((2 : Int32).toUInt32 &&& Int32.toUInt32 31)).toInt32) &&& (858993459 : Int32))).toUInt32 >>> ((4 : Int32).toUInt32 &&& Int32.toUInt32 31)).toInt32)) &&& (252645135 : Int32)).toUInt32 >>> ((8 : Int32).toUInt32 &&& Int32.toUInt32 31)).toInt32))] [] (mc_hp σ τ) (some (.int r)) (mc_hp σ' τ') 0 0 from ?_)
  refine mr_iload_n (pc := 41) dJ6_bitCount_0f7a4_41 rfl ?_
  refine mr_iload_n (pc := 42) dJ6_bitCount_0f7a4_42 rfl ?_
  refine mr_bipushv (pc := 43) (16 : Int32) dJ6_bitCount_0f7a4_43 (by decide) ?_
  refine mr_iushr (pc := 45) dJ6_bitCount_0f7a4_45 ?_
  refine mr_iadd (pc := 46) dJ6_bitCount_0f7a4_46 ?_
  refine mr_istore_n (pc := 47) dJ6_bitCount_0f7a4_47 (Nat.le_of_ble_eq_true rfl) (show mc_V M_J6_bitCount_0f7a4 0 none 48 [.int (((((((p0 - (((p0.toUInt32 >>> ((1 : Int32).toUInt32 &&& Int32.toUInt32 31)).toInt32) &&& (1431655765 : Int32))) &&& (858993459 : Int32)) + ((((p0 - (((p0.toUInt32 >>> ((1 : Int32).toUInt32 &&& Int32.toUInt32 31)).toInt32) &&& (1431655765 : Int32))).toUInt32 >>> ((2 : Int32).toUInt32 &&& Int32.toUInt32 31)).toInt32) &&& (858993459 : Int32))) + (((((p0 - (((p0.toUInt32 >>> ((1 : Int32).toUInt32 &&& Int32.toUInt32 31)).toInt32) &&& (1431655765 : Int32))) &&& (858993459 : Int32)) + ((((p0 - (((p0.toUInt32 >>> ((1 : Int32).toUInt32 &&& Int32.toUInt32 31)).toInt32) &&& (1431655765 : Int32))).toUInt32 >>> ((2 : Int32).toUInt32 &&& Int32.toUInt32 31)).toInt32) &&& (858993459 : Int32))).toUInt32 >>> ((4 : Int32).toUInt32 &&& Int32.toUInt32 31)).toInt32)) &&& (252645135 : Int32)) + (((((((p0 - (((p0.toUInt32 >>> ((1 : Int32).toUInt32 &&& Int32.toUInt32 31)).toInt32) &&& (1431655765 : Int32))) &&& (858993459 : Int32)) + ((((p0 - (((p0.toUInt32 >>> ((1 : Int32).toUInt32 &&& Int32.toUInt32 31)).toInt32) &&& (1431655765 : Int32))).toUInt32 >>> ((2 : Int32).toUInt32 &&& Int32.toUInt32 31)).toInt32) &&& (858993459 : Int32))) + (((((p0 - (((p0.toUInt32 >>> ((1 : Int32).toUInt32 &&& Int32.toUInt32 31)).toInt32) &&& (1431655765 : Int32))) &&& (858993459 : Int32)) + ((((p0 - (((p0.toUInt32 >>> ((1 : Int32).toUInt32 &&& Int32.toUInt32 31)).toInt32) &&& (1431655765 : Int32))).toUInt32 >>> ((2 : Int32).toUInt32 &&& Int32.toUInt32 31)).toInt32) &&& (858993459 : Int32))).toUInt32 >>> ((4 : Int32).toUInt32 &&& Int32.toUInt32 31)).toInt32)) &&& (252645135 : Int32)).toUInt32 >>> ((8 : Int32).toUInt32 &&& Int32.toUInt32 31)).toInt32)) + ((((((((p0 - (((p0.toUInt32 >>> ((1 : Int32).toUInt32 &&& Int32.toUInt32 31)).toInt32) &&& (1431655765 : Int32))) &&& (858993459 : Int32)) + ((((p0 - (((p0.toUInt32 >>> ((1 : Int32).toUInt32 &&& Int32.toUInt32 31)).toInt32) &&& (1431655765 : Int32))).toUInt32 >>> ((2 : Int32).toUInt32 &&& Int32.toUInt32 31)).toInt32) &&& (858993459 : Int32))) + (((((p0 - (((p0.toUInt32 >>> ((1 : Int32).toUInt32 &&& Int32.toUInt32 31)).toInt32) &&& (1431655765 : Int32))) &&& (858993459 : Int32)) + ((((p0 - (((p0.toUInt32 >>> ((1 : Int32).toUInt32 &&& Int32.toUInt32 31)).toInt32) &&& (1431655765 : Int32))).toUInt32 >>> ((2 : Int32).toUInt32 &&& Int32.toUInt32 31)).toInt32) &&& (858993459 : Int32))).toUInt32 >>> ((4 : Int32).toUInt32 &&& Int32.toUInt32 31)).toInt32)) &&& (252645135 : Int32)) + (((((((p0 - (((p0.toUInt32 >>> ((1 : Int32).toUInt32 &&& Int32.toUInt32 31)).toInt32) &&& (1431655765 : Int32))) &&& (858993459 : Int32)) + ((((p0 - (((p0.toUInt32 >>> ((1 : Int32).toUInt32 &&& Int32.toUInt32 31)).toInt32) &&& (1431655765 : Int32))).toUInt32 >>> ((2 : Int32).toUInt32 &&& Int32.toUInt32 31)).toInt32) &&& (858993459 : Int32))) + (((((p0 - (((p0.toUInt32 >>> ((1 : Int32).toUInt32 &&& Int32.toUInt32 31)).toInt32) &&& (1431655765 : Int32))) &&& (858993459 : Int32)) + ((((p0 - (((p0.toUInt32 >>> ((1 : Int32).toUInt32 &&& Int32.toUInt32 31)).toInt32) &&& (1431655765 : Int32))).toUInt32 >>> ((2 : Int32).toUInt32 &&& Int32.toUInt32 31)).toInt32) &&& (858993459 : Int32))).toUInt32 >>> ((4 : Int32).toUInt32 &&& Int32.toUInt32 31)).toInt32)) &&& (252645135 : Int32)).toUInt32 >>> ((8 : Int32).toUInt32 &&& Int32.toUInt32 31)).toInt32)).toUInt32 >>> ((16 : Int32).toUInt32 &&& Int32.toUInt32 31)).toInt32))] [] (mc_hp σ τ) (some (.int r)) (mc_hp σ' τ') 0 0 from ?_)
  refine mr_iload_n (pc := 48) dJ6_bitCount_0f7a4_48 rfl ?_
  refine mr_bipushv (pc := 49) (63 : Int32) dJ6_bitCount_0f7a4_49 (by decide) ?_
  refine mr_iand (pc := 51) dJ6_bitCount_0f7a4_51 ?_
  obtain ⟨rfl, rfl, rfl⟩ := os3 h
  exact mr_iret (pc := 52) rfl (rfl) dJ6_bitCount_0f7a4_52
set_option maxHeartbeats 4000000 in
set_option maxRecDepth 100000 in
theorem dc_R_hold_l17 (k10 : Int32 → Int32 → mS → mT → Option (Int32 × mS × mT)) (hk10 : ∀ (x1 : Int32) (x2 : Int32) (σ : mS) (τ : mT) (r : Int32) (σ' : mS) (τ' : mT), k10 x1 x2 σ τ = some (r, σ', τ') → mc_V M_X5_hold 5 none 10 [.ref 1, .int x1, .int x2, .retAddr 0] [] (mc_hp σ τ) (some (.int r)) (mc_hp σ' τ') 0 0) : ∀ (n : Nat), ∀ (x1 : Int32) (x2 : Int32) (x3 : Int32) (σ : mS) (τ : mT) (r : Int32) (σ' : mS) (τ' : mT), R_hold_l17 k10 n x1 x2 x3 σ τ = some (r, σ', τ') → mc_V M_X5_hold 5 none 17 [.ref 1, .int x1, .int x2, .int x3] [] (mc_hp σ τ) (some (.int r)) (mc_hp σ' τ') 0 0 := by
  intro n
  induction n with
  | zero =>
    intros
    rename_i h
    cases h
  | succ n ih =>
    intro x1 x2 x3 σ τ r σ' τ' h
    refine mr_iload_n (pc := 17) dX5_hold_17 rfl ?_
    refine mr_iconstv (pc := 18) (1 : Int32) dX5_hold_18 (by decide) ?_
    refine mr_iload_n (pc := 19) dX5_hold_19 rfl ?_
    refine mr_ishl (pc := 20) dX5_hold_20 ?_
    refine mr_icmp_ge (pc := 21) 52 dX5_hold_21 (by decide) (fun q1 => ?_) (fun q1 => ?_)
    · replace h := (if_pos q1).symm.trans h
      refine mr_iincv (pc := 52) (1 : Int32) dX5_hold_52 rfl (by decide) (show mc_V M_X5_hold 5 none 55 [.ref 1, .int x1, .int (x2 + (1 : Int32)), .int x3] [] (mc_hp σ τ) (some (.int r)) (mc_hp σ' τ') 0 0 from ?_)
      refine mr_goto (pc := 55) 10 dX5_hold_55 (by decide) ?_
      exact mc_V.locs (loc' := [.ref 1, .int x1, .int (x2 + (1 : Int32)), .retAddr 0]) ⟨Or.inr rfl, Or.inr rfl, Or.inr rfl, Or.inl rfl, trivial⟩ (hk10 x1 (x2 + (1 : Int32)) σ τ r σ' τ' h)
    · replace h := (if_neg q1).symm.trans h
      refine mr_iload_n (pc := 24) dX5_hold_24 rfl ?_
      obtain ⟨r2, σ2, τ2, c2, h⟩ := obs h
      refine mr_callS0 (pc := 25) [.int x3] ok_J6_bitCount_0f7a4 lk_31 st_J6_bitCount_0f7a4 dX5_hold_25 rfl rfl (Nat.le_of_ble_eq_true rfl) (Nat.le_of_ble_eq_true rfl) ((dc_Z_bitCount c2).up (by decide)) ?_
      refine mr_iload_n (pc := 28) dX5_hold_28 rfl ?_
      refine mr_icmp_ne (pc := 29) 46 dX5_hold_29 (by decide) (fun q3 => ?_) (fun q3 => ?_)
      · replace h := (if_neg q3).symm.trans h
        refine mr_iincv (pc := 46) (1 : Int32) dX5_hold_46 rfl (by decide) (show mc_V M_X5_hold 5 none 49 [.ref 1, .int x1, .int x2, .int (x3 + (1 : Int32))] [] (mc_hp σ2 τ2) (some (.int r)) (mc_hp σ' τ') 0 0 from ?_)
        refine mr_goto (pc := 49) 17 dX5_hold_49 (by decide) ?_
        exact mc_V.locs (loc' := [.ref 1, .int x1, .int x2, .int (x3 + (1 : Int32))]) ⟨Or.inr rfl, Or.inr rfl, Or.inr rfl, Or.inr rfl, trivial⟩ (ih x1 x2 (x3 + (1 : Int32)) σ2 τ2 r σ' τ' h)
      · replace h := (if_pos q3).symm.trans h
        refine mr_aload_n (pc := 32) dX5_hold_32 rfl ?_
        refine mr_aload_n (pc := 33) dX5_hold_33 rfl ?_
        refine mr_getf (pc := 34) (ci := 5) inX5 rfl 0 (by decide) fl_0 dX5_hold_34 (ha_1 σ2 τ2) rfl ?_
        refine mr_iload_n (pc := 37) dX5_hold_37 rfl ?_
        obtain ⟨r4, σ4, τ4, c4, h⟩ := obs h
        refine mr_callV0 (pc := 38) (ci := 5) [.ref 2, .int x3] ok_X5_isBalanced lk_26 st_X5_isBalanced se_X5_isBalanced dX5_hold_38 rfl (ha_1 σ2 τ2) rfl rfl (Nat.le_of_ble_eq_true rfl) (Nat.le_of_ble_eq_true rfl) ((dc_R_isBalanced_2 c4).up (by decide)) ?_
        refine mr_if_eq (pc := 41) 46 dX5_hold_41 (by decide) (fun q5 => ?_) (fun q5 => ?_)
        · replace h := (if_pos q5).symm.trans h
          refine mr_iincv (pc := 46) (1 : Int32) dX5_hold_46 rfl (by decide) (show mc_V M_X5_hold 5 none 49 [.ref 1, .int x1, .int x2, .int (x3 + (1 : Int32))] [] (mc_hp σ4 τ4) (some (.int r)) (mc_hp σ' τ') 0 0 from ?_)
          refine mr_goto (pc := 49) 17 dX5_hold_49 (by decide) ?_
          exact mc_V.locs (loc' := [.ref 1, .int x1, .int x2, .int (x3 + (1 : Int32))]) ⟨Or.inr rfl, Or.inr rfl, Or.inr rfl, Or.inr rfl, trivial⟩ (ih x1 x2 (x3 + (1 : Int32)) σ4 τ4 r σ' τ' h)
        · replace h := (if_neg q5).symm.trans h
          refine mr_iload_n (pc := 44) dX5_hold_44 rfl ?_
          obtain ⟨rfl, rfl, rfl⟩ := os3 h
          exact mr_iret (pc := 45) rfl (rfl) dX5_hold_45
set_option maxHeartbeats 4000000 in
set_option maxRecDepth 100000 in
theorem dc_R_hold_l10 : ∀ (n : Nat), ∀ (x1 : Int32) (x2 : Int32) (σ : mS) (τ : mT) (r : Int32) (σ' : mS) (τ' : mT), R_hold_l10 n x1 x2 σ τ = some (r, σ', τ') → mc_V M_X5_hold 5 none 10 [.ref 1, .int x1, .int x2, .retAddr 0] [] (mc_hp σ τ) (some (.int r)) (mc_hp σ' τ') 0 0 := by
  intro n
  induction n with
  | zero =>
    intros
    rename_i h
    cases h
  | succ n ih =>
    intro x1 x2 σ τ r σ' τ' h
    refine mr_iload_n (pc := 10) dX5_hold_10 rfl ?_
    refine mr_iload_n (pc := 11) dX5_hold_11 rfl ?_
    refine mr_icmp_ge (pc := 12) 58 dX5_hold_12 (by decide) (fun q1 => ?_) (fun q1 => ?_)
    · replace h := (if_pos q1).symm.trans h
      refine mr_iconstv (pc := 58) (1 : Int32) dX5_hold_58 (by decide) ?_
      refine mr_iload_n (pc := 59) dX5_hold_59 rfl ?_
      refine mr_ishl (pc := 60) dX5_hold_60 ?_
      refine mr_iconstv (pc := 61) (1 : Int32) dX5_hold_61 (by decide) ?_
      refine mr_isub (pc := 62) dX5_hold_62 ?_
      obtain ⟨rfl, rfl, rfl⟩ := os3 h
      exact mr_iret (pc := 63) rfl (rfl) dX5_hold_63
    · replace h := (if_neg q1).symm.trans h
      refine mr_iconstv (pc := 15) (0 : Int32) dX5_hold_15 (by decide) ?_
      refine mr_istore_n (pc := 16) dX5_hold_16 (Nat.le_of_ble_eq_true rfl) (show mc_V M_X5_hold 5 none 17 [.ref 1, .int x1, .int x2, .int (0 : Int32)] [] (mc_hp σ τ) (some (.int r)) (mc_hp σ' τ') 0 0 from ?_)
      exact mc_V.locs (loc' := [.ref 1, .int x1, .int x2, .int (0 : Int32)]) ⟨Or.inr rfl, Or.inr rfl, Or.inr rfl, Or.inr rfl, trivial⟩ (dc_R_hold_l17 (R_hold_l10 n) ih mc_F x1 x2 (0 : Int32) σ τ r σ' τ' h)
set_option maxHeartbeats 4000000 in
set_option maxRecDepth 100000 in
theorem dc_R_hold {σ : mS} {τ : mT} {r : Int32} {σ' : mS} {τ' : mT} (h : R_hold σ τ = some (r, σ', τ')) : mc_V M_X5_hold 5 none 0 (mc_entry [.ref 1] 4) [] (mc_hp σ τ) (some (.int r)) (mc_hp σ' τ') 0 0 := by
  unfold R_hold at h
  show mc_V M_X5_hold 5 none 0 [.ref 1, .retAddr 0, .retAddr 0, .retAddr 0] [] (mc_hp σ τ) (some (.int r)) (mc_hp σ' τ') 0 0
  refine mr_aload_n (pc := 0) dX5_hold_0 rfl ?_
  refine mr_getf (pc := 1) (ci := 5) inX5 rfl 0 (by decide) fl_0 dX5_hold_1 (ha_1 σ τ) rfl ?_
  obtain ⟨r1, σ1, τ1, c1, h⟩ := obs h
  refine mr_callV0 (pc := 4) (ci := 2) [] ok_X2_size lk_10 st_X2_size se_X2_size dX5_hold_4 rfl (ha_2 σ τ) rfl rfl (Nat.le_of_ble_eq_true rfl) (Nat.le_of_ble_eq_true rfl) ((dc_P_size_2 c1).up (by decide)) ?_
  refine mr_istore_n (pc := 7) dX5_hold_7 (Nat.le_of_ble_eq_true rfl) (show mc_V M_X5_hold 5 none 8 [.ref 1, .int r1, .retAddr 0, .retAddr 0] [] (mc_hp σ1 τ1) (some (.int r)) (mc_hp σ' τ') 0 0 from ?_)
  refine mr_iconstv (pc := 8) (0 : Int32) dX5_hold_8 (by decide) ?_
  refine mr_istore_n (pc := 9) dX5_hold_9 (Nat.le_of_ble_eq_true rfl) (show mc_V M_X5_hold 5 none 10 [.ref 1, .int r1, .int (0 : Int32), .retAddr 0] [] (mc_hp σ1 τ1) (some (.int r)) (mc_hp σ' τ') 0 0 from ?_)
  exact mc_V.locs (loc' := [.ref 1, .int r1, .int (0 : Int32), .retAddr 0]) ⟨Or.inr rfl, Or.inr rfl, Or.inr rfl, Or.inl rfl, trivial⟩ (dc_R_hold_l10 mc_F r1 (0 : Int32) σ1 τ1 r σ' τ' h)
set_option maxHeartbeats 4000000 in
set_option maxRecDepth 100000 in
theorem dc_Q_hold_l7 : ∀ (n : Nat), ∀ (x1 : Int32) (x2 : Int32) (σ : mS) (τ : mT) (r : Int32) (σ' : mS) (τ' : mT), Q_hold_l7 n x1 x2 σ τ = some (r, σ', τ') → mc_V M_X6_hold 7 none 7 [.ref 34, .int x1, .int x2] [] (mc_hp σ τ) (some (.int r)) (mc_hp σ' τ') 0 0 := by
  intro n
  induction n with
  | zero =>
    intros
    rename_i h
    cases h
  | succ n ih =>
    intro x1 x2 σ τ r σ' τ' h
    refine mr_iload_n (pc := 7) dX6_hold_7 rfl ?_
    refine mr_aload_n (pc := 8) dX6_hold_8 rfl ?_
    obtain ⟨r1, σ1, τ1, c1, h⟩ := obs h
    refine mr_callV0 (pc := 9) (ci := 6) [] ok_X6_all lk_155 st_X6_all se_X6_all dX6_hold_9 rfl (ha_34 σ τ) rfl rfl (Nat.le_of_ble_eq_true rfl) (Nat.le_of_ble_eq_true rfl) ((dc_Q_all c1).up (by decide)) ?_
    refine mr_icmp_gt (pc := 12) 53 dX6_hold_12 (by decide) (fun q2 => ?_) (fun q2 => ?_)
    · replace h := (if_pos q2).symm.trans h
      refine mr_iload_n (pc := 53) dX6_hold_53 rfl ?_
      obtain ⟨rfl, rfl, rfl⟩ := os3 h
      exact mr_iret (pc := 54) rfl (rfl) dX6_hold_54
    · replace h := (if_neg q2).symm.trans h
      refine mr_iload_n (pc := 15) dX6_hold_15 rfl ?_
      obtain ⟨r3, σ3, τ3, c3, h⟩ := obs h
      refine mr_callS0 (pc := 16) [.int x2] ok_X6_ones lk_147 st_X6_ones dX6_hold_16 rfl rfl (Nat.le_of_ble_eq_true rfl) (Nat.le_of_ble_eq_true rfl) ((dc_Q_ones c3).up (by decide)) ?_
      refine mr_iload_n (pc := 19) dX6_hold_19 rfl ?_
      obtain ⟨r4, σ4, τ4, c4, h⟩ := obs h
      refine mr_callS0 (pc := 20) [.int x1] ok_X6_ones lk_147 st_X6_ones dX6_hold_20 rfl rfl (Nat.le_of_ble_eq_true rfl) (Nat.le_of_ble_eq_true rfl) ((dc_Q_ones c4).up (by decide)) ?_
      refine mr_icmp_ge (pc := 23) 45 dX6_hold_23 (by decide) (fun q5 => ?_) (fun q5 => ?_)
      · replace h := (if_pos q5).symm.trans h
        refine mr_iload_n (pc := 45) dX6_hold_45 rfl ?_
        refine mr_istore_n (pc := 46) dX6_hold_46 (Nat.le_of_ble_eq_true rfl) (show mc_V M_X6_hold 7 none 47 [.ref 34, .int x1, .int x2] [] (mc_hp σ4 τ4) (some (.int r)) (mc_hp σ' τ') 0 0 from ?_)
        refine mr_iincv (pc := 47) (1 : Int32) dX6_hold_47 rfl (by decide) (show mc_V M_X6_hold 7 none 50 [.ref 34, .int x1, .int (x2 + (1 : Int32))] [] (mc_hp σ4 τ4) (some (.int r)) (mc_hp σ' τ') 0 0 from ?_)
        refine mr_goto (pc := 50) 7 dX6_hold_50 (by decide) ?_
        exact mc_V.locs (loc' := [.ref 34, .int x1, .int (x2 + (1 : Int32))]) ⟨Or.inr rfl, Or.inr rfl, Or.inr rfl, trivial⟩ (ih x1 (x2 + (1 : Int32)) σ4 τ4 r σ' τ' h)
      · replace h := (if_neg q5).symm.trans h
        refine mr_aload_n (pc := 26) dX6_hold_26 rfl ?_
        refine mr_aload_n (pc := 27) dX6_hold_27 rfl ?_
        obtain ⟨r6, σ6, τ6, c6, h⟩ := obs h
        refine mr_callV0 (pc := 28) (ci := 6) [] ok_X6_all lk_155 st_X6_all se_X6_all dX6_hold_28 rfl (ha_34 σ4 τ4) rfl rfl (Nat.le_of_ble_eq_true rfl) (Nat.le_of_ble_eq_true rfl) ((dc_Q_all c6).up (by decide)) ?_
        refine mr_iload_n (pc := 31) dX6_hold_31 rfl ?_
        refine mr_iconstv (pc := 32) (-1 : Int32) dX6_hold_32 (by decide) ?_
        refine mr_ixor (pc := 33) dX6_hold_33 ?_
        refine mr_iand (pc := 34) dX6_hold_34 ?_
        obtain ⟨r7, σ7, τ7, c7, h⟩ := obs h
        refine mr_callV0 (pc := 35) (ci := 6) [.int (r6 &&& (x2 ^^^ (-1 : Int32)))] ok_X6_canBalance lk_156 st_X6_canBalance se_X6_canBalance dX6_hold_35 rfl (ha_34 σ6 τ6) rfl rfl (Nat.le_of_ble_eq_true rfl) (Nat.le_of_ble_eq_true rfl) ((dc_Q_canBalance c7).up (by decide)) ?_
        refine mr_if_eq (pc := 38) 45 dX6_hold_38 (by decide) (fun q8 => ?_) (fun q8 => ?_)
        · replace h := (if_pos q8).symm.trans h
          refine mr_iload_n (pc := 45) dX6_hold_45 rfl ?_
          refine mr_istore_n (pc := 46) dX6_hold_46 (Nat.le_of_ble_eq_true rfl) (show mc_V M_X6_hold 7 none 47 [.ref 34, .int x1, .int x2] [] (mc_hp σ7 τ7) (some (.int r)) (mc_hp σ' τ') 0 0 from ?_)
          refine mr_iincv (pc := 47) (1 : Int32) dX6_hold_47 rfl (by decide) (show mc_V M_X6_hold 7 none 50 [.ref 34, .int x1, .int (x2 + (1 : Int32))] [] (mc_hp σ7 τ7) (some (.int r)) (mc_hp σ' τ') 0 0 from ?_)
          refine mr_goto (pc := 50) 7 dX6_hold_50 (by decide) ?_
          exact mc_V.locs (loc' := [.ref 34, .int x1, .int (x2 + (1 : Int32))]) ⟨Or.inr rfl, Or.inr rfl, Or.inr rfl, trivial⟩ (ih x1 (x2 + (1 : Int32)) σ7 τ7 r σ' τ' h)
        · replace h := (if_neg q8).symm.trans h
          refine mr_iload_n (pc := 41) dX6_hold_41 rfl ?_
          refine mr_goto (pc := 42) 46 dX6_hold_42 (by decide) ?_
          refine mr_istore_n (pc := 46) dX6_hold_46 (Nat.le_of_ble_eq_true rfl) (show mc_V M_X6_hold 7 none 47 [.ref 34, .int x2, .int x2] [] (mc_hp σ7 τ7) (some (.int r)) (mc_hp σ' τ') 0 0 from ?_)
          refine mr_iincv (pc := 47) (1 : Int32) dX6_hold_47 rfl (by decide) (show mc_V M_X6_hold 7 none 50 [.ref 34, .int x2, .int (x2 + (1 : Int32))] [] (mc_hp σ7 τ7) (some (.int r)) (mc_hp σ' τ') 0 0 from ?_)
          refine mr_goto (pc := 50) 7 dX6_hold_50 (by decide) ?_
          exact mc_V.locs (loc' := [.ref 34, .int x2, .int (x2 + (1 : Int32))]) ⟨Or.inr rfl, Or.inr rfl, Or.inr rfl, trivial⟩ (ih x2 (x2 + (1 : Int32)) σ7 τ7 r σ' τ' h)
set_option maxHeartbeats 4000000 in
set_option maxRecDepth 100000 in
theorem dc_Q_hold {σ : mS} {τ : mT} {r : Int32} {σ' : mS} {τ' : mT} (h : Q_hold σ τ = some (r, σ', τ')) : mc_V M_X6_hold 7 none 0 (mc_entry [.ref 34] 3) [] (mc_hp σ τ) (some (.int r)) (mc_hp σ' τ') 0 0 := by
  unfold Q_hold at h
  show mc_V M_X6_hold 7 none 0 [.ref 34, .retAddr 0, .retAddr 0] [] (mc_hp σ τ) (some (.int r)) (mc_hp σ' τ') 0 0
  refine mr_aload_n (pc := 0) dX6_hold_0 rfl ?_
  obtain ⟨r1, σ1, τ1, c1, h⟩ := obs h
  refine mr_callV0 (pc := 1) (ci := 6) [] ok_X6_all lk_155 st_X6_all se_X6_all dX6_hold_1 rfl (ha_34 σ τ) rfl rfl (Nat.le_of_ble_eq_true rfl) (Nat.le_of_ble_eq_true rfl) ((dc_Q_all c1).up (by decide)) ?_
  refine mr_istore_n (pc := 4) dX6_hold_4 (Nat.le_of_ble_eq_true rfl) (show mc_V M_X6_hold 7 none 5 [.ref 34, .int r1, .retAddr 0] [] (mc_hp σ1 τ1) (some (.int r)) (mc_hp σ' τ') 0 0 from ?_)
  refine mr_iconstv (pc := 5) (0 : Int32) dX6_hold_5 (by decide) ?_
  refine mr_istore_n (pc := 6) dX6_hold_6 (Nat.le_of_ble_eq_true rfl) (show mc_V M_X6_hold 7 none 7 [.ref 34, .int r1, .int (0 : Int32)] [] (mc_hp σ1 τ1) (some (.int r)) (mc_hp σ' τ') 0 0 from ?_)
  exact mc_V.locs (loc' := [.ref 34, .int r1, .int (0 : Int32)]) ⟨Or.inr rfl, Or.inr rfl, Or.inr rfl, trivial⟩ (dc_Q_hold_l7 mc_F r1 (0 : Int32) σ1 τ1 r σ' τ' h)
set_option maxHeartbeats 4000000 in
set_option maxRecDepth 100000 in
theorem dc_S_write_31_2 {p1 : Int32} {σ : mS} {τ : mT} {σ' : mS} {τ' : mT} (h : S_write_31_2 p1 σ τ = some (σ', τ')) : mc_V M_X3_write 1 none 0 (mc_entry [.ref 31, .int p1, .ref 2] 3) [] (mc_hp σ τ) none (mc_hp σ' τ') 0 0 := by
  unfold S_write_31_2 at h
  show mc_V M_X3_write 1 none 0 [.ref 31, .int p1, .ref 2] [] (mc_hp σ τ) none (mc_hp σ' τ') 0 0
  refine mr_iload_n (pc := 0) dX3_write_0 rfl ?_
  refine mr_iconstv (pc := 1) (0 : Int32) dX3_write_1 (by decide) ?_
  refine mr_aload_n (pc := 2) dX3_write_2 rfl ?_
  refine mr_getf (pc := 3) (ci := 3) inX3 rfl 0 (by decide) fl_26 dX3_write_3 (ha_31 σ τ) rfl ?_
  refine mr_iconstv (pc := 6) (1 : Int32) dX3_write_6 (by decide) ?_
  refine mr_isub (pc := 7) dX3_write_7 ?_
  obtain ⟨r1, σ1, τ1, c1, h⟩ := obs h
  refine mr_callSN0 (pc := 8) [.int p1, .int (0 : Int32), .int ((2 : Int32) - (1 : Int32))] ok_X5_within lk_189 st_X5_within dX3_write_8 rfl rfl (Nat.le_of_ble_eq_true rfl) (Nat.le_of_ble_eq_true rfl) ((dc_R_within c1).up (by decide)) ?_
  refine mr_if_eq (pc := 11) 32 dX3_write_11 (by decide) (fun q2 => ?_) (fun q2 => ?_)
  · replace h := (if_pos q2).symm.trans h
    obtain ⟨rfl, rfl⟩ := os2 h
    exact mr_ret (pc := 32) rfl dX3_write_32
  · replace h := (if_neg q2).symm.trans h
    refine mr_aload_n (pc := 14) dX3_write_14 rfl ?_
    refine mr_getfN (pc := 15) (ci := 2) inX2 rfl 0 (by decide) fl_58 dX3_write_15 (ha_2 σ1 τ1) rfl ?_
    refine mr_iconstv (pc := 18) (0 : Int32) dX3_write_18 (by decide) ?_
    refine mr_aload_n (pc := 19) dX3_write_19 rfl ?_
    refine mr_getf (pc := 20) (ci := 3) inX3 rfl 1 (by decide) fl_27 dX3_write_20 (ha_31 σ1 τ1) rfl ?_
    refine mr_iload_n (pc := 23) dX3_write_23 rfl ?_
    refine mr_bipushv (pc := 24) (21 : Int32) dX3_write_24 (by decide) ?_
    refine mr_imul (pc := 26) dX3_write_26 ?_
    refine mr_bipushv (pc := 27) (21 : Int32) dX3_write_27 (by decide) ?_
    obtain ⟨g3, h⟩ := og h
    obtain ⟨g4, h⟩ := og h
    obtain ⟨σ5, e5, h⟩ := ow h
    refine mr_copy (pc := 29) cp_X3 cp_nat cp_stat cp_ini dX3_write_29 (ha_3 σ1 τ1) (ha_32 σ1 τ1) (by decide) g3 (by decide) (Nat.le_of_ble_eq_true rfl) (Nat.not_lt.mp g4) (Nat.le_of_ble_eq_true rfl) (mc_V.heap (hc_32 e5) ?_)
    obtain ⟨rfl, rfl⟩ := os2 h
    exact mr_ret (pc := 32) rfl dX3_write_32
set_option maxHeartbeats 4000000 in
set_option maxRecDepth 100000 in
theorem dc_R_keep {p1 : Int32} {σ : mS} {τ : mT} {r : Int32} {σ' : mS} {τ' : mT} (h : R_keep p1 σ τ = some (r, σ', τ')) : mc_V M_X5_keep 2 none 0 (mc_entry [.ref 1, .int p1] 2) [] (mc_hp σ τ) (some (.int r)) (mc_hp σ' τ') 0 0 := by
  unfold R_keep at h
  show mc_V M_X5_keep 2 none 0 [.ref 1, .int p1] [] (mc_hp σ τ) (some (.int r)) (mc_hp σ' τ') 0 0
  refine mr_iload_n (pc := 0) dX5_keep_0 rfl ?_
  refine mr_iconstv (pc := 1) (0 : Int32) dX5_keep_1 (by decide) ?_
  refine mr_iconstv (pc := 2) (1 : Int32) dX5_keep_2 (by decide) ?_
  obtain ⟨r1, σ1, τ1, c1, h⟩ := obs h
  refine mr_callS0 (pc := 3) [.int p1, .int (0 : Int32), .int (1 : Int32)] ok_X5_within lk_1 st_X5_within dX5_keep_3 rfl rfl (Nat.le_of_ble_eq_true rfl) (Nat.le_of_ble_eq_true rfl) ((dc_R_within c1).up (by decide)) ?_
  refine mr_if_ne (pc := 6) 11 dX5_keep_6 (by decide) (fun q2 => ?_) (fun q2 => ?_)
  · replace h := (if_neg q2).symm.trans h
    refine mr_aload_n (pc := 11) dX5_keep_11 rfl ?_
    refine mr_getf (pc := 12) (ci := 5) inX5 rfl 6 (by decide) fl_6 dX5_keep_12 (ha_1 σ1 τ1) rfl ?_
    refine mr_iload_n (pc := 15) dX5_keep_15 rfl ?_
    refine mr_aload_n (pc := 16) dX5_keep_16 rfl ?_
    refine mr_getf (pc := 17) (ci := 5) inX5 rfl 0 (by decide) fl_0 dX5_keep_17 (ha_1 σ1 τ1) rfl ?_
    obtain ⟨σ3, τ3, c3, h⟩ := ovs h
    refine mr_callV0 (pc := 20) (ci := 3) [.int p1, .ref 2] ok_X3_write lk_32 st_X3_write se_X3_write dX5_keep_20 rfl (ha_31 σ1 τ1) rfl rfl (Nat.le_of_ble_eq_true rfl) (Nat.le_of_ble_eq_true rfl) ((dc_S_write_31_2 c3).up (by decide)) ?_
    refine mr_aload_n (pc := 23) dX5_keep_23 rfl ?_
    refine mr_getf (pc := 24) (ci := 5) inX5 rfl 7 (by decide) fl_7 dX5_keep_24 (ha_1 σ3 τ3) rfl ?_
    refine mr_iload_n (pc := 27) dX5_keep_27 rfl ?_
    refine mr_iconstv (pc := 28) (1 : Int32) dX5_keep_28 (by decide) ?_
    obtain ⟨g4, h⟩ := og h
    obtain ⟨σ5, e5, h⟩ := ow h
    refine mr_zast (pc := 29) dX5_keep_29 (ha_33 σ3 τ3) (g4) (mc_V.heap (hs_33 e5) ?_)
    refine mr_aload_n (pc := 30) dX5_keep_30 rfl ?_
    refine mr_getf (pc := 31) (ci := 5) inX5 rfl 0 (by decide) fl_0 dX5_keep_31 (ha_1 σ5 τ3) rfl ?_
    obtain ⟨r6, σ6, τ6, c6, h⟩ := obs h
    refine mr_callV0 (pc := 34) (ci := 2) [] ok_X2_size lk_10 st_X2_size se_X2_size dX5_keep_34 rfl (ha_2 σ5 τ3) rfl rfl (Nat.le_of_ble_eq_true rfl) (Nat.le_of_ble_eq_true rfl) ((dc_P_size_2 c6).up (by decide)) ?_
    obtain ⟨rfl, rfl, rfl⟩ := os3 h
    exact mr_iret (pc := 37) rfl (rfl) dX5_keep_37
  · replace h := (if_pos q2).symm.trans h
    refine mr_iconstv (pc := 9) (-1 : Int32) dX5_keep_9 (by decide) ?_
    obtain ⟨rfl, rfl, rfl⟩ := os3 h
    exact mr_iret (pc := 10) rfl (rfl) dX5_keep_10
set_option maxHeartbeats 4000000 in
set_option maxRecDepth 100000 in
theorem dc_Q_lays_37_l2 : ∀ (n : Nat), ∀ (x2 : Int32) (x3 : Int32) (σ : mS) (τ : mT) (σ' : mS) (τ' : mT), Q_lays_37_l2 n x2 x3 σ τ = some (σ', τ') → mc_V M_X6_lays 0 none 2 [.ref 34, .ref 37, .int x2, .int x3] [] (mc_hp σ τ) none (mc_hp σ' τ') 0 0 := by
  intro n
  induction n with
  | zero =>
    intros
    rename_i h
    cases h
  | succ n ih =>
    intro x2 x3 σ τ σ' τ' h
    refine mr_iload_n (pc := 2) dX6_lays_2 rfl ?_
    refine mr_bipushv (pc := 3) (21 : Int32) dX6_lays_3 (by decide) ?_
    refine mr_icmp_ge (pc := 5) 25 dX6_lays_5 (by decide) (fun q1 => ?_) (fun q1 => ?_)
    · replace h := (if_pos q1).symm.trans h
      obtain ⟨rfl, rfl⟩ := os2 h
      exact mr_ret (pc := 25) rfl dX6_lays_25
    · replace h := (if_neg q1).symm.trans h
      refine mr_aload_n (pc := 8) dX6_lays_8 rfl ?_
      refine mr_iload_n (pc := 9) dX6_lays_9 rfl ?_
      refine mr_iload_n (pc := 10) dX6_lays_10 rfl ?_
      refine mr_iadd (pc := 11) dX6_lays_11 ?_
      refine mr_aload_n (pc := 12) dX6_lays_12 rfl ?_
      refine mr_getf (pc := 13) (ci := 6) inX6 rfl 0 (by decide) fl_31 dX6_lays_13 (ha_34 σ τ) rfl ?_
      refine mr_iload_n (pc := 16) dX6_lays_16 rfl ?_
      obtain ⟨g2, h⟩ := og h
      refine mr_iald (pc := 17) dX6_lays_17 (ha_35 σ τ) (g2) ?_
      obtain ⟨g3, h⟩ := og h
      obtain ⟨σ4, e4, h⟩ := ow h
      refine mr_iast (pc := 18) dX6_lays_18 (ha_37 σ τ) (g3) (mc_V.heap (hs_37 e4) ?_)
      refine mr_iincv (pc := 19) (1 : Int32) dX6_lays_19 rfl (by decide) (show mc_V M_X6_lays 0 none 22 [.ref 34, .ref 37, .int x2, .int (x3 + (1 : Int32))] [] (mc_hp σ4 τ) none (mc_hp σ' τ') 0 0 from ?_)
      refine mr_goto (pc := 22) 2 dX6_lays_22 (by decide) ?_
      exact mc_V.locs (loc' := [.ref 34, .ref 37, .int x2, .int (x3 + (1 : Int32))]) ⟨Or.inr rfl, Or.inr rfl, Or.inr rfl, Or.inr rfl, trivial⟩ (ih x2 (x3 + (1 : Int32)) σ4 τ σ' τ' h)
set_option maxHeartbeats 4000000 in
set_option maxRecDepth 100000 in
theorem dc_Q_lays_37 {p2 : Int32} {σ : mS} {τ : mT} {σ' : mS} {τ' : mT} (h : Q_lays_37 p2 σ τ = some (σ', τ')) : mc_V M_X6_lays 0 none 0 (mc_entry [.ref 34, .ref 37, .int p2] 4) [] (mc_hp σ τ) none (mc_hp σ' τ') 0 0 := by
  unfold Q_lays_37 at h
  show mc_V M_X6_lays 0 none 0 [.ref 34, .ref 37, .int p2, .retAddr 0] [] (mc_hp σ τ) none (mc_hp σ' τ') 0 0
  refine mr_iconstv (pc := 0) (0 : Int32) dX6_lays_0 (by decide) ?_
  refine mr_istore_n (pc := 1) dX6_lays_1 (Nat.le_of_ble_eq_true rfl) (show mc_V M_X6_lays 0 none 2 [.ref 34, .ref 37, .int p2, .int (0 : Int32)] [] (mc_hp σ τ) none (mc_hp σ' τ') 0 0 from ?_)
  exact mc_V.locs (loc' := [.ref 34, .ref 37, .int p2, .int (0 : Int32)]) ⟨Or.inr rfl, Or.inr rfl, Or.inr rfl, Or.inr rfl, trivial⟩ (dc_Q_lays_37_l2 mc_F p2 (0 : Int32) σ τ σ' τ' h)
set_option maxHeartbeats 4000000 in
set_option maxRecDepth 100000 in
theorem dc_Q_keep {p1 : Int32} {σ : mS} {τ : mT} {r : Int32} {σ' : mS} {τ' : mT} (h : Q_keep p1 σ τ = some (r, σ', τ')) : mc_V M_X6_keep 1 none 0 (mc_entry [.ref 34, .int p1] 2) [] (mc_hp σ τ) (some (.int r)) (mc_hp σ' τ') 0 0 := by
  unfold Q_keep at h
  show mc_V M_X6_keep 1 none 0 [.ref 34, .int p1] [] (mc_hp σ τ) (some (.int r)) (mc_hp σ' τ') 0 0
  refine mr_iload_n (pc := 0) dX6_keep_0 rfl ?_
  refine mr_iconstv (pc := 1) (0 : Int32) dX6_keep_1 (by decide) ?_
  refine mr_iconstv (pc := 2) (1 : Int32) dX6_keep_2 (by decide) ?_
  obtain ⟨r1, σ1, τ1, c1, h⟩ := obs h
  refine mr_callS0 (pc := 3) [.int p1, .int (0 : Int32), .int (1 : Int32)] ok_X6_within lk_131 st_X6_within dX6_keep_3 rfl rfl (Nat.le_of_ble_eq_true rfl) (Nat.le_of_ble_eq_true rfl) ((dc_Q_within c1).up (by decide)) ?_
  refine mr_if_ne (pc := 6) 11 dX6_keep_6 (by decide) (fun q2 => ?_) (fun q2 => ?_)
  · replace h := (if_neg q2).symm.trans h
    refine mr_aload_n (pc := 11) dX6_keep_11 rfl ?_
    refine mr_aload_n (pc := 12) dX6_keep_12 rfl ?_
    refine mr_getf (pc := 13) (ci := 6) inX6 rfl 3 (by decide) fl_33 dX6_keep_13 (ha_34 σ1 τ1) rfl ?_
    refine mr_bipushv (pc := 16) (21 : Int32) dX6_keep_16 (by decide) ?_
    refine mr_iload_n (pc := 18) dX6_keep_18 rfl ?_
    refine mr_imul (pc := 19) dX6_keep_19 ?_
    obtain ⟨σ3, τ3, c3, h⟩ := ovs h
    refine mr_callV0 (pc := 20) (ci := 6) [.ref 37, .int ((21 : Int32) * p1)] ok_X6_lays lk_165 st_X6_lays se_X6_lays dX6_keep_20 rfl (ha_34 σ1 τ1) rfl rfl (Nat.le_of_ble_eq_true rfl) (Nat.le_of_ble_eq_true rfl) ((dc_Q_lays_37 c3).up (by decide)) ?_
    refine mr_aload_n (pc := 23) dX6_keep_23 rfl ?_
    refine mr_getf (pc := 24) (ci := 6) inX6 rfl 4 (by decide) fl_34 dX6_keep_24 (ha_34 σ3 τ3) rfl ?_
    refine mr_iload_n (pc := 27) dX6_keep_27 rfl ?_
    refine mr_iconstv (pc := 28) (1 : Int32) dX6_keep_28 (by decide) ?_
    obtain ⟨g4, h⟩ := og h
    obtain ⟨σ5, e5, h⟩ := ow h
    refine mr_zast (pc := 29) dX6_keep_29 (ha_38 σ3 τ3) (g4) (mc_V.heap (hs_38 e5) ?_)
    refine mr_aload_n (pc := 30) dX6_keep_30 rfl ?_
    refine mr_getf (pc := 31) (ci := 6) inX6 rfl 0 (by decide) fl_31 dX6_keep_31 (ha_34 σ5 τ3) rfl ?_
    refine mr_iconstv (pc := 34) (0 : Int32) dX6_keep_34 (by decide) ?_
    refine mr_iald (pc := 35) dX6_keep_35 (ha_35 σ5 τ3) (vin_ok rfl) ?_
    obtain ⟨rfl, rfl, rfl⟩ := os3 h
    exact mr_iret (pc := 36) rfl (rfl) dX6_keep_36
  · replace h := (if_pos q2).symm.trans h
    refine mr_iconstv (pc := 9) (-1 : Int32) dX6_keep_9 (by decide) ?_
    obtain ⟨rfl, rfl, rfl⟩ := os3 h
    exact mr_iret (pc := 10) rfl (rfl) dX6_keep_10
set_option maxHeartbeats 4000000 in
set_option maxRecDepth 100000 in
theorem dc_S_read_31_2 {p1 : Int32} {σ : mS} {τ : mT} {σ' : mS} {τ' : mT} (h : S_read_31_2 p1 σ τ = some (σ', τ')) : mc_V M_X3_read 1 none 0 (mc_entry [.ref 31, .int p1, .ref 2] 3) [] (mc_hp σ τ) none (mc_hp σ' τ') 0 0 := by
  unfold S_read_31_2 at h
  show mc_V M_X3_read 1 none 0 [.ref 31, .int p1, .ref 2] [] (mc_hp σ τ) none (mc_hp σ' τ') 0 0
  refine mr_iload_n (pc := 0) dX3_read_0 rfl ?_
  refine mr_iconstv (pc := 1) (0 : Int32) dX3_read_1 (by decide) ?_
  refine mr_aload_n (pc := 2) dX3_read_2 rfl ?_
  refine mr_getf (pc := 3) (ci := 3) inX3 rfl 0 (by decide) fl_26 dX3_read_3 (ha_31 σ τ) rfl ?_
  refine mr_iconstv (pc := 6) (1 : Int32) dX3_read_6 (by decide) ?_
  refine mr_isub (pc := 7) dX3_read_7 ?_
  obtain ⟨r1, σ1, τ1, c1, h⟩ := obs h
  refine mr_callSN0 (pc := 8) [.int p1, .int (0 : Int32), .int ((2 : Int32) - (1 : Int32))] ok_X5_within lk_189 st_X5_within dX3_read_8 rfl rfl (Nat.le_of_ble_eq_true rfl) (Nat.le_of_ble_eq_true rfl) ((dc_R_within c1).up (by decide)) ?_
  refine mr_if_eq (pc := 11) 32 dX3_read_11 (by decide) (fun q2 => ?_) (fun q2 => ?_)
  · replace h := (if_pos q2).symm.trans h
    obtain ⟨rfl, rfl⟩ := os2 h
    exact mr_ret (pc := 32) rfl dX3_read_32
  · replace h := (if_neg q2).symm.trans h
    refine mr_aload_n (pc := 14) dX3_read_14 rfl ?_
    refine mr_getf (pc := 15) (ci := 3) inX3 rfl 1 (by decide) fl_27 dX3_read_15 (ha_31 σ1 τ1) rfl ?_
    refine mr_iload_n (pc := 18) dX3_read_18 rfl ?_
    refine mr_bipushv (pc := 19) (21 : Int32) dX3_read_19 (by decide) ?_
    refine mr_imul (pc := 21) dX3_read_21 ?_
    refine mr_aload_n (pc := 22) dX3_read_22 rfl ?_
    refine mr_getfN (pc := 23) (ci := 2) inX2 rfl 0 (by decide) fl_58 dX3_read_23 (ha_2 σ1 τ1) rfl ?_
    refine mr_iconstv (pc := 26) (0 : Int32) dX3_read_26 (by decide) ?_
    refine mr_bipushv (pc := 27) (21 : Int32) dX3_read_27 (by decide) ?_
    obtain ⟨g3, h⟩ := og h
    obtain ⟨g4, h⟩ := og h
    obtain ⟨σ5, e5, h⟩ := ow h
    refine mr_copy (pc := 29) cp_X3 cp_nat cp_stat cp_ini dX3_read_29 (ha_32 σ1 τ1) (ha_3 σ1 τ1) g3 (by decide) (by decide) (Nat.not_lt.mp g4) (Nat.le_of_ble_eq_true rfl) (Nat.le_of_ble_eq_true rfl) (mc_V.heap (hc_3 e5) ?_)
    obtain ⟨rfl, rfl⟩ := os2 h
    exact mr_ret (pc := 32) rfl dX3_read_32
set_option maxHeartbeats 4000000 in
set_option maxRecDepth 100000 in
theorem dc_R_back {p1 : Int32} {σ : mS} {τ : mT} {r : Int32} {σ' : mS} {τ' : mT} (h : R_back p1 σ τ = some (r, σ', τ')) : mc_V M_X5_back 2 none 0 (mc_entry [.ref 1, .int p1] 2) [] (mc_hp σ τ) (some (.int r)) (mc_hp σ' τ') 0 0 := by
  unfold R_back at h
  show mc_V M_X5_back 2 none 0 [.ref 1, .int p1] [] (mc_hp σ τ) (some (.int r)) (mc_hp σ' τ') 0 0
  refine mr_iload_n (pc := 0) dX5_back_0 rfl ?_
  refine mr_iconstv (pc := 1) (0 : Int32) dX5_back_1 (by decide) ?_
  refine mr_iconstv (pc := 2) (1 : Int32) dX5_back_2 (by decide) ?_
  obtain ⟨r1, σ1, τ1, c1, h⟩ := obs h
  refine mr_callS0 (pc := 3) [.int p1, .int (0 : Int32), .int (1 : Int32)] ok_X5_within lk_1 st_X5_within dX5_back_3 rfl rfl (Nat.le_of_ble_eq_true rfl) (Nat.le_of_ble_eq_true rfl) ((dc_R_within c1).up (by decide)) ?_
  refine mr_if_ne (pc := 6) 11 dX5_back_6 (by decide) (fun q2 => ?_) (fun q2 => ?_)
  · replace h := (if_neg q2).symm.trans h
    refine mr_aload_n (pc := 11) dX5_back_11 rfl ?_
    refine mr_getf (pc := 12) (ci := 5) inX5 rfl 7 (by decide) fl_7 dX5_back_12 (ha_1 σ1 τ1) rfl ?_
    refine mr_iload_n (pc := 15) dX5_back_15 rfl ?_
    obtain ⟨g3, h⟩ := og h
    refine mr_zald (pc := 16) dX5_back_16 (ha_33 σ1 τ1) (g3) ?_
    refine mr_if_ne (pc := 17) 23 dX5_back_17 (by decide) (fun q4 => ?_) (fun q4 => ?_)
    · replace h := (if_neg q4).symm.trans h
      refine mr_aload_n (pc := 23) dX5_back_23 rfl ?_
      refine mr_getf (pc := 24) (ci := 5) inX5 rfl 6 (by decide) fl_6 dX5_back_24 (ha_1 σ1 τ1) rfl ?_
      refine mr_iload_n (pc := 27) dX5_back_27 rfl ?_
      refine mr_aload_n (pc := 28) dX5_back_28 rfl ?_
      refine mr_getf (pc := 29) (ci := 5) inX5 rfl 0 (by decide) fl_0 dX5_back_29 (ha_1 σ1 τ1) rfl ?_
      obtain ⟨σ5, τ5, c5, h⟩ := ovs h
      refine mr_callV0 (pc := 32) (ci := 3) [.int p1, .ref 2] ok_X3_read lk_20 st_X3_read se_X3_read dX5_back_32 rfl (ha_31 σ1 τ1) rfl rfl (Nat.le_of_ble_eq_true rfl) (Nat.le_of_ble_eq_true rfl) ((dc_S_read_31_2 c5).up (by decide)) ?_
      refine mr_aload_n (pc := 35) dX5_back_35 rfl ?_
      refine mr_iconstv (pc := 36) (0 : Int32) dX5_back_36 (by decide) ?_
      obtain ⟨σ6, e6, h⟩ := ow h
      refine mr_putf (pc := 37) (ci := 5) inX5 tyX5 tyX5_ok nmX5 rfl 8 (by decide) fl_8 rfl dX5_back_37 (ha_1 σ5 τ5) (Nat.le_of_ble_eq_true rfl) rfl (mc_V.heap (hs_1_8 e6) ?_)
      refine mr_aload_n (pc := 40) dX5_back_40 rfl ?_
      refine mr_getf (pc := 41) (ci := 5) inX5 rfl 0 (by decide) fl_0 dX5_back_41 (ha_1 σ6 τ5) rfl ?_
      obtain ⟨r7, σ7, τ7, c7, h⟩ := obs h
      refine mr_callV0 (pc := 44) (ci := 2) [] ok_X2_size lk_10 st_X2_size se_X2_size dX5_back_44 rfl (ha_2 σ6 τ5) rfl rfl (Nat.le_of_ble_eq_true rfl) (Nat.le_of_ble_eq_true rfl) ((dc_P_size_2 c7).up (by decide)) ?_
      obtain ⟨rfl, rfl, rfl⟩ := os3 h
      exact mr_iret (pc := 47) rfl (rfl) dX5_back_47
    · replace h := (if_pos q4).symm.trans h
      refine mr_bipushv (pc := 20) (-2 : Int32) dX5_back_20 (by decide) ?_
      obtain ⟨rfl, rfl, rfl⟩ := os3 h
      exact mr_iret (pc := 22) rfl (rfl) dX5_back_22
  · replace h := (if_pos q2).symm.trans h
    refine mr_iconstv (pc := 9) (-1 : Int32) dX5_back_9 (by decide) ?_
    obtain ⟨rfl, rfl, rfl⟩ := os3 h
    exact mr_iret (pc := 10) rfl (rfl) dX5_back_10
