set_option maxHeartbeats 4000000 in
set_option maxRecDepth 100000 in
theorem dc_Y_addContact {p1 : Int32} {p2 : Int32} {p3 : Int32} {σ : mS} {τ : mT} {σ' : mS} {τ' : mT} (h : Y_addContact p1 p2 p3 σ τ = some (σ', τ')) : mc_V M_X1_addContact 0 none 0 (mc_entry [.ref 6, .int p1, .int p2, .int p3] 4) [] (mc_hp σ τ) none (mc_hp σ' τ') 0 0 := by
  unfold Y_addContact at h
  show mc_V M_X1_addContact 0 none 0 [.ref 6, .int p1, .int p2, .int p3] [] (mc_hp σ τ) none (mc_hp σ' τ') 0 0
  refine mr_aload_n (pc := 0) dX1_addContact_0 rfl ?_
  refine mr_getf (pc := 1) (ci := 1) inX1 rfl 9 (by decide) fl_24 dX1_addContact_1 (ha_6 σ τ) rfl ?_
  refine mr_bipushv (pc := 4) (12 : Int32) dX1_addContact_4 (by decide) ?_
  refine mr_icmp_ge (pc := 6) 49 dX1_addContact_6 (by decide) (fun q1 => ?_) (fun q1 => ?_)
  · replace h := (if_pos q1).symm.trans h
    obtain ⟨rfl, rfl⟩ := os2 h
    exact mr_ret (pc := 49) rfl dX1_addContact_49
  · replace h := (if_neg q1).symm.trans h
    refine mr_aload_n (pc := 9) dX1_addContact_9 rfl ?_
    refine mr_getf (pc := 10) (ci := 1) inX1 rfl 5 (by decide) fl_20 dX1_addContact_10 (ha_6 σ τ) rfl ?_
    refine mr_aload_n (pc := 13) dX1_addContact_13 rfl ?_
    refine mr_getf (pc := 14) (ci := 1) inX1 rfl 9 (by decide) fl_24 dX1_addContact_14 (ha_6 σ τ) rfl ?_
    refine mr_iload_n (pc := 17) dX1_addContact_17 rfl ?_
    obtain ⟨g2, h⟩ := og h
    obtain ⟨σ3, e3, h⟩ := ow h
    refine mr_iast (pc := 18) dX1_addContact_18 (ha_12 σ τ) (g2) (mc_V.heap (hs_12 e3) ?_)
    refine mr_aload_n (pc := 19) dX1_addContact_19 rfl ?_
    refine mr_getf (pc := 20) (ci := 1) inX1 rfl 6 (by decide) fl_21 dX1_addContact_20 (ha_6 σ3 τ) rfl ?_
    refine mr_aload_n (pc := 23) dX1_addContact_23 rfl ?_
    refine mr_getf (pc := 24) (ci := 1) inX1 rfl 9 (by decide) fl_24 dX1_addContact_24 (ha_6 σ3 τ) rfl ?_
    refine mr_iload_n (pc := 27) dX1_addContact_27 rfl ?_
    obtain ⟨g4, h⟩ := og h
    obtain ⟨σ5, e5, h⟩ := ow h
    refine mr_iast (pc := 28) dX1_addContact_28 (ha_13 σ3 τ) (g4) (mc_V.heap (hs_13 e5) ?_)
    refine mr_aload_n (pc := 29) dX1_addContact_29 rfl ?_
    refine mr_getf (pc := 30) (ci := 1) inX1 rfl 7 (by decide) fl_22 dX1_addContact_30 (ha_6 σ5 τ) rfl ?_
    refine mr_aload_n (pc := 33) dX1_addContact_33 rfl ?_
    refine mr_getf (pc := 34) (ci := 1) inX1 rfl 9 (by decide) fl_24 dX1_addContact_34 (ha_6 σ5 τ) rfl ?_
    refine mr_iload_n (pc := 37) dX1_addContact_37 rfl ?_
    obtain ⟨g6, h⟩ := og h
    obtain ⟨σ7, e7, h⟩ := ow h
    refine mr_iast (pc := 38) dX1_addContact_38 (ha_14 σ5 τ) (g6) (mc_V.heap (hs_14 e7) ?_)
    refine mr_aload_n (pc := 39) dX1_addContact_39 rfl ?_
    refine mr_dup (pc := 40) dX1_addContact_40 rfl ?_
    refine mr_getf (pc := 41) (ci := 1) inX1 rfl 9 (by decide) fl_24 dX1_addContact_41 (ha_6 σ7 τ) rfl ?_
    refine mr_iconstv (pc := 44) (1 : Int32) dX1_addContact_44 (by decide) ?_
    refine mr_iadd (pc := 45) dX1_addContact_45 ?_
    obtain ⟨σ8, e8, h⟩ := ow h
    refine mr_putf (pc := 46) (ci := 1) inX1 tyX1 tyX1_ok nmX1 rfl 9 (by decide) fl_24 rfl dX1_addContact_46 (ha_6 σ7 τ) (Nat.le_of_ble_eq_true rfl) rfl (mc_V.heap (hs_6_9 e8) ?_)
    obtain ⟨rfl, rfl⟩ := os2 h
    exact mr_ret (pc := 49) rfl dX1_addContact_49
set_option maxHeartbeats 4000000 in
set_option maxRecDepth 100000 in
theorem dc_Y_findContacts_l37 : ∀ (n : Nat), ∀ (x1 : Int32) (x2 : Int32) (σ : mS) (τ : mT) (σ' : mS) (τ' : mT), Y_findContacts_l37 n x1 x2 σ τ = some (σ', τ') → mc_V M_X1_findContacts 1 none 37 [.ref 6, .int x1, .int x2] [] (mc_hp σ τ) none (mc_hp σ' τ') 0 0 := by
  intro n
  induction n with
  | zero =>
    intros
    rename_i h
    cases h
  | succ n ih =>
    intro x1 x2 σ τ σ' τ' h
    refine mr_iload_n (pc := 37) dX1_findContacts_37 rfl ?_
    refine mr_iload_n (pc := 38) dX1_findContacts_38 rfl ?_
    refine mr_icmp_ge (pc := 39) 104 dX1_findContacts_39 (by decide) (fun q1 => ?_) (fun q1 => ?_)
    · replace h := (if_pos q1).symm.trans h
      obtain ⟨rfl, rfl⟩ := os2 h
      exact mr_ret (pc := 104) rfl dX1_findContacts_104
    · replace h := (if_neg q1).symm.trans h
      refine mr_aload_n (pc := 42) dX1_findContacts_42 rfl ?_
      refine mr_getf (pc := 43) (ci := 1) inX1 rfl 3 (by decide) fl_18 dX1_findContacts_43 (ha_6 σ τ) rfl ?_
      refine mr_iload_n (pc := 46) dX1_findContacts_46 rfl ?_
      obtain ⟨g2, h⟩ := og h
      refine mr_iald (pc := 47) dX1_findContacts_47 (ha_10 σ τ) (g2) ?_
      refine mr_iload_n (pc := 48) dX1_findContacts_48 rfl ?_
      refine mr_ishr (pc := 49) dX1_findContacts_49 ?_
      refine mr_iconstv (pc := 50) (1 : Int32) dX1_findContacts_50 (by decide) ?_
      refine mr_iand (pc := 51) dX1_findContacts_51 ?_
      refine mr_iconstv (pc := 52) (1 : Int32) dX1_findContacts_52 (by decide) ?_
      refine mr_icmp_ne (pc := 53) 98 dX1_findContacts_53 (by decide) (fun q3 => ?_) (fun q3 => ?_)
      · replace h := (if_neg q3).symm.trans h
        refine mr_iincv (pc := 98) (1 : Int32) dX1_findContacts_98 rfl (by decide) (show mc_V M_X1_findContacts 1 none 101 [.ref 6, .int x1, .int (x2 + (1 : Int32))] [] (mc_hp σ τ) none (mc_hp σ' τ') 0 0 from ?_)
        refine mr_goto (pc := 101) 37 dX1_findContacts_101 (by decide) ?_
        exact mc_V.locs (loc' := [.ref 6, .int x1, .int (x2 + (1 : Int32))]) ⟨Or.inr rfl, Or.inr rfl, Or.inr rfl, trivial⟩ (ih x1 (x2 + (1 : Int32)) σ τ σ' τ' h)
      · replace h := (if_pos q3).symm.trans h
        refine mr_aload_n (pc := 56) dX1_findContacts_56 rfl ?_
        refine mr_iload_n (pc := 57) dX1_findContacts_57 rfl ?_
        refine mr_iload_n (pc := 58) dX1_findContacts_58 rfl ?_
        refine mr_aload_n (pc := 59) dX1_findContacts_59 rfl ?_
        refine mr_getf (pc := 60) (ci := 1) inX1 rfl 0 (by decide) fl_15 dX1_findContacts_60 (ha_6 σ τ) rfl ?_
        refine mr_iload_n (pc := 63) dX1_findContacts_63 rfl ?_
        obtain ⟨g4, h⟩ := og h
        refine mr_iald (pc := 64) dX1_findContacts_64 (ha_7 σ τ) (g4) ?_
        refine mr_aload_n (pc := 65) dX1_findContacts_65 rfl ?_
        refine mr_getf (pc := 66) (ci := 1) inX1 rfl 0 (by decide) fl_15 dX1_findContacts_66 (ha_6 σ τ) rfl ?_
        refine mr_iload_n (pc := 69) dX1_findContacts_69 rfl ?_
        refine mr_iald (pc := 70) dX1_findContacts_70 (ha_7 σ τ) (g2) ?_
        refine mr_mmax (pc := 71) lk_68 dX1_findContacts_71 (Nat.le_of_ble_eq_true rfl) ?_
        obtain ⟨σ5, τ5, c5, h⟩ := ovs h
        refine mr_callV0 (pc := 74) (ci := 1) [.int x1, .int x2, .int (jmax (σ 7 x2.toNatClampNeg) (σ 7 x1.toNatClampNeg))] ok_X1_addContact lk_69 st_X1_addContact se_X1_addContact dX1_findContacts_74 rfl (ha_6 σ τ) rfl rfl (Nat.le_of_ble_eq_true rfl) (Nat.le_of_ble_eq_true rfl) ((dc_Y_addContact c5).up (by decide)) ?_
        refine mr_aload_n (pc := 77) dX1_findContacts_77 rfl ?_
        refine mr_iload_n (pc := 78) dX1_findContacts_78 rfl ?_
        refine mr_iload_n (pc := 79) dX1_findContacts_79 rfl ?_
        refine mr_aload_n (pc := 80) dX1_findContacts_80 rfl ?_
        refine mr_getf (pc := 81) (ci := 1) inX1 rfl 1 (by decide) fl_16 dX1_findContacts_81 (ha_6 σ5 τ5) rfl ?_
        refine mr_iload_n (pc := 84) dX1_findContacts_84 rfl ?_
        refine mr_iald (pc := 85) dX1_findContacts_85 (ha_8 σ5 τ5) (g4) ?_
        refine mr_aload_n (pc := 86) dX1_findContacts_86 rfl ?_
        refine mr_getf (pc := 87) (ci := 1) inX1 rfl 1 (by decide) fl_16 dX1_findContacts_87 (ha_6 σ5 τ5) rfl ?_
        refine mr_iload_n (pc := 90) dX1_findContacts_90 rfl ?_
        refine mr_iald (pc := 91) dX1_findContacts_91 (ha_8 σ5 τ5) (g2) ?_
        refine mr_mmin (pc := 92) lk_62 dX1_findContacts_92 (Nat.le_of_ble_eq_true rfl) ?_
        obtain ⟨σ6, τ6, c6, h⟩ := ovs h
        refine mr_callV0 (pc := 95) (ci := 1) [.int x1, .int x2, .int (jmin (σ5 8 x2.toNatClampNeg) (σ5 8 x1.toNatClampNeg))] ok_X1_addContact lk_69 st_X1_addContact se_X1_addContact dX1_findContacts_95 rfl (ha_6 σ5 τ5) rfl rfl (Nat.le_of_ble_eq_true rfl) (Nat.le_of_ble_eq_true rfl) ((dc_Y_addContact c6).up (by decide)) ?_
        refine mr_iincv (pc := 98) (1 : Int32) dX1_findContacts_98 rfl (by decide) (show mc_V M_X1_findContacts 1 none 101 [.ref 6, .int x1, .int (x2 + (1 : Int32))] [] (mc_hp σ6 τ6) none (mc_hp σ' τ') 0 0 from ?_)
        refine mr_goto (pc := 101) 37 dX1_findContacts_101 (by decide) ?_
        exact mc_V.locs (loc' := [.ref 6, .int x1, .int (x2 + (1 : Int32))]) ⟨Or.inr rfl, Or.inr rfl, Or.inr rfl, trivial⟩ (ih x1 (x2 + (1 : Int32)) σ6 τ6 σ' τ' h)
set_option maxHeartbeats 4000000 in
set_option maxRecDepth 100000 in
theorem dc_Y_findContacts {p1 : Int32} {σ : mS} {τ : mT} {σ' : mS} {τ' : mT} (h : Y_findContacts p1 σ τ = some (σ', τ')) : mc_V M_X1_findContacts 1 none 0 (mc_entry [.ref 6, .int p1] 3) [] (mc_hp σ τ) none (mc_hp σ' τ') 0 0 := by
  unfold Y_findContacts at h
  show mc_V M_X1_findContacts 1 none 0 [.ref 6, .int p1, .retAddr 0] [] (mc_hp σ τ) none (mc_hp σ' τ') 0 0
  refine mr_aload_n (pc := 0) dX1_findContacts_0 rfl ?_
  refine mr_getf (pc := 1) (ci := 1) inX1 rfl 3 (by decide) fl_18 dX1_findContacts_1 (ha_6 σ τ) rfl ?_
  refine mr_iload_n (pc := 4) dX1_findContacts_4 rfl ?_
  obtain ⟨g1, h⟩ := og h
  refine mr_iald (pc := 5) dX1_findContacts_5 (ha_10 σ τ) (g1) ?_
  refine mr_if_ne (pc := 6) 35 dX1_findContacts_6 (by decide) (fun q2 => ?_) (fun q2 => ?_)
  · replace h := (if_neg q2).symm.trans h
    refine mr_iconstv (pc := 35) (0 : Int32) dX1_findContacts_35 (by decide) ?_
    refine mr_istore_n (pc := 36) dX1_findContacts_36 (Nat.le_of_ble_eq_true rfl) (show mc_V M_X1_findContacts 1 none 37 [.ref 6, .int p1, .int (0 : Int32)] [] (mc_hp σ τ) none (mc_hp σ' τ') 0 0 from ?_)
    exact mc_V.locs (loc' := [.ref 6, .int p1, .int (0 : Int32)]) ⟨Or.inr rfl, Or.inr rfl, Or.inr rfl, trivial⟩ (dc_Y_findContacts_l37 mc_F p1 (0 : Int32) σ τ σ' τ' h)
  · replace h := (if_pos q2).symm.trans h
    refine mr_aload_n (pc := 9) dX1_findContacts_9 rfl ?_
    refine mr_iload_n (pc := 10) dX1_findContacts_10 rfl ?_
    refine mr_bipushv (pc := 11) (-9 : Int32) dX1_findContacts_11 (by decide) ?_
    refine mr_aload_n (pc := 13) dX1_findContacts_13 rfl ?_
    refine mr_getf (pc := 14) (ci := 1) inX1 rfl 0 (by decide) fl_15 dX1_findContacts_14 (ha_6 σ τ) rfl ?_
    refine mr_iload_n (pc := 17) dX1_findContacts_17 rfl ?_
    refine mr_iald (pc := 18) dX1_findContacts_18 (ha_7 σ τ) (g1) ?_
    obtain ⟨σ3, τ3, c3, h⟩ := ovs h
    refine mr_callV0 (pc := 19) (ci := 1) [.int p1, .int (-9 : Int32), .int (σ 7 p1.toNatClampNeg)] ok_X1_addContact lk_69 st_X1_addContact se_X1_addContact dX1_findContacts_19 rfl (ha_6 σ τ) rfl rfl (Nat.le_of_ble_eq_true rfl) (Nat.le_of_ble_eq_true rfl) ((dc_Y_addContact c3).up (by decide)) ?_
    refine mr_aload_n (pc := 22) dX1_findContacts_22 rfl ?_
    refine mr_iload_n (pc := 23) dX1_findContacts_23 rfl ?_
    refine mr_bipushv (pc := 24) (-9 : Int32) dX1_findContacts_24 (by decide) ?_
    refine mr_aload_n (pc := 26) dX1_findContacts_26 rfl ?_
    refine mr_getf (pc := 27) (ci := 1) inX1 rfl 1 (by decide) fl_16 dX1_findContacts_27 (ha_6 σ3 τ3) rfl ?_
    refine mr_iload_n (pc := 30) dX1_findContacts_30 rfl ?_
    refine mr_iald (pc := 31) dX1_findContacts_31 (ha_8 σ3 τ3) (g1) ?_
    obtain ⟨σ4, τ4, c4, h⟩ := ovs h
    refine mr_callV0 (pc := 32) (ci := 1) [.int p1, .int (-9 : Int32), .int (σ3 8 p1.toNatClampNeg)] ok_X1_addContact lk_69 st_X1_addContact se_X1_addContact dX1_findContacts_32 rfl (ha_6 σ3 τ3) rfl rfl (Nat.le_of_ble_eq_true rfl) (Nat.le_of_ble_eq_true rfl) ((dc_Y_addContact c4).up (by decide)) ?_
    refine mr_iconstv (pc := 35) (0 : Int32) dX1_findContacts_35 (by decide) ?_
    refine mr_istore_n (pc := 36) dX1_findContacts_36 (Nat.le_of_ble_eq_true rfl) (show mc_V M_X1_findContacts 1 none 37 [.ref 6, .int p1, .int (0 : Int32)] [] (mc_hp σ4 τ4) none (mc_hp σ' τ') 0 0 from ?_)
    exact mc_V.locs (loc' := [.ref 6, .int p1, .int (0 : Int32)]) ⟨Or.inr rfl, Or.inr rfl, Or.inr rfl, trivial⟩ (dc_Y_findContacts_l37 mc_F p1 (0 : Int32) σ4 τ4 σ' τ' h)
set_option maxHeartbeats 4000000 in
set_option maxRecDepth 100000 in
theorem dc_Y_find_2_l19 : ∀ (n : Nat), ∀ (x2 : Int32) (σ : mS) (τ : mT) (σ' : mS) (τ' : mT), Y_find_2_l19 n x2 σ τ = some (σ', τ') → mc_V M_X1_find 2 none 19 [.ref 6, .ref 2, .int x2] [] (mc_hp σ τ) none (mc_hp σ' τ') 0 0 := by
  intro n
  induction n with
  | zero =>
    intros
    rename_i h
    cases h
  | succ n ih =>
    intro x2 σ τ σ' τ' h
    refine mr_iload_n (pc := 19) dX1_find_19 rfl ?_
    refine mr_aload_n (pc := 20) dX1_find_20 rfl ?_
    refine mr_getf (pc := 21) (ci := 1) inX1 rfl 8 (by decide) fl_23 dX1_find_21 (ha_6 σ τ) rfl ?_
    refine mr_icmp_ge (pc := 24) 88 dX1_find_24 (by decide) (fun q1 => ?_) (fun q1 => ?_)
    · replace h := (if_pos q1).symm.trans h
      obtain ⟨rfl, rfl⟩ := os2 h
      exact mr_ret (pc := 88) rfl dX1_find_88
    · replace h := (if_neg q1).symm.trans h
      refine mr_aload_n (pc := 27) dX1_find_27 rfl ?_
      refine mr_getf (pc := 28) (ci := 1) inX1 rfl 0 (by decide) fl_15 dX1_find_28 (ha_6 σ τ) rfl ?_
      refine mr_iload_n (pc := 31) dX1_find_31 rfl ?_
      refine mr_aload_n (pc := 32) dX1_find_32 rfl ?_
      refine mr_iload_n (pc := 33) dX1_find_33 rfl ?_
      refine mr_iconstv (pc := 34) (0 : Int32) dX1_find_34 (by decide) ?_
      obtain ⟨r2, σ2, τ2, c2, h⟩ := obs h
      refine mr_callV0 (pc := 35) (ci := 2) [.int x2, .int (0 : Int32)] ok_X2_get lk_63 st_X2_get se_X2_get dX1_find_35 rfl (ha_2 σ τ) rfl rfl (Nat.le_of_ble_eq_true rfl) (Nat.le_of_ble_eq_true rfl) ((dc_P_get_2 c2).up (by decide)) ?_
      obtain ⟨g3, h⟩ := og h
      obtain ⟨σ4, e4, h⟩ := ow h
      refine mr_iast (pc := 38) dX1_find_38 (ha_7 σ2 τ2) (g3) (mc_V.heap (hs_7 e4) ?_)
      refine mr_aload_n (pc := 39) dX1_find_39 rfl ?_
      refine mr_getf (pc := 40) (ci := 1) inX1 rfl 1 (by decide) fl_16 dX1_find_40 (ha_6 σ4 τ2) rfl ?_
      refine mr_iload_n (pc := 43) dX1_find_43 rfl ?_
      refine mr_aload_n (pc := 44) dX1_find_44 rfl ?_
      refine mr_getf (pc := 45) (ci := 1) inX1 rfl 0 (by decide) fl_15 dX1_find_45 (ha_6 σ4 τ2) rfl ?_
      refine mr_iload_n (pc := 48) dX1_find_48 rfl ?_
      refine mr_iald (pc := 49) dX1_find_49 (ha_7 σ4 τ2) (g3) ?_
      refine mr_iconstv (pc := 50) (2 : Int32) dX1_find_50 (by decide) ?_
      refine mr_aload_n (pc := 51) dX1_find_51 rfl ?_
      refine mr_iload_n (pc := 52) dX1_find_52 rfl ?_
      refine mr_iconstv (pc := 53) (1 : Int32) dX1_find_53 (by decide) ?_
      obtain ⟨r5, σ5, τ5, c5, h⟩ := obs h
      refine mr_callV0 (pc := 54) (ci := 2) [.int x2, .int (1 : Int32)] ok_X2_get lk_63 st_X2_get se_X2_get dX1_find_54 rfl (ha_2 σ4 τ2) rfl rfl (Nat.le_of_ble_eq_true rfl) (Nat.le_of_ble_eq_true rfl) ((dc_P_get_2 c5).up (by decide)) ?_
      refine mr_imul (pc := 57) dX1_find_57 ?_
      refine mr_iadd (pc := 58) dX1_find_58 ?_
      obtain ⟨σ6, e6, h⟩ := ow h
      refine mr_iast (pc := 59) dX1_find_59 (ha_8 σ5 τ5) (g3) (mc_V.heap (hs_8 e6) ?_)
      refine mr_aload_n (pc := 60) dX1_find_60 rfl ?_
      refine mr_getf (pc := 61) (ci := 1) inX1 rfl 4 (by decide) fl_19 dX1_find_61 (ha_6 σ6 τ5) rfl ?_
      refine mr_iload_n (pc := 64) dX1_find_64 rfl ?_
      refine mr_iconstv (pc := 65) (0 : Int32) dX1_find_65 (by decide) ?_
      obtain ⟨σ7, e7, h⟩ := ow h
      refine mr_iast (pc := 66) dX1_find_66 (ha_11 σ6 τ5) (g3) (mc_V.heap (hs_11 e7) ?_)
      refine mr_aload_n (pc := 67) dX1_find_67 rfl ?_
      refine mr_iload_n (pc := 68) dX1_find_68 rfl ?_
      obtain ⟨σ8, τ8, c8, h⟩ := ovs h
      refine mr_callV0 (pc := 69) (ci := 1) [.int x2] ok_X1_findLevel lk_64 st_X1_findLevel se_X1_findLevel dX1_find_69 rfl (ha_6 σ7 τ5) rfl rfl (Nat.le_of_ble_eq_true rfl) (Nat.le_of_ble_eq_true rfl) ((dc_Y_findLevel c8).up (by decide)) ?_
      refine mr_aload_n (pc := 72) dX1_find_72 rfl ?_
      refine mr_iload_n (pc := 73) dX1_find_73 rfl ?_
      obtain ⟨σ9, τ9, c9, h⟩ := ovs h
      refine mr_callV0 (pc := 74) (ci := 1) [.int x2] ok_X1_findUnder lk_65 st_X1_findUnder se_X1_findUnder dX1_find_74 rfl (ha_6 σ8 τ8) rfl rfl (Nat.le_of_ble_eq_true rfl) (Nat.le_of_ble_eq_true rfl) ((dc_Y_findUnder c9).up (by decide)) ?_
      refine mr_aload_n (pc := 77) dX1_find_77 rfl ?_
      refine mr_iload_n (pc := 78) dX1_find_78 rfl ?_
      obtain ⟨σ10, τ10, c10, h⟩ := ovs h
      refine mr_callV0 (pc := 79) (ci := 1) [.int x2] ok_X1_findContacts lk_66 st_X1_findContacts se_X1_findContacts dX1_find_79 rfl (ha_6 σ9 τ9) rfl rfl (Nat.le_of_ble_eq_true rfl) (Nat.le_of_ble_eq_true rfl) ((dc_Y_findContacts c10).up (by decide)) ?_
      refine mr_iincv (pc := 82) (1 : Int32) dX1_find_82 rfl (by decide) (show mc_V M_X1_find 2 none 85 [.ref 6, .ref 2, .int (x2 + (1 : Int32))] [] (mc_hp σ10 τ10) none (mc_hp σ' τ') 0 0 from ?_)
      refine mr_goto (pc := 85) 19 dX1_find_85 (by decide) ?_
      exact mc_V.locs (loc' := [.ref 6, .ref 2, .int (x2 + (1 : Int32))]) ⟨Or.inr rfl, Or.inr rfl, Or.inr rfl, trivial⟩ (ih (x2 + (1 : Int32)) σ10 τ10 σ' τ' h)
set_option maxHeartbeats 4000000 in
set_option maxRecDepth 100000 in
theorem dc_Y_find_2 {σ : mS} {τ : mT} {σ' : mS} {τ' : mT} (h : Y_find_2 σ τ = some (σ', τ')) : mc_V M_X1_find 2 none 0 (mc_entry [.ref 6, .ref 2] 3) [] (mc_hp σ τ) none (mc_hp σ' τ') 0 0 := by
  unfold Y_find_2 at h
  show mc_V M_X1_find 2 none 0 [.ref 6, .ref 2, .retAddr 0] [] (mc_hp σ τ) none (mc_hp σ' τ') 0 0
  refine mr_aload_n (pc := 0) dX1_find_0 rfl ?_
  refine mr_aload_n (pc := 1) dX1_find_1 rfl ?_
  obtain ⟨r1, σ1, τ1, c1, h⟩ := obs h
  refine mr_callV0 (pc := 2) (ci := 2) [] ok_X2_size lk_61 st_X2_size se_X2_size dX1_find_2 rfl (ha_2 σ τ) rfl rfl (Nat.le_of_ble_eq_true rfl) (Nat.le_of_ble_eq_true rfl) ((dc_P_size_2 c1).up (by decide)) ?_
  refine mr_iconstv (pc := 5) (4 : Int32) dX1_find_5 (by decide) ?_
  refine mr_mmin (pc := 6) lk_62 dX1_find_6 (Nat.le_of_ble_eq_true rfl) ?_
  obtain ⟨σ2, e2, h⟩ := ow h
  refine mr_putf (pc := 9) (ci := 1) inX1 tyX1 tyX1_ok nmX1 rfl 8 (by decide) fl_23 rfl dX1_find_9 (ha_6 σ1 τ1) (Nat.le_of_ble_eq_true rfl) rfl (mc_V.heap (hs_6_8 e2) ?_)
  refine mr_aload_n (pc := 12) dX1_find_12 rfl ?_
  refine mr_iconstv (pc := 13) (0 : Int32) dX1_find_13 (by decide) ?_
  obtain ⟨σ3, e3, h⟩ := ow h
  refine mr_putf (pc := 14) (ci := 1) inX1 tyX1 tyX1_ok nmX1 rfl 9 (by decide) fl_24 rfl dX1_find_14 (ha_6 σ2 τ1) (Nat.le_of_ble_eq_true rfl) rfl (mc_V.heap (hs_6_9 e3) ?_)
  refine mr_iconstv (pc := 17) (0 : Int32) dX1_find_17 (by decide) ?_
  refine mr_istore_n (pc := 18) dX1_find_18 (Nat.le_of_ble_eq_true rfl) (show mc_V M_X1_find 2 none 19 [.ref 6, .ref 2, .int (0 : Int32)] [] (mc_hp σ3 τ1) none (mc_hp σ' τ') 0 0 from ?_)
  exact mc_V.locs (loc' := [.ref 6, .ref 2, .int (0 : Int32)]) ⟨Or.inr rfl, Or.inr rfl, Or.inr rfl, trivial⟩ (dc_Y_find_2_l19 mc_F (0 : Int32) σ3 τ1 σ' τ' h)
set_option maxHeartbeats 4000000 in
set_option maxRecDepth 100000 in
theorem dc_Y_level {p1 : Int32} {σ : mS} {τ : mT} {r : Int32} {σ' : mS} {τ' : mT} (h : Y_level p1 σ τ = some (r, σ', τ')) : mc_V M_X1_level 1 none 0 (mc_entry [.ref 6, .int p1] 2) [] (mc_hp σ τ) (some (.int r)) (mc_hp σ' τ') 0 0 := by
  unfold Y_level at h
  show mc_V M_X1_level 1 none 0 [.ref 6, .int p1] [] (mc_hp σ τ) (some (.int r)) (mc_hp σ' τ') 0 0
  refine mr_iload_n (pc := 0) dX1_level_0 rfl ?_
  refine mr_iconstv (pc := 1) (0 : Int32) dX1_level_1 (by decide) ?_
  refine mr_aload_n (pc := 2) dX1_level_2 rfl ?_
  refine mr_getf (pc := 3) (ci := 1) inX1 rfl 8 (by decide) fl_23 dX1_level_3 (ha_6 σ τ) rfl ?_
  refine mr_iconstv (pc := 6) (1 : Int32) dX1_level_6 (by decide) ?_
  refine mr_isub (pc := 7) dX1_level_7 ?_
  obtain ⟨r1, σ1, τ1, c1, h⟩ := obs h
  refine mr_callSN0 (pc := 8) [.int p1, .int (0 : Int32), .int ((σ 6 8) - (1 : Int32))] ok_X5_within lk_187 st_X5_within dX1_level_8 rfl rfl (Nat.le_of_ble_eq_true rfl) (Nat.le_of_ble_eq_true rfl) ((dc_R_within c1).up (by decide)) ?_
  refine mr_if_eq (pc := 11) 23 dX1_level_11 (by decide) (fun q2 => ?_) (fun q2 => ?_)
  · replace h := (if_pos q2).symm.trans h
    refine mr_bipushv (pc := 23) (-9 : Int32) dX1_level_23 (by decide) ?_
    obtain ⟨rfl, rfl, rfl⟩ := os3 h
    exact mr_iret (pc := 25) rfl (rfl) dX1_level_25
  · replace h := (if_neg q2).symm.trans h
    refine mr_aload_n (pc := 14) dX1_level_14 rfl ?_
    refine mr_getf (pc := 15) (ci := 1) inX1 rfl 2 (by decide) fl_17 dX1_level_15 (ha_6 σ1 τ1) rfl ?_
    refine mr_iload_n (pc := 18) dX1_level_18 rfl ?_
    obtain ⟨g3, h⟩ := og h
    refine mr_iald (pc := 19) dX1_level_19 (ha_9 σ1 τ1) (g3) ?_
    refine mr_goto (pc := 20) 25 dX1_level_20 (by decide) ?_
    obtain ⟨rfl, rfl, rfl⟩ := os3 h
    exact mr_iret (pc := 25) rfl (rfl) dX1_level_25
set_option maxHeartbeats 4000000 in
set_option maxRecDepth 100000 in
theorem dc_R_drops {p1 : Int32} {p2 : Int32} {p3 : Int32} {σ : mS} {τ : mT} {r : Int32} {σ' : mS} {τ' : mT} (h : R_drops p1 p2 p3 σ τ = some (r, σ', τ')) : mc_V M_X5_drops 3 none 0 (mc_entry [.ref 1, .int p1, .int p2, .int p3] 4) [] (mc_hp σ τ) (some (.int r)) (mc_hp σ' τ') 0 0 := by
  unfold R_drops at h
  show mc_V M_X5_drops 3 none 0 [.ref 1, .int p1, .int p2, .int p3] [] (mc_hp σ τ) (some (.int r)) (mc_hp σ' τ') 0 0
  refine mr_iload_n (pc := 0) dX5_drops_0 rfl ?_
  refine mr_iconstv (pc := 1) (0 : Int32) dX5_drops_1 (by decide) ?_
  refine mr_bipushv (pc := 2) (9 : Int32) dX5_drops_2 (by decide) ?_
  obtain ⟨r1, σ1, τ1, c1, h⟩ := obs h
  refine mr_callS0 (pc := 4) [.int p1, .int (0 : Int32), .int (9 : Int32)] ok_X5_within lk_1 st_X5_within dX5_drops_4 rfl rfl (Nat.le_of_ble_eq_true rfl) (Nat.le_of_ble_eq_true rfl) ((dc_R_within c1).up (by decide)) ?_
  refine mr_if_eq (pc := 7) 18 dX5_drops_7 (by decide) (fun q2 => ?_) (fun q2 => ?_)
  · replace h := (if_pos q2).symm.trans h
    refine mr_iconstv (pc := 18) (-1 : Int32) dX5_drops_18 (by decide) ?_
    obtain ⟨rfl, rfl, rfl⟩ := os3 h
    exact mr_iret (pc := 19) rfl (rfl) dX5_drops_19
  · replace h := (if_neg q2).symm.trans h
    refine mr_iload_n (pc := 10) dX5_drops_10 rfl ?_
    refine mr_iload_n (pc := 11) dX5_drops_11 rfl ?_
    obtain ⟨r3, σ3, τ3, c3, h⟩ := obs h
    refine mr_callS0 (pc := 12) [.int p2, .int p3] ok_X5_isBlock lk_9 st_X5_isBlock dX5_drops_12 rfl rfl (Nat.le_of_ble_eq_true rfl) (Nat.le_of_ble_eq_true rfl) ((dc_R_isBlock c3).up (by decide)) ?_
    refine mr_if_ne (pc := 15) 20 dX5_drops_15 (by decide) (fun q4 => ?_) (fun q4 => ?_)
    · replace h := (if_neg q4).symm.trans h
      refine mr_aload_n (pc := 20) dX5_drops_20 rfl ?_
      refine mr_getf (pc := 21) (ci := 5) inX5 rfl 0 (by decide) fl_0 dX5_drops_21 (ha_1 σ3 τ3) rfl ?_
      obtain ⟨r5, σ5, τ5, c5, h⟩ := obs h
      refine mr_callV0 (pc := 24) (ci := 2) [] ok_X2_size lk_10 st_X2_size se_X2_size dX5_drops_24 rfl (ha_2 σ3 τ3) rfl rfl (Nat.le_of_ble_eq_true rfl) (Nat.le_of_ble_eq_true rfl) ((dc_P_size_2 c5).up (by decide)) ?_
      refine mr_iconstv (pc := 27) (4 : Int32) dX5_drops_27 (by decide) ?_
      refine mr_icmp_lt (pc := 28) 34 dX5_drops_28 (by decide) (fun q6 => ?_) (fun q6 => ?_)
      · replace h := (if_pos q6).symm.trans h
        refine mr_aload_n (pc := 34) dX5_drops_34 rfl ?_
        obtain ⟨σ7, τ7, c7, h⟩ := ovs h
        refine mr_callV0 (pc := 35) (ci := 5) [] ok_X5_remember lk_7 st_X5_remember se_X5_remember dX5_drops_35 rfl (ha_1 σ5 τ5) rfl rfl (Nat.le_of_ble_eq_true rfl) (Nat.le_of_ble_eq_true rfl) ((dc_R_remember c7).up (by decide)) ?_
        refine mr_aload_n (pc := 38) dX5_drops_38 rfl ?_
        refine mr_getf (pc := 39) (ci := 5) inX5 rfl 0 (by decide) fl_0 dX5_drops_39 (ha_1 σ7 τ7) rfl ?_
        refine mr_iload_n (pc := 42) dX5_drops_42 rfl ?_
        refine mr_iload_n (pc := 43) dX5_drops_43 rfl ?_
        refine mr_iload_n (pc := 44) dX5_drops_44 rfl ?_
        obtain ⟨σ8, τ8, c8, h⟩ := ovs h
        refine mr_callV0 (pc := 45) (ci := 2) [.int p1, .int p2, .int p3] ok_X2_add lk_11 st_X2_add se_X2_add dX5_drops_45 rfl (ha_2 σ7 τ7) rfl rfl (Nat.le_of_ble_eq_true rfl) (Nat.le_of_ble_eq_true rfl) ((dc_P_add_2 c8).up (by decide)) ?_
        refine mr_aload_n (pc := 48) dX5_drops_48 rfl ?_
        refine mr_getf (pc := 49) (ci := 5) inX5 rfl 2 (by decide) fl_2 dX5_drops_49 (ha_1 σ8 τ8) rfl ?_
        refine mr_aload_n (pc := 52) dX5_drops_52 rfl ?_
        refine mr_getf (pc := 53) (ci := 5) inX5 rfl 0 (by decide) fl_0 dX5_drops_53 (ha_1 σ8 τ8) rfl ?_
        obtain ⟨σ9, τ9, c9, h⟩ := ovs h
        refine mr_callV0 (pc := 56) (ci := 1) [.ref 2] ok_X1_find lk_12 st_X1_find se_X1_find dX5_drops_56 rfl (ha_6 σ8 τ8) rfl rfl (Nat.le_of_ble_eq_true rfl) (Nat.le_of_ble_eq_true rfl) ((dc_Y_find_2 c9).up (by decide)) ?_
        refine mr_aload_n (pc := 59) dX5_drops_59 rfl ?_
        refine mr_getf (pc := 60) (ci := 5) inX5 rfl 2 (by decide) fl_2 dX5_drops_60 (ha_1 σ9 τ9) rfl ?_
        refine mr_aload_n (pc := 63) dX5_drops_63 rfl ?_
        refine mr_getf (pc := 64) (ci := 5) inX5 rfl 0 (by decide) fl_0 dX5_drops_64 (ha_1 σ9 τ9) rfl ?_
        obtain ⟨r10, σ10, τ10, c10, h⟩ := obs h
        refine mr_callV0 (pc := 67) (ci := 2) [] ok_X2_size lk_10 st_X2_size se_X2_size dX5_drops_67 rfl (ha_2 σ9 τ9) rfl rfl (Nat.le_of_ble_eq_true rfl) (Nat.le_of_ble_eq_true rfl) ((dc_P_size_2 c10).up (by decide)) ?_
        refine mr_iconstv (pc := 70) (1 : Int32) dX5_drops_70 (by decide) ?_
        refine mr_isub (pc := 71) dX5_drops_71 ?_
        obtain ⟨r11, σ11, τ11, c11, h⟩ := obs h
        refine mr_callV0 (pc := 72) (ci := 1) [.int (r10 - (1 : Int32))] ok_X1_level lk_13 st_X1_level se_X1_level dX5_drops_72 rfl (ha_6 σ10 τ10) rfl rfl (Nat.le_of_ble_eq_true rfl) (Nat.le_of_ble_eq_true rfl) ((dc_Y_level c11).up (by decide)) ?_
        obtain ⟨rfl, rfl, rfl⟩ := os3 h
        exact mr_iret (pc := 75) rfl (rfl) dX5_drops_75
      · replace h := (if_neg q6).symm.trans h
        refine mr_bipushv (pc := 31) (-3 : Int32) dX5_drops_31 (by decide) ?_
        obtain ⟨rfl, rfl, rfl⟩ := os3 h
        exact mr_iret (pc := 33) rfl (rfl) dX5_drops_33
    · replace h := (if_pos q4).symm.trans h
      refine mr_iconstv (pc := 18) (-1 : Int32) dX5_drops_18 (by decide) ?_
      obtain ⟨rfl, rfl, rfl⟩ := os3 h
      exact mr_iret (pc := 19) rfl (rfl) dX5_drops_19
set_option maxHeartbeats 4000000 in
set_option maxRecDepth 100000 in
theorem dc_Q_fits {p0 : Int32} {p1 : Int32} {p2 : Int32} {σ : mS} {τ : mT} {r : Int32} {σ' : mS} {τ' : mT} (h : Q_fits p0 p1 p2 σ τ = some (r, σ', τ')) : mc_V M_X6_fits 1 none 0 (mc_entry [.int p0, .int p1, .int p2] 3) [] (mc_hp σ τ) (some (.int r)) (mc_hp σ' τ') 0 0 := by
  unfold Q_fits at h
  show mc_V M_X6_fits 1 none 0 [.int p0, .int p1, .int p2] [] (mc_hp σ τ) (some (.int r)) (mc_hp σ' τ') 0 0
  refine mr_iload_n (pc := 0) dX6_fits_0 rfl ?_
  refine mr_iconstv (pc := 1) (0 : Int32) dX6_fits_1 (by decide) ?_
  refine mr_bipushv (pc := 2) (9 : Int32) dX6_fits_2 (by decide) ?_
  obtain ⟨r1, σ1, τ1, c1, h⟩ := obs h
  refine mr_callS0 (pc := 4) [.int p0, .int (0 : Int32), .int (9 : Int32)] ok_X6_within lk_131 st_X6_within dX6_fits_4 rfl rfl (Nat.le_of_ble_eq_true rfl) (Nat.le_of_ble_eq_true rfl) ((dc_Q_within c1).up (by decide)) ?_
  refine mr_if_eq (pc := 7) 33 dX6_fits_7 (by decide) (fun q2 => ?_) (fun q2 => ?_)
  · replace h := (if_pos q2).symm.trans h
    refine mr_iconstv (pc := 33) (0 : Int32) dX6_fits_33 (by decide) ?_
    obtain ⟨rfl, rfl, rfl⟩ := os3 h
    exact mr_iret (pc := 34) rfl (rfl) dX6_fits_34
  · replace h := (if_neg q2).symm.trans h
    refine mr_iload_n (pc := 10) dX6_fits_10 rfl ?_
    refine mr_iconstv (pc := 11) (1 : Int32) dX6_fits_11 (by decide) ?_
    refine mr_iconstv (pc := 12) (3 : Int32) dX6_fits_12 (by decide) ?_
    obtain ⟨r3, σ3, τ3, c3, h⟩ := obs h
    refine mr_callS0 (pc := 13) [.int p1, .int (1 : Int32), .int (3 : Int32)] ok_X6_within lk_131 st_X6_within dX6_fits_13 rfl rfl (Nat.le_of_ble_eq_true rfl) (Nat.le_of_ble_eq_true rfl) ((dc_Q_within c3).up (by decide)) ?_
    refine mr_if_eq (pc := 16) 33 dX6_fits_16 (by decide) (fun q4 => ?_) (fun q4 => ?_)
    · replace h := (if_pos q4).symm.trans h
      refine mr_iconstv (pc := 33) (0 : Int32) dX6_fits_33 (by decide) ?_
      obtain ⟨rfl, rfl, rfl⟩ := os3 h
      exact mr_iret (pc := 34) rfl (rfl) dX6_fits_34
    · replace h := (if_neg q4).symm.trans h
      refine mr_iload_n (pc := 19) dX6_fits_19 rfl ?_
      refine mr_iconstv (pc := 20) (1 : Int32) dX6_fits_20 (by decide) ?_
      refine mr_bipushv (pc := 21) (9 : Int32) dX6_fits_21 (by decide) ?_
      obtain ⟨r5, σ5, τ5, c5, h⟩ := obs h
      refine mr_callS0 (pc := 23) [.int p2, .int (1 : Int32), .int (9 : Int32)] ok_X6_within lk_131 st_X6_within dX6_fits_23 rfl rfl (Nat.le_of_ble_eq_true rfl) (Nat.le_of_ble_eq_true rfl) ((dc_Q_within c5).up (by decide)) ?_
      refine mr_if_eq (pc := 26) 33 dX6_fits_26 (by decide) (fun q6 => ?_) (fun q6 => ?_)
      · replace h := (if_pos q6).symm.trans h
        refine mr_iconstv (pc := 33) (0 : Int32) dX6_fits_33 (by decide) ?_
        obtain ⟨rfl, rfl, rfl⟩ := os3 h
        exact mr_iret (pc := 34) rfl (rfl) dX6_fits_34
      · replace h := (if_neg q6).symm.trans h
        refine mr_iconstv (pc := 29) (1 : Int32) dX6_fits_29 (by decide) ?_
        refine mr_goto (pc := 30) 34 dX6_fits_30 (by decide) ?_
        obtain ⟨rfl, rfl, rfl⟩ := os3 h
        exact mr_iret (pc := 34) rfl (rfl) dX6_fits_34
set_option maxHeartbeats 4000000 in
set_option maxRecDepth 100000 in
theorem dc_Q_many {σ : mS} {τ : mT} {r : Int32} {σ' : mS} {τ' : mT} (h : Q_many σ τ = some (r, σ', τ')) : mc_V M_X6_many 0 none 0 (mc_entry [.ref 34] 1) [] (mc_hp σ τ) (some (.int r)) (mc_hp σ' τ') 0 0 := by
  unfold Q_many at h
  show mc_V M_X6_many 0 none 0 [.ref 34] [] (mc_hp σ τ) (some (.int r)) (mc_hp σ' τ') 0 0
  refine mr_aload_n (pc := 0) dX6_many_0 rfl ?_
  refine mr_getf (pc := 1) (ci := 6) inX6 rfl 0 (by decide) fl_31 dX6_many_1 (ha_34 σ τ) rfl ?_
  refine mr_iconstv (pc := 4) (0 : Int32) dX6_many_4 (by decide) ?_
  refine mr_iald (pc := 5) dX6_many_5 (ha_35 σ τ) (vin_ok rfl) ?_
  obtain ⟨rfl, rfl, rfl⟩ := os3 h
  exact mr_iret (pc := 6) rfl (rfl) dX6_many_6
set_option maxHeartbeats 4000000 in
set_option maxRecDepth 100000 in
theorem dc_Q_touches {p1 : Int32} {p2 : Int32} {p3 : Int32} {σ : mS} {τ : mT} {σ' : mS} {τ' : mT} (h : Q_touches p1 p2 p3 σ τ = some (σ', τ')) : mc_V M_X6_touches 0 none 0 (mc_entry [.ref 34, .int p1, .int p2, .int p3] 4) [] (mc_hp σ τ) none (mc_hp σ' τ') 0 0 := by
  unfold Q_touches at h
  show mc_V M_X6_touches 0 none 0 [.ref 34, .int p1, .int p2, .int p3] [] (mc_hp σ τ) none (mc_hp σ' τ') 0 0
  refine mr_aload_n (pc := 0) dX6_touches_0 rfl ?_
  refine mr_getf (pc := 1) (ci := 6) inX6 rfl 10 (by decide) fl_38 dX6_touches_1 (ha_34 σ τ) rfl ?_
  refine mr_aload_n (pc := 4) dX6_touches_4 rfl ?_
  refine mr_getf (pc := 5) (ci := 6) inX6 rfl 9 (by decide) fl_45 dX6_touches_5 (ha_34 σ τ) rfl ?_
  refine mr_iload_n (pc := 8) dX6_touches_8 rfl ?_
  obtain ⟨g1, h⟩ := og h
  obtain ⟨σ2, e2, h⟩ := ow h
  refine mr_iast (pc := 9) dX6_touches_9 (ha_42 σ τ) (g1) (mc_V.heap (hs_42 e2) ?_)
  refine mr_aload_n (pc := 10) dX6_touches_10 rfl ?_
  refine mr_getf (pc := 11) (ci := 6) inX6 rfl 11 (by decide) fl_39 dX6_touches_11 (ha_34 σ2 τ) rfl ?_
  refine mr_aload_n (pc := 14) dX6_touches_14 rfl ?_
  refine mr_getf (pc := 15) (ci := 6) inX6 rfl 9 (by decide) fl_45 dX6_touches_15 (ha_34 σ2 τ) rfl ?_
  refine mr_iload_n (pc := 18) dX6_touches_18 rfl ?_
  obtain ⟨g3, h⟩ := og h
  obtain ⟨σ4, e4, h⟩ := ow h
  refine mr_iast (pc := 19) dX6_touches_19 (ha_43 σ2 τ) (g3) (mc_V.heap (hs_43 e4) ?_)
  refine mr_aload_n (pc := 20) dX6_touches_20 rfl ?_
  refine mr_getf (pc := 21) (ci := 6) inX6 rfl 12 (by decide) fl_40 dX6_touches_21 (ha_34 σ4 τ) rfl ?_
  refine mr_aload_n (pc := 24) dX6_touches_24 rfl ?_
  refine mr_getf (pc := 25) (ci := 6) inX6 rfl 9 (by decide) fl_45 dX6_touches_25 (ha_34 σ4 τ) rfl ?_
  refine mr_iload_n (pc := 28) dX6_touches_28 rfl ?_
  obtain ⟨g5, h⟩ := og h
  obtain ⟨σ6, e6, h⟩ := ow h
  refine mr_iast (pc := 29) dX6_touches_29 (ha_44 σ4 τ) (g5) (mc_V.heap (hs_44 e6) ?_)
  refine mr_aload_n (pc := 30) dX6_touches_30 rfl ?_
  refine mr_dup (pc := 31) dX6_touches_31 rfl ?_
  refine mr_getf (pc := 32) (ci := 6) inX6 rfl 9 (by decide) fl_45 dX6_touches_32 (ha_34 σ6 τ) rfl ?_
  refine mr_iconstv (pc := 35) (1 : Int32) dX6_touches_35 (by decide) ?_
  refine mr_iadd (pc := 36) dX6_touches_36 ?_
  obtain ⟨σ7, e7, h⟩ := ow h
  refine mr_putf (pc := 37) (ci := 6) inX6 tyX6 tyX6_ok nmX6 rfl 9 (by decide) fl_45 rfl dX6_touches_37 (ha_34 σ6 τ) (Nat.le_of_ble_eq_true rfl) rfl (mc_V.heap (hs_34_9 e7) ?_)
  obtain ⟨rfl, rfl⟩ := os2 h
  exact mr_ret (pc := 40) rfl dX6_touches_40
set_option maxHeartbeats 4000000 in
set_option maxRecDepth 100000 in
theorem dc_Q_end {p1 : Int32} {σ : mS} {τ : mT} {r : Int32} {σ' : mS} {τ' : mT} (h : Q_end p1 σ τ = some (r, σ', τ')) : mc_V M_X6_end 1 none 0 (mc_entry [.ref 34, .int p1] 2) [] (mc_hp σ τ) (some (.int r)) (mc_hp σ' τ') 0 0 := by
  unfold Q_end at h
  show mc_V M_X6_end 1 none 0 [.ref 34, .int p1] [] (mc_hp σ τ) (some (.int r)) (mc_hp σ' τ') 0 0
  refine mr_aload_n (pc := 0) dX6_end_0 rfl ?_
  refine mr_iload_n (pc := 1) dX6_end_1 rfl ?_
  refine mr_iconstv (pc := 2) (1 : Int32) dX6_end_2 (by decide) ?_
  obtain ⟨r1, σ1, τ1, c1, h⟩ := obs h
  refine mr_callV0 (pc := 3) (ci := 6) [.int p1, .int (1 : Int32)] ok_X6_get lk_132 st_X6_get se_X6_get dX6_end_3 rfl (ha_34 σ τ) rfl rfl (Nat.le_of_ble_eq_true rfl) (Nat.le_of_ble_eq_true rfl) ((dc_Q_get c1).up (by decide)) ?_
  refine mr_iconstv (pc := 6) (2 : Int32) dX6_end_6 (by decide) ?_
  refine mr_aload_n (pc := 7) dX6_end_7 rfl ?_
  refine mr_iload_n (pc := 8) dX6_end_8 rfl ?_
  refine mr_iconstv (pc := 9) (2 : Int32) dX6_end_9 (by decide) ?_
  obtain ⟨r2, σ2, τ2, c2, h⟩ := obs h
  refine mr_callV0 (pc := 10) (ci := 6) [.int p1, .int (2 : Int32)] ok_X6_get lk_132 st_X6_get se_X6_get dX6_end_10 rfl (ha_34 σ1 τ1) rfl rfl (Nat.le_of_ble_eq_true rfl) (Nat.le_of_ble_eq_true rfl) ((dc_Q_get c2).up (by decide)) ?_
  refine mr_imul (pc := 13) dX6_end_13 ?_
  refine mr_iadd (pc := 14) dX6_end_14 ?_
  obtain ⟨rfl, rfl, rfl⟩ := os3 h
  exact mr_iret (pc := 15) rfl (rfl) dX6_end_15
set_option maxHeartbeats 4000000 in
set_option maxRecDepth 100000 in
theorem dc_Q_from {p1 : Int32} {p2 : Int32} {σ : mS} {τ : mT} {r : Int32} {σ' : mS} {τ' : mT} (h : Q_from p1 p2 σ τ = some (r, σ', τ')) : mc_V M_X6_from 1 none 0 (mc_entry [.ref 34, .int p1, .int p2] 3) [] (mc_hp σ τ) (some (.int r)) (mc_hp σ' τ') 0 0 := by
  unfold Q_from at h
  show mc_V M_X6_from 1 none 0 [.ref 34, .int p1, .int p2] [] (mc_hp σ τ) (some (.int r)) (mc_hp σ' τ') 0 0
  refine mr_aload_n (pc := 0) dX6_from_0 rfl ?_
  refine mr_iload_n (pc := 1) dX6_from_1 rfl ?_
  refine mr_iconstv (pc := 2) (1 : Int32) dX6_from_2 (by decide) ?_
  obtain ⟨r1, σ1, τ1, c1, h⟩ := obs h
  refine mr_callV0 (pc := 3) (ci := 6) [.int p1, .int (1 : Int32)] ok_X6_get lk_132 st_X6_get se_X6_get dX6_from_3 rfl (ha_34 σ τ) rfl rfl (Nat.le_of_ble_eq_true rfl) (Nat.le_of_ble_eq_true rfl) ((dc_Q_get c1).up (by decide)) ?_
  refine mr_aload_n (pc := 6) dX6_from_6 rfl ?_
  refine mr_iload_n (pc := 7) dX6_from_7 rfl ?_
  refine mr_iconstv (pc := 8) (1 : Int32) dX6_from_8 (by decide) ?_
  obtain ⟨r2, σ2, τ2, c2, h⟩ := obs h
  refine mr_callV0 (pc := 9) (ci := 6) [.int p2, .int (1 : Int32)] ok_X6_get lk_132 st_X6_get se_X6_get dX6_from_9 rfl (ha_34 σ1 τ1) rfl rfl (Nat.le_of_ble_eq_true rfl) (Nat.le_of_ble_eq_true rfl) ((dc_Q_get c2).up (by decide)) ?_
  refine mr_icmp_le (pc := 12) 24 dX6_from_12 (by decide) (fun q3 => ?_) (fun q3 => ?_)
  · replace h := (if_pos q3).symm.trans h
    refine mr_aload_n (pc := 24) dX6_from_24 rfl ?_
    refine mr_iload_n (pc := 25) dX6_from_25 rfl ?_
    refine mr_iconstv (pc := 26) (1 : Int32) dX6_from_26 (by decide) ?_
    obtain ⟨r4, σ4, τ4, c4, h⟩ := obs h
    refine mr_callV0 (pc := 27) (ci := 6) [.int p2, .int (1 : Int32)] ok_X6_get lk_132 st_X6_get se_X6_get dX6_from_27 rfl (ha_34 σ2 τ2) rfl rfl (Nat.le_of_ble_eq_true rfl) (Nat.le_of_ble_eq_true rfl) ((dc_Q_get c4).up (by decide)) ?_
    obtain ⟨rfl, rfl, rfl⟩ := os3 h
    exact mr_iret (pc := 30) rfl (rfl) dX6_from_30
  · replace h := (if_neg q3).symm.trans h
    refine mr_aload_n (pc := 15) dX6_from_15 rfl ?_
    refine mr_iload_n (pc := 16) dX6_from_16 rfl ?_
    refine mr_iconstv (pc := 17) (1 : Int32) dX6_from_17 (by decide) ?_
    obtain ⟨r5, σ5, τ5, c5, h⟩ := obs h
    refine mr_callV0 (pc := 18) (ci := 6) [.int p1, .int (1 : Int32)] ok_X6_get lk_132 st_X6_get se_X6_get dX6_from_18 rfl (ha_34 σ2 τ2) rfl rfl (Nat.le_of_ble_eq_true rfl) (Nat.le_of_ble_eq_true rfl) ((dc_Q_get c5).up (by decide)) ?_
    refine mr_goto (pc := 21) 30 dX6_from_21 (by decide) ?_
    obtain ⟨rfl, rfl, rfl⟩ := os3 h
    exact mr_iret (pc := 30) rfl (rfl) dX6_from_30
set_option maxHeartbeats 4000000 in
set_option maxRecDepth 100000 in
theorem dc_Q_to {p1 : Int32} {p2 : Int32} {σ : mS} {τ : mT} {r : Int32} {σ' : mS} {τ' : mT} (h : Q_to p1 p2 σ τ = some (r, σ', τ')) : mc_V M_X6_to 2 none 0 (mc_entry [.ref 34, .int p1, .int p2] 3) [] (mc_hp σ τ) (some (.int r)) (mc_hp σ' τ') 0 0 := by
  unfold Q_to at h
  show mc_V M_X6_to 2 none 0 [.ref 34, .int p1, .int p2] [] (mc_hp σ τ) (some (.int r)) (mc_hp σ' τ') 0 0
  refine mr_aload_n (pc := 0) dX6_to_0 rfl ?_
  refine mr_iload_n (pc := 1) dX6_to_1 rfl ?_
  obtain ⟨r1, σ1, τ1, c1, h⟩ := obs h
  refine mr_callV0 (pc := 2) (ci := 6) [.int p1] ok_X6_end lk_133 st_X6_end se_X6_end dX6_to_2 rfl (ha_34 σ τ) rfl rfl (Nat.le_of_ble_eq_true rfl) (Nat.le_of_ble_eq_true rfl) ((dc_Q_end c1).up (by decide)) ?_
  refine mr_aload_n (pc := 5) dX6_to_5 rfl ?_
  refine mr_iload_n (pc := 6) dX6_to_6 rfl ?_
  obtain ⟨r2, σ2, τ2, c2, h⟩ := obs h
  refine mr_callV0 (pc := 7) (ci := 6) [.int p2] ok_X6_end lk_133 st_X6_end se_X6_end dX6_to_7 rfl (ha_34 σ1 τ1) rfl rfl (Nat.le_of_ble_eq_true rfl) (Nat.le_of_ble_eq_true rfl) ((dc_Q_end c2).up (by decide)) ?_
  refine mr_icmp_ge (pc := 10) 21 dX6_to_10 (by decide) (fun q3 => ?_) (fun q3 => ?_)
  · replace h := (if_pos q3).symm.trans h
    refine mr_aload_n (pc := 21) dX6_to_21 rfl ?_
    refine mr_iload_n (pc := 22) dX6_to_22 rfl ?_
    obtain ⟨r4, σ4, τ4, c4, h⟩ := obs h
    refine mr_callV0 (pc := 23) (ci := 6) [.int p2] ok_X6_end lk_133 st_X6_end se_X6_end dX6_to_23 rfl (ha_34 σ2 τ2) rfl rfl (Nat.le_of_ble_eq_true rfl) (Nat.le_of_ble_eq_true rfl) ((dc_Q_end c4).up (by decide)) ?_
    obtain ⟨rfl, rfl, rfl⟩ := os3 h
    exact mr_iret (pc := 26) rfl (rfl) dX6_to_26
  · replace h := (if_neg q3).symm.trans h
    refine mr_aload_n (pc := 13) dX6_to_13 rfl ?_
    refine mr_iload_n (pc := 14) dX6_to_14 rfl ?_
    obtain ⟨r5, σ5, τ5, c5, h⟩ := obs h
    refine mr_callV0 (pc := 15) (ci := 6) [.int p1] ok_X6_end lk_133 st_X6_end se_X6_end dX6_to_15 rfl (ha_34 σ2 τ2) rfl rfl (Nat.le_of_ble_eq_true rfl) (Nat.le_of_ble_eq_true rfl) ((dc_Q_end c5).up (by decide)) ?_
    refine mr_goto (pc := 18) 26 dX6_to_18 (by decide) ?_
    obtain ⟨rfl, rfl, rfl⟩ := os3 h
    exact mr_iret (pc := 26) rfl (rfl) dX6_to_26
set_option maxHeartbeats 4000000 in
set_option maxRecDepth 100000 in
theorem dc_Q_doOverlap {p1 : Int32} {p2 : Int32} {σ : mS} {τ : mT} {r : Int32} {σ' : mS} {τ' : mT} (h : Q_doOverlap p1 p2 σ τ = some (r, σ', τ')) : mc_V M_X6_doOverlap 3 none 0 (mc_entry [.ref 34, .int p1, .int p2] 3) [] (mc_hp σ τ) (some (.int r)) (mc_hp σ' τ') 0 0 := by
  unfold Q_doOverlap at h
  show mc_V M_X6_doOverlap 3 none 0 [.ref 34, .int p1, .int p2] [] (mc_hp σ τ) (some (.int r)) (mc_hp σ' τ') 0 0
  refine mr_aload_n (pc := 0) dX6_doOverlap_0 rfl ?_
  refine mr_iload_n (pc := 1) dX6_doOverlap_1 rfl ?_
  refine mr_iload_n (pc := 2) dX6_doOverlap_2 rfl ?_
  obtain ⟨r1, σ1, τ1, c1, h⟩ := obs h
  refine mr_callV0 (pc := 3) (ci := 6) [.int p1, .int p2] ok_X6_from lk_134 st_X6_from se_X6_from dX6_doOverlap_3 rfl (ha_34 σ τ) rfl rfl (Nat.le_of_ble_eq_true rfl) (Nat.le_of_ble_eq_true rfl) ((dc_Q_from c1).up (by decide)) ?_
  refine mr_aload_n (pc := 6) dX6_doOverlap_6 rfl ?_
  refine mr_iload_n (pc := 7) dX6_doOverlap_7 rfl ?_
  refine mr_iload_n (pc := 8) dX6_doOverlap_8 rfl ?_
  obtain ⟨r2, σ2, τ2, c2, h⟩ := obs h
  refine mr_callV0 (pc := 9) (ci := 6) [.int p1, .int p2] ok_X6_to lk_135 st_X6_to se_X6_to dX6_doOverlap_9 rfl (ha_34 σ1 τ1) rfl rfl (Nat.le_of_ble_eq_true rfl) (Nat.le_of_ble_eq_true rfl) ((dc_Q_to c2).up (by decide)) ?_
  refine mr_icmp_ge (pc := 12) 19 dX6_doOverlap_12 (by decide) (fun q3 => ?_) (fun q3 => ?_)
  · replace h := (if_pos q3).symm.trans h
    refine mr_iconstv (pc := 19) (0 : Int32) dX6_doOverlap_19 (by decide) ?_
    obtain ⟨rfl, rfl, rfl⟩ := os3 h
    exact mr_iret (pc := 20) rfl (rfl) dX6_doOverlap_20
  · replace h := (if_neg q3).symm.trans h
    refine mr_iconstv (pc := 15) (1 : Int32) dX6_doOverlap_15 (by decide) ?_
    refine mr_goto (pc := 16) 20 dX6_doOverlap_16 (by decide) ?_
    obtain ⟨rfl, rfl, rfl⟩ := os3 h
    exact mr_iret (pc := 20) rfl (rfl) dX6_doOverlap_20
set_option maxHeartbeats 4000000 in
set_option maxRecDepth 100000 in
theorem dc_Q_layBlock_l76 : ∀ (n : Nat), ∀ (x1 : Int32) (x2 : Int32) (σ : mS) (τ : mT) (σ' : mS) (τ' : mT), Q_layBlock_l76 n x1 x2 σ τ = some (σ', τ') → mc_V M_X6_layBlock 4 none 76 [.ref 34, .int x1, .int x2] [] (mc_hp σ τ) none (mc_hp σ' τ') 0 0 := by
  intro n
  induction n with
  | zero =>
    intros
    rename_i h
    cases h
  | succ n ih =>
    intro x1 x2 σ τ σ' τ' h
    refine mr_iload_n (pc := 76) dX6_layBlock_76 rfl ?_
    refine mr_iload_n (pc := 77) dX6_layBlock_77 rfl ?_
    refine mr_icmp_ge (pc := 78) 149 dX6_layBlock_78 (by decide) (fun q1 => ?_) (fun q1 => ?_)
    · replace h := (if_pos q1).symm.trans h
      refine mr_aload_n (pc := 149) dX6_layBlock_149 rfl ?_
      refine mr_getf (pc := 150) (ci := 6) inX6 rfl 8 (by decide) fl_37 dX6_layBlock_150 (ha_34 σ τ) rfl ?_
      refine mr_iload_n (pc := 153) dX6_layBlock_153 rfl ?_
      obtain ⟨g2, h⟩ := og h
      refine mr_iald (pc := 154) dX6_layBlock_154 (ha_41 σ τ) (g2) ?_
      refine mr_if_ne (pc := 155) 183 dX6_layBlock_155 (by decide) (fun q3 => ?_) (fun q3 => ?_)
      · replace h := (if_neg q3).symm.trans h
        obtain ⟨rfl, rfl⟩ := os2 h
        exact mr_ret (pc := 183) rfl dX6_layBlock_183
      · replace h := (if_pos q3).symm.trans h
        refine mr_aload_n (pc := 158) dX6_layBlock_158 rfl ?_
        refine mr_iload_n (pc := 159) dX6_layBlock_159 rfl ?_
        refine mr_bipushv (pc := 160) (-9 : Int32) dX6_layBlock_160 (by decide) ?_
        refine mr_aload_n (pc := 162) dX6_layBlock_162 rfl ?_
        refine mr_iload_n (pc := 163) dX6_layBlock_163 rfl ?_
        refine mr_iconstv (pc := 164) (1 : Int32) dX6_layBlock_164 (by decide) ?_
        obtain ⟨r4, σ4, τ4, c4, h⟩ := obs h
        refine mr_callV0 (pc := 165) (ci := 6) [.int x1, .int (1 : Int32)] ok_X6_get lk_132 st_X6_get se_X6_get dX6_layBlock_165 rfl (ha_34 σ τ) rfl rfl (Nat.le_of_ble_eq_true rfl) (Nat.le_of_ble_eq_true rfl) ((dc_Q_get c4).up (by decide)) ?_
        obtain ⟨σ5, τ5, c5, h⟩ := ovs h
        refine mr_callV0 (pc := 168) (ci := 6) [.int x1, .int (-9 : Int32), .int r4] ok_X6_touches lk_137 st_X6_touches se_X6_touches dX6_layBlock_168 rfl (ha_34 σ4 τ4) rfl rfl (Nat.le_of_ble_eq_true rfl) (Nat.le_of_ble_eq_true rfl) ((dc_Q_touches c5).up (by decide)) ?_
        refine mr_aload_n (pc := 171) dX6_layBlock_171 rfl ?_
        refine mr_iload_n (pc := 172) dX6_layBlock_172 rfl ?_
        refine mr_bipushv (pc := 173) (-9 : Int32) dX6_layBlock_173 (by decide) ?_
        refine mr_aload_n (pc := 175) dX6_layBlock_175 rfl ?_
        refine mr_iload_n (pc := 176) dX6_layBlock_176 rfl ?_
        obtain ⟨r6, σ6, τ6, c6, h⟩ := obs h
        refine mr_callV0 (pc := 177) (ci := 6) [.int x1] ok_X6_end lk_133 st_X6_end se_X6_end dX6_layBlock_177 rfl (ha_34 σ5 τ5) rfl rfl (Nat.le_of_ble_eq_true rfl) (Nat.le_of_ble_eq_true rfl) ((dc_Q_end c6).up (by decide)) ?_
        obtain ⟨σ7, τ7, c7, h⟩ := ovs h
        refine mr_callV0 (pc := 180) (ci := 6) [.int x1, .int (-9 : Int32), .int r6] ok_X6_touches lk_137 st_X6_touches se_X6_touches dX6_layBlock_180 rfl (ha_34 σ6 τ6) rfl rfl (Nat.le_of_ble_eq_true rfl) (Nat.le_of_ble_eq_true rfl) ((dc_Q_touches c7).up (by decide)) ?_
        obtain ⟨rfl, rfl⟩ := os2 h
        exact mr_ret (pc := 183) rfl dX6_layBlock_183
    · replace h := (if_neg q1).symm.trans h
      refine mr_aload_n (pc := 81) dX6_layBlock_81 rfl ?_
      refine mr_iload_n (pc := 82) dX6_layBlock_82 rfl ?_
      refine mr_iload_n (pc := 83) dX6_layBlock_83 rfl ?_
      obtain ⟨r8, σ8, τ8, c8, h⟩ := obs h
      refine mr_callV0 (pc := 84) (ci := 6) [.int x2, .int x1] ok_X6_doOverlap lk_136 st_X6_doOverlap se_X6_doOverlap dX6_layBlock_84 rfl (ha_34 σ τ) rfl rfl (Nat.le_of_ble_eq_true rfl) (Nat.le_of_ble_eq_true rfl) ((dc_Q_doOverlap c8).up (by decide)) ?_
      refine mr_if_eq (pc := 87) 143 dX6_layBlock_87 (by decide) (fun q9 => ?_) (fun q9 => ?_)
      · replace h := (if_pos q9).symm.trans h
        refine mr_iincv (pc := 143) (1 : Int32) dX6_layBlock_143 rfl (by decide) (show mc_V M_X6_layBlock 4 none 146 [.ref 34, .int x1, .int (x2 + (1 : Int32))] [] (mc_hp σ8 τ8) none (mc_hp σ' τ') 0 0 from ?_)
        refine mr_goto (pc := 146) 76 dX6_layBlock_146 (by decide) ?_
        exact mc_V.locs (loc' := [.ref 34, .int x1, .int (x2 + (1 : Int32))]) ⟨Or.inr rfl, Or.inr rfl, Or.inr rfl, trivial⟩ (ih x1 (x2 + (1 : Int32)) σ8 τ8 σ' τ' h)
      · replace h := (if_neg q9).symm.trans h
        refine mr_aload_n (pc := 90) dX6_layBlock_90 rfl ?_
        refine mr_getf (pc := 91) (ci := 6) inX6 rfl 7 (by decide) fl_36 dX6_layBlock_91 (ha_34 σ8 τ8) rfl ?_
        refine mr_iload_n (pc := 94) dX6_layBlock_94 rfl ?_
        obtain ⟨g10, h⟩ := og h
        refine mr_iald (pc := 95) dX6_layBlock_95 (ha_40 σ8 τ8) (g10) ?_
        refine mr_iconstv (pc := 96) (1 : Int32) dX6_layBlock_96 (by decide) ?_
        refine mr_iadd (pc := 97) dX6_layBlock_97 ?_
        refine mr_aload_n (pc := 98) dX6_layBlock_98 rfl ?_
        refine mr_getf (pc := 99) (ci := 6) inX6 rfl 7 (by decide) fl_36 dX6_layBlock_99 (ha_34 σ8 τ8) rfl ?_
        refine mr_iload_n (pc := 102) dX6_layBlock_102 rfl ?_
        obtain ⟨g11, h⟩ := og h
        refine mr_iald (pc := 103) dX6_layBlock_103 (ha_40 σ8 τ8) (g11) ?_
        refine mr_icmp_ne (pc := 104) 143 dX6_layBlock_104 (by decide) (fun q12 => ?_) (fun q12 => ?_)
        · replace h := (if_neg q12).symm.trans h
          refine mr_iincv (pc := 143) (1 : Int32) dX6_layBlock_143 rfl (by decide) (show mc_V M_X6_layBlock 4 none 146 [.ref 34, .int x1, .int (x2 + (1 : Int32))] [] (mc_hp σ8 τ8) none (mc_hp σ' τ') 0 0 from ?_)
          refine mr_goto (pc := 146) 76 dX6_layBlock_146 (by decide) ?_
          exact mc_V.locs (loc' := [.ref 34, .int x1, .int (x2 + (1 : Int32))]) ⟨Or.inr rfl, Or.inr rfl, Or.inr rfl, trivial⟩ (ih x1 (x2 + (1 : Int32)) σ8 τ8 σ' τ' h)
        · replace h := (if_pos q12).symm.trans h
          refine mr_aload_n (pc := 107) dX6_layBlock_107 rfl ?_
          refine mr_getf (pc := 108) (ci := 6) inX6 rfl 8 (by decide) fl_37 dX6_layBlock_108 (ha_34 σ8 τ8) rfl ?_
          refine mr_iload_n (pc := 111) dX6_layBlock_111 rfl ?_
          refine mr_dup2 (pc := 112) dX6_layBlock_112 rfl rfl ?_
          refine mr_iald (pc := 113) dX6_layBlock_113 (ha_41 σ8 τ8) (g11) ?_
          refine mr_iconstv (pc := 114) (1 : Int32) dX6_layBlock_114 (by decide) ?_
          refine mr_iload_n (pc := 115) dX6_layBlock_115 rfl ?_
          refine mr_ishl (pc := 116) dX6_layBlock_116 ?_
          refine mr_ior (pc := 117) dX6_layBlock_117 ?_
          obtain ⟨σ13, e13, h⟩ := ow h
          refine mr_iast (pc := 118) dX6_layBlock_118 (ha_41 σ8 τ8) (g11) (mc_V.heap (hs_41 e13) ?_)
          refine mr_aload_n (pc := 119) dX6_layBlock_119 rfl ?_
          refine mr_iload_n (pc := 120) dX6_layBlock_120 rfl ?_
          refine mr_iload_n (pc := 121) dX6_layBlock_121 rfl ?_
          refine mr_aload_n (pc := 122) dX6_layBlock_122 rfl ?_
          refine mr_iload_n (pc := 123) dX6_layBlock_123 rfl ?_
          refine mr_iload_n (pc := 124) dX6_layBlock_124 rfl ?_
          obtain ⟨r14, σ14, τ14, c14, h⟩ := obs h
          refine mr_callV0 (pc := 125) (ci := 6) [.int x2, .int x1] ok_X6_from lk_134 st_X6_from se_X6_from dX6_layBlock_125 rfl (ha_34 σ13 τ8) rfl rfl (Nat.le_of_ble_eq_true rfl) (Nat.le_of_ble_eq_true rfl) ((dc_Q_from c14).up (by decide)) ?_
          obtain ⟨σ15, τ15, c15, h⟩ := ovs h
          refine mr_callV0 (pc := 128) (ci := 6) [.int x1, .int x2, .int r14] ok_X6_touches lk_137 st_X6_touches se_X6_touches dX6_layBlock_128 rfl (ha_34 σ14 τ14) rfl rfl (Nat.le_of_ble_eq_true rfl) (Nat.le_of_ble_eq_true rfl) ((dc_Q_touches c15).up (by decide)) ?_
          refine mr_aload_n (pc := 131) dX6_layBlock_131 rfl ?_
          refine mr_iload_n (pc := 132) dX6_layBlock_132 rfl ?_
          refine mr_iload_n (pc := 133) dX6_layBlock_133 rfl ?_
          refine mr_aload_n (pc := 134) dX6_layBlock_134 rfl ?_
          refine mr_iload_n (pc := 135) dX6_layBlock_135 rfl ?_
          refine mr_iload_n (pc := 136) dX6_layBlock_136 rfl ?_
          obtain ⟨r16, σ16, τ16, c16, h⟩ := obs h
          refine mr_callV0 (pc := 137) (ci := 6) [.int x2, .int x1] ok_X6_to lk_135 st_X6_to se_X6_to dX6_layBlock_137 rfl (ha_34 σ15 τ15) rfl rfl (Nat.le_of_ble_eq_true rfl) (Nat.le_of_ble_eq_true rfl) ((dc_Q_to c16).up (by decide)) ?_
          obtain ⟨σ17, τ17, c17, h⟩ := ovs h
          refine mr_callV0 (pc := 140) (ci := 6) [.int x1, .int x2, .int r16] ok_X6_touches lk_137 st_X6_touches se_X6_touches dX6_layBlock_140 rfl (ha_34 σ16 τ16) rfl rfl (Nat.le_of_ble_eq_true rfl) (Nat.le_of_ble_eq_true rfl) ((dc_Q_touches c17).up (by decide)) ?_
          refine mr_iincv (pc := 143) (1 : Int32) dX6_layBlock_143 rfl (by decide) (show mc_V M_X6_layBlock 4 none 146 [.ref 34, .int x1, .int (x2 + (1 : Int32))] [] (mc_hp σ17 τ17) none (mc_hp σ' τ') 0 0 from ?_)
          refine mr_goto (pc := 146) 76 dX6_layBlock_146 (by decide) ?_
          exact mc_V.locs (loc' := [.ref 34, .int x1, .int (x2 + (1 : Int32))]) ⟨Or.inr rfl, Or.inr rfl, Or.inr rfl, trivial⟩ (ih x1 (x2 + (1 : Int32)) σ17 τ17 σ' τ' h)
set_option maxHeartbeats 4000000 in
set_option maxRecDepth 100000 in
theorem dc_Q_layBlock_b61 (k16 : Int32 → Int32 → mS → mT → Option (mS × mT)) (hk16 : ∀ (x1 : Int32) (x2 : Int32) (σ : mS) (τ : mT) (σ' : mS) (τ' : mT), k16 x1 x2 σ τ = some (σ', τ') → mc_V M_X6_layBlock 4 none 16 [.ref 34, .int x1, .int x2] [] (mc_hp σ τ) none (mc_hp σ' τ') 0 0) : ∀ (x1 : Int32) (x2 : Int32) (s1 : Int32) (σ : mS) (τ : mT) (σ' : mS) (τ' : mT), Q_layBlock_b61 k16 x1 x2 s1 σ τ = some (σ', τ') → mc_V M_X6_layBlock 4 none 61 [.ref 34, .int x1, .int x2] [.int s1, .ref 40] (mc_hp σ τ) none (mc_hp σ' τ') 0 0 := by
  intro x1 x2 s1 σ τ σ' τ' h
  unfold Q_layBlock_b61 at h
  refine mr_aload_n (pc := 61) dX6_layBlock_61 rfl ?_
  refine mr_getf (pc := 62) (ci := 6) inX6 rfl 7 (by decide) fl_36 dX6_layBlock_62 (ha_34 σ τ) rfl ?_
  refine mr_iload_n (pc := 65) dX6_layBlock_65 rfl ?_
  obtain ⟨g1, h⟩ := og h
  refine mr_iald (pc := 66) dX6_layBlock_66 (ha_40 σ τ) (g1) ?_
  obtain ⟨g2, h⟩ := og h
  obtain ⟨σ3, e3, h⟩ := ow h
  refine mr_iast (pc := 67) dX6_layBlock_67 (ha_40 σ τ) (g2) (mc_V.heap (hs_40 e3) ?_)
  refine mr_iincv (pc := 68) (1 : Int32) dX6_layBlock_68 rfl (by decide) (show mc_V M_X6_layBlock 4 none 71 [.ref 34, .int x1, .int (x2 + (1 : Int32))] [] (mc_hp σ3 τ) none (mc_hp σ' τ') 0 0 from ?_)
  refine mr_goto (pc := 71) 16 dX6_layBlock_71 (by decide) ?_
  exact mc_V.locs (loc' := [.ref 34, .int x1, .int (x2 + (1 : Int32))]) ⟨Or.inr rfl, Or.inr rfl, Or.inr rfl, trivial⟩ (hk16 x1 (x2 + (1 : Int32)) σ3 τ σ' τ' h)
set_option maxHeartbeats 4000000 in
set_option maxRecDepth 100000 in
theorem dc_Q_layBlock_l16 : ∀ (n : Nat), ∀ (x1 : Int32) (x2 : Int32) (σ : mS) (τ : mT) (σ' : mS) (τ' : mT), Q_layBlock_l16 n x1 x2 σ τ = some (σ', τ') → mc_V M_X6_layBlock 4 none 16 [.ref 34, .int x1, .int x2] [] (mc_hp σ τ) none (mc_hp σ' τ') 0 0 := by
  intro n
  induction n with
  | zero =>
    intros
    rename_i h
    cases h
  | succ n ih =>
    intro x1 x2 σ τ σ' τ' h
    refine mr_iload_n (pc := 16) dX6_layBlock_16 rfl ?_
    refine mr_iload_n (pc := 17) dX6_layBlock_17 rfl ?_
    refine mr_icmp_ge (pc := 18) 74 dX6_layBlock_18 (by decide) (fun q1 => ?_) (fun q1 => ?_)
    · replace h := (if_pos q1).symm.trans h
      refine mr_iconstv (pc := 74) (0 : Int32) dX6_layBlock_74 (by decide) ?_
      refine mr_istore_n (pc := 75) dX6_layBlock_75 (Nat.le_of_ble_eq_true rfl) (show mc_V M_X6_layBlock 4 none 76 [.ref 34, .int x1, .int (0 : Int32)] [] (mc_hp σ τ) none (mc_hp σ' τ') 0 0 from ?_)
      exact mc_V.locs (loc' := [.ref 34, .int x1, .int (0 : Int32)]) ⟨Or.inr rfl, Or.inr rfl, Or.inr rfl, trivial⟩ (dc_Q_layBlock_l76 mc_F x1 (0 : Int32) σ τ σ' τ' h)
    · replace h := (if_neg q1).symm.trans h
      refine mr_aload_n (pc := 21) dX6_layBlock_21 rfl ?_
      refine mr_getf (pc := 22) (ci := 6) inX6 rfl 7 (by decide) fl_36 dX6_layBlock_22 (ha_34 σ τ) rfl ?_
      refine mr_iload_n (pc := 25) dX6_layBlock_25 rfl ?_
      refine mr_aload_n (pc := 26) dX6_layBlock_26 rfl ?_
      refine mr_iload_n (pc := 27) dX6_layBlock_27 rfl ?_
      refine mr_iload_n (pc := 28) dX6_layBlock_28 rfl ?_
      obtain ⟨r2, σ2, τ2, c2, h⟩ := obs h
      refine mr_callV0 (pc := 29) (ci := 6) [.int x2, .int x1] ok_X6_doOverlap lk_136 st_X6_doOverlap se_X6_doOverlap dX6_layBlock_29 rfl (ha_34 σ τ) rfl rfl (Nat.le_of_ble_eq_true rfl) (Nat.le_of_ble_eq_true rfl) ((dc_Q_doOverlap c2).up (by decide)) ?_
      refine mr_if_eq (pc := 32) 61 dX6_layBlock_32 (by decide) (fun q3 => ?_) (fun q3 => ?_)
      · replace h := (if_pos q3).symm.trans h
        exact mc_V.locs (loc' := [.ref 34, .int x1, .int x2]) ⟨Or.inr rfl, Or.inr rfl, Or.inr rfl, trivial⟩ (dc_Q_layBlock_b61 (Q_layBlock_l16 n) ih x1 x2 x1 σ2 τ2 σ' τ' h)
      · replace h := (if_neg q3).symm.trans h
        refine mr_aload_n (pc := 35) dX6_layBlock_35 rfl ?_
        refine mr_getf (pc := 36) (ci := 6) inX6 rfl 7 (by decide) fl_36 dX6_layBlock_36 (ha_34 σ2 τ2) rfl ?_
        refine mr_iload_n (pc := 39) dX6_layBlock_39 rfl ?_
        obtain ⟨g4, h⟩ := og h
        refine mr_iald (pc := 40) dX6_layBlock_40 (ha_40 σ2 τ2) (g4) ?_
        refine mr_aload_n (pc := 41) dX6_layBlock_41 rfl ?_
        refine mr_getf (pc := 42) (ci := 6) inX6 rfl 7 (by decide) fl_36 dX6_layBlock_42 (ha_34 σ2 τ2) rfl ?_
        refine mr_iload_n (pc := 45) dX6_layBlock_45 rfl ?_
        obtain ⟨g5, h⟩ := og h
        refine mr_iald (pc := 46) dX6_layBlock_46 (ha_40 σ2 τ2) (g5) ?_
        refine mr_icmp_lt (pc := 47) 61 dX6_layBlock_47 (by decide) (fun q6 => ?_) (fun q6 => ?_)
        · replace h := (if_pos q6).symm.trans h
          exact mc_V.locs (loc' := [.ref 34, .int x1, .int x2]) ⟨Or.inr rfl, Or.inr rfl, Or.inr rfl, trivial⟩ (dc_Q_layBlock_b61 (Q_layBlock_l16 n) ih x1 x2 x1 σ2 τ2 σ' τ' h)
        · replace h := (if_neg q6).symm.trans h
          refine mr_aload_n (pc := 50) dX6_layBlock_50 rfl ?_
          refine mr_getf (pc := 51) (ci := 6) inX6 rfl 7 (by decide) fl_36 dX6_layBlock_51 (ha_34 σ2 τ2) rfl ?_
          refine mr_iload_n (pc := 54) dX6_layBlock_54 rfl ?_
          refine mr_iald (pc := 55) dX6_layBlock_55 (ha_40 σ2 τ2) (g4) ?_
          refine mr_iconstv (pc := 56) (1 : Int32) dX6_layBlock_56 (by decide) ?_
          refine mr_iadd (pc := 57) dX6_layBlock_57 ?_
          refine mr_goto (pc := 58) 67 dX6_layBlock_58 (by decide) ?_
          obtain ⟨σ7, e7, h⟩ := ow h
          refine mr_iast (pc := 67) dX6_layBlock_67 (ha_40 σ2 τ2) (g5) (mc_V.heap (hs_40 e7) ?_)
          refine mr_iincv (pc := 68) (1 : Int32) dX6_layBlock_68 rfl (by decide) (show mc_V M_X6_layBlock 4 none 71 [.ref 34, .int x1, .int (x2 + (1 : Int32))] [] (mc_hp σ7 τ2) none (mc_hp σ' τ') 0 0 from ?_)
          refine mr_goto (pc := 71) 16 dX6_layBlock_71 (by decide) ?_
          exact mc_V.locs (loc' := [.ref 34, .int x1, .int (x2 + (1 : Int32))]) ⟨Or.inr rfl, Or.inr rfl, Or.inr rfl, trivial⟩ (ih x1 (x2 + (1 : Int32)) σ7 τ2 σ' τ' h)
set_option maxHeartbeats 4000000 in
set_option maxRecDepth 100000 in
theorem dc_Q_layBlock {p1 : Int32} {σ : mS} {τ : mT} {σ' : mS} {τ' : mT} (h : Q_layBlock p1 σ τ = some (σ', τ')) : mc_V M_X6_layBlock 4 none 0 (mc_entry [.ref 34, .int p1] 3) [] (mc_hp σ τ) none (mc_hp σ' τ') 0 0 := by
  unfold Q_layBlock at h
  show mc_V M_X6_layBlock 4 none 0 [.ref 34, .int p1, .retAddr 0] [] (mc_hp σ τ) none (mc_hp σ' τ') 0 0
  refine mr_aload_n (pc := 0) dX6_layBlock_0 rfl ?_
  refine mr_getf (pc := 1) (ci := 6) inX6 rfl 7 (by decide) fl_36 dX6_layBlock_1 (ha_34 σ τ) rfl ?_
  refine mr_iload_n (pc := 4) dX6_layBlock_4 rfl ?_
  refine mr_iconstv (pc := 5) (0 : Int32) dX6_layBlock_5 (by decide) ?_
  obtain ⟨g1, h⟩ := og h
  obtain ⟨σ2, e2, h⟩ := ow h
  refine mr_iast (pc := 6) dX6_layBlock_6 (ha_40 σ τ) (g1) (mc_V.heap (hs_40 e2) ?_)
  refine mr_aload_n (pc := 7) dX6_layBlock_7 rfl ?_
  refine mr_getf (pc := 8) (ci := 6) inX6 rfl 8 (by decide) fl_37 dX6_layBlock_8 (ha_34 σ2 τ) rfl ?_
  refine mr_iload_n (pc := 11) dX6_layBlock_11 rfl ?_
  refine mr_iconstv (pc := 12) (0 : Int32) dX6_layBlock_12 (by decide) ?_
  obtain ⟨σ3, e3, h⟩ := ow h
  refine mr_iast (pc := 13) dX6_layBlock_13 (ha_41 σ2 τ) (g1) (mc_V.heap (hs_41 e3) ?_)
  refine mr_iconstv (pc := 14) (0 : Int32) dX6_layBlock_14 (by decide) ?_
  refine mr_istore_n (pc := 15) dX6_layBlock_15 (Nat.le_of_ble_eq_true rfl) (show mc_V M_X6_layBlock 4 none 16 [.ref 34, .int p1, .int (0 : Int32)] [] (mc_hp σ3 τ) none (mc_hp σ' τ') 0 0 from ?_)
  exact mc_V.locs (loc' := [.ref 34, .int p1, .int (0 : Int32)]) ⟨Or.inr rfl, Or.inr rfl, Or.inr rfl, trivial⟩ (dc_Q_layBlock_l16 mc_F p1 (0 : Int32) σ3 τ σ' τ' h)
set_option maxHeartbeats 4000000 in
set_option maxRecDepth 100000 in
theorem dc_Q_layAll_l7 : ∀ (n : Nat), ∀ (x1 : Int32) (σ : mS) (τ : mT) (σ' : mS) (τ' : mT), Q_layAll_l7 n x1 σ τ = some (σ', τ') → mc_V M_X6_layAll 5 none 7 [.ref 34, .int x1] [] (mc_hp σ τ) none (mc_hp σ' τ') 0 0 := by
  intro n
  induction n with
  | zero =>
    intros
    rename_i h
    cases h
  | succ n ih =>
    intro x1 σ τ σ' τ' h
    refine mr_iload_n (pc := 7) dX6_layAll_7 rfl ?_
    refine mr_aload_n (pc := 8) dX6_layAll_8 rfl ?_
    obtain ⟨r1, σ1, τ1, c1, h⟩ := obs h
    refine mr_callV0 (pc := 9) (ci := 6) [] ok_X6_many lk_138 st_X6_many se_X6_many dX6_layAll_9 rfl (ha_34 σ τ) rfl rfl (Nat.le_of_ble_eq_true rfl) (Nat.le_of_ble_eq_true rfl) ((dc_Q_many c1).up (by decide)) ?_
    refine mr_icmp_ge (pc := 12) 26 dX6_layAll_12 (by decide) (fun q2 => ?_) (fun q2 => ?_)
    · replace h := (if_pos q2).symm.trans h
      obtain ⟨rfl, rfl⟩ := os2 h
      exact mr_ret (pc := 26) rfl dX6_layAll_26
    · replace h := (if_neg q2).symm.trans h
      refine mr_aload_n (pc := 15) dX6_layAll_15 rfl ?_
      refine mr_iload_n (pc := 16) dX6_layAll_16 rfl ?_
      obtain ⟨σ3, τ3, c3, h⟩ := ovs h
      refine mr_callV0 (pc := 17) (ci := 6) [.int x1] ok_X6_layBlock lk_139 st_X6_layBlock se_X6_layBlock dX6_layAll_17 rfl (ha_34 σ1 τ1) rfl rfl (Nat.le_of_ble_eq_true rfl) (Nat.le_of_ble_eq_true rfl) ((dc_Q_layBlock c3).up (by decide)) ?_
      refine mr_iincv (pc := 20) (1 : Int32) dX6_layAll_20 rfl (by decide) (show mc_V M_X6_layAll 5 none 23 [.ref 34, .int (x1 + (1 : Int32))] [] (mc_hp σ3 τ3) none (mc_hp σ' τ') 0 0 from ?_)
      refine mr_goto (pc := 23) 7 dX6_layAll_23 (by decide) ?_
      exact mc_V.locs (loc' := [.ref 34, .int (x1 + (1 : Int32))]) ⟨Or.inr rfl, Or.inr rfl, trivial⟩ (ih (x1 + (1 : Int32)) σ3 τ3 σ' τ' h)
set_option maxHeartbeats 4000000 in
set_option maxRecDepth 100000 in
theorem dc_Q_layAll {σ : mS} {τ : mT} {σ' : mS} {τ' : mT} (h : Q_layAll σ τ = some (σ', τ')) : mc_V M_X6_layAll 5 none 0 (mc_entry [.ref 34] 2) [] (mc_hp σ τ) none (mc_hp σ' τ') 0 0 := by
  unfold Q_layAll at h
  show mc_V M_X6_layAll 5 none 0 [.ref 34, .retAddr 0] [] (mc_hp σ τ) none (mc_hp σ' τ') 0 0
  refine mr_aload_n (pc := 0) dX6_layAll_0 rfl ?_
  refine mr_iconstv (pc := 1) (0 : Int32) dX6_layAll_1 (by decide) ?_
  obtain ⟨σ1, e1, h⟩ := ow h
  refine mr_putf (pc := 2) (ci := 6) inX6 tyX6 tyX6_ok nmX6 rfl 9 (by decide) fl_45 rfl dX6_layAll_2 (ha_34 σ τ) (Nat.le_of_ble_eq_true rfl) rfl (mc_V.heap (hs_34_9 e1) ?_)
  refine mr_iconstv (pc := 5) (0 : Int32) dX6_layAll_5 (by decide) ?_
  refine mr_istore_n (pc := 6) dX6_layAll_6 (Nat.le_of_ble_eq_true rfl) (show mc_V M_X6_layAll 5 none 7 [.ref 34, .int (0 : Int32)] [] (mc_hp σ1 τ) none (mc_hp σ' τ') 0 0 from ?_)
  exact mc_V.locs (loc' := [.ref 34, .int (0 : Int32)]) ⟨Or.inr rfl, Or.inr rfl, trivial⟩ (dc_Q_layAll_l7 mc_F (0 : Int32) σ1 τ σ' τ' h)
set_option maxHeartbeats 4000000 in
set_option maxRecDepth 100000 in
theorem dc_Q_drops {p1 : Int32} {p2 : Int32} {p3 : Int32} {σ : mS} {τ : mT} {r : Int32} {σ' : mS} {τ' : mT} (h : Q_drops p1 p2 p3 σ τ = some (r, σ', τ')) : mc_V M_X6_drops 6 none 0 (mc_entry [.ref 34, .int p1, .int p2, .int p3] 4) [] (mc_hp σ τ) (some (.int r)) (mc_hp σ' τ') 0 0 := by
  unfold Q_drops at h
  show mc_V M_X6_drops 6 none 0 [.ref 34, .int p1, .int p2, .int p3] [] (mc_hp σ τ) (some (.int r)) (mc_hp σ' τ') 0 0
  refine mr_iload_n (pc := 0) dX6_drops_0 rfl ?_
  refine mr_iload_n (pc := 1) dX6_drops_1 rfl ?_
  refine mr_iload_n (pc := 2) dX6_drops_2 rfl ?_
  obtain ⟨r1, σ1, τ1, c1, h⟩ := obs h
  refine mr_callS0 (pc := 3) [.int p1, .int p2, .int p3] ok_X6_fits lk_169 st_X6_fits dX6_drops_3 rfl rfl (Nat.le_of_ble_eq_true rfl) (Nat.le_of_ble_eq_true rfl) ((dc_Q_fits c1).up (by decide)) ?_
  refine mr_if_ne (pc := 6) 11 dX6_drops_6 (by decide) (fun q2 => ?_) (fun q2 => ?_)
  · replace h := (if_neg q2).symm.trans h
    refine mr_aload_n (pc := 11) dX6_drops_11 rfl ?_
    refine mr_getf (pc := 12) (ci := 6) inX6 rfl 0 (by decide) fl_31 dX6_drops_12 (ha_34 σ1 τ1) rfl ?_
    refine mr_iconstv (pc := 15) (0 : Int32) dX6_drops_15 (by decide) ?_
    refine mr_iald (pc := 16) dX6_drops_16 (ha_35 σ1 τ1) (vin_ok rfl) ?_
    refine mr_iconstv (pc := 17) (4 : Int32) dX6_drops_17 (by decide) ?_
    refine mr_icmp_ne (pc := 18) 24 dX6_drops_18 (by decide) (fun q3 => ?_) (fun q3 => ?_)
    · replace h := (if_neg q3).symm.trans h
      refine mr_aload_n (pc := 24) dX6_drops_24 rfl ?_
      refine mr_aload_n (pc := 25) dX6_drops_25 rfl ?_
      refine mr_getf (pc := 26) (ci := 6) inX6 rfl 26 (by decide) fl_44 dX6_drops_26 (ha_34 σ1 τ1) rfl ?_
      refine mr_iconstv (pc := 29) (0 : Int32) dX6_drops_29 (by decide) ?_
      obtain ⟨σ4, τ4, c4, h⟩ := ovs h
      refine mr_callV0 (pc := 30) (ci := 6) [.ref 48, .int (0 : Int32)] ok_X6_lays lk_165 st_X6_lays se_X6_lays dX6_drops_30 rfl (ha_34 σ1 τ1) rfl rfl (Nat.le_of_ble_eq_true rfl) (Nat.le_of_ble_eq_true rfl) ((dc_Q_lays_48 c4).up (by decide)) ?_
      refine mr_aload_n (pc := 33) dX6_drops_33 rfl ?_
      obtain ⟨σ5, τ5, c5, h⟩ := ovs h
      refine mr_callV0 (pc := 34) (ci := 6) [] ok_X6_keeps lk_168 st_X6_keeps se_X6_keeps dX6_drops_34 rfl (ha_34 σ4 τ4) rfl rfl (Nat.le_of_ble_eq_true rfl) (Nat.le_of_ble_eq_true rfl) ((dc_Q_keeps c5).up (by decide)) ?_
      refine mr_aload_n (pc := 37) dX6_drops_37 rfl ?_
      refine mr_iload_n (pc := 38) dX6_drops_38 rfl ?_
      refine mr_iload_n (pc := 39) dX6_drops_39 rfl ?_
      refine mr_iload_n (pc := 40) dX6_drops_40 rfl ?_
      obtain ⟨σ6, τ6, c6, h⟩ := ovs h
      refine mr_callV0 (pc := 41) (ci := 6) [.int p1, .int p2, .int p3] ok_X6_appends lk_162 st_X6_appends se_X6_appends dX6_drops_41 rfl (ha_34 σ5 τ5) rfl rfl (Nat.le_of_ble_eq_true rfl) (Nat.le_of_ble_eq_true rfl) ((dc_Q_appends c6).up (by decide)) ?_
      refine mr_aload_n (pc := 44) dX6_drops_44 rfl ?_
      obtain ⟨σ7, τ7, c7, h⟩ := ovs h
      refine mr_callV0 (pc := 45) (ci := 6) [] ok_X6_layAll lk_152 st_X6_layAll se_X6_layAll dX6_drops_45 rfl (ha_34 σ6 τ6) rfl rfl (Nat.le_of_ble_eq_true rfl) (Nat.le_of_ble_eq_true rfl) ((dc_Q_layAll c7).up (by decide)) ?_
      refine mr_aload_n (pc := 48) dX6_drops_48 rfl ?_
      refine mr_getf (pc := 49) (ci := 6) inX6 rfl 7 (by decide) fl_36 dX6_drops_49 (ha_34 σ7 τ7) rfl ?_
      refine mr_aload_n (pc := 52) dX6_drops_52 rfl ?_
      refine mr_getf (pc := 53) (ci := 6) inX6 rfl 0 (by decide) fl_31 dX6_drops_53 (ha_34 σ7 τ7) rfl ?_
      refine mr_iconstv (pc := 56) (0 : Int32) dX6_drops_56 (by decide) ?_
      refine mr_iald (pc := 57) dX6_drops_57 (ha_35 σ7 τ7) (vin_ok rfl) ?_
      refine mr_iconstv (pc := 58) (1 : Int32) dX6_drops_58 (by decide) ?_
      refine mr_isub (pc := 59) dX6_drops_59 ?_
      obtain ⟨g8, h⟩ := og h
      refine mr_iald (pc := 60) dX6_drops_60 (ha_40 σ7 τ7) (g8) ?_
      obtain ⟨rfl, rfl, rfl⟩ := os3 h
      exact mr_iret (pc := 61) rfl (rfl) dX6_drops_61
    · replace h := (if_pos q3).symm.trans h
      refine mr_bipushv (pc := 21) (-3 : Int32) dX6_drops_21 (by decide) ?_
      obtain ⟨rfl, rfl, rfl⟩ := os3 h
      exact mr_iret (pc := 23) rfl (rfl) dX6_drops_23
  · replace h := (if_pos q2).symm.trans h
    refine mr_iconstv (pc := 9) (-1 : Int32) dX6_drops_9 (by decide) ?_
    obtain ⟨rfl, rfl, rfl⟩ := os3 h
    exact mr_iret (pc := 10) rfl (rfl) dX6_drops_10
set_option maxHeartbeats 4000000 in
set_option maxRecDepth 100000 in
theorem dc_Y_over {p1 : Int32} {σ : mS} {τ : mT} {r : Int32} {σ' : mS} {τ' : mT} (h : Y_over p1 σ τ = some (r, σ', τ')) : mc_V M_X1_over 1 none 0 (mc_entry [.ref 6, .int p1] 2) [] (mc_hp σ τ) (some (.int r)) (mc_hp σ' τ') 0 0 := by
  unfold Y_over at h
  show mc_V M_X1_over 1 none 0 [.ref 6, .int p1] [] (mc_hp σ τ) (some (.int r)) (mc_hp σ' τ') 0 0
  refine mr_iload_n (pc := 0) dX1_over_0 rfl ?_
  refine mr_iconstv (pc := 1) (0 : Int32) dX1_over_1 (by decide) ?_
  refine mr_aload_n (pc := 2) dX1_over_2 rfl ?_
  refine mr_getf (pc := 3) (ci := 1) inX1 rfl 8 (by decide) fl_23 dX1_over_3 (ha_6 σ τ) rfl ?_
  refine mr_iconstv (pc := 6) (1 : Int32) dX1_over_6 (by decide) ?_
  refine mr_isub (pc := 7) dX1_over_7 ?_
  obtain ⟨r1, σ1, τ1, c1, h⟩ := obs h
  refine mr_callSN0 (pc := 8) [.int p1, .int (0 : Int32), .int ((σ 6 8) - (1 : Int32))] ok_X5_within lk_187 st_X5_within dX1_over_8 rfl rfl (Nat.le_of_ble_eq_true rfl) (Nat.le_of_ble_eq_true rfl) ((dc_R_within c1).up (by decide)) ?_
  refine mr_if_eq (pc := 11) 23 dX1_over_11 (by decide) (fun q2 => ?_) (fun q2 => ?_)
  · replace h := (if_pos q2).symm.trans h
    refine mr_iconstv (pc := 23) (0 : Int32) dX1_over_23 (by decide) ?_
    obtain ⟨rfl, rfl, rfl⟩ := os3 h
    exact mr_iret (pc := 24) rfl (rfl) dX1_over_24
  · replace h := (if_neg q2).symm.trans h
    refine mr_aload_n (pc := 14) dX1_over_14 rfl ?_
    refine mr_getf (pc := 15) (ci := 1) inX1 rfl 4 (by decide) fl_19 dX1_over_15 (ha_6 σ1 τ1) rfl ?_
    refine mr_iload_n (pc := 18) dX1_over_18 rfl ?_
    obtain ⟨g3, h⟩ := og h
    refine mr_iald (pc := 19) dX1_over_19 (ha_11 σ1 τ1) (g3) ?_
    refine mr_goto (pc := 20) 24 dX1_over_20 (by decide) ?_
    obtain ⟨rfl, rfl, rfl⟩ := os3 h
    exact mr_iret (pc := 24) rfl (rfl) dX1_over_24
set_option maxHeartbeats 4000000 in
set_option maxRecDepth 100000 in
theorem dc_P_takeOut_2 {p1 : Int32} {σ : mS} {τ : mT} {σ' : mS} {τ' : mT} (h : P_takeOut_2 p1 σ τ = some (σ', τ')) : mc_V M_X2_takeOut 1 none 0 (mc_entry [.ref 2, .int p1] 3) [] (mc_hp σ τ) none (mc_hp σ' τ') 0 0 := by
  unfold P_takeOut_2 at h
  show mc_V M_X2_takeOut 1 none 0 [.ref 2, .int p1, .retAddr 0] [] (mc_hp σ τ) none (mc_hp σ' τ') 0 0
  refine mr_aload_n (pc := 0) dX2_takeOut_0 rfl ?_
  refine mr_iload_n (pc := 1) dX2_takeOut_1 rfl ?_
  obtain ⟨r1, σ1, τ1, c1, h⟩ := obs h
  refine mr_callV0 (pc := 2) (ci := 2) [.int p1] ok_X2_has lk_70 st_X2_has se_X2_has dX2_takeOut_2 rfl (ha_2 σ τ) rfl rfl (Nat.le_of_ble_eq_true rfl) (Nat.le_of_ble_eq_true rfl) ((dc_P_has_2 c1).up (by decide)) ?_
  refine mr_if_ne (pc := 5) 9 dX2_takeOut_5 (by decide) (fun q2 => ?_) (fun q2 => ?_)
  · replace h := (if_neg q2).symm.trans h
    refine mr_aload_n (pc := 9) dX2_takeOut_9 rfl ?_
    obtain ⟨r3, σ3, τ3, c3, h⟩ := obs h
    refine mr_callV0 (pc := 10) (ci := 2) [] ok_X2_size lk_71 st_X2_size se_X2_size dX2_takeOut_10 rfl (ha_2 σ1 τ1) rfl rfl (Nat.le_of_ble_eq_true rfl) (Nat.le_of_ble_eq_true rfl) ((dc_P_size_2 c3).up (by decide)) ?_
    refine mr_iconstv (pc := 13) (1 : Int32) dX2_takeOut_13 (by decide) ?_
    refine mr_isub (pc := 14) dX2_takeOut_14 ?_
    refine mr_iload_n (pc := 15) dX2_takeOut_15 rfl ?_
    refine mr_isub (pc := 16) dX2_takeOut_16 ?_
    refine mr_istore_n (pc := 17) dX2_takeOut_17 (Nat.le_of_ble_eq_true rfl) (show mc_V M_X2_takeOut 1 none 18 [.ref 2, .int p1, .int ((r3 - (1 : Int32)) - p1)] [] (mc_hp σ3 τ3) none (mc_hp σ' τ') 0 0 from ?_)
    refine mr_aload_n (pc := 18) dX2_takeOut_18 rfl ?_
    refine mr_getf (pc := 19) (ci := 2) inX2 rfl 0 (by decide) fl_25 dX2_takeOut_19 (ha_2 σ3 τ3) rfl ?_
    refine mr_iload_n (pc := 22) dX2_takeOut_22 rfl ?_
    refine mr_iconstv (pc := 23) (1 : Int32) dX2_takeOut_23 (by decide) ?_
    refine mr_iadd (pc := 24) dX2_takeOut_24 ?_
    refine mr_iconstv (pc := 25) (5 : Int32) dX2_takeOut_25 (by decide) ?_
    refine mr_imul (pc := 26) dX2_takeOut_26 ?_
    refine mr_aload_n (pc := 27) dX2_takeOut_27 rfl ?_
    refine mr_getf (pc := 28) (ci := 2) inX2 rfl 0 (by decide) fl_25 dX2_takeOut_28 (ha_2 σ3 τ3) rfl ?_
    refine mr_iload_n (pc := 31) dX2_takeOut_31 rfl ?_
    refine mr_iconstv (pc := 32) (5 : Int32) dX2_takeOut_32 (by decide) ?_
    refine mr_imul (pc := 33) dX2_takeOut_33 ?_
    refine mr_iload_n (pc := 34) dX2_takeOut_34 rfl ?_
    refine mr_iconstv (pc := 35) (5 : Int32) dX2_takeOut_35 (by decide) ?_
    refine mr_imul (pc := 36) dX2_takeOut_36 ?_
    obtain ⟨g4, h⟩ := og h
    obtain ⟨g5, h⟩ := og h
    obtain ⟨g6, h⟩ := og h
    obtain ⟨g7, h⟩ := og h
    obtain ⟨g8, h⟩ := og h
    obtain ⟨σ9, e9, h⟩ := ow h
    refine mr_copy (pc := 37) cp_X2 cp_nat cp_stat cp_ini dX2_takeOut_37 (ha_3 σ3 τ3) (ha_3 σ3 τ3) g4 g5 g6 (Nat.not_lt.mp g7) (Nat.not_lt.mp g8) (Nat.le_of_ble_eq_true rfl) (mc_V.heap (hc_3 e9) ?_)
    refine mr_aload_n (pc := 40) dX2_takeOut_40 rfl ?_
    refine mr_getf (pc := 41) (ci := 2) inX2 rfl 0 (by decide) fl_25 dX2_takeOut_41 (ha_2 σ9 τ3) rfl ?_
    refine mr_bipushv (pc := 44) (20 : Int32) dX2_takeOut_44 (by decide) ?_
    refine mr_dup2 (pc := 46) dX2_takeOut_46 rfl rfl ?_
    refine mr_iald (pc := 47) dX2_takeOut_47 (ha_3 σ9 τ3) (vin_ok rfl) ?_
    refine mr_iconstv (pc := 48) (1 : Int32) dX2_takeOut_48 (by decide) ?_
    refine mr_isub (pc := 49) dX2_takeOut_49 ?_
    obtain ⟨σ10, e10, h⟩ := ow h
    refine mr_iast (pc := 50) dX2_takeOut_50 (ha_3 σ9 τ3) (vin_ok rfl) (mc_V.heap (hs_3 e10) ?_)
    obtain ⟨rfl, rfl⟩ := os2 h
    exact mr_ret (pc := 51) rfl dX2_takeOut_51
  · replace h := (if_pos q2).symm.trans h
    obtain ⟨rfl, rfl⟩ := os2 h
    exact mr_ret (pc := 8) rfl dX2_takeOut_8
set_option maxHeartbeats 4000000 in
set_option maxRecDepth 100000 in
theorem dc_R_lifts {p1 : Int32} {σ : mS} {τ : mT} {r : Int32} {σ' : mS} {τ' : mT} (h : R_lifts p1 σ τ = some (r, σ', τ')) : mc_V M_X5_lifts 3 none 0 (mc_entry [.ref 1, .int p1] 2) [] (mc_hp σ τ) (some (.int r)) (mc_hp σ' τ') 0 0 := by
  unfold R_lifts at h
  show mc_V M_X5_lifts 3 none 0 [.ref 1, .int p1] [] (mc_hp σ τ) (some (.int r)) (mc_hp σ' τ') 0 0
  refine mr_aload_n (pc := 0) dX5_lifts_0 rfl ?_
  refine mr_getf (pc := 1) (ci := 5) inX5 rfl 0 (by decide) fl_0 dX5_lifts_1 (ha_1 σ τ) rfl ?_
  refine mr_iload_n (pc := 4) dX5_lifts_4 rfl ?_
  obtain ⟨r1, σ1, τ1, c1, h⟩ := obs h
  refine mr_callV0 (pc := 5) (ci := 2) [.int p1] ok_X2_has lk_14 st_X2_has se_X2_has dX5_lifts_5 rfl (ha_2 σ τ) rfl rfl (Nat.le_of_ble_eq_true rfl) (Nat.le_of_ble_eq_true rfl) ((dc_P_has_2 c1).up (by decide)) ?_
  refine mr_if_ne (pc := 8) 13 dX5_lifts_8 (by decide) (fun q2 => ?_) (fun q2 => ?_)
  · replace h := (if_neg q2).symm.trans h
    refine mr_aload_n (pc := 13) dX5_lifts_13 rfl ?_
    refine mr_getf (pc := 14) (ci := 5) inX5 rfl 2 (by decide) fl_2 dX5_lifts_14 (ha_1 σ1 τ1) rfl ?_
    refine mr_aload_n (pc := 17) dX5_lifts_17 rfl ?_
    refine mr_getf (pc := 18) (ci := 5) inX5 rfl 0 (by decide) fl_0 dX5_lifts_18 (ha_1 σ1 τ1) rfl ?_
    obtain ⟨σ3, τ3, c3, h⟩ := ovs h
    refine mr_callV0 (pc := 21) (ci := 1) [.ref 2] ok_X1_find lk_12 st_X1_find se_X1_find dX5_lifts_21 rfl (ha_6 σ1 τ1) rfl rfl (Nat.le_of_ble_eq_true rfl) (Nat.le_of_ble_eq_true rfl) ((dc_Y_find_2 c3).up (by decide)) ?_
    refine mr_aload_n (pc := 24) dX5_lifts_24 rfl ?_
    refine mr_getf (pc := 25) (ci := 5) inX5 rfl 2 (by decide) fl_2 dX5_lifts_25 (ha_1 σ3 τ3) rfl ?_
    refine mr_iload_n (pc := 28) dX5_lifts_28 rfl ?_
    obtain ⟨r4, σ4, τ4, c4, h⟩ := obs h
    refine mr_callV0 (pc := 29) (ci := 1) [.int p1] ok_X1_over lk_15 st_X1_over se_X1_over dX5_lifts_29 rfl (ha_6 σ3 τ3) rfl rfl (Nat.le_of_ble_eq_true rfl) (Nat.le_of_ble_eq_true rfl) ((dc_Y_over c4).up (by decide)) ?_
    refine mr_if_eq (pc := 32) 38 dX5_lifts_32 (by decide) (fun q5 => ?_) (fun q5 => ?_)
    · replace h := (if_pos q5).symm.trans h
      refine mr_aload_n (pc := 38) dX5_lifts_38 rfl ?_
      obtain ⟨σ6, τ6, c6, h⟩ := ovs h
      refine mr_callV0 (pc := 39) (ci := 5) [] ok_X5_remember lk_7 st_X5_remember se_X5_remember dX5_lifts_39 rfl (ha_1 σ4 τ4) rfl rfl (Nat.le_of_ble_eq_true rfl) (Nat.le_of_ble_eq_true rfl) ((dc_R_remember c6).up (by decide)) ?_
      refine mr_aload_n (pc := 42) dX5_lifts_42 rfl ?_
      refine mr_getf (pc := 43) (ci := 5) inX5 rfl 0 (by decide) fl_0 dX5_lifts_43 (ha_1 σ6 τ6) rfl ?_
      refine mr_iload_n (pc := 46) dX5_lifts_46 rfl ?_
      obtain ⟨σ7, τ7, c7, h⟩ := ovs h
      refine mr_callV0 (pc := 47) (ci := 2) [.int p1] ok_X2_takeOut lk_16 st_X2_takeOut se_X2_takeOut dX5_lifts_47 rfl (ha_2 σ6 τ6) rfl rfl (Nat.le_of_ble_eq_true rfl) (Nat.le_of_ble_eq_true rfl) ((dc_P_takeOut_2 c7).up (by decide)) ?_
      refine mr_aload_n (pc := 50) dX5_lifts_50 rfl ?_
      refine mr_getf (pc := 51) (ci := 5) inX5 rfl 0 (by decide) fl_0 dX5_lifts_51 (ha_1 σ7 τ7) rfl ?_
      obtain ⟨r8, σ8, τ8, c8, h⟩ := obs h
      refine mr_callV0 (pc := 54) (ci := 2) [] ok_X2_size lk_10 st_X2_size se_X2_size dX5_lifts_54 rfl (ha_2 σ7 τ7) rfl rfl (Nat.le_of_ble_eq_true rfl) (Nat.le_of_ble_eq_true rfl) ((dc_P_size_2 c8).up (by decide)) ?_
      obtain ⟨rfl, rfl, rfl⟩ := os3 h
      exact mr_iret (pc := 57) rfl (rfl) dX5_lifts_57
    · replace h := (if_neg q5).symm.trans h
      refine mr_bipushv (pc := 35) (-2 : Int32) dX5_lifts_35 (by decide) ?_
      obtain ⟨rfl, rfl, rfl⟩ := os3 h
      exact mr_iret (pc := 37) rfl (rfl) dX5_lifts_37
  · replace h := (if_pos q2).symm.trans h
    refine mr_iconstv (pc := 11) (-1 : Int32) dX5_lifts_11 (by decide) ?_
    obtain ⟨rfl, rfl, rfl⟩ := os3 h
    exact mr_iret (pc := 12) rfl (rfl) dX5_lifts_12
set_option maxHeartbeats 4000000 in
set_option maxRecDepth 100000 in
theorem dc_Q_isBlock {p1 : Int32} {σ : mS} {τ : mT} {r : Int32} {σ' : mS} {τ' : mT} (h : Q_isBlock p1 σ τ = some (r, σ', τ')) : mc_V M_X6_isBlock 1 none 0 (mc_entry [.ref 34, .int p1] 2) [] (mc_hp σ τ) (some (.int r)) (mc_hp σ' τ') 0 0 := by
  unfold Q_isBlock at h
  show mc_V M_X6_isBlock 1 none 0 [.ref 34, .int p1] [] (mc_hp σ τ) (some (.int r)) (mc_hp σ' τ') 0 0
  refine mr_iload_n (pc := 0) dX6_isBlock_0 rfl ?_
  refine mr_iconstv (pc := 1) (0 : Int32) dX6_isBlock_1 (by decide) ?_
  refine mr_aload_n (pc := 2) dX6_isBlock_2 rfl ?_
  refine mr_getf (pc := 3) (ci := 6) inX6 rfl 0 (by decide) fl_31 dX6_isBlock_3 (ha_34 σ τ) rfl ?_
  refine mr_iconstv (pc := 6) (0 : Int32) dX6_isBlock_6 (by decide) ?_
  refine mr_iald (pc := 7) dX6_isBlock_7 (ha_35 σ τ) (vin_ok rfl) ?_
  refine mr_iconstv (pc := 8) (1 : Int32) dX6_isBlock_8 (by decide) ?_
  refine mr_isub (pc := 9) dX6_isBlock_9 ?_
  obtain ⟨r1, σ1, τ1, c1, h⟩ := obs h
  refine mr_callS0 (pc := 10) [.int p1, .int (0 : Int32), .int ((σ 35 0) - (1 : Int32))] ok_X6_within lk_131 st_X6_within dX6_isBlock_10 rfl rfl (Nat.le_of_ble_eq_true rfl) (Nat.le_of_ble_eq_true rfl) ((dc_Q_within c1).up (by decide)) ?_
  obtain ⟨g2, h⟩ := og h
  obtain ⟨rfl, rfl, rfl⟩ := os3 h
  exact mr_iret (pc := 13) rfl (nar_b g2) dX6_isBlock_13
set_option maxHeartbeats 4000000 in
set_option maxRecDepth 100000 in
theorem dc_Q_has {p0 : Int32} {p1 : Int32} {σ : mS} {τ : mT} {r : Int32} {σ' : mS} {τ' : mT} (h : Q_has p0 p1 σ τ = some (r, σ', τ')) : mc_V M_X6_has 0 none 0 (mc_entry [.int p0, .int p1] 2) [] (mc_hp σ τ) (some (.int r)) (mc_hp σ' τ') 0 0 := by
  unfold Q_has at h
  show mc_V M_X6_has 0 none 0 [.int p0, .int p1] [] (mc_hp σ τ) (some (.int r)) (mc_hp σ' τ') 0 0
  refine mr_iload_n (pc := 0) dX6_has_0 rfl ?_
  refine mr_iload_n (pc := 1) dX6_has_1 rfl ?_
  refine mr_ishr (pc := 2) dX6_has_2 ?_
  refine mr_iconstv (pc := 3) (1 : Int32) dX6_has_3 (by decide) ?_
  refine mr_iand (pc := 4) dX6_has_4 ?_
  refine mr_iconstv (pc := 5) (1 : Int32) dX6_has_5 (by decide) ?_
  refine mr_icmp_ne (pc := 6) 13 dX6_has_6 (by decide) (fun q1 => ?_) (fun q1 => ?_)
  · replace h := (if_neg q1).symm.trans h
    refine mr_iconstv (pc := 13) (0 : Int32) dX6_has_13 (by decide) ?_
    obtain ⟨rfl, rfl, rfl⟩ := os3 h
    exact mr_iret (pc := 14) rfl (rfl) dX6_has_14
  · replace h := (if_pos q1).symm.trans h
    refine mr_iconstv (pc := 9) (1 : Int32) dX6_has_9 (by decide) ?_
    refine mr_goto (pc := 10) 14 dX6_has_10 (by decide) ?_
    obtain ⟨rfl, rfl, rfl⟩ := os3 h
    exact mr_iret (pc := 14) rfl (rfl) dX6_has_14
set_option maxHeartbeats 4000000 in
set_option maxRecDepth 100000 in
theorem dc_Q_above_l4 : ∀ (n : Nat), ∀ (x1 : Int32) (x2 : Int32) (x3 : Int32) (σ : mS) (τ : mT) (r : Int32) (σ' : mS) (τ' : mT), Q_above_l4 n x1 x2 x3 σ τ = some (r, σ', τ') → mc_V M_X6_above 1 none 4 [.ref 34, .int x1, .int x2, .int x3] [] (mc_hp σ τ) (some (.int r)) (mc_hp σ' τ') 0 0 := by
  intro n
  induction n with
  | zero =>
    intros
    rename_i h
    cases h
  | succ n ih =>
    intro x1 x2 x3 σ τ r σ' τ' h
    refine mr_iload_n (pc := 4) dX6_above_4 rfl ?_
    refine mr_aload_n (pc := 5) dX6_above_5 rfl ?_
    obtain ⟨r1, σ1, τ1, c1, h⟩ := obs h
    refine mr_callV0 (pc := 6) (ci := 6) [] ok_X6_many lk_138 st_X6_many se_X6_many dX6_above_6 rfl (ha_34 σ τ) rfl rfl (Nat.le_of_ble_eq_true rfl) (Nat.le_of_ble_eq_true rfl) ((dc_Q_many c1).up (by decide)) ?_
    refine mr_icmp_ge (pc := 9) 41 dX6_above_9 (by decide) (fun q2 => ?_) (fun q2 => ?_)
    · replace h := (if_pos q2).symm.trans h
      refine mr_iload_n (pc := 41) dX6_above_41 rfl ?_
      obtain ⟨rfl, rfl, rfl⟩ := os3 h
      exact mr_iret (pc := 42) rfl (rfl) dX6_above_42
    · replace h := (if_neg q2).symm.trans h
      refine mr_iload_n (pc := 12) dX6_above_12 rfl ?_
      refine mr_aload_n (pc := 13) dX6_above_13 rfl ?_
      refine mr_getf (pc := 14) (ci := 6) inX6 rfl 8 (by decide) fl_37 dX6_above_14 (ha_34 σ1 τ1) rfl ?_
      refine mr_iload_n (pc := 17) dX6_above_17 rfl ?_
      obtain ⟨g3, h⟩ := og h
      refine mr_iald (pc := 18) dX6_above_18 (ha_41 σ1 τ1) (g3) ?_
      refine mr_iload_n (pc := 19) dX6_above_19 rfl ?_
      obtain ⟨r4, σ4, τ4, c4, h⟩ := obs h
      refine mr_callS0 (pc := 20) [.int (σ1 41 x3.toNatClampNeg), .int x1] ok_X6_has lk_140 st_X6_has dX6_above_20 rfl rfl (Nat.le_of_ble_eq_true rfl) (Nat.le_of_ble_eq_true rfl) ((dc_Q_has c4).up (by decide)) ?_
      refine mr_if_eq (pc := 23) 32 dX6_above_23 (by decide) (fun q5 => ?_) (fun q5 => ?_)
      · replace h := (if_pos q5).symm.trans h
        refine mr_iconstv (pc := 32) (0 : Int32) dX6_above_32 (by decide) ?_
        refine mr_ior (pc := 33) dX6_above_33 ?_
        refine mr_istore_n (pc := 34) dX6_above_34 (Nat.le_of_ble_eq_true rfl) (show mc_V M_X6_above 1 none 35 [.ref 34, .int x1, .int (x2 ||| (0 : Int32)), .int x3] [] (mc_hp σ4 τ4) (some (.int r)) (mc_hp σ' τ') 0 0 from ?_)
        refine mr_iincv (pc := 35) (1 : Int32) dX6_above_35 rfl (by decide) (show mc_V M_X6_above 1 none 38 [.ref 34, .int x1, .int (x2 ||| (0 : Int32)), .int (x3 + (1 : Int32))] [] (mc_hp σ4 τ4) (some (.int r)) (mc_hp σ' τ') 0 0 from ?_)
        refine mr_goto (pc := 38) 4 dX6_above_38 (by decide) ?_
        exact mc_V.locs (loc' := [.ref 34, .int x1, .int (x2 ||| (0 : Int32)), .int (x3 + (1 : Int32))]) ⟨Or.inr rfl, Or.inr rfl, Or.inr rfl, Or.inr rfl, trivial⟩ (ih x1 (x2 ||| (0 : Int32)) (x3 + (1 : Int32)) σ4 τ4 r σ' τ' h)
      · replace h := (if_neg q5).symm.trans h
        refine mr_iconstv (pc := 26) (1 : Int32) dX6_above_26 (by decide) ?_
        refine mr_iload_n (pc := 27) dX6_above_27 rfl ?_
        refine mr_ishl (pc := 28) dX6_above_28 ?_
        refine mr_goto (pc := 29) 33 dX6_above_29 (by decide) ?_
        refine mr_ior (pc := 33) dX6_above_33 ?_
        refine mr_istore_n (pc := 34) dX6_above_34 (Nat.le_of_ble_eq_true rfl) (show mc_V M_X6_above 1 none 35 [.ref 34, .int x1, .int (x2 ||| ((1 : Int32) <<< (x3 &&& 31))), .int x3] [] (mc_hp σ4 τ4) (some (.int r)) (mc_hp σ' τ') 0 0 from ?_)
        refine mr_iincv (pc := 35) (1 : Int32) dX6_above_35 rfl (by decide) (show mc_V M_X6_above 1 none 38 [.ref 34, .int x1, .int (x2 ||| ((1 : Int32) <<< (x3 &&& 31))), .int (x3 + (1 : Int32))] [] (mc_hp σ4 τ4) (some (.int r)) (mc_hp σ' τ') 0 0 from ?_)
        refine mr_goto (pc := 38) 4 dX6_above_38 (by decide) ?_
        exact mc_V.locs (loc' := [.ref 34, .int x1, .int (x2 ||| ((1 : Int32) <<< (x3 &&& 31))), .int (x3 + (1 : Int32))]) ⟨Or.inr rfl, Or.inr rfl, Or.inr rfl, Or.inr rfl, trivial⟩ (ih x1 (x2 ||| ((1 : Int32) <<< (x3 &&& 31))) (x3 + (1 : Int32)) σ4 τ4 r σ' τ' h)
set_option maxHeartbeats 4000000 in
set_option maxRecDepth 100000 in
theorem dc_Q_above {p1 : Int32} {σ : mS} {τ : mT} {r : Int32} {σ' : mS} {τ' : mT} (h : Q_above p1 σ τ = some (r, σ', τ')) : mc_V M_X6_above 1 none 0 (mc_entry [.ref 34, .int p1] 4) [] (mc_hp σ τ) (some (.int r)) (mc_hp σ' τ') 0 0 := by
  unfold Q_above at h
  show mc_V M_X6_above 1 none 0 [.ref 34, .int p1, .retAddr 0, .retAddr 0] [] (mc_hp σ τ) (some (.int r)) (mc_hp σ' τ') 0 0
  refine mr_iconstv (pc := 0) (0 : Int32) dX6_above_0 (by decide) ?_
  refine mr_istore_n (pc := 1) dX6_above_1 (Nat.le_of_ble_eq_true rfl) (show mc_V M_X6_above 1 none 2 [.ref 34, .int p1, .int (0 : Int32), .retAddr 0] [] (mc_hp σ τ) (some (.int r)) (mc_hp σ' τ') 0 0 from ?_)
  refine mr_iconstv (pc := 2) (0 : Int32) dX6_above_2 (by decide) ?_
  refine mr_istore_n (pc := 3) dX6_above_3 (Nat.le_of_ble_eq_true rfl) (show mc_V M_X6_above 1 none 4 [.ref 34, .int p1, .int (0 : Int32), .int (0 : Int32)] [] (mc_hp σ τ) (some (.int r)) (mc_hp σ' τ') 0 0 from ?_)
  exact mc_V.locs (loc' := [.ref 34, .int p1, .int (0 : Int32), .int (0 : Int32)]) ⟨Or.inr rfl, Or.inr rfl, Or.inr rfl, Or.inr rfl, trivial⟩ (dc_Q_above_l4 mc_F p1 (0 : Int32) (0 : Int32) σ τ r σ' τ' h)
set_option maxHeartbeats 4000000 in
set_option maxRecDepth 100000 in
theorem dc_Q_removes_l6 : ∀ (n : Nat), ∀ (x2 : Int32) (σ : mS) (τ : mT) (σ' : mS) (τ' : mT), Q_removes_l6 n x2 σ τ = some (σ', τ') → mc_V M_X6_removes 0 none 6 [.ref 34, .retAddr 0, .int x2] [] (mc_hp σ τ) none (mc_hp σ' τ') 0 0 := by
  intro n
  induction n with
  | zero =>
    intros
    rename_i h
    cases h
  | succ n ih =>
    intro x2 σ τ σ' τ' h
    refine mr_iload_n (pc := 6) dX6_removes_6 rfl ?_
    refine mr_iconstv (pc := 7) (5 : Int32) dX6_removes_7 (by decide) ?_
    refine mr_aload_n (pc := 8) dX6_removes_8 rfl ?_
    refine mr_getf (pc := 9) (ci := 6) inX6 rfl 0 (by decide) fl_31 dX6_removes_9 (ha_34 σ τ) rfl ?_
    refine mr_iconstv (pc := 12) (0 : Int32) dX6_removes_12 (by decide) ?_
    refine mr_iald (pc := 13) dX6_removes_13 (ha_35 σ τ) (vin_ok rfl) ?_
    refine mr_iconstv (pc := 14) (1 : Int32) dX6_removes_14 (by decide) ?_
    refine mr_isub (pc := 15) dX6_removes_15 ?_
    refine mr_imul (pc := 16) dX6_removes_16 ?_
    refine mr_icmp_gt (pc := 17) 40 dX6_removes_17 (by decide) (fun q1 => ?_) (fun q1 => ?_)
    · replace h := (if_pos q1).symm.trans h
      refine mr_aload_n (pc := 40) dX6_removes_40 rfl ?_
      refine mr_getf (pc := 41) (ci := 6) inX6 rfl 0 (by decide) fl_31 dX6_removes_41 (ha_34 σ τ) rfl ?_
      refine mr_iconstv (pc := 44) (0 : Int32) dX6_removes_44 (by decide) ?_
      refine mr_dup2 (pc := 45) dX6_removes_45 rfl rfl ?_
      refine mr_iald (pc := 46) dX6_removes_46 (ha_35 σ τ) (vin_ok rfl) ?_
      refine mr_iconstv (pc := 47) (1 : Int32) dX6_removes_47 (by decide) ?_
      refine mr_isub (pc := 48) dX6_removes_48 ?_
      obtain ⟨σ2, e2, h⟩ := ow h
      refine mr_iast (pc := 49) dX6_removes_49 (ha_35 σ τ) (vin_ok rfl) (mc_V.heap (hs_35 e2) ?_)
      obtain ⟨rfl, rfl⟩ := os2 h
      exact mr_ret (pc := 50) rfl dX6_removes_50
    · replace h := (if_neg q1).symm.trans h
      refine mr_aload_n (pc := 20) dX6_removes_20 rfl ?_
      refine mr_getf (pc := 21) (ci := 6) inX6 rfl 0 (by decide) fl_31 dX6_removes_21 (ha_34 σ τ) rfl ?_
      refine mr_iload_n (pc := 24) dX6_removes_24 rfl ?_
      refine mr_aload_n (pc := 25) dX6_removes_25 rfl ?_
      refine mr_getf (pc := 26) (ci := 6) inX6 rfl 0 (by decide) fl_31 dX6_removes_26 (ha_34 σ τ) rfl ?_
      refine mr_iload_n (pc := 29) dX6_removes_29 rfl ?_
      refine mr_iconstv (pc := 30) (5 : Int32) dX6_removes_30 (by decide) ?_
      refine mr_iadd (pc := 31) dX6_removes_31 ?_
      obtain ⟨g3, h⟩ := og h
      refine mr_iald (pc := 32) dX6_removes_32 (ha_35 σ τ) (g3) ?_
      obtain ⟨g4, h⟩ := og h
      obtain ⟨σ5, e5, h⟩ := ow h
      refine mr_iast (pc := 33) dX6_removes_33 (ha_35 σ τ) (g4) (mc_V.heap (hs_35 e5) ?_)
      refine mr_iincv (pc := 34) (1 : Int32) dX6_removes_34 rfl (by decide) (show mc_V M_X6_removes 0 none 37 [.ref 34, .retAddr 0, .int (x2 + (1 : Int32))] [] (mc_hp σ5 τ) none (mc_hp σ' τ') 0 0 from ?_)
      refine mr_goto (pc := 37) 6 dX6_removes_37 (by decide) ?_
      exact mc_V.locs (loc' := [.ref 34, .retAddr 0, .int (x2 + (1 : Int32))]) ⟨Or.inr rfl, Or.inl rfl, Or.inr rfl, trivial⟩ (ih (x2 + (1 : Int32)) σ5 τ σ' τ' h)
set_option maxHeartbeats 4000000 in
set_option maxRecDepth 100000 in
theorem dc_Q_removes {p1 : Int32} {σ : mS} {τ : mT} {σ' : mS} {τ' : mT} (h : Q_removes p1 σ τ = some (σ', τ')) : mc_V M_X6_removes 0 none 0 (mc_entry [.ref 34, .int p1] 3) [] (mc_hp σ τ) none (mc_hp σ' τ') 0 0 := by
  unfold Q_removes at h
  show mc_V M_X6_removes 0 none 0 [.ref 34, .int p1, .retAddr 0] [] (mc_hp σ τ) none (mc_hp σ' τ') 0 0
  refine mr_iconstv (pc := 0) (5 : Int32) dX6_removes_0 (by decide) ?_
  refine mr_iload_n (pc := 1) dX6_removes_1 rfl ?_
  refine mr_imul (pc := 2) dX6_removes_2 ?_
  refine mr_iconstv (pc := 3) (1 : Int32) dX6_removes_3 (by decide) ?_
  refine mr_iadd (pc := 4) dX6_removes_4 ?_
  refine mr_istore_n (pc := 5) dX6_removes_5 (Nat.le_of_ble_eq_true rfl) (show mc_V M_X6_removes 0 none 6 [.ref 34, .int p1, .int (((5 : Int32) * p1) + (1 : Int32))] [] (mc_hp σ τ) none (mc_hp σ' τ') 0 0 from ?_)
  exact mc_V.locs (loc' := [.ref 34, .retAddr 0, .int (((5 : Int32) * p1) + (1 : Int32))]) ⟨Or.inr rfl, Or.inl rfl, Or.inr rfl, trivial⟩ (dc_Q_removes_l6 mc_F (((5 : Int32) * p1) + (1 : Int32)) σ τ σ' τ' h)
set_option maxHeartbeats 4000000 in
set_option maxRecDepth 100000 in
theorem dc_Q_lifts {p1 : Int32} {σ : mS} {τ : mT} {r : Int32} {σ' : mS} {τ' : mT} (h : Q_lifts p1 σ τ = some (r, σ', τ')) : mc_V M_X6_lifts 6 none 0 (mc_entry [.ref 34, .int p1] 2) [] (mc_hp σ τ) (some (.int r)) (mc_hp σ' τ') 0 0 := by
  unfold Q_lifts at h
  show mc_V M_X6_lifts 6 none 0 [.ref 34, .int p1] [] (mc_hp σ τ) (some (.int r)) (mc_hp σ' τ') 0 0
  refine mr_aload_n (pc := 0) dX6_lifts_0 rfl ?_
  refine mr_iload_n (pc := 1) dX6_lifts_1 rfl ?_
  obtain ⟨r1, σ1, τ1, c1, h⟩ := obs h
  refine mr_callV0 (pc := 2) (ci := 6) [.int p1] ok_X6_isBlock lk_170 st_X6_isBlock se_X6_isBlock dX6_lifts_2 rfl (ha_34 σ τ) rfl rfl (Nat.le_of_ble_eq_true rfl) (Nat.le_of_ble_eq_true rfl) ((dc_Q_isBlock c1).up (by decide)) ?_
  refine mr_if_ne (pc := 5) 10 dX6_lifts_5 (by decide) (fun q2 => ?_) (fun q2 => ?_)
  · replace h := (if_neg q2).symm.trans h
    refine mr_aload_n (pc := 10) dX6_lifts_10 rfl ?_
    obtain ⟨σ3, τ3, c3, h⟩ := ovs h
    refine mr_callV0 (pc := 11) (ci := 6) [] ok_X6_layAll lk_152 st_X6_layAll se_X6_layAll dX6_lifts_11 rfl (ha_34 σ1 τ1) rfl rfl (Nat.le_of_ble_eq_true rfl) (Nat.le_of_ble_eq_true rfl) ((dc_Q_layAll c3).up (by decide)) ?_
    refine mr_aload_n (pc := 14) dX6_lifts_14 rfl ?_
    refine mr_iload_n (pc := 15) dX6_lifts_15 rfl ?_
    obtain ⟨r4, σ4, τ4, c4, h⟩ := obs h
    refine mr_callV0 (pc := 16) (ci := 6) [.int p1] ok_X6_above lk_171 st_X6_above se_X6_above dX6_lifts_16 rfl (ha_34 σ3 τ3) rfl rfl (Nat.le_of_ble_eq_true rfl) (Nat.le_of_ble_eq_true rfl) ((dc_Q_above c4).up (by decide)) ?_
    refine mr_if_eq (pc := 19) 25 dX6_lifts_19 (by decide) (fun q5 => ?_) (fun q5 => ?_)
    · replace h := (if_pos q5).symm.trans h
      refine mr_aload_n (pc := 25) dX6_lifts_25 rfl ?_
      refine mr_aload_n (pc := 26) dX6_lifts_26 rfl ?_
      refine mr_getf (pc := 27) (ci := 6) inX6 rfl 26 (by decide) fl_44 dX6_lifts_27 (ha_34 σ4 τ4) rfl ?_
      refine mr_iconstv (pc := 30) (0 : Int32) dX6_lifts_30 (by decide) ?_
      obtain ⟨σ6, τ6, c6, h⟩ := ovs h
      refine mr_callV0 (pc := 31) (ci := 6) [.ref 48, .int (0 : Int32)] ok_X6_lays lk_165 st_X6_lays se_X6_lays dX6_lifts_31 rfl (ha_34 σ4 τ4) rfl rfl (Nat.le_of_ble_eq_true rfl) (Nat.le_of_ble_eq_true rfl) ((dc_Q_lays_48 c6).up (by decide)) ?_
      refine mr_aload_n (pc := 34) dX6_lifts_34 rfl ?_
      obtain ⟨σ7, τ7, c7, h⟩ := ovs h
      refine mr_callV0 (pc := 35) (ci := 6) [] ok_X6_keeps lk_168 st_X6_keeps se_X6_keeps dX6_lifts_35 rfl (ha_34 σ6 τ6) rfl rfl (Nat.le_of_ble_eq_true rfl) (Nat.le_of_ble_eq_true rfl) ((dc_Q_keeps c7).up (by decide)) ?_
      refine mr_aload_n (pc := 38) dX6_lifts_38 rfl ?_
      refine mr_iload_n (pc := 39) dX6_lifts_39 rfl ?_
      obtain ⟨σ8, τ8, c8, h⟩ := ovs h
      refine mr_callV0 (pc := 40) (ci := 6) [.int p1] ok_X6_removes lk_172 st_X6_removes se_X6_removes dX6_lifts_40 rfl (ha_34 σ7 τ7) rfl rfl (Nat.le_of_ble_eq_true rfl) (Nat.le_of_ble_eq_true rfl) ((dc_Q_removes c8).up (by decide)) ?_
      refine mr_aload_n (pc := 43) dX6_lifts_43 rfl ?_
      refine mr_getf (pc := 44) (ci := 6) inX6 rfl 0 (by decide) fl_31 dX6_lifts_44 (ha_34 σ8 τ8) rfl ?_
      refine mr_iconstv (pc := 47) (0 : Int32) dX6_lifts_47 (by decide) ?_
      refine mr_iald (pc := 48) dX6_lifts_48 (ha_35 σ8 τ8) (vin_ok rfl) ?_
      obtain ⟨rfl, rfl, rfl⟩ := os3 h
      exact mr_iret (pc := 49) rfl (rfl) dX6_lifts_49
    · replace h := (if_neg q5).symm.trans h
      refine mr_bipushv (pc := 22) (-2 : Int32) dX6_lifts_22 (by decide) ?_
      obtain ⟨rfl, rfl, rfl⟩ := os3 h
      exact mr_iret (pc := 24) rfl (rfl) dX6_lifts_24
  · replace h := (if_pos q2).symm.trans h
    refine mr_iconstv (pc := 8) (-1 : Int32) dX6_lifts_8 (by decide) ?_
    obtain ⟨rfl, rfl, rfl⟩ := os3 h
    exact mr_iret (pc := 9) rfl (rfl) dX6_lifts_9
