set_option maxHeartbeats 4000000 in
set_option maxRecDepth 100000 in
theorem dc_B_makeshift_l5 : ∀ (n : Nat), ∀ (x1 : Int32) (x2 : Int64) (x4 : Int32) (σ : mS) (τ : mT) (r : Int64) (σ' : mS) (τ' : mT), B_makeshift_l5 n x1 x2 x4 σ τ = some (r, σ', τ') → mc_V M_X0_makeshift 0 none 5 [.ref 15, .int x1, .long x2, .retAddr 0, .int x4] [] (mc_hp σ τ) (some (.long r)) (mc_hp σ' τ') 0 0 := by
  intro n
  induction n with
  | zero =>
    intros
    rename_i h
    cases h
  | succ n ih =>
    intro x1 x2 x4 σ τ r σ' τ' h
    refine mr_iload (pc := 5) dX0_makeshift_5 rfl ?_
    refine mr_aload_n (pc := 7) dX0_makeshift_7 rfl ?_
    refine mr_getf (pc := 8) (ci := 0) inX0 rfl 3 (by decide) fl_12 dX0_makeshift_8 (ha_15 σ τ) rfl ?_
    refine mr_icmp_ge (pc := 11) 44 dX0_makeshift_11 (by decide) (fun q1 => ?_) (fun q1 => ?_)
    · replace h := (if_pos q1).symm.trans h
      refine mr_lload_n (pc := 44) dX0_makeshift_44 rfl ?_
      obtain ⟨rfl, rfl, rfl⟩ := os3 h
      exact mr_lret (pc := 45) rfl dX0_makeshift_45
    · replace h := (if_neg q1).symm.trans h
      refine mr_aload_n (pc := 14) dX0_makeshift_14 rfl ?_
      refine mr_getf (pc := 15) (ci := 0) inX0 rfl 1 (by decide) fl_10 dX0_makeshift_15 (ha_15 σ τ) rfl ?_
      refine mr_iload (pc := 18) dX0_makeshift_18 rfl ?_
      obtain ⟨g2, h⟩ := og h
      refine mr_iald (pc := 20) dX0_makeshift_20 (ha_25 σ τ) (g2) ?_
      refine mr_bipushv (pc := 21) (13 : Int32) dX0_makeshift_21 (by decide) ?_
      refine mr_icmp_lt (pc := 23) 38 dX0_makeshift_23 (by decide) (fun q3 => ?_) (fun q3 => ?_)
      · replace h := (if_pos q3).symm.trans h
        refine mr_iincv (pc := 38) (1 : Int32) dX0_makeshift_38 rfl (by decide) (show mc_V M_X0_makeshift 0 none 41 [.ref 15, .int x1, .long x2, .retAddr 0, .int (x4 + (1 : Int32))] [] (mc_hp σ τ) (some (.long r)) (mc_hp σ' τ') 0 0 from ?_)
        refine mr_goto (pc := 41) 5 dX0_makeshift_41 (by decide) ?_
        exact mc_V.locs (loc' := [.ref 15, .int x1, .long x2, .retAddr 0, .int (x4 + (1 : Int32))]) ⟨Or.inr rfl, Or.inr rfl, Or.inr rfl, Or.inl rfl, Or.inr rfl, trivial⟩ (ih x1 x2 (x4 + (1 : Int32)) σ τ r σ' τ' h)
      · replace h := (if_neg q3).symm.trans h
        refine mr_lload_n (pc := 26) dX0_makeshift_26 rfl ?_
        refine mr_aload_n (pc := 27) dX0_makeshift_27 rfl ?_
        refine mr_getf (pc := 28) (ci := 0) inX0 rfl 0 (by decide) fl_9 dX0_makeshift_28 (ha_15 σ τ) rfl ?_
        refine mr_iload (pc := 31) dX0_makeshift_31 rfl ?_
        refine mr_aald (pc := 33) dX0_makeshift_33 (ha_16 σ τ) (g2) (gr_some (g2)) ?_
        refine mr_iload_n (pc := 34) dX0_makeshift_34 rfl ?_
        obtain ⟨g4, h⟩ := og h
        refine mr_gld (pc := 35) dX0_makeshift_35 (g2) (g4) ?_
        refine mr_ladd (pc := 36) dX0_makeshift_36 ?_
        refine mr_lstore_n (pc := 37) dX0_makeshift_37 (Nat.le_of_ble_eq_true rfl) (show mc_V M_X0_makeshift 0 none 38 [.ref 15, .int x1, .long (x2 + (τ (17 + x4.toNatClampNeg) x1.toNatClampNeg)), .retAddr 0, .int x4] [] (mc_hp σ τ) (some (.long r)) (mc_hp σ' τ') 0 0 from ?_)
        refine mr_iincv (pc := 38) (1 : Int32) dX0_makeshift_38 rfl (by decide) (show mc_V M_X0_makeshift 0 none 41 [.ref 15, .int x1, .long (x2 + (τ (17 + x4.toNatClampNeg) x1.toNatClampNeg)), .retAddr 0, .int (x4 + (1 : Int32))] [] (mc_hp σ τ) (some (.long r)) (mc_hp σ' τ') 0 0 from ?_)
        refine mr_goto (pc := 41) 5 dX0_makeshift_41 (by decide) ?_
        exact mc_V.locs (loc' := [.ref 15, .int x1, .long (x2 + (τ (17 + x4.toNatClampNeg) x1.toNatClampNeg)), .retAddr 0, .int (x4 + (1 : Int32))]) ⟨Or.inr rfl, Or.inr rfl, Or.inr rfl, Or.inl rfl, Or.inr rfl, trivial⟩ (ih x1 (x2 + (τ (17 + x4.toNatClampNeg) x1.toNatClampNeg)) (x4 + (1 : Int32)) σ τ r σ' τ' h)
set_option maxHeartbeats 4000000 in
set_option maxRecDepth 100000 in
theorem dc_B_makeshift {p1 : Int32} {σ : mS} {τ : mT} {r : Int64} {σ' : mS} {τ' : mT} (h : B_makeshift p1 σ τ = some (r, σ', τ')) : mc_V M_X0_makeshift 0 none 0 (mc_entry [.ref 15, .int p1] 5) [] (mc_hp σ τ) (some (.long r)) (mc_hp σ' τ') 0 0 := by
  unfold B_makeshift at h
  show mc_V M_X0_makeshift 0 none 0 [.ref 15, .int p1, .retAddr 0, .retAddr 0, .retAddr 0] [] (mc_hp σ τ) (some (.long r)) (mc_hp σ' τ') 0 0
  refine mr_lconstv (pc := 0) (0 : Int64) dX0_makeshift_0 (by decide) ?_
  refine mr_lstore_n (pc := 1) dX0_makeshift_1 (Nat.le_of_ble_eq_true rfl) (show mc_V M_X0_makeshift 0 none 2 [.ref 15, .int p1, .long (0 : Int64), .retAddr 0, .retAddr 0] [] (mc_hp σ τ) (some (.long r)) (mc_hp σ' τ') 0 0 from ?_)
  refine mr_iconstv (pc := 2) (0 : Int32) dX0_makeshift_2 (by decide) ?_
  refine mr_istore (pc := 3) dX0_makeshift_3 (Nat.le_of_ble_eq_true rfl) (show mc_V M_X0_makeshift 0 none 5 [.ref 15, .int p1, .long (0 : Int64), .retAddr 0, .int (0 : Int32)] [] (mc_hp σ τ) (some (.long r)) (mc_hp σ' τ') 0 0 from ?_)
  exact mc_V.locs (loc' := [.ref 15, .int p1, .long (0 : Int64), .retAddr 0, .int (0 : Int32)]) ⟨Or.inr rfl, Or.inr rfl, Or.inr rfl, Or.inl rfl, Or.inr rfl, trivial⟩ (dc_B_makeshift_l5 mc_F p1 (0 : Int64) (0 : Int32) σ τ r σ' τ' h)
set_option maxHeartbeats 4000000 in
set_option maxRecDepth 100000 in
theorem dc_B_clearBy_l23 : ∀ (n : Nat), ∀ (x1 : Int32) (x2 : Int32) (x4 : Int64) (x6 : Int64) (x8 : Int32) (σ : mS) (τ : mT) (σ' : mS) (τ' : mT), B_clearBy_l23 n x1 x2 x4 x6 x8 σ τ = some (σ', τ') → mc_V M_X0_clearBy 0 none 23 [.ref 15, .int x1, .int x2, .retAddr 0, .long x4, .retAddr 0, .long x6, .retAddr 0, .int x8] [] (mc_hp σ τ) none (mc_hp σ' τ') 0 0 := by
  intro n
  induction n with
  | zero =>
    intros
    rename_i h
    cases h
  | succ n ih =>
    intro x1 x2 x4 x6 x8 σ τ σ' τ' h
    refine mr_iload (pc := 23) dX0_clearBy_23 rfl ?_
    refine mr_aload_n (pc := 25) dX0_clearBy_25 rfl ?_
    refine mr_getf (pc := 26) (ci := 0) inX0 rfl 4 (by decide) fl_13 dX0_clearBy_26 (ha_15 σ τ) rfl ?_
    refine mr_icmp_ge (pc := 29) 77 dX0_clearBy_29 (by decide) (fun q1 => ?_) (fun q1 => ?_)
    · replace h := (if_pos q1).symm.trans h
      refine mr_aload_n (pc := 77) dX0_clearBy_77 rfl ?_
      refine mr_getf (pc := 78) (ci := 0) inX0 rfl 0 (by decide) fl_9 dX0_clearBy_78 (ha_15 σ τ) rfl ?_
      refine mr_iload_n (pc := 81) dX0_clearBy_81 rfl ?_
      obtain ⟨g2, h⟩ := og h
      refine mr_aald (pc := 82) dX0_clearBy_82 (ha_16 σ τ) (g2) (gr_some (g2)) ?_
      refine mr_bipushv (pc := 83) (13 : Int32) dX0_clearBy_83 (by decide) ?_
      refine mr_aload_n (pc := 85) dX0_clearBy_85 rfl ?_
      refine mr_getf (pc := 86) (ci := 0) inX0 rfl 0 (by decide) fl_9 dX0_clearBy_86 (ha_15 σ τ) rfl ?_
      refine mr_iload_n (pc := 89) dX0_clearBy_89 rfl ?_
      refine mr_aald (pc := 90) dX0_clearBy_90 (ha_16 σ τ) (g2) (gr_some (g2)) ?_
      refine mr_bipushv (pc := 91) (13 : Int32) dX0_clearBy_91 (by decide) ?_
      refine mr_gld (pc := 93) dX0_clearBy_93 (g2) (vin_ok rfl) ?_
      refine mr_lload (pc := 94) dX0_clearBy_94 rfl ?_
      refine mr_lmul (pc := 96) dX0_clearBy_96 ?_
      refine mr_lload (pc := 97) dX0_clearBy_97 rfl ?_
      refine mr_aload_n (pc := 99) dX0_clearBy_99 rfl ?_
      refine mr_getf (pc := 100) (ci := 0) inX0 rfl 0 (by decide) fl_9 dX0_clearBy_100 (ha_15 σ τ) rfl ?_
      refine mr_iload_n (pc := 103) dX0_clearBy_103 rfl ?_
      obtain ⟨g3, h⟩ := og h
      refine mr_aald (pc := 104) dX0_clearBy_104 (ha_16 σ τ) (g3) (gr_some (g3)) ?_
      refine mr_bipushv (pc := 105) (13 : Int32) dX0_clearBy_105 (by decide) ?_
      refine mr_gld (pc := 107) dX0_clearBy_107 (g3) (vin_ok rfl) ?_
      refine mr_lmul (pc := 108) dX0_clearBy_108 ?_
      refine mr_lsub (pc := 109) dX0_clearBy_109 ?_
      refine mr_aload_n (pc := 110) dX0_clearBy_110 rfl ?_
      refine mr_getf (pc := 111) (ci := 0) inX0 rfl 5 (by decide) fl_14 dX0_clearBy_111 (ha_15 σ τ) rfl ?_
      obtain ⟨g4, h⟩ := og h
      refine mr_ldiv (pc := 114) dX0_clearBy_114 g4 ?_
      obtain ⟨τ5, e5, h⟩ := ow h
      refine mr_gst (pc := 115) dX0_clearBy_115 (g2) (vin_ok rfl) e5 ?_
      obtain ⟨rfl, rfl⟩ := os2 h
      exact mr_ret (pc := 116) rfl dX0_clearBy_116
    · replace h := (if_neg q1).symm.trans h
      refine mr_aload_n (pc := 32) dX0_clearBy_32 rfl ?_
      refine mr_getf (pc := 33) (ci := 0) inX0 rfl 0 (by decide) fl_9 dX0_clearBy_33 (ha_15 σ τ) rfl ?_
      refine mr_iload_n (pc := 36) dX0_clearBy_36 rfl ?_
      obtain ⟨g6, h⟩ := og h
      refine mr_aald (pc := 37) dX0_clearBy_37 (ha_16 σ τ) (g6) (gr_some (g6)) ?_
      refine mr_iload (pc := 38) dX0_clearBy_38 rfl ?_
      refine mr_aload_n (pc := 40) dX0_clearBy_40 rfl ?_
      refine mr_getf (pc := 41) (ci := 0) inX0 rfl 0 (by decide) fl_9 dX0_clearBy_41 (ha_15 σ τ) rfl ?_
      refine mr_iload_n (pc := 44) dX0_clearBy_44 rfl ?_
      refine mr_aald (pc := 45) dX0_clearBy_45 (ha_16 σ τ) (g6) (gr_some (g6)) ?_
      refine mr_iload (pc := 46) dX0_clearBy_46 rfl ?_
      obtain ⟨g7, h⟩ := og h
      refine mr_gld (pc := 48) dX0_clearBy_48 (g6) (g7) ?_
      refine mr_lload (pc := 49) dX0_clearBy_49 rfl ?_
      refine mr_lmul (pc := 51) dX0_clearBy_51 ?_
      refine mr_lload (pc := 52) dX0_clearBy_52 rfl ?_
      refine mr_aload_n (pc := 54) dX0_clearBy_54 rfl ?_
      refine mr_getf (pc := 55) (ci := 0) inX0 rfl 0 (by decide) fl_9 dX0_clearBy_55 (ha_15 σ τ) rfl ?_
      refine mr_iload_n (pc := 58) dX0_clearBy_58 rfl ?_
      obtain ⟨g8, h⟩ := og h
      refine mr_aald (pc := 59) dX0_clearBy_59 (ha_16 σ τ) (g8) (gr_some (g8)) ?_
      refine mr_iload (pc := 60) dX0_clearBy_60 rfl ?_
      refine mr_gld (pc := 62) dX0_clearBy_62 (g8) (g7) ?_
      refine mr_lmul (pc := 63) dX0_clearBy_63 ?_
      refine mr_lsub (pc := 64) dX0_clearBy_64 ?_
      refine mr_aload_n (pc := 65) dX0_clearBy_65 rfl ?_
      refine mr_getf (pc := 66) (ci := 0) inX0 rfl 5 (by decide) fl_14 dX0_clearBy_66 (ha_15 σ τ) rfl ?_
      obtain ⟨g9, h⟩ := og h
      refine mr_ldiv (pc := 69) dX0_clearBy_69 g9 ?_
      obtain ⟨τ10, e10, h⟩ := ow h
      refine mr_gst (pc := 70) dX0_clearBy_70 (g6) (g7) e10 ?_
      refine mr_iincv (pc := 71) (1 : Int32) dX0_clearBy_71 rfl (by decide) (show mc_V M_X0_clearBy 0 none 74 [.ref 15, .int x1, .int x2, .retAddr 0, .long x4, .retAddr 0, .long x6, .retAddr 0, .int (x8 + (1 : Int32))] [] (mc_hp σ τ10) none (mc_hp σ' τ') 0 0 from ?_)
      refine mr_goto (pc := 74) 23 dX0_clearBy_74 (by decide) ?_
      exact mc_V.locs (loc' := [.ref 15, .int x1, .int x2, .retAddr 0, .long x4, .retAddr 0, .long x6, .retAddr 0, .int (x8 + (1 : Int32))]) ⟨Or.inr rfl, Or.inr rfl, Or.inr rfl, Or.inl rfl, Or.inr rfl, Or.inl rfl, Or.inr rfl, Or.inl rfl, Or.inr rfl, trivial⟩ (ih x1 x2 x4 x6 (x8 + (1 : Int32)) σ τ10 σ' τ' h)
set_option maxHeartbeats 4000000 in
set_option maxRecDepth 100000 in
theorem dc_B_clearBy {p1 : Int32} {p2 : Int32} {p3 : Int32} {σ : mS} {τ : mT} {σ' : mS} {τ' : mT} (h : B_clearBy p1 p2 p3 σ τ = some (σ', τ')) : mc_V M_X0_clearBy 0 none 0 (mc_entry [.ref 15, .int p1, .int p2, .int p3] 9) [] (mc_hp σ τ) none (mc_hp σ' τ') 0 0 := by
  unfold B_clearBy at h
  show mc_V M_X0_clearBy 0 none 0 [.ref 15, .int p1, .int p2, .int p3, .retAddr 0, .retAddr 0, .retAddr 0, .retAddr 0, .retAddr 0] [] (mc_hp σ τ) none (mc_hp σ' τ') 0 0
  refine mr_aload_n (pc := 0) dX0_clearBy_0 rfl ?_
  refine mr_getf (pc := 1) (ci := 0) inX0 rfl 0 (by decide) fl_9 dX0_clearBy_1 (ha_15 σ τ) rfl ?_
  refine mr_iload_n (pc := 4) dX0_clearBy_4 rfl ?_
  obtain ⟨g1, h⟩ := og h
  refine mr_aald (pc := 5) dX0_clearBy_5 (ha_16 σ τ) (g1) (gr_some (g1)) ?_
  refine mr_iload_n (pc := 6) dX0_clearBy_6 rfl ?_
  obtain ⟨g2, h⟩ := og h
  refine mr_gld (pc := 7) dX0_clearBy_7 (g1) (g2) ?_
  refine mr_lstore (pc := 8) dX0_clearBy_8 (Nat.le_of_ble_eq_true rfl) (show mc_V M_X0_clearBy 0 none 10 [.ref 15, .int p1, .int p2, .int p3, .long (τ (17 + p2.toNatClampNeg) p3.toNatClampNeg), .retAddr 0, .retAddr 0, .retAddr 0, .retAddr 0] [] (mc_hp σ τ) none (mc_hp σ' τ') 0 0 from ?_)
  refine mr_aload_n (pc := 10) dX0_clearBy_10 rfl ?_
  refine mr_getf (pc := 11) (ci := 0) inX0 rfl 0 (by decide) fl_9 dX0_clearBy_11 (ha_15 σ τ) rfl ?_
  refine mr_iload_n (pc := 14) dX0_clearBy_14 rfl ?_
  obtain ⟨g3, h⟩ := og h
  refine mr_aald (pc := 15) dX0_clearBy_15 (ha_16 σ τ) (g3) (gr_some (g3)) ?_
  refine mr_iload_n (pc := 16) dX0_clearBy_16 rfl ?_
  refine mr_gld (pc := 17) dX0_clearBy_17 (g3) (g2) ?_
  refine mr_lstore (pc := 18) dX0_clearBy_18 (Nat.le_of_ble_eq_true rfl) (show mc_V M_X0_clearBy 0 none 20 [.ref 15, .int p1, .int p2, .int p3, .long (τ (17 + p2.toNatClampNeg) p3.toNatClampNeg), .retAddr 0, .long (τ (17 + p1.toNatClampNeg) p3.toNatClampNeg), .retAddr 0, .retAddr 0] [] (mc_hp σ τ) none (mc_hp σ' τ') 0 0 from ?_)
  refine mr_iconstv (pc := 20) (0 : Int32) dX0_clearBy_20 (by decide) ?_
  refine mr_istore (pc := 21) dX0_clearBy_21 (Nat.le_of_ble_eq_true rfl) (show mc_V M_X0_clearBy 0 none 23 [.ref 15, .int p1, .int p2, .int p3, .long (τ (17 + p2.toNatClampNeg) p3.toNatClampNeg), .retAddr 0, .long (τ (17 + p1.toNatClampNeg) p3.toNatClampNeg), .retAddr 0, .int (0 : Int32)] [] (mc_hp σ τ) none (mc_hp σ' τ') 0 0 from ?_)
  exact mc_V.locs (loc' := [.ref 15, .int p1, .int p2, .retAddr 0, .long (τ (17 + p2.toNatClampNeg) p3.toNatClampNeg), .retAddr 0, .long (τ (17 + p1.toNatClampNeg) p3.toNatClampNeg), .retAddr 0, .int (0 : Int32)]) ⟨Or.inr rfl, Or.inr rfl, Or.inr rfl, Or.inl rfl, Or.inr rfl, Or.inl rfl, Or.inr rfl, Or.inl rfl, Or.inr rfl, trivial⟩ (dc_B_clearBy_l23 mc_F p1 p2 (τ (17 + p2.toNatClampNeg) p3.toNatClampNeg) (τ (17 + p1.toNatClampNeg) p3.toNatClampNeg) (0 : Int32) σ τ σ' τ' h)
set_option maxHeartbeats 4000000 in
set_option maxRecDepth 100000 in
theorem dc_B_turnSigns_l2 : ∀ (n : Nat), ∀ (x1 : Int32) (x2 : Int32) (σ : mS) (τ : mT) (σ' : mS) (τ' : mT), B_turnSigns_l2 n x1 x2 σ τ = some (σ', τ') → mc_V M_X0_turnSigns 0 none 2 [.ref 15, .int x1, .int x2] [] (mc_hp σ τ) none (mc_hp σ' τ') 0 0 := by
  intro n
  induction n with
  | zero =>
    intros
    rename_i h
    cases h
  | succ n ih =>
    intro x1 x2 σ τ σ' τ' h
    refine mr_iload_n (pc := 2) dX0_turnSigns_2 rfl ?_
    refine mr_aload_n (pc := 3) dX0_turnSigns_3 rfl ?_
    refine mr_getf (pc := 4) (ci := 0) inX0 rfl 4 (by decide) fl_13 dX0_turnSigns_4 (ha_15 σ τ) rfl ?_
    refine mr_icmp_ge (pc := 7) 33 dX0_turnSigns_7 (by decide) (fun q1 => ?_) (fun q1 => ?_)
    · replace h := (if_pos q1).symm.trans h
      refine mr_aload_n (pc := 33) dX0_turnSigns_33 rfl ?_
      refine mr_getf (pc := 34) (ci := 0) inX0 rfl 0 (by decide) fl_9 dX0_turnSigns_34 (ha_15 σ τ) rfl ?_
      refine mr_iload_n (pc := 37) dX0_turnSigns_37 rfl ?_
      obtain ⟨g2, h⟩ := og h
      refine mr_aald (pc := 38) dX0_turnSigns_38 (ha_16 σ τ) (g2) (gr_some (g2)) ?_
      refine mr_bipushv (pc := 39) (13 : Int32) dX0_turnSigns_39 (by decide) ?_
      refine mr_aload_n (pc := 41) dX0_turnSigns_41 rfl ?_
      refine mr_getf (pc := 42) (ci := 0) inX0 rfl 0 (by decide) fl_9 dX0_turnSigns_42 (ha_15 σ τ) rfl ?_
      refine mr_iload_n (pc := 45) dX0_turnSigns_45 rfl ?_
      refine mr_aald (pc := 46) dX0_turnSigns_46 (ha_16 σ τ) (g2) (gr_some (g2)) ?_
      refine mr_bipushv (pc := 47) (13 : Int32) dX0_turnSigns_47 (by decide) ?_
      refine mr_gld (pc := 49) dX0_turnSigns_49 (g2) (vin_ok rfl) ?_
      refine mr_lneg (pc := 50) dX0_turnSigns_50 ?_
      obtain ⟨τ3, e3, h⟩ := ow h
      refine mr_gst (pc := 51) dX0_turnSigns_51 (g2) (vin_ok rfl) e3 ?_
      obtain ⟨rfl, rfl⟩ := os2 h
      exact mr_ret (pc := 52) rfl dX0_turnSigns_52
    · replace h := (if_neg q1).symm.trans h
      refine mr_aload_n (pc := 10) dX0_turnSigns_10 rfl ?_
      refine mr_getf (pc := 11) (ci := 0) inX0 rfl 0 (by decide) fl_9 dX0_turnSigns_11 (ha_15 σ τ) rfl ?_
      refine mr_iload_n (pc := 14) dX0_turnSigns_14 rfl ?_
      obtain ⟨g4, h⟩ := og h
      refine mr_aald (pc := 15) dX0_turnSigns_15 (ha_16 σ τ) (g4) (gr_some (g4)) ?_
      refine mr_iload_n (pc := 16) dX0_turnSigns_16 rfl ?_
      refine mr_aload_n (pc := 17) dX0_turnSigns_17 rfl ?_
      refine mr_getf (pc := 18) (ci := 0) inX0 rfl 0 (by decide) fl_9 dX0_turnSigns_18 (ha_15 σ τ) rfl ?_
      refine mr_iload_n (pc := 21) dX0_turnSigns_21 rfl ?_
      refine mr_aald (pc := 22) dX0_turnSigns_22 (ha_16 σ τ) (g4) (gr_some (g4)) ?_
      refine mr_iload_n (pc := 23) dX0_turnSigns_23 rfl ?_
      obtain ⟨g5, h⟩ := og h
      refine mr_gld (pc := 24) dX0_turnSigns_24 (g4) (g5) ?_
      refine mr_lneg (pc := 25) dX0_turnSigns_25 ?_
      obtain ⟨τ6, e6, h⟩ := ow h
      refine mr_gst (pc := 26) dX0_turnSigns_26 (g4) (g5) e6 ?_
      refine mr_iincv (pc := 27) (1 : Int32) dX0_turnSigns_27 rfl (by decide) (show mc_V M_X0_turnSigns 0 none 30 [.ref 15, .int x1, .int (x2 + (1 : Int32))] [] (mc_hp σ τ6) none (mc_hp σ' τ') 0 0 from ?_)
      refine mr_goto (pc := 30) 2 dX0_turnSigns_30 (by decide) ?_
      exact mc_V.locs (loc' := [.ref 15, .int x1, .int (x2 + (1 : Int32))]) ⟨Or.inr rfl, Or.inr rfl, Or.inr rfl, trivial⟩ (ih x1 (x2 + (1 : Int32)) σ τ6 σ' τ' h)
set_option maxHeartbeats 4000000 in
set_option maxRecDepth 100000 in
theorem dc_B_turnSigns {p1 : Int32} {σ : mS} {τ : mT} {σ' : mS} {τ' : mT} (h : B_turnSigns p1 σ τ = some (σ', τ')) : mc_V M_X0_turnSigns 0 none 0 (mc_entry [.ref 15, .int p1] 3) [] (mc_hp σ τ) none (mc_hp σ' τ') 0 0 := by
  unfold B_turnSigns at h
  show mc_V M_X0_turnSigns 0 none 0 [.ref 15, .int p1, .retAddr 0] [] (mc_hp σ τ) none (mc_hp σ' τ') 0 0
  refine mr_iconstv (pc := 0) (0 : Int32) dX0_turnSigns_0 (by decide) ?_
  refine mr_istore_n (pc := 1) dX0_turnSigns_1 (Nat.le_of_ble_eq_true rfl) (show mc_V M_X0_turnSigns 0 none 2 [.ref 15, .int p1, .int (0 : Int32)] [] (mc_hp σ τ) none (mc_hp σ' τ') 0 0 from ?_)
  exact mc_V.locs (loc' := [.ref 15, .int p1, .int (0 : Int32)]) ⟨Or.inr rfl, Or.inr rfl, Or.inr rfl, trivial⟩ (dc_B_turnSigns_l2 mc_F p1 (0 : Int32) σ τ σ' τ' h)
set_option maxHeartbeats 4000000 in
set_option maxRecDepth 100000 in
theorem dc_B_pivot_l46 : ∀ (n : Nat), ∀ (x1 : Int32) (x2 : Int32) (x3 : Int64) (x5 : Int32) (σ : mS) (τ : mT) (σ' : mS) (τ' : mT), B_pivot_l46 n x1 x2 x3 x5 σ τ = some (σ', τ') → mc_V M_X0_pivot 1 none 46 [.ref 15, .int x1, .int x2, .long x3, .retAddr 0, .int x5] [] (mc_hp σ τ) none (mc_hp σ' τ') 0 0 := by
  intro n
  induction n with
  | zero =>
    intros
    rename_i h
    cases h
  | succ n ih =>
    intro x1 x2 x3 x5 σ τ σ' τ' h
    refine mr_iload (pc := 46) dX0_pivot_46 rfl ?_
    refine mr_aload_n (pc := 48) dX0_pivot_48 rfl ?_
    refine mr_getf (pc := 49) (ci := 0) inX0 rfl 3 (by decide) fl_12 dX0_pivot_49 (ha_15 σ τ) rfl ?_
    refine mr_icmp_ge (pc := 52) 75 dX0_pivot_52 (by decide) (fun q1 => ?_) (fun q1 => ?_)
    · replace h := (if_pos q1).symm.trans h
      refine mr_aload_n (pc := 75) dX0_pivot_75 rfl ?_
      refine mr_lload_n (pc := 76) dX0_pivot_76 rfl ?_
      obtain ⟨τ2, e2, h⟩ := ow h
      refine mr_putf (pc := 77) (ci := 0) inX0 tyX0 tyX0_ok nmX0 rfl 5 (by decide) fl_14 rfl dX0_pivot_77 (ha_15 σ τ) (Nat.le_of_ble_eq_true rfl) rfl (mc_V.heap (hs_15_5 e2) ?_)
      refine mr_aload_n (pc := 80) dX0_pivot_80 rfl ?_
      refine mr_getf (pc := 81) (ci := 0) inX0 rfl 1 (by decide) fl_10 dX0_pivot_81 (ha_15 σ τ2) rfl ?_
      refine mr_iload_n (pc := 84) dX0_pivot_84 rfl ?_
      refine mr_iload_n (pc := 85) dX0_pivot_85 rfl ?_
      obtain ⟨g3, h⟩ := og h
      obtain ⟨σ4, e4, h⟩ := ow h
      refine mr_iast (pc := 86) dX0_pivot_86 (ha_25 σ τ2) (g3) (mc_V.heap (hs_25 e4) ?_)
      obtain ⟨rfl, rfl⟩ := os2 h
      exact mr_ret (pc := 87) rfl dX0_pivot_87
    · replace h := (if_neg q1).symm.trans h
      refine mr_iload (pc := 55) dX0_pivot_55 rfl ?_
      refine mr_iload_n (pc := 57) dX0_pivot_57 rfl ?_
      refine mr_icmp_eq (pc := 58) 69 dX0_pivot_58 (by decide) (fun q5 => ?_) (fun q5 => ?_)
      · replace h := (if_pos q5).symm.trans h
        refine mr_iincv (pc := 69) (1 : Int32) dX0_pivot_69 rfl (by decide) (show mc_V M_X0_pivot 1 none 72 [.ref 15, .int x1, .int x2, .long x3, .retAddr 0, .int (x5 + (1 : Int32))] [] (mc_hp σ τ) none (mc_hp σ' τ') 0 0 from ?_)
        refine mr_goto (pc := 72) 46 dX0_pivot_72 (by decide) ?_
        exact mc_V.locs (loc' := [.ref 15, .int x1, .int x2, .long x3, .retAddr 0, .int (x5 + (1 : Int32))]) ⟨Or.inr rfl, Or.inr rfl, Or.inr rfl, Or.inr rfl, Or.inl rfl, Or.inr rfl, trivial⟩ (ih x1 x2 x3 (x5 + (1 : Int32)) σ τ σ' τ' h)
      · replace h := (if_neg q5).symm.trans h
        refine mr_aload_n (pc := 61) dX0_pivot_61 rfl ?_
        refine mr_iload (pc := 62) dX0_pivot_62 rfl ?_
        refine mr_iload_n (pc := 64) dX0_pivot_64 rfl ?_
        refine mr_iload_n (pc := 65) dX0_pivot_65 rfl ?_
        obtain ⟨σ6, τ6, c6, h⟩ := ovs h
        refine mr_callV0 (pc := 66) (ci := 0) [.int x5, .int x1, .int x2] ok_X0_clearBy lk_58 st_X0_clearBy se_X0_clearBy dX0_pivot_66 rfl (ha_15 σ τ) rfl rfl (Nat.le_of_ble_eq_true rfl) (Nat.le_of_ble_eq_true rfl) ((dc_B_clearBy c6).up (by decide)) ?_
        refine mr_iincv (pc := 69) (1 : Int32) dX0_pivot_69 rfl (by decide) (show mc_V M_X0_pivot 1 none 72 [.ref 15, .int x1, .int x2, .long x3, .retAddr 0, .int (x5 + (1 : Int32))] [] (mc_hp σ6 τ6) none (mc_hp σ' τ') 0 0 from ?_)
        refine mr_goto (pc := 72) 46 dX0_pivot_72 (by decide) ?_
        exact mc_V.locs (loc' := [.ref 15, .int x1, .int x2, .long x3, .retAddr 0, .int (x5 + (1 : Int32))]) ⟨Or.inr rfl, Or.inr rfl, Or.inr rfl, Or.inr rfl, Or.inl rfl, Or.inr rfl, trivial⟩ (ih x1 x2 x3 (x5 + (1 : Int32)) σ6 τ6 σ' τ' h)
set_option maxHeartbeats 4000000 in
set_option maxRecDepth 100000 in
theorem dc_B_pivot_b18 : ∀ (x1 : Int32) (x2 : Int32) (σ : mS) (τ : mT) (σ' : mS) (τ' : mT), B_pivot_b18 x1 x2 σ τ = some (σ', τ') → mc_V M_X0_pivot 1 none 18 [.ref 15, .int x1, .int x2, .retAddr 0, .retAddr 0, .retAddr 0] [] (mc_hp σ τ) none (mc_hp σ' τ') 0 0 := by
  intro x1 x2 σ τ σ' τ' h
  unfold B_pivot_b18 at h
  refine mr_aload_n (pc := 18) dX0_pivot_18 rfl ?_
  refine mr_getf (pc := 19) (ci := 0) inX0 rfl 0 (by decide) fl_9 dX0_pivot_19 (ha_15 σ τ) rfl ?_
  refine mr_iload_n (pc := 22) dX0_pivot_22 rfl ?_
  obtain ⟨g1, h⟩ := og h
  refine mr_aald (pc := 23) dX0_pivot_23 (ha_16 σ τ) (g1) (gr_some (g1)) ?_
  refine mr_iload_n (pc := 24) dX0_pivot_24 rfl ?_
  obtain ⟨g2, h⟩ := og h
  refine mr_gld (pc := 25) dX0_pivot_25 (g1) (g2) ?_
  refine mr_lstore_n (pc := 26) dX0_pivot_26 (Nat.le_of_ble_eq_true rfl) (show mc_V M_X0_pivot 1 none 27 [.ref 15, .int x1, .int x2, .long (τ (17 + x1.toNatClampNeg) x2.toNatClampNeg), .retAddr 0, .retAddr 0] [] (mc_hp σ τ) none (mc_hp σ' τ') 0 0 from ?_)
  refine mr_lload_n (pc := 27) dX0_pivot_27 rfl ?_
  refine mr_lconstv (pc := 28) (0 : Int64) dX0_pivot_28 (by decide) ?_
  refine mr_lcmp (pc := 29) dX0_pivot_29 ?_
  refine mr_if_eq (pc := 30) 42 dX0_pivot_30 (by decide) (fun q3 => ?_) (fun q3 => ?_)
  · replace h := (if_pos q3).symm.trans h
    obtain ⟨rfl, rfl⟩ := os2 h
    exact mr_ret (pc := 42) rfl dX0_pivot_42
  · replace h := (if_neg q3).symm.trans h
    refine mr_aload_n (pc := 33) dX0_pivot_33 rfl ?_
    refine mr_getf (pc := 34) (ci := 0) inX0 rfl 5 (by decide) fl_14 dX0_pivot_34 (ha_15 σ τ) rfl ?_
    refine mr_lconstv (pc := 37) (0 : Int64) dX0_pivot_37 (by decide) ?_
    refine mr_lcmp (pc := 38) dX0_pivot_38 ?_
    refine mr_if_ne (pc := 39) 43 dX0_pivot_39 (by decide) (fun q4 => ?_) (fun q4 => ?_)
    · replace h := (if_neg q4).symm.trans h
      refine mr_iconstv (pc := 43) (0 : Int32) dX0_pivot_43 (by decide) ?_
      refine mr_istore (pc := 44) dX0_pivot_44 (Nat.le_of_ble_eq_true rfl) (show mc_V M_X0_pivot 1 none 46 [.ref 15, .int x1, .int x2, .long (τ (17 + x1.toNatClampNeg) x2.toNatClampNeg), .retAddr 0, .int (0 : Int32)] [] (mc_hp σ τ) none (mc_hp σ' τ') 0 0 from ?_)
      exact mc_V.locs (loc' := [.ref 15, .int x1, .int x2, .long (τ (17 + x1.toNatClampNeg) x2.toNatClampNeg), .retAddr 0, .int (0 : Int32)]) ⟨Or.inr rfl, Or.inr rfl, Or.inr rfl, Or.inr rfl, Or.inl rfl, Or.inr rfl, trivial⟩ (dc_B_pivot_l46 mc_F x1 x2 (τ (17 + x1.toNatClampNeg) x2.toNatClampNeg) (0 : Int32) σ τ σ' τ' h)
    · replace h := (if_pos q4).symm.trans h
      obtain ⟨rfl, rfl⟩ := os2 h
      exact mr_ret (pc := 42) rfl dX0_pivot_42
set_option maxHeartbeats 4000000 in
set_option maxRecDepth 100000 in
theorem dc_B_pivot {p1 : Int32} {p2 : Int32} {σ : mS} {τ : mT} {σ' : mS} {τ' : mT} (h : B_pivot p1 p2 σ τ = some (σ', τ')) : mc_V M_X0_pivot 1 none 0 (mc_entry [.ref 15, .int p1, .int p2] 6) [] (mc_hp σ τ) none (mc_hp σ' τ') 0 0 := by
  unfold B_pivot at h
  show mc_V M_X0_pivot 1 none 0 [.ref 15, .int p1, .int p2, .retAddr 0, .retAddr 0, .retAddr 0] [] (mc_hp σ τ) none (mc_hp σ' τ') 0 0
  refine mr_aload_n (pc := 0) dX0_pivot_0 rfl ?_
  refine mr_getf (pc := 1) (ci := 0) inX0 rfl 0 (by decide) fl_9 dX0_pivot_1 (ha_15 σ τ) rfl ?_
  refine mr_iload_n (pc := 4) dX0_pivot_4 rfl ?_
  obtain ⟨g1, h⟩ := og h
  refine mr_aald (pc := 5) dX0_pivot_5 (ha_16 σ τ) (g1) (gr_some (g1)) ?_
  refine mr_iload_n (pc := 6) dX0_pivot_6 rfl ?_
  obtain ⟨g2, h⟩ := og h
  refine mr_gld (pc := 7) dX0_pivot_7 (g1) (g2) ?_
  refine mr_lconstv (pc := 8) (0 : Int64) dX0_pivot_8 (by decide) ?_
  refine mr_lcmp (pc := 9) dX0_pivot_9 ?_
  refine mr_if_ge (pc := 10) 18 dX0_pivot_10 (by decide) (fun q3 => ?_) (fun q3 => ?_)
  · replace h := (if_pos q3).symm.trans h
    exact mc_V.locs (loc' := [.ref 15, .int p1, .int p2, .retAddr 0, .retAddr 0, .retAddr 0]) ⟨Or.inr rfl, Or.inr rfl, Or.inr rfl, Or.inl rfl, Or.inl rfl, Or.inl rfl, trivial⟩ (dc_B_pivot_b18 p1 p2 σ τ σ' τ' h)
  · replace h := (if_neg q3).symm.trans h
    refine mr_aload_n (pc := 13) dX0_pivot_13 rfl ?_
    refine mr_iload_n (pc := 14) dX0_pivot_14 rfl ?_
    obtain ⟨σ4, τ4, c4, h⟩ := ovs h
    refine mr_callV0 (pc := 15) (ci := 0) [.int p1] ok_X0_turnSigns lk_57 st_X0_turnSigns se_X0_turnSigns dX0_pivot_15 rfl (ha_15 σ τ) rfl rfl (Nat.le_of_ble_eq_true rfl) (Nat.le_of_ble_eq_true rfl) ((dc_B_turnSigns c4).up (by decide)) ?_
    exact mc_V.locs (loc' := [.ref 15, .int p1, .int p2, .retAddr 0, .retAddr 0, .retAddr 0]) ⟨Or.inr rfl, Or.inr rfl, Or.inr rfl, Or.inl rfl, Or.inl rfl, Or.inl rfl, trivial⟩ (dc_B_pivot_b18 p1 p2 σ4 τ4 σ' τ' h)
set_option maxHeartbeats 4000000 in
set_option maxRecDepth 100000 in
theorem dc_B_driveOutMakeshift_l12 (k2 : Int32 → mS → mT → Option (mS × mT)) (hk2 : ∀ (x1 : Int32) (σ : mS) (τ : mT) (σ' : mS) (τ' : mT), k2 x1 σ τ = some (σ', τ') → mc_V M_X0_driveOutMakeshift 2 none 2 [.ref 15, .int x1, .retAddr 0] [] (mc_hp σ τ) none (mc_hp σ' τ') 0 0) : ∀ (n : Nat), ∀ (x1 : Int32) (x2 : Int32) (σ : mS) (τ : mT) (σ' : mS) (τ' : mT), B_driveOutMakeshift_l12 k2 n x1 x2 σ τ = some (σ', τ') → mc_V M_X0_driveOutMakeshift 2 none 12 [.ref 15, .int x1, .int x2] [] (mc_hp σ τ) none (mc_hp σ' τ') 0 0 := by
  intro n
  induction n with
  | zero =>
    intros
    rename_i h
    cases h
  | succ n ih =>
    intro x1 x2 σ τ σ' τ' h
    refine mr_iload_n (pc := 12) dX0_driveOutMakeshift_12 rfl ?_
    refine mr_aload_n (pc := 13) dX0_driveOutMakeshift_13 rfl ?_
    refine mr_getf (pc := 14) (ci := 0) inX0 rfl 4 (by decide) fl_13 dX0_driveOutMakeshift_14 (ha_15 σ τ) rfl ?_
    refine mr_icmp_ge (pc := 17) 56 dX0_driveOutMakeshift_17 (by decide) (fun q1 => ?_) (fun q1 => ?_)
    · replace h := (if_pos q1).symm.trans h
      refine mr_iincv (pc := 56) (1 : Int32) dX0_driveOutMakeshift_56 rfl (by decide) (show mc_V M_X0_driveOutMakeshift 2 none 59 [.ref 15, .int (x1 + (1 : Int32)), .int x2] [] (mc_hp σ τ) none (mc_hp σ' τ') 0 0 from ?_)
      refine mr_goto (pc := 59) 2 dX0_driveOutMakeshift_59 (by decide) ?_
      exact mc_V.locs (loc' := [.ref 15, .int (x1 + (1 : Int32)), .retAddr 0]) ⟨Or.inr rfl, Or.inr rfl, Or.inl rfl, trivial⟩ (hk2 (x1 + (1 : Int32)) σ τ σ' τ' h)
    · replace h := (if_neg q1).symm.trans h
      refine mr_aload_n (pc := 20) dX0_driveOutMakeshift_20 rfl ?_
      refine mr_getf (pc := 21) (ci := 0) inX0 rfl 1 (by decide) fl_10 dX0_driveOutMakeshift_21 (ha_15 σ τ) rfl ?_
      refine mr_iload_n (pc := 24) dX0_driveOutMakeshift_24 rfl ?_
      obtain ⟨g2, h⟩ := og h
      refine mr_iald (pc := 25) dX0_driveOutMakeshift_25 (ha_25 σ τ) (g2) ?_
      refine mr_bipushv (pc := 26) (13 : Int32) dX0_driveOutMakeshift_26 (by decide) ?_
      refine mr_icmp_lt (pc := 28) 56 dX0_driveOutMakeshift_28 (by decide) (fun q3 => ?_) (fun q3 => ?_)
      · replace h := (if_pos q3).symm.trans h
        refine mr_iincv (pc := 56) (1 : Int32) dX0_driveOutMakeshift_56 rfl (by decide) (show mc_V M_X0_driveOutMakeshift 2 none 59 [.ref 15, .int (x1 + (1 : Int32)), .int x2] [] (mc_hp σ τ) none (mc_hp σ' τ') 0 0 from ?_)
        refine mr_goto (pc := 59) 2 dX0_driveOutMakeshift_59 (by decide) ?_
        exact mc_V.locs (loc' := [.ref 15, .int (x1 + (1 : Int32)), .retAddr 0]) ⟨Or.inr rfl, Or.inr rfl, Or.inl rfl, trivial⟩ (hk2 (x1 + (1 : Int32)) σ τ σ' τ' h)
      · replace h := (if_neg q3).symm.trans h
        refine mr_aload_n (pc := 31) dX0_driveOutMakeshift_31 rfl ?_
        refine mr_getf (pc := 32) (ci := 0) inX0 rfl 0 (by decide) fl_9 dX0_driveOutMakeshift_32 (ha_15 σ τ) rfl ?_
        refine mr_iload_n (pc := 35) dX0_driveOutMakeshift_35 rfl ?_
        refine mr_aald (pc := 36) dX0_driveOutMakeshift_36 (ha_16 σ τ) (g2) (gr_some (g2)) ?_
        refine mr_iload_n (pc := 37) dX0_driveOutMakeshift_37 rfl ?_
        obtain ⟨g4, h⟩ := og h
        refine mr_gld (pc := 38) dX0_driveOutMakeshift_38 (g2) (g4) ?_
        refine mr_lconstv (pc := 39) (0 : Int64) dX0_driveOutMakeshift_39 (by decide) ?_
        refine mr_lcmp (pc := 40) dX0_driveOutMakeshift_40 ?_
        refine mr_if_eq (pc := 41) 50 dX0_driveOutMakeshift_41 (by decide) (fun q5 => ?_) (fun q5 => ?_)
        · replace h := (if_pos q5).symm.trans h
          refine mr_iincv (pc := 50) (1 : Int32) dX0_driveOutMakeshift_50 rfl (by decide) (show mc_V M_X0_driveOutMakeshift 2 none 53 [.ref 15, .int x1, .int (x2 + (1 : Int32))] [] (mc_hp σ τ) none (mc_hp σ' τ') 0 0 from ?_)
          refine mr_goto (pc := 53) 12 dX0_driveOutMakeshift_53 (by decide) ?_
          exact mc_V.locs (loc' := [.ref 15, .int x1, .int (x2 + (1 : Int32))]) ⟨Or.inr rfl, Or.inr rfl, Or.inr rfl, trivial⟩ (ih x1 (x2 + (1 : Int32)) σ τ σ' τ' h)
        · replace h := (if_neg q5).symm.trans h
          refine mr_aload_n (pc := 44) dX0_driveOutMakeshift_44 rfl ?_
          refine mr_iload_n (pc := 45) dX0_driveOutMakeshift_45 rfl ?_
          refine mr_iload_n (pc := 46) dX0_driveOutMakeshift_46 rfl ?_
          obtain ⟨σ6, τ6, c6, h⟩ := ovs h
          refine mr_callV0 (pc := 47) (ci := 0) [.int x1, .int x2] ok_X0_pivot lk_51 st_X0_pivot se_X0_pivot dX0_driveOutMakeshift_47 rfl (ha_15 σ τ) rfl rfl (Nat.le_of_ble_eq_true rfl) (Nat.le_of_ble_eq_true rfl) ((dc_B_pivot c6).up (by decide)) ?_
          refine mr_iincv (pc := 50) (1 : Int32) dX0_driveOutMakeshift_50 rfl (by decide) (show mc_V M_X0_driveOutMakeshift 2 none 53 [.ref 15, .int x1, .int (x2 + (1 : Int32))] [] (mc_hp σ6 τ6) none (mc_hp σ' τ') 0 0 from ?_)
          refine mr_goto (pc := 53) 12 dX0_driveOutMakeshift_53 (by decide) ?_
          exact mc_V.locs (loc' := [.ref 15, .int x1, .int (x2 + (1 : Int32))]) ⟨Or.inr rfl, Or.inr rfl, Or.inr rfl, trivial⟩ (ih x1 (x2 + (1 : Int32)) σ6 τ6 σ' τ' h)
set_option maxHeartbeats 4000000 in
set_option maxRecDepth 100000 in
theorem dc_B_driveOutMakeshift_l2 : ∀ (n : Nat), ∀ (x1 : Int32) (σ : mS) (τ : mT) (σ' : mS) (τ' : mT), B_driveOutMakeshift_l2 n x1 σ τ = some (σ', τ') → mc_V M_X0_driveOutMakeshift 2 none 2 [.ref 15, .int x1, .retAddr 0] [] (mc_hp σ τ) none (mc_hp σ' τ') 0 0 := by
  intro n
  induction n with
  | zero =>
    intros
    rename_i h
    cases h
  | succ n ih =>
    intro x1 σ τ σ' τ' h
    refine mr_iload_n (pc := 2) dX0_driveOutMakeshift_2 rfl ?_
    refine mr_aload_n (pc := 3) dX0_driveOutMakeshift_3 rfl ?_
    refine mr_getf (pc := 4) (ci := 0) inX0 rfl 3 (by decide) fl_12 dX0_driveOutMakeshift_4 (ha_15 σ τ) rfl ?_
    refine mr_icmp_ge (pc := 7) 62 dX0_driveOutMakeshift_7 (by decide) (fun q1 => ?_) (fun q1 => ?_)
    · replace h := (if_pos q1).symm.trans h
      obtain ⟨rfl, rfl⟩ := os2 h
      exact mr_ret (pc := 62) rfl dX0_driveOutMakeshift_62
    · replace h := (if_neg q1).symm.trans h
      refine mr_iconstv (pc := 10) (0 : Int32) dX0_driveOutMakeshift_10 (by decide) ?_
      refine mr_istore_n (pc := 11) dX0_driveOutMakeshift_11 (Nat.le_of_ble_eq_true rfl) (show mc_V M_X0_driveOutMakeshift 2 none 12 [.ref 15, .int x1, .int (0 : Int32)] [] (mc_hp σ τ) none (mc_hp σ' τ') 0 0 from ?_)
      exact mc_V.locs (loc' := [.ref 15, .int x1, .int (0 : Int32)]) ⟨Or.inr rfl, Or.inr rfl, Or.inr rfl, trivial⟩ (dc_B_driveOutMakeshift_l12 (B_driveOutMakeshift_l2 n) ih mc_F x1 (0 : Int32) σ τ σ' τ' h)
set_option maxHeartbeats 4000000 in
set_option maxRecDepth 100000 in
theorem dc_B_driveOutMakeshift {σ : mS} {τ : mT} {σ' : mS} {τ' : mT} (h : B_driveOutMakeshift σ τ = some (σ', τ')) : mc_V M_X0_driveOutMakeshift 2 none 0 (mc_entry [.ref 15] 3) [] (mc_hp σ τ) none (mc_hp σ' τ') 0 0 := by
  unfold B_driveOutMakeshift at h
  show mc_V M_X0_driveOutMakeshift 2 none 0 [.ref 15, .retAddr 0, .retAddr 0] [] (mc_hp σ τ) none (mc_hp σ' τ') 0 0
  refine mr_iconstv (pc := 0) (0 : Int32) dX0_driveOutMakeshift_0 (by decide) ?_
  refine mr_istore_n (pc := 1) dX0_driveOutMakeshift_1 (Nat.le_of_ble_eq_true rfl) (show mc_V M_X0_driveOutMakeshift 2 none 2 [.ref 15, .int (0 : Int32), .retAddr 0] [] (mc_hp σ τ) none (mc_hp σ' τ') 0 0 from ?_)
  exact mc_V.locs (loc' := [.ref 15, .int (0 : Int32), .retAddr 0]) ⟨Or.inr rfl, Or.inr rfl, Or.inl rfl, trivial⟩ (dc_B_driveOutMakeshift_l2 mc_F (0 : Int32) σ τ σ' τ' h)
set_option maxHeartbeats 4000000 in
set_option maxRecDepth 100000 in
theorem dc_B_firstThatLessensMakeshift_l2 : ∀ (n : Nat), ∀ (x1 : Int32) (σ : mS) (τ : mT) (r : Int32) (σ' : mS) (τ' : mT), B_firstThatLessensMakeshift_l2 n x1 σ τ = some (r, σ', τ') → mc_V M_X0_firstThatLessensMakeshift 1 none 2 [.ref 15, .int x1] [] (mc_hp σ τ) (some (.int r)) (mc_hp σ' τ') 0 0 := by
  intro n
  induction n with
  | zero =>
    intros
    rename_i h
    cases h
  | succ n ih =>
    intro x1 σ τ r σ' τ' h
    refine mr_iload_n (pc := 2) dX0_firstThatLessensMakeshift_2 rfl ?_
    refine mr_aload_n (pc := 3) dX0_firstThatLessensMakeshift_3 rfl ?_
    refine mr_getf (pc := 4) (ci := 0) inX0 rfl 4 (by decide) fl_13 dX0_firstThatLessensMakeshift_4 (ha_15 σ τ) rfl ?_
    refine mr_icmp_ge (pc := 7) 28 dX0_firstThatLessensMakeshift_7 (by decide) (fun q1 => ?_) (fun q1 => ?_)
    · replace h := (if_pos q1).symm.trans h
      refine mr_iconstv (pc := 28) (-1 : Int32) dX0_firstThatLessensMakeshift_28 (by decide) ?_
      obtain ⟨rfl, rfl, rfl⟩ := os3 h
      exact mr_iret (pc := 29) rfl (rfl) dX0_firstThatLessensMakeshift_29
    · replace h := (if_neg q1).symm.trans h
      refine mr_aload_n (pc := 10) dX0_firstThatLessensMakeshift_10 rfl ?_
      refine mr_iload_n (pc := 11) dX0_firstThatLessensMakeshift_11 rfl ?_
      obtain ⟨r2, σ2, τ2, c2, h⟩ := obs h
      refine mr_callV0 (pc := 12) (ci := 0) [.int x1] ok_X0_makeshift lk_52 st_X0_makeshift se_X0_makeshift dX0_firstThatLessensMakeshift_12 rfl (ha_15 σ τ) rfl rfl (Nat.le_of_ble_eq_true rfl) (Nat.le_of_ble_eq_true rfl) ((dc_B_makeshift c2).up (by decide)) ?_
      refine mr_lconstv (pc := 15) (0 : Int64) dX0_firstThatLessensMakeshift_15 (by decide) ?_
      refine mr_lcmp (pc := 16) dX0_firstThatLessensMakeshift_16 ?_
      refine mr_if_le (pc := 17) 22 dX0_firstThatLessensMakeshift_17 (by decide) (fun q3 => ?_) (fun q3 => ?_)
      · replace h := (if_pos q3).symm.trans h
        refine mr_iincv (pc := 22) (1 : Int32) dX0_firstThatLessensMakeshift_22 rfl (by decide) (show mc_V M_X0_firstThatLessensMakeshift 1 none 25 [.ref 15, .int (x1 + (1 : Int32))] [] (mc_hp σ2 τ2) (some (.int r)) (mc_hp σ' τ') 0 0 from ?_)
        refine mr_goto (pc := 25) 2 dX0_firstThatLessensMakeshift_25 (by decide) ?_
        exact mc_V.locs (loc' := [.ref 15, .int (x1 + (1 : Int32))]) ⟨Or.inr rfl, Or.inr rfl, trivial⟩ (ih (x1 + (1 : Int32)) σ2 τ2 r σ' τ' h)
      · replace h := (if_neg q3).symm.trans h
        refine mr_iload_n (pc := 20) dX0_firstThatLessensMakeshift_20 rfl ?_
        obtain ⟨rfl, rfl, rfl⟩ := os3 h
        exact mr_iret (pc := 21) rfl (rfl) dX0_firstThatLessensMakeshift_21
set_option maxHeartbeats 4000000 in
set_option maxRecDepth 100000 in
theorem dc_B_firstThatLessensMakeshift {σ : mS} {τ : mT} {r : Int32} {σ' : mS} {τ' : mT} (h : B_firstThatLessensMakeshift σ τ = some (r, σ', τ')) : mc_V M_X0_firstThatLessensMakeshift 1 none 0 (mc_entry [.ref 15] 2) [] (mc_hp σ τ) (some (.int r)) (mc_hp σ' τ') 0 0 := by
  unfold B_firstThatLessensMakeshift at h
  show mc_V M_X0_firstThatLessensMakeshift 1 none 0 [.ref 15, .retAddr 0] [] (mc_hp σ τ) (some (.int r)) (mc_hp σ' τ') 0 0
  refine mr_iconstv (pc := 0) (0 : Int32) dX0_firstThatLessensMakeshift_0 (by decide) ?_
  refine mr_istore_n (pc := 1) dX0_firstThatLessensMakeshift_1 (Nat.le_of_ble_eq_true rfl) (show mc_V M_X0_firstThatLessensMakeshift 1 none 2 [.ref 15, .int (0 : Int32)] [] (mc_hp σ τ) (some (.int r)) (mc_hp σ' τ') 0 0 from ?_)
  exact mc_V.locs (loc' := [.ref 15, .int (0 : Int32)]) ⟨Or.inr rfl, Or.inr rfl, trivial⟩ (dc_B_firstThatLessensMakeshift_l2 mc_F (0 : Int32) σ τ r σ' τ' h)
set_option maxHeartbeats 4000000 in
set_option maxRecDepth 100000 in
theorem dc_B_leavesAhead {p1 : Int32} {p2 : Int32} {p3 : Int32} {σ : mS} {τ : mT} {r : Int32} {σ' : mS} {τ' : mT} (h : B_leavesAhead p1 p2 p3 σ τ = some (r, σ', τ')) : mc_V M_X0_leavesAhead 0 none 0 (mc_entry [.ref 15, .int p1, .int p2, .int p3] 8) [] (mc_hp σ τ) (some (.int r)) (mc_hp σ' τ') 0 0 := by
  unfold B_leavesAhead at h
  show mc_V M_X0_leavesAhead 0 none 0 [.ref 15, .int p1, .int p2, .int p3, .retAddr 0, .retAddr 0, .retAddr 0, .retAddr 0] [] (mc_hp σ τ) (some (.int r)) (mc_hp σ' τ') 0 0
  refine mr_aload_n (pc := 0) dX0_leavesAhead_0 rfl ?_
  refine mr_getf (pc := 1) (ci := 0) inX0 rfl 0 (by decide) fl_9 dX0_leavesAhead_1 (ha_15 σ τ) rfl ?_
  refine mr_iload_n (pc := 4) dX0_leavesAhead_4 rfl ?_
  obtain ⟨g1, h⟩ := og h
  refine mr_aald (pc := 5) dX0_leavesAhead_5 (ha_16 σ τ) (g1) (gr_some (g1)) ?_
  refine mr_bipushv (pc := 6) (13 : Int32) dX0_leavesAhead_6 (by decide) ?_
  refine mr_gld (pc := 8) dX0_leavesAhead_8 (g1) (vin_ok rfl) ?_
  refine mr_aload_n (pc := 9) dX0_leavesAhead_9 rfl ?_
  refine mr_getf (pc := 10) (ci := 0) inX0 rfl 0 (by decide) fl_9 dX0_leavesAhead_10 (ha_15 σ τ) rfl ?_
  refine mr_iload_n (pc := 13) dX0_leavesAhead_13 rfl ?_
  obtain ⟨g2, h⟩ := og h
  refine mr_aald (pc := 14) dX0_leavesAhead_14 (ha_16 σ τ) (g2) (gr_some (g2)) ?_
  refine mr_iload_n (pc := 15) dX0_leavesAhead_15 rfl ?_
  obtain ⟨g3, h⟩ := og h
  refine mr_gld (pc := 16) dX0_leavesAhead_16 (g2) (g3) ?_
  refine mr_lmul (pc := 17) dX0_leavesAhead_17 ?_
  refine mr_lstore (pc := 18) dX0_leavesAhead_18 (Nat.le_of_ble_eq_true rfl) (show mc_V M_X0_leavesAhead 0 none 20 [.ref 15, .int p1, .int p2, .int p3, .long ((τ (17 + p1.toNatClampNeg) 13) * (τ (17 + p2.toNatClampNeg) p3.toNatClampNeg)), .retAddr 0, .retAddr 0, .retAddr 0] [] (mc_hp σ τ) (some (.int r)) (mc_hp σ' τ') 0 0 from ?_)
  refine mr_aload_n (pc := 20) dX0_leavesAhead_20 rfl ?_
  refine mr_getf (pc := 21) (ci := 0) inX0 rfl 0 (by decide) fl_9 dX0_leavesAhead_21 (ha_15 σ τ) rfl ?_
  refine mr_iload_n (pc := 24) dX0_leavesAhead_24 rfl ?_
  refine mr_aald (pc := 25) dX0_leavesAhead_25 (ha_16 σ τ) (g2) (gr_some (g2)) ?_
  refine mr_bipushv (pc := 26) (13 : Int32) dX0_leavesAhead_26 (by decide) ?_
  refine mr_gld (pc := 28) dX0_leavesAhead_28 (g2) (vin_ok rfl) ?_
  refine mr_aload_n (pc := 29) dX0_leavesAhead_29 rfl ?_
  refine mr_getf (pc := 30) (ci := 0) inX0 rfl 0 (by decide) fl_9 dX0_leavesAhead_30 (ha_15 σ τ) rfl ?_
  refine mr_iload_n (pc := 33) dX0_leavesAhead_33 rfl ?_
  refine mr_aald (pc := 34) dX0_leavesAhead_34 (ha_16 σ τ) (g1) (gr_some (g1)) ?_
  refine mr_iload_n (pc := 35) dX0_leavesAhead_35 rfl ?_
  refine mr_gld (pc := 36) dX0_leavesAhead_36 (g1) (g3) ?_
  refine mr_lmul (pc := 37) dX0_leavesAhead_37 ?_
  refine mr_lstore (pc := 38) dX0_leavesAhead_38 (Nat.le_of_ble_eq_true rfl) (show mc_V M_X0_leavesAhead 0 none 40 [.ref 15, .int p1, .int p2, .int p3, .long ((τ (17 + p1.toNatClampNeg) 13) * (τ (17 + p2.toNatClampNeg) p3.toNatClampNeg)), .retAddr 0, .long ((τ (17 + p2.toNatClampNeg) 13) * (τ (17 + p1.toNatClampNeg) p3.toNatClampNeg)), .retAddr 0] [] (mc_hp σ τ) (some (.int r)) (mc_hp σ' τ') 0 0 from ?_)
  refine mr_lload (pc := 40) dX0_leavesAhead_40 rfl ?_
  refine mr_lload (pc := 42) dX0_leavesAhead_42 rfl ?_
  refine mr_lcmp (pc := 44) dX0_leavesAhead_44 ?_
  refine mr_if_lt (pc := 45) 71 dX0_leavesAhead_45 (by decide) (fun q4 => ?_) (fun q4 => ?_)
  · replace h := (if_pos q4).symm.trans h
    refine mr_iconstv (pc := 71) (1 : Int32) dX0_leavesAhead_71 (by decide) ?_
    refine mr_goto (pc := 72) 76 dX0_leavesAhead_72 (by decide) ?_
    obtain ⟨rfl, rfl, rfl⟩ := os3 h
    exact mr_iret (pc := 76) rfl (rfl) dX0_leavesAhead_76
  · replace h := (if_neg q4).symm.trans h
    refine mr_lload (pc := 48) dX0_leavesAhead_48 rfl ?_
    refine mr_lload (pc := 50) dX0_leavesAhead_50 rfl ?_
    refine mr_lcmp (pc := 52) dX0_leavesAhead_52 ?_
    refine mr_if_ne (pc := 53) 75 dX0_leavesAhead_53 (by decide) (fun q5 => ?_) (fun q5 => ?_)
    · replace h := (if_neg q5).symm.trans h
      refine mr_iconstv (pc := 75) (0 : Int32) dX0_leavesAhead_75 (by decide) ?_
      obtain ⟨rfl, rfl, rfl⟩ := os3 h
      exact mr_iret (pc := 76) rfl (rfl) dX0_leavesAhead_76
    · replace h := (if_pos q5).symm.trans h
      refine mr_aload_n (pc := 56) dX0_leavesAhead_56 rfl ?_
      refine mr_getf (pc := 57) (ci := 0) inX0 rfl 1 (by decide) fl_10 dX0_leavesAhead_57 (ha_15 σ τ) rfl ?_
      refine mr_iload_n (pc := 60) dX0_leavesAhead_60 rfl ?_
      refine mr_iald (pc := 61) dX0_leavesAhead_61 (ha_25 σ τ) (g1) ?_
      refine mr_aload_n (pc := 62) dX0_leavesAhead_62 rfl ?_
      refine mr_getf (pc := 63) (ci := 0) inX0 rfl 1 (by decide) fl_10 dX0_leavesAhead_63 (ha_15 σ τ) rfl ?_
      refine mr_iload_n (pc := 66) dX0_leavesAhead_66 rfl ?_
      refine mr_iald (pc := 67) dX0_leavesAhead_67 (ha_25 σ τ) (g2) ?_
      refine mr_icmp_ge (pc := 68) 75 dX0_leavesAhead_68 (by decide) (fun q6 => ?_) (fun q6 => ?_)
      · replace h := (if_pos q6).symm.trans h
        refine mr_iconstv (pc := 75) (0 : Int32) dX0_leavesAhead_75 (by decide) ?_
        obtain ⟨rfl, rfl, rfl⟩ := os3 h
        exact mr_iret (pc := 76) rfl (rfl) dX0_leavesAhead_76
      · replace h := (if_neg q6).symm.trans h
        refine mr_iconstv (pc := 71) (1 : Int32) dX0_leavesAhead_71 (by decide) ?_
        refine mr_goto (pc := 72) 76 dX0_leavesAhead_72 (by decide) ?_
        obtain ⟨rfl, rfl, rfl⟩ := os3 h
        exact mr_iret (pc := 76) rfl (rfl) dX0_leavesAhead_76
set_option maxHeartbeats 4000000 in
set_option maxRecDepth 100000 in
theorem dc_B_leavingRow_l18 : ∀ (n : Nat), ∀ (x1 : Int32) (x2 : Int32) (x3 : Int32) (σ : mS) (τ : mT) (r : Int32) (σ' : mS) (τ' : mT), B_leavingRow_l18 n x1 x2 x3 σ τ = some (r, σ', τ') → mc_V M_X0_leavingRow 1 none 18 [.ref 15, .int x1, .int x2, .int x3] [] (mc_hp σ τ) (some (.int r)) (mc_hp σ' τ') 0 0 := by
  intro n
  induction n with
  | zero =>
    intros
    rename_i h
    cases h
  | succ n ih =>
    intro x1 x2 x3 σ τ r σ' τ' h
    refine mr_iload_n (pc := 18) dX0_leavingRow_18 rfl ?_
    refine mr_aload_n (pc := 19) dX0_leavingRow_19 rfl ?_
    refine mr_getf (pc := 20) (ci := 0) inX0 rfl 3 (by decide) fl_12 dX0_leavingRow_20 (ha_15 σ τ) rfl ?_
    refine mr_icmp_ge (pc := 23) 61 dX0_leavingRow_23 (by decide) (fun q1 => ?_) (fun q1 => ?_)
    · replace h := (if_pos q1).symm.trans h
      refine mr_iload_n (pc := 61) dX0_leavingRow_61 rfl ?_
      obtain ⟨rfl, rfl, rfl⟩ := os3 h
      exact mr_iret (pc := 62) rfl (rfl) dX0_leavingRow_62
    · replace h := (if_neg q1).symm.trans h
      refine mr_aload_n (pc := 26) dX0_leavingRow_26 rfl ?_
      refine mr_getf (pc := 27) (ci := 0) inX0 rfl 0 (by decide) fl_9 dX0_leavingRow_27 (ha_15 σ τ) rfl ?_
      refine mr_iload_n (pc := 30) dX0_leavingRow_30 rfl ?_
      obtain ⟨g2, h⟩ := og h
      refine mr_aald (pc := 31) dX0_leavingRow_31 (ha_16 σ τ) (g2) (gr_some (g2)) ?_
      refine mr_iload_n (pc := 32) dX0_leavingRow_32 rfl ?_
      obtain ⟨g3, h⟩ := og h
      refine mr_gld (pc := 33) dX0_leavingRow_33 (g2) (g3) ?_
      refine mr_lconstv (pc := 34) (0 : Int64) dX0_leavingRow_34 (by decide) ?_
      refine mr_lcmp (pc := 35) dX0_leavingRow_35 ?_
      refine mr_if_le (pc := 36) 55 dX0_leavingRow_36 (by decide) (fun q4 => ?_) (fun q4 => ?_)
      · replace h := (if_pos q4).symm.trans h
        refine mr_iincv (pc := 55) (1 : Int32) dX0_leavingRow_55 rfl (by decide) (show mc_V M_X0_leavingRow 1 none 58 [.ref 15, .int x1, .int x2, .int (x3 + (1 : Int32))] [] (mc_hp σ τ) (some (.int r)) (mc_hp σ' τ') 0 0 from ?_)
        refine mr_goto (pc := 58) 18 dX0_leavingRow_58 (by decide) ?_
        exact mc_V.locs (loc' := [.ref 15, .int x1, .int x2, .int (x3 + (1 : Int32))]) ⟨Or.inr rfl, Or.inr rfl, Or.inr rfl, Or.inr rfl, trivial⟩ (ih x1 x2 (x3 + (1 : Int32)) σ τ r σ' τ' h)
      · replace h := (if_neg q4).symm.trans h
        refine mr_iload_n (pc := 39) dX0_leavingRow_39 rfl ?_
        refine mr_if_lt (pc := 40) 53 dX0_leavingRow_40 (by decide) (fun q5 => ?_) (fun q5 => ?_)
        · replace h := (if_pos q5).symm.trans h
          refine mr_iload_n (pc := 53) dX0_leavingRow_53 rfl ?_
          refine mr_istore_n (pc := 54) dX0_leavingRow_54 (Nat.le_of_ble_eq_true rfl) (show mc_V M_X0_leavingRow 1 none 55 [.ref 15, .int x1, .int x3, .int x3] [] (mc_hp σ τ) (some (.int r)) (mc_hp σ' τ') 0 0 from ?_)
          refine mr_iincv (pc := 55) (1 : Int32) dX0_leavingRow_55 rfl (by decide) (show mc_V M_X0_leavingRow 1 none 58 [.ref 15, .int x1, .int x3, .int (x3 + (1 : Int32))] [] (mc_hp σ τ) (some (.int r)) (mc_hp σ' τ') 0 0 from ?_)
          refine mr_goto (pc := 58) 18 dX0_leavingRow_58 (by decide) ?_
          exact mc_V.locs (loc' := [.ref 15, .int x1, .int x3, .int (x3 + (1 : Int32))]) ⟨Or.inr rfl, Or.inr rfl, Or.inr rfl, Or.inr rfl, trivial⟩ (ih x1 x3 (x3 + (1 : Int32)) σ τ r σ' τ' h)
        · replace h := (if_neg q5).symm.trans h
          refine mr_aload_n (pc := 43) dX0_leavingRow_43 rfl ?_
          refine mr_iload_n (pc := 44) dX0_leavingRow_44 rfl ?_
          refine mr_iload_n (pc := 45) dX0_leavingRow_45 rfl ?_
          refine mr_iload_n (pc := 46) dX0_leavingRow_46 rfl ?_
          obtain ⟨r6, σ6, τ6, c6, h⟩ := obs h
          refine mr_callV0 (pc := 47) (ci := 0) [.int x3, .int x2, .int x1] ok_X0_leavesAhead lk_56 st_X0_leavesAhead se_X0_leavesAhead dX0_leavingRow_47 rfl (ha_15 σ τ) rfl rfl (Nat.le_of_ble_eq_true rfl) (Nat.le_of_ble_eq_true rfl) ((dc_B_leavesAhead c6).up (by decide)) ?_
          refine mr_if_eq (pc := 50) 55 dX0_leavingRow_50 (by decide) (fun q7 => ?_) (fun q7 => ?_)
          · replace h := (if_pos q7).symm.trans h
            refine mr_iincv (pc := 55) (1 : Int32) dX0_leavingRow_55 rfl (by decide) (show mc_V M_X0_leavingRow 1 none 58 [.ref 15, .int x1, .int x2, .int (x3 + (1 : Int32))] [] (mc_hp σ6 τ6) (some (.int r)) (mc_hp σ' τ') 0 0 from ?_)
            refine mr_goto (pc := 58) 18 dX0_leavingRow_58 (by decide) ?_
            exact mc_V.locs (loc' := [.ref 15, .int x1, .int x2, .int (x3 + (1 : Int32))]) ⟨Or.inr rfl, Or.inr rfl, Or.inr rfl, Or.inr rfl, trivial⟩ (ih x1 x2 (x3 + (1 : Int32)) σ6 τ6 r σ' τ' h)
          · replace h := (if_neg q7).symm.trans h
            refine mr_iload_n (pc := 53) dX0_leavingRow_53 rfl ?_
            refine mr_istore_n (pc := 54) dX0_leavingRow_54 (Nat.le_of_ble_eq_true rfl) (show mc_V M_X0_leavingRow 1 none 55 [.ref 15, .int x1, .int x3, .int x3] [] (mc_hp σ6 τ6) (some (.int r)) (mc_hp σ' τ') 0 0 from ?_)
            refine mr_iincv (pc := 55) (1 : Int32) dX0_leavingRow_55 rfl (by decide) (show mc_V M_X0_leavingRow 1 none 58 [.ref 15, .int x1, .int x3, .int (x3 + (1 : Int32))] [] (mc_hp σ6 τ6) (some (.int r)) (mc_hp σ' τ') 0 0 from ?_)
            refine mr_goto (pc := 58) 18 dX0_leavingRow_58 (by decide) ?_
            exact mc_V.locs (loc' := [.ref 15, .int x1, .int x3, .int (x3 + (1 : Int32))]) ⟨Or.inr rfl, Or.inr rfl, Or.inr rfl, Or.inr rfl, trivial⟩ (ih x1 x3 (x3 + (1 : Int32)) σ6 τ6 r σ' τ' h)
set_option maxHeartbeats 4000000 in
set_option maxRecDepth 100000 in
theorem dc_B_leavingRow {p1 : Int32} {σ : mS} {τ : mT} {r : Int32} {σ' : mS} {τ' : mT} (h : B_leavingRow p1 σ τ = some (r, σ', τ')) : mc_V M_X0_leavingRow 1 none 0 (mc_entry [.ref 15, .int p1] 4) [] (mc_hp σ τ) (some (.int r)) (mc_hp σ' τ') 0 0 := by
  unfold B_leavingRow at h
  show mc_V M_X0_leavingRow 1 none 0 [.ref 15, .int p1, .retAddr 0, .retAddr 0] [] (mc_hp σ τ) (some (.int r)) (mc_hp σ' τ') 0 0
  refine mr_iload_n (pc := 0) dX0_leavingRow_0 rfl ?_
  refine mr_if_lt (pc := 1) 12 dX0_leavingRow_1 (by decide) (fun q1 => ?_) (fun q1 => ?_)
  · replace h := (if_pos q1).symm.trans h
    refine mr_iconstv (pc := 12) (-1 : Int32) dX0_leavingRow_12 (by decide) ?_
    obtain ⟨rfl, rfl, rfl⟩ := os3 h
    exact mr_iret (pc := 13) rfl (rfl) dX0_leavingRow_13
  · replace h := (if_neg q1).symm.trans h
    refine mr_iload_n (pc := 4) dX0_leavingRow_4 rfl ?_
    refine mr_aload_n (pc := 5) dX0_leavingRow_5 rfl ?_
    refine mr_getf (pc := 6) (ci := 0) inX0 rfl 4 (by decide) fl_13 dX0_leavingRow_6 (ha_15 σ τ) rfl ?_
    refine mr_icmp_lt (pc := 9) 14 dX0_leavingRow_9 (by decide) (fun q2 => ?_) (fun q2 => ?_)
    · replace h := (if_pos q2).symm.trans h
      refine mr_iconstv (pc := 14) (-1 : Int32) dX0_leavingRow_14 (by decide) ?_
      refine mr_istore_n (pc := 15) dX0_leavingRow_15 (Nat.le_of_ble_eq_true rfl) (show mc_V M_X0_leavingRow 1 none 16 [.ref 15, .int p1, .int (-1 : Int32), .retAddr 0] [] (mc_hp σ τ) (some (.int r)) (mc_hp σ' τ') 0 0 from ?_)
      refine mr_iconstv (pc := 16) (0 : Int32) dX0_leavingRow_16 (by decide) ?_
      refine mr_istore_n (pc := 17) dX0_leavingRow_17 (Nat.le_of_ble_eq_true rfl) (show mc_V M_X0_leavingRow 1 none 18 [.ref 15, .int p1, .int (-1 : Int32), .int (0 : Int32)] [] (mc_hp σ τ) (some (.int r)) (mc_hp σ' τ') 0 0 from ?_)
      exact mc_V.locs (loc' := [.ref 15, .int p1, .int (-1 : Int32), .int (0 : Int32)]) ⟨Or.inr rfl, Or.inr rfl, Or.inr rfl, Or.inr rfl, trivial⟩ (dc_B_leavingRow_l18 mc_F p1 (-1 : Int32) (0 : Int32) σ τ r σ' τ' h)
    · replace h := (if_neg q2).symm.trans h
      refine mr_iconstv (pc := 12) (-1 : Int32) dX0_leavingRow_12 (by decide) ?_
      obtain ⟨rfl, rfl, rfl⟩ := os3 h
      exact mr_iret (pc := 13) rfl (rfl) dX0_leavingRow_13
set_option maxHeartbeats 4000000 in
set_option maxRecDepth 100000 in
theorem dc_B_solve_b38 : ∀ (σ : mS) (τ : mT) (r : Int32) (σ' : mS) (τ' : mT), B_solve_b38 σ τ = some (r, σ', τ') → mc_V M_X0_solve 3 none 38 [.ref 15, .retAddr 0, .retAddr 0, .retAddr 0] [] (mc_hp σ τ) (some (.int r)) (mc_hp σ' τ') 0 0 := by
  intro σ τ r σ' τ' h
  unfold B_solve_b38 at h
  refine mr_aload_n (pc := 38) dX0_solve_38 rfl ?_
  refine mr_bipushv (pc := 39) (13 : Int32) dX0_solve_39 (by decide) ?_
  obtain ⟨r1, σ1, τ1, c1, h⟩ := obs h
  refine mr_callV0 (pc := 41) (ci := 0) [.int (13 : Int32)] ok_X0_makeshift lk_52 st_X0_makeshift se_X0_makeshift dX0_solve_41 rfl (ha_15 σ τ) rfl rfl (Nat.le_of_ble_eq_true rfl) (Nat.le_of_ble_eq_true rfl) ((dc_B_makeshift c1).up (by decide)) ?_
  refine mr_lconstv (pc := 44) (0 : Int64) dX0_solve_44 (by decide) ?_
  refine mr_lcmp (pc := 45) dX0_solve_45 ?_
  refine mr_if_eq (pc := 46) 51 dX0_solve_46 (by decide) (fun q2 => ?_) (fun q2 => ?_)
  · replace h := (if_pos q2).symm.trans h
    refine mr_aload_n (pc := 51) dX0_solve_51 rfl ?_
    obtain ⟨σ3, τ3, c3, h⟩ := ovs h
    refine mr_callV0 (pc := 52) (ci := 0) [] ok_X0_driveOutMakeshift lk_53 st_X0_driveOutMakeshift se_X0_driveOutMakeshift dX0_solve_52 rfl (ha_15 σ1 τ1) rfl rfl (Nat.le_of_ble_eq_true rfl) (Nat.le_of_ble_eq_true rfl) ((dc_B_driveOutMakeshift c3).up (by decide)) ?_
    refine mr_iconstv (pc := 55) (1 : Int32) dX0_solve_55 (by decide) ?_
    obtain ⟨rfl, rfl, rfl⟩ := os3 h
    exact mr_iret (pc := 56) rfl (rfl) dX0_solve_56
  · replace h := (if_neg q2).symm.trans h
    refine mr_iconstv (pc := 49) (0 : Int32) dX0_solve_49 (by decide) ?_
    obtain ⟨rfl, rfl, rfl⟩ := os3 h
    exact mr_iret (pc := 50) rfl (rfl) dX0_solve_50
set_option maxHeartbeats 4000000 in
set_option maxRecDepth 100000 in
theorem dc_B_solve_l2 : ∀ (n : Nat), ∀ (x1 : Int32) (σ : mS) (τ : mT) (r : Int32) (σ' : mS) (τ' : mT), B_solve_l2 n x1 σ τ = some (r, σ', τ') → mc_V M_X0_solve 3 none 2 [.ref 15, .int x1, .retAddr 0, .retAddr 0] [] (mc_hp σ τ) (some (.int r)) (mc_hp σ' τ') 0 0 := by
  intro n
  induction n with
  | zero =>
    intros
    rename_i h
    cases h
  | succ n ih =>
    intro x1 σ τ r σ' τ' h
    refine mr_iload_n (pc := 2) dX0_solve_2 rfl ?_
    refine mr_ldc (pc := 3) kI_X0_74 dX0_solve_3 ?_
    refine mr_icmp_ge (pc := 5) 38 dX0_solve_5 (by decide) (fun q1 => ?_) (fun q1 => ?_)
    · replace h := (if_pos q1).symm.trans h
      exact mc_V.locs (loc' := [.ref 15, .retAddr 0, .retAddr 0, .retAddr 0]) ⟨Or.inr rfl, Or.inl rfl, Or.inl rfl, Or.inl rfl, trivial⟩ (dc_B_solve_b38 σ τ r σ' τ' h)
    · replace h := (if_neg q1).symm.trans h
      refine mr_aload_n (pc := 8) dX0_solve_8 rfl ?_
      obtain ⟨r2, σ2, τ2, c2, h⟩ := obs h
      refine mr_callV0 (pc := 9) (ci := 0) [] ok_X0_firstThatLessensMakeshift lk_49 st_X0_firstThatLessensMakeshift se_X0_firstThatLessensMakeshift dX0_solve_9 rfl (ha_15 σ τ) rfl rfl (Nat.le_of_ble_eq_true rfl) (Nat.le_of_ble_eq_true rfl) ((dc_B_firstThatLessensMakeshift c2).up (by decide)) ?_
      refine mr_istore_n (pc := 12) dX0_solve_12 (Nat.le_of_ble_eq_true rfl) (show mc_V M_X0_solve 3 none 13 [.ref 15, .int x1, .int r2, .retAddr 0] [] (mc_hp σ2 τ2) (some (.int r)) (mc_hp σ' τ') 0 0 from ?_)
      refine mr_aload_n (pc := 13) dX0_solve_13 rfl ?_
      refine mr_iload_n (pc := 14) dX0_solve_14 rfl ?_
      obtain ⟨r3, σ3, τ3, c3, h⟩ := obs h
      refine mr_callV0 (pc := 15) (ci := 0) [.int r2] ok_X0_leavingRow lk_50 st_X0_leavingRow se_X0_leavingRow dX0_solve_15 rfl (ha_15 σ2 τ2) rfl rfl (Nat.le_of_ble_eq_true rfl) (Nat.le_of_ble_eq_true rfl) ((dc_B_leavingRow c3).up (by decide)) ?_
      refine mr_istore_n (pc := 18) dX0_solve_18 (Nat.le_of_ble_eq_true rfl) (show mc_V M_X0_solve 3 none 19 [.ref 15, .int x1, .int r2, .int r3] [] (mc_hp σ3 τ3) (some (.int r)) (mc_hp σ' τ') 0 0 from ?_)
      refine mr_iload_n (pc := 19) dX0_solve_19 rfl ?_
      refine mr_if_ge (pc := 20) 26 dX0_solve_20 (by decide) (fun q4 => ?_) (fun q4 => ?_)
      · replace h := (if_pos q4).symm.trans h
        refine mr_aload_n (pc := 26) dX0_solve_26 rfl ?_
        refine mr_iload_n (pc := 27) dX0_solve_27 rfl ?_
        refine mr_iload_n (pc := 28) dX0_solve_28 rfl ?_
        obtain ⟨σ5, τ5, c5, h⟩ := ovs h
        refine mr_callV0 (pc := 29) (ci := 0) [.int r3, .int r2] ok_X0_pivot lk_51 st_X0_pivot se_X0_pivot dX0_solve_29 rfl (ha_15 σ3 τ3) rfl rfl (Nat.le_of_ble_eq_true rfl) (Nat.le_of_ble_eq_true rfl) ((dc_B_pivot c5).up (by decide)) ?_
        refine mr_iincv (pc := 32) (1 : Int32) dX0_solve_32 rfl (by decide) (show mc_V M_X0_solve 3 none 35 [.ref 15, .int (x1 + (1 : Int32)), .int r2, .int r3] [] (mc_hp σ5 τ5) (some (.int r)) (mc_hp σ' τ') 0 0 from ?_)
        refine mr_goto (pc := 35) 2 dX0_solve_35 (by decide) ?_
        exact mc_V.locs (loc' := [.ref 15, .int (x1 + (1 : Int32)), .retAddr 0, .retAddr 0]) ⟨Or.inr rfl, Or.inr rfl, Or.inl rfl, Or.inl rfl, trivial⟩ (ih (x1 + (1 : Int32)) σ5 τ5 r σ' τ' h)
      · replace h := (if_neg q4).symm.trans h
        refine mr_goto (pc := 23) 38 dX0_solve_23 (by decide) ?_
        exact mc_V.locs (loc' := [.ref 15, .retAddr 0, .retAddr 0, .retAddr 0]) ⟨Or.inr rfl, Or.inl rfl, Or.inl rfl, Or.inl rfl, trivial⟩ (dc_B_solve_b38 σ3 τ3 r σ' τ' h)
set_option maxHeartbeats 4000000 in
set_option maxRecDepth 100000 in
theorem dc_B_solve {σ : mS} {τ : mT} {r : Int32} {σ' : mS} {τ' : mT} (h : B_solve σ τ = some (r, σ', τ')) : mc_V M_X0_solve 3 none 0 (mc_entry [.ref 15] 4) [] (mc_hp σ τ) (some (.int r)) (mc_hp σ' τ') 0 0 := by
  unfold B_solve at h
  show mc_V M_X0_solve 3 none 0 [.ref 15, .retAddr 0, .retAddr 0, .retAddr 0] [] (mc_hp σ τ) (some (.int r)) (mc_hp σ' τ') 0 0
  refine mr_iconstv (pc := 0) (0 : Int32) dX0_solve_0 (by decide) ?_
  refine mr_istore_n (pc := 1) dX0_solve_1 (Nat.le_of_ble_eq_true rfl) (show mc_V M_X0_solve 3 none 2 [.ref 15, .int (0 : Int32), .retAddr 0, .retAddr 0] [] (mc_hp σ τ) (some (.int r)) (mc_hp σ' τ') 0 0 from ?_)
  exact mc_V.locs (loc' := [.ref 15, .int (0 : Int32), .retAddr 0, .retAddr 0]) ⟨Or.inr rfl, Or.inr rfl, Or.inl rfl, Or.inl rfl, trivial⟩ (dc_B_solve_l2 mc_F (0 : Int32) σ τ r σ' τ' h)
set_option maxHeartbeats 4000000 in
set_option maxRecDepth 100000 in
theorem dc_R_isBalanced_2 {p2 : Int32} {σ : mS} {τ : mT} {r : Int32} {σ' : mS} {τ' : mT} (h : R_isBalanced_2 p2 σ τ = some (r, σ', τ')) : mc_V M_X5_isBalanced 4 none 0 (mc_entry [.ref 1, .ref 2, .int p2] 3) [] (mc_hp σ τ) (some (.int r)) (mc_hp σ' τ') 0 0 := by
  unfold R_isBalanced_2 at h
  show mc_V M_X5_isBalanced 4 none 0 [.ref 1, .ref 2, .int p2] [] (mc_hp σ τ) (some (.int r)) (mc_hp σ' τ') 0 0
  refine mr_aload_n (pc := 0) dX5_isBalanced_0 rfl ?_
  refine mr_getf (pc := 1) (ci := 5) inX5 rfl 2 (by decide) fl_2 dX5_isBalanced_1 (ha_1 σ τ) rfl ?_
  refine mr_aload_n (pc := 4) dX5_isBalanced_4 rfl ?_
  obtain ⟨σ1, τ1, c1, h⟩ := ovs h
  refine mr_callV0 (pc := 5) (ci := 1) [.ref 2] ok_X1_find lk_12 st_X1_find se_X1_find dX5_isBalanced_5 rfl (ha_6 σ τ) rfl rfl (Nat.le_of_ble_eq_true rfl) (Nat.le_of_ble_eq_true rfl) ((dc_Y_find_2 c1).up (by decide)) ?_
  refine mr_aload_n (pc := 8) dX5_isBalanced_8 rfl ?_
  refine mr_getf (pc := 9) (ci := 5) inX5 rfl 3 (by decide) fl_3 dX5_isBalanced_9 (ha_1 σ1 τ1) rfl ?_
  refine mr_aload_n (pc := 12) dX5_isBalanced_12 rfl ?_
  refine mr_aload_n (pc := 13) dX5_isBalanced_13 rfl ?_
  refine mr_getf (pc := 14) (ci := 5) inX5 rfl 2 (by decide) fl_2 dX5_isBalanced_14 (ha_1 σ1 τ1) rfl ?_
  refine mr_iload_n (pc := 17) dX5_isBalanced_17 rfl ?_
  obtain ⟨σ2, τ2, c2, h⟩ := ovs h
  refine mr_callV0 (pc := 18) (ci := 0) [.ref 2, .ref 6, .int p2] ok_X0_pose lk_27 st_X0_pose se_X0_pose dX5_isBalanced_18 rfl (ha_15 σ1 τ1) rfl rfl (Nat.le_of_ble_eq_true rfl) (Nat.le_of_ble_eq_true rfl) ((dc_B_pose_2_6 c2).up (by decide)) ?_
  refine mr_aload_n (pc := 21) dX5_isBalanced_21 rfl ?_
  refine mr_getf (pc := 22) (ci := 5) inX5 rfl 3 (by decide) fl_3 dX5_isBalanced_22 (ha_1 σ2 τ2) rfl ?_
  obtain ⟨r3, σ3, τ3, c3, h⟩ := obs h
  refine mr_callV0 (pc := 25) (ci := 0) [] ok_X0_solve lk_36 st_X0_solve se_X0_solve dX5_isBalanced_25 rfl (ha_15 σ2 τ2) rfl rfl (Nat.le_of_ble_eq_true rfl) (Nat.le_of_ble_eq_true rfl) ((dc_B_solve c3).up (by decide)) ?_
  obtain ⟨g4, h⟩ := og h
  obtain ⟨rfl, rfl, rfl⟩ := os3 h
  exact mr_iret (pc := 28) rfl (nar_b g4) dX5_isBalanced_28
set_option maxHeartbeats 4000000 in
set_option maxRecDepth 100000 in
theorem dc_R_rests {σ : mS} {τ : mT} {r : Int32} {σ' : mS} {τ' : mT} (h : R_rests σ τ = some (r, σ', τ')) : mc_V M_X5_rests 5 none 0 (mc_entry [.ref 1] 1) [] (mc_hp σ τ) (some (.int r)) (mc_hp σ' τ') 0 0 := by
  unfold R_rests at h
  show mc_V M_X5_rests 5 none 0 [.ref 1] [] (mc_hp σ τ) (some (.int r)) (mc_hp σ' τ') 0 0
  refine mr_aload_n (pc := 0) dX5_rests_0 rfl ?_
  refine mr_aload_n (pc := 1) dX5_rests_1 rfl ?_
  refine mr_getf (pc := 2) (ci := 5) inX5 rfl 0 (by decide) fl_0 dX5_rests_2 (ha_1 σ τ) rfl ?_
  refine mr_iconstv (pc := 5) (0 : Int32) dX5_rests_5 (by decide) ?_
  obtain ⟨r1, σ1, τ1, c1, h⟩ := obs h
  refine mr_callV0 (pc := 6) (ci := 5) [.ref 2, .int (0 : Int32)] ok_X5_isBalanced lk_26 st_X5_isBalanced se_X5_isBalanced dX5_rests_6 rfl (ha_1 σ τ) rfl rfl (Nat.le_of_ble_eq_true rfl) (Nat.le_of_ble_eq_true rfl) ((dc_R_isBalanced_2 c1).up (by decide)) ?_
  refine mr_if_eq (pc := 9) 16 dX5_rests_9 (by decide) (fun q2 => ?_) (fun q2 => ?_)
  · replace h := (if_pos q2).symm.trans h
    refine mr_iconstv (pc := 16) (0 : Int32) dX5_rests_16 (by decide) ?_
    obtain ⟨rfl, rfl, rfl⟩ := os3 h
    exact mr_iret (pc := 17) rfl (rfl) dX5_rests_17
  · replace h := (if_neg q2).symm.trans h
    refine mr_iconstv (pc := 12) (1 : Int32) dX5_rests_12 (by decide) ?_
    refine mr_goto (pc := 13) 17 dX5_rests_13 (by decide) ?_
    obtain ⟨rfl, rfl, rfl⟩ := os3 h
    exact mr_iret (pc := 17) rfl (rfl) dX5_rests_17
set_option maxHeartbeats 4000000 in
set_option maxRecDepth 100000 in
theorem dc_Q_all {σ : mS} {τ : mT} {r : Int32} {σ' : mS} {τ' : mT} (h : Q_all σ τ = some (r, σ', τ')) : mc_V M_X6_all 1 none 0 (mc_entry [.ref 34] 1) [] (mc_hp σ τ) (some (.int r)) (mc_hp σ' τ') 0 0 := by
  unfold Q_all at h
  show mc_V M_X6_all 1 none 0 [.ref 34] [] (mc_hp σ τ) (some (.int r)) (mc_hp σ' τ') 0 0
  refine mr_iconstv (pc := 0) (1 : Int32) dX6_all_0 (by decide) ?_
  refine mr_aload_n (pc := 1) dX6_all_1 rfl ?_
  obtain ⟨r1, σ1, τ1, c1, h⟩ := obs h
  refine mr_callV0 (pc := 2) (ci := 6) [] ok_X6_many lk_138 st_X6_many se_X6_many dX6_all_2 rfl (ha_34 σ τ) rfl rfl (Nat.le_of_ble_eq_true rfl) (Nat.le_of_ble_eq_true rfl) ((dc_Q_many c1).up (by decide)) ?_
  refine mr_ishl (pc := 5) dX6_all_5 ?_
  refine mr_iconstv (pc := 6) (1 : Int32) dX6_all_6 (by decide) ?_
  refine mr_isub (pc := 7) dX6_all_7 ?_
  obtain ⟨rfl, rfl, rfl⟩ := os3 h
  exact mr_iret (pc := 8) rfl (rfl) dX6_all_8
set_option maxHeartbeats 4000000 in
set_option maxRecDepth 100000 in
theorem dc_Q_layRow_b205 : ∀ (x1 : Int32) (x2 : Int32) (x4 : Int32) (x5 : Int32) (x6 : Int32) (s1 : Int32) (s2 : Int64) (σ : mS) (τ : mT) (σ' : mS) (τ' : mT), Q_layRow_b205 x1 x2 x4 x5 x6 s1 s2 σ τ = some (σ', τ') → mc_V M_X6_layRow 1 none 205 [.ref 34, .int x1, .int x2, .retAddr 0, .int x4, .int x5, .int x6, .retAddr 0, .retAddr 0] [.long s2, .int s1, .ref 46] (mc_hp σ τ) none (mc_hp σ' τ') 0 0 := by
  intro x1 x2 x4 x5 x6 s1 s2 σ τ σ' τ' h
  unfold Q_layRow_b205 at h
  obtain ⟨g1, h⟩ := og h
  obtain ⟨τ2, e2, h⟩ := ow h
  refine mr_last (pc := 205) dX6_layRow_205 (ha_46 σ τ) (g1) (mc_V.heap (hs_46 e2) ?_)
  refine mr_aload_n (pc := 206) dX6_layRow_206 rfl ?_
  refine mr_getf (pc := 207) (ci := 6) inX6 rfl 16 (by decide) fl_42 dX6_layRow_207 (ha_34 σ τ2) rfl ?_
  refine mr_iload_n (pc := 210) dX6_layRow_210 rfl ?_
  refine mr_iconstv (pc := 211) (1 : Int32) dX6_layRow_211 (by decide) ?_
  refine mr_iadd (pc := 212) dX6_layRow_212 ?_
  refine mr_iload (pc := 213) dX6_layRow_213 rfl ?_
  refine mr_if_eq (pc := 215) 233 dX6_layRow_215 (by decide) (fun q3 => ?_) (fun q3 => ?_)
  · replace h := (if_pos q3).symm.trans h
    refine mr_aload_n (pc := 233) dX6_layRow_233 rfl ?_
    refine mr_iload_n (pc := 234) dX6_layRow_234 rfl ?_
    refine mr_iconstv (pc := 235) (3 : Int32) dX6_layRow_235 (by decide) ?_
    obtain ⟨r4, σ4, τ4, c4, h⟩ := obs h
    refine mr_callV0 (pc := 236) (ci := 6) [.int x1, .int (3 : Int32)] ok_X6_get lk_132 st_X6_get se_X6_get dX6_layRow_236 rfl (ha_34 σ τ2) rfl rfl (Nat.le_of_ble_eq_true rfl) (Nat.le_of_ble_eq_true rfl) ((dc_Q_get c4).up (by decide)) ?_
    refine mr_aload_n (pc := 239) dX6_layRow_239 rfl ?_
    refine mr_iload_n (pc := 240) dX6_layRow_240 rfl ?_
    refine mr_iconstv (pc := 241) (2 : Int32) dX6_layRow_241 (by decide) ?_
    obtain ⟨r5, σ5, τ5, c5, h⟩ := obs h
    refine mr_callV0 (pc := 242) (ci := 6) [.int x1, .int (2 : Int32)] ok_X6_get lk_132 st_X6_get se_X6_get dX6_layRow_242 rfl (ha_34 σ4 τ4) rfl rfl (Nat.le_of_ble_eq_true rfl) (Nat.le_of_ble_eq_true rfl) ((dc_Q_get c5).up (by decide)) ?_
    refine mr_imul (pc := 245) dX6_layRow_245 ?_
    refine mr_aload_n (pc := 246) dX6_layRow_246 rfl ?_
    refine mr_iload_n (pc := 247) dX6_layRow_247 rfl ?_
    refine mr_iconstv (pc := 248) (4 : Int32) dX6_layRow_248 (by decide) ?_
    obtain ⟨r6, σ6, τ6, c6, h⟩ := obs h
    refine mr_callV0 (pc := 249) (ci := 6) [.int x1, .int (4 : Int32)] ok_X6_get lk_132 st_X6_get se_X6_get dX6_layRow_249 rfl (ha_34 σ5 τ5) rfl rfl (Nat.le_of_ble_eq_true rfl) (Nat.le_of_ble_eq_true rfl) ((dc_Q_get c6).up (by decide)) ?_
    refine mr_aload_n (pc := 252) dX6_layRow_252 rfl ?_
    refine mr_iload_n (pc := 253) dX6_layRow_253 rfl ?_
    refine mr_iconstv (pc := 254) (5 : Int32) dX6_layRow_254 (by decide) ?_
    obtain ⟨r7, σ7, τ7, c7, h⟩ := obs h
    refine mr_callV0 (pc := 255) (ci := 6) [.int x1, .int (5 : Int32)] ok_X6_get lk_132 st_X6_get se_X6_get dX6_layRow_255 rfl (ha_34 σ6 τ6) rfl rfl (Nat.le_of_ble_eq_true rfl) (Nat.le_of_ble_eq_true rfl) ((dc_Q_get c7).up (by decide)) ?_
    refine mr_imul (pc := 258) dX6_layRow_258 ?_
    refine mr_iadd (pc := 259) dX6_layRow_259 ?_
    refine mr_i2l (pc := 260) dX6_layRow_260 ?_
    obtain ⟨g8, h⟩ := og h
    obtain ⟨τ9, e9, h⟩ := ow h
    refine mr_last (pc := 261) dX6_layRow_261 (ha_46 σ7 τ7) (g8) (mc_V.heap (hs_46 e9) ?_)
    obtain ⟨rfl, rfl⟩ := os2 h
    exact mr_ret (pc := 262) rfl dX6_layRow_262
  · replace h := (if_neg q3).symm.trans h
    refine mr_iload (pc := 218) dX6_layRow_218 rfl ?_
    refine mr_if_eq (pc := 220) 229 dX6_layRow_220 (by decide) (fun q10 => ?_) (fun q10 => ?_)
    · replace h := (if_pos q10).symm.trans h
      refine mr_lconstv (pc := 229) (0 : Int64) dX6_layRow_229 (by decide) ?_
      refine mr_goto (pc := 230) 261 dX6_layRow_230 (by decide) ?_
      obtain ⟨g11, h⟩ := og h
      obtain ⟨τ12, e12, h⟩ := ow h
      refine mr_last (pc := 261) dX6_layRow_261 (ha_46 σ τ2) (g11) (mc_V.heap (hs_46 e12) ?_)
      obtain ⟨rfl, rfl⟩ := os2 h
      exact mr_ret (pc := 262) rfl dX6_layRow_262
    · replace h := (if_neg q10).symm.trans h
      refine mr_iload (pc := 223) dX6_layRow_223 rfl ?_
      refine mr_i2l (pc := 225) dX6_layRow_225 ?_
      refine mr_goto (pc := 226) 261 dX6_layRow_226 (by decide) ?_
      obtain ⟨g13, h⟩ := og h
      obtain ⟨τ14, e14, h⟩ := ow h
      refine mr_last (pc := 261) dX6_layRow_261 (ha_46 σ τ2) (g13) (mc_V.heap (hs_46 e14) ?_)
      obtain ⟨rfl, rfl⟩ := os2 h
      exact mr_ret (pc := 262) rfl dX6_layRow_262
set_option maxHeartbeats 4000000 in
set_option maxRecDepth 100000 in
theorem dc_Q_layRow_b167 : ∀ (x1 : Int32) (x2 : Int32) (x4 : Int32) (x5 : Int32) (x6 : Int32) (s1 : Int32) (s2 : Int64) (σ : mS) (τ : mT) (σ' : mS) (τ' : mT), Q_layRow_b167 x1 x2 x4 x5 x6 s1 s2 σ τ = some (σ', τ') → mc_V M_X6_layRow 1 none 167 [.ref 34, .int x1, .int x2, .retAddr 0, .int x4, .int x5, .int x6, .retAddr 0, .retAddr 0] [.long s2, .int s1, .ref 45] (mc_hp σ τ) none (mc_hp σ' τ') 0 0 := by
  intro x1 x2 x4 x5 x6 s1 s2 σ τ σ' τ' h
  unfold Q_layRow_b167 at h
  obtain ⟨g1, h⟩ := og h
  obtain ⟨τ2, e2, h⟩ := ow h
  refine mr_last (pc := 167) dX6_layRow_167 (ha_45 σ τ) (g1) (mc_V.heap (hs_45 e2) ?_)
  refine mr_aload_n (pc := 168) dX6_layRow_168 rfl ?_
  refine mr_getf (pc := 169) (ci := 6) inX6 rfl 16 (by decide) fl_42 dX6_layRow_169 (ha_34 σ τ2) rfl ?_
  refine mr_iload_n (pc := 172) dX6_layRow_172 rfl ?_
  refine mr_iload (pc := 173) dX6_layRow_173 rfl ?_
  refine mr_if_eq (pc := 175) 191 dX6_layRow_175 (by decide) (fun q3 => ?_) (fun q3 => ?_)
  · replace h := (if_pos q3).symm.trans h
    refine mr_aload_n (pc := 191) dX6_layRow_191 rfl ?_
    refine mr_iload_n (pc := 192) dX6_layRow_192 rfl ?_
    refine mr_iconstv (pc := 193) (3 : Int32) dX6_layRow_193 (by decide) ?_
    obtain ⟨r4, σ4, τ4, c4, h⟩ := obs h
    refine mr_callV0 (pc := 194) (ci := 6) [.int x1, .int (3 : Int32)] ok_X6_get lk_132 st_X6_get se_X6_get dX6_layRow_194 rfl (ha_34 σ τ2) rfl rfl (Nat.le_of_ble_eq_true rfl) (Nat.le_of_ble_eq_true rfl) ((dc_Q_get c4).up (by decide)) ?_
    refine mr_aload_n (pc := 197) dX6_layRow_197 rfl ?_
    refine mr_iload_n (pc := 198) dX6_layRow_198 rfl ?_
    refine mr_iconstv (pc := 199) (4 : Int32) dX6_layRow_199 (by decide) ?_
    obtain ⟨r5, σ5, τ5, c5, h⟩ := obs h
    refine mr_callV0 (pc := 200) (ci := 6) [.int x1, .int (4 : Int32)] ok_X6_get lk_132 st_X6_get se_X6_get dX6_layRow_200 rfl (ha_34 σ4 τ4) rfl rfl (Nat.le_of_ble_eq_true rfl) (Nat.le_of_ble_eq_true rfl) ((dc_Q_get c5).up (by decide)) ?_
    refine mr_iadd (pc := 203) dX6_layRow_203 ?_
    refine mr_i2l (pc := 204) dX6_layRow_204 ?_
    exact mc_V.locs (loc' := [.ref 34, .int x1, .int x2, .retAddr 0, .int x4, .int x5, .int x6, .retAddr 0, .retAddr 0]) ⟨Or.inr rfl, Or.inr rfl, Or.inr rfl, Or.inl rfl, Or.inr rfl, Or.inr rfl, Or.inr rfl, Or.inl rfl, Or.inl rfl, trivial⟩ (dc_Q_layRow_b205 x1 x2 x4 x5 x6 x2 ((r4 + r5).toInt64) σ5 τ5 σ' τ' h)
  · replace h := (if_neg q3).symm.trans h
    refine mr_iload (pc := 178) dX6_layRow_178 rfl ?_
    refine mr_if_eq (pc := 180) 187 dX6_layRow_180 (by decide) (fun q6 => ?_) (fun q6 => ?_)
    · replace h := (if_pos q6).symm.trans h
      refine mr_lconstv (pc := 187) (0 : Int64) dX6_layRow_187 (by decide) ?_
      refine mr_goto (pc := 188) 205 dX6_layRow_188 (by decide) ?_
      exact mc_V.locs (loc' := [.ref 34, .int x1, .int x2, .retAddr 0, .int x4, .int x5, .int x6, .retAddr 0, .retAddr 0]) ⟨Or.inr rfl, Or.inr rfl, Or.inr rfl, Or.inl rfl, Or.inr rfl, Or.inr rfl, Or.inr rfl, Or.inl rfl, Or.inl rfl, trivial⟩ (dc_Q_layRow_b205 x1 x2 x4 x5 x6 x2 (0 : Int64) σ τ2 σ' τ' h)
    · replace h := (if_neg q6).symm.trans h
      refine mr_lconstv (pc := 183) (1 : Int64) dX6_layRow_183 (by decide) ?_
      refine mr_goto (pc := 184) 205 dX6_layRow_184 (by decide) ?_
      exact mc_V.locs (loc' := [.ref 34, .int x1, .int x2, .retAddr 0, .int x4, .int x5, .int x6, .retAddr 0, .retAddr 0]) ⟨Or.inr rfl, Or.inr rfl, Or.inr rfl, Or.inl rfl, Or.inr rfl, Or.inr rfl, Or.inr rfl, Or.inl rfl, Or.inl rfl, trivial⟩ (dc_Q_layRow_b205 x1 x2 x4 x5 x6 x2 (1 : Int64) σ τ2 σ' τ' h)
set_option maxHeartbeats 4000000 in
set_option maxRecDepth 100000 in
theorem dc_Q_layRow_b137 : ∀ (x1 : Int32) (x2 : Int32) (x4 : Int32) (x5 : Int32) (x6 : Int32) (s1 : Int32) (s2 : Int64) (σ : mS) (τ : mT) (σ' : mS) (τ' : mT), Q_layRow_b137 x1 x2 x4 x5 x6 s1 s2 σ τ = some (σ', τ') → mc_V M_X6_layRow 1 none 137 [.ref 34, .int x1, .int x2, .retAddr 0, .int x4, .int x5, .int x6, .retAddr 0, .retAddr 0] [.long s2, .int s1, .ref 45] (mc_hp σ τ) none (mc_hp σ' τ') 0 0 := by
  intro x1 x2 x4 x5 x6 s1 s2 σ τ σ' τ' h
  unfold Q_layRow_b137 at h
  obtain ⟨g1, h⟩ := og h
  obtain ⟨τ2, e2, h⟩ := ow h
  refine mr_last (pc := 137) dX6_layRow_137 (ha_45 σ τ) (g1) (mc_V.heap (hs_45 e2) ?_)
  refine mr_aload_n (pc := 138) dX6_layRow_138 rfl ?_
  refine mr_getf (pc := 139) (ci := 6) inX6 rfl 15 (by decide) fl_41 dX6_layRow_139 (ha_34 σ τ2) rfl ?_
  refine mr_bipushv (pc := 142) (16 : Int32) dX6_layRow_142 (by decide) ?_
  refine mr_iload_n (pc := 144) dX6_layRow_144 rfl ?_
  refine mr_imul (pc := 145) dX6_layRow_145 ?_
  refine mr_bipushv (pc := 146) (16 : Int32) dX6_layRow_146 (by decide) ?_
  refine mr_iadd (pc := 148) dX6_layRow_148 ?_
  refine mr_aload_n (pc := 149) dX6_layRow_149 rfl ?_
  refine mr_getf (pc := 150) (ci := 6) inX6 rfl 9 (by decide) fl_45 dX6_layRow_150 (ha_34 σ τ2) rfl ?_
  refine mr_iadd (pc := 153) dX6_layRow_153 ?_
  refine mr_iload (pc := 154) dX6_layRow_154 rfl ?_
  refine mr_if_eq (pc := 156) 166 dX6_layRow_156 (by decide) (fun q3 => ?_) (fun q3 => ?_)
  · replace h := (if_pos q3).symm.trans h
    refine mr_lconstv (pc := 166) (0 : Int64) dX6_layRow_166 (by decide) ?_
    exact mc_V.locs (loc' := [.ref 34, .int x1, .int x2, .retAddr 0, .int x4, .int x5, .int x6, .retAddr 0, .retAddr 0]) ⟨Or.inr rfl, Or.inr rfl, Or.inr rfl, Or.inl rfl, Or.inr rfl, Or.inr rfl, Or.inr rfl, Or.inl rfl, Or.inl rfl, trivial⟩ (dc_Q_layRow_b167 x1 x2 x4 x5 x6 ((((16 : Int32) * x2) + (16 : Int32)) + (σ 34 9)) (0 : Int64) σ τ2 σ' τ' h)
  · replace h := (if_neg q3).symm.trans h
    refine mr_iload (pc := 159) dX6_layRow_159 rfl ?_
    refine mr_ineg (pc := 161) dX6_layRow_161 ?_
    refine mr_i2l (pc := 162) dX6_layRow_162 ?_
    refine mr_goto (pc := 163) 167 dX6_layRow_163 (by decide) ?_
    exact mc_V.locs (loc' := [.ref 34, .int x1, .int x2, .retAddr 0, .int x4, .int x5, .int x6, .retAddr 0, .retAddr 0]) ⟨Or.inr rfl, Or.inr rfl, Or.inr rfl, Or.inl rfl, Or.inr rfl, Or.inr rfl, Or.inr rfl, Or.inl rfl, Or.inl rfl, trivial⟩ (dc_Q_layRow_b167 x1 x2 x4 x5 x6 ((((16 : Int32) * x2) + (16 : Int32)) + (σ 34 9)) ((-x4).toInt64) σ τ2 σ' τ' h)
set_option maxHeartbeats 4000000 in
set_option maxRecDepth 100000 in
theorem dc_Q_layRow_b110 : ∀ (x1 : Int32) (x2 : Int32) (x4 : Int32) (x5 : Int32) (s0 : Int32) (σ : mS) (τ : mT) (σ' : mS) (τ' : mT), Q_layRow_b110 x1 x2 x4 x5 s0 σ τ = some (σ', τ') → mc_V M_X6_layRow 1 none 110 [.ref 34, .int x1, .int x2, .retAddr 0, .int x4, .int x5, .retAddr 0, .retAddr 0, .retAddr 0] [.int s0] (mc_hp σ τ) none (mc_hp σ' τ') 0 0 := by
  intro x1 x2 x4 x5 s0 σ τ σ' τ' h
  unfold Q_layRow_b110 at h
  refine mr_istore (pc := 110) dX6_layRow_110 (Nat.le_of_ble_eq_true rfl) (show mc_V M_X6_layRow 1 none 112 [.ref 34, .int x1, .int x2, .retAddr 0, .int x4, .int x5, .int s0, .retAddr 0, .retAddr 0] [] (mc_hp σ τ) none (mc_hp σ' τ') 0 0 from ?_)
  refine mr_aload_n (pc := 112) dX6_layRow_112 rfl ?_
  refine mr_getf (pc := 113) (ci := 6) inX6 rfl 15 (by decide) fl_41 dX6_layRow_113 (ha_34 σ τ) rfl ?_
  refine mr_bipushv (pc := 116) (16 : Int32) dX6_layRow_116 (by decide) ?_
  refine mr_iload_n (pc := 118) dX6_layRow_118 rfl ?_
  refine mr_imul (pc := 119) dX6_layRow_119 ?_
  refine mr_aload_n (pc := 120) dX6_layRow_120 rfl ?_
  refine mr_getf (pc := 121) (ci := 6) inX6 rfl 9 (by decide) fl_45 dX6_layRow_121 (ha_34 σ τ) rfl ?_
  refine mr_iadd (pc := 124) dX6_layRow_124 ?_
  refine mr_iload (pc := 125) dX6_layRow_125 rfl ?_
  refine mr_if_eq (pc := 127) 136 dX6_layRow_127 (by decide) (fun q1 => ?_) (fun q1 => ?_)
  · replace h := (if_pos q1).symm.trans h
    refine mr_lconstv (pc := 136) (0 : Int64) dX6_layRow_136 (by decide) ?_
    exact mc_V.locs (loc' := [.ref 34, .int x1, .int x2, .retAddr 0, .int x4, .int x5, .int s0, .retAddr 0, .retAddr 0]) ⟨Or.inr rfl, Or.inr rfl, Or.inr rfl, Or.inl rfl, Or.inr rfl, Or.inr rfl, Or.inr rfl, Or.inl rfl, Or.inl rfl, trivial⟩ (dc_Q_layRow_b137 x1 x2 x4 x5 s0 (((16 : Int32) * x2) + (σ 34 9)) (0 : Int64) σ τ σ' τ' h)
  · replace h := (if_neg q1).symm.trans h
    refine mr_ldc2 (pc := 130) kL_X6_95 dX6_layRow_130 ?_
    refine mr_goto (pc := 133) 137 dX6_layRow_133 (by decide) ?_
    exact mc_V.locs (loc' := [.ref 34, .int x1, .int x2, .retAddr 0, .int x4, .int x5, .int s0, .retAddr 0, .retAddr 0]) ⟨Or.inr rfl, Or.inr rfl, Or.inr rfl, Or.inl rfl, Or.inr rfl, Or.inr rfl, Or.inr rfl, Or.inl rfl, Or.inl rfl, trivial⟩ (dc_Q_layRow_b137 x1 x2 x4 x5 s0 (((16 : Int32) * x2) + (σ 34 9)) (-1 : Int64) σ τ σ' τ' h)
set_option maxHeartbeats 4000000 in
set_option maxRecDepth 100000 in
theorem dc_Q_layRow_b45 (k3 : Int32 → Int32 → Int32 → Int32 → Int32 → Int32 → mS → mT → Option (mS × mT)) (hk3 : ∀ (x1 : Int32) (x2 : Int32) (x3 : Int32) (x4 : Int32) (x5 : Int32) (x6 : Int32) (σ : mS) (τ : mT) (σ' : mS) (τ' : mT), k3 x1 x2 x3 x4 x5 x6 σ τ = some (σ', τ') → mc_V M_X6_layRow 1 none 3 [.ref 34, .int x1, .int x2, .int x3, .int x4, .int x5, .int x6, .retAddr 0, .retAddr 0] [] (mc_hp σ τ) none (mc_hp σ' τ') 0 0) : ∀ (x1 : Int32) (x2 : Int32) (x3 : Int32) (x4 : Int32) (x5 : Int32) (x6 : Int32) (s0 : Int64) (σ : mS) (τ : mT) (σ' : mS) (τ' : mT), Q_layRow_b45 k3 x1 x2 x3 x4 x5 x6 s0 σ τ = some (σ', τ') → mc_V M_X6_layRow 1 none 45 [.ref 34, .int x1, .int x2, .int x3, .int x4, .int x5, .int x6, .retAddr 0, .retAddr 0] [.long s0] (mc_hp σ τ) none (mc_hp σ' τ') 0 0 := by
  intro x1 x2 x3 x4 x5 x6 s0 σ τ σ' τ' h
  unfold Q_layRow_b45 at h
  refine mr_lstore (pc := 45) dX6_layRow_45 (Nat.le_of_ble_eq_true rfl) (show mc_V M_X6_layRow 1 none 47 [.ref 34, .int x1, .int x2, .int x3, .int x4, .int x5, .int x6, .long s0, .retAddr 0] [] (mc_hp σ τ) none (mc_hp σ' τ') 0 0 from ?_)
  refine mr_aload_n (pc := 47) dX6_layRow_47 rfl ?_
  refine mr_getf (pc := 48) (ci := 6) inX6 rfl 15 (by decide) fl_41 dX6_layRow_48 (ha_34 σ τ) rfl ?_
  refine mr_bipushv (pc := 51) (16 : Int32) dX6_layRow_51 (by decide) ?_
  refine mr_iload_n (pc := 53) dX6_layRow_53 rfl ?_
  refine mr_imul (pc := 54) dX6_layRow_54 ?_
  refine mr_iload (pc := 55) dX6_layRow_55 rfl ?_
  refine mr_iadd (pc := 57) dX6_layRow_57 ?_
  refine mr_lload (pc := 58) dX6_layRow_58 rfl ?_
  obtain ⟨g1, h⟩ := og h
  obtain ⟨τ2, e2, h⟩ := ow h
  refine mr_last (pc := 60) dX6_layRow_60 (ha_45 σ τ) (g1) (mc_V.heap (hs_45 e2) ?_)
  refine mr_aload_n (pc := 61) dX6_layRow_61 rfl ?_
  refine mr_getf (pc := 62) (ci := 6) inX6 rfl 15 (by decide) fl_41 dX6_layRow_62 (ha_34 σ τ2) rfl ?_
  refine mr_bipushv (pc := 65) (16 : Int32) dX6_layRow_65 (by decide) ?_
  refine mr_iload_n (pc := 67) dX6_layRow_67 rfl ?_
  refine mr_imul (pc := 68) dX6_layRow_68 ?_
  refine mr_bipushv (pc := 69) (16 : Int32) dX6_layRow_69 (by decide) ?_
  refine mr_iadd (pc := 71) dX6_layRow_71 ?_
  refine mr_iload (pc := 72) dX6_layRow_72 rfl ?_
  refine mr_iadd (pc := 74) dX6_layRow_74 ?_
  refine mr_lload (pc := 75) dX6_layRow_75 rfl ?_
  refine mr_aload_n (pc := 77) dX6_layRow_77 rfl ?_
  refine mr_getf (pc := 78) (ci := 6) inX6 rfl 12 (by decide) fl_40 dX6_layRow_78 (ha_34 σ τ2) rfl ?_
  refine mr_iload (pc := 81) dX6_layRow_81 rfl ?_
  obtain ⟨g3, h⟩ := og h
  refine mr_iald (pc := 83) dX6_layRow_83 (ha_44 σ τ2) (g3) ?_
  refine mr_aload_n (pc := 84) dX6_layRow_84 rfl ?_
  refine mr_iload_n (pc := 85) dX6_layRow_85 rfl ?_
  refine mr_iconstv (pc := 86) (1 : Int32) dX6_layRow_86 (by decide) ?_
  obtain ⟨r4, σ4, τ4, c4, h⟩ := obs h
  refine mr_callV0 (pc := 87) (ci := 6) [.int x1, .int (1 : Int32)] ok_X6_get lk_132 st_X6_get se_X6_get dX6_layRow_87 rfl (ha_34 σ τ2) rfl rfl (Nat.le_of_ble_eq_true rfl) (Nat.le_of_ble_eq_true rfl) ((dc_Q_get c4).up (by decide)) ?_
  refine mr_isub (pc := 90) dX6_layRow_90 ?_
  refine mr_i2l (pc := 91) dX6_layRow_91 ?_
  refine mr_lmul (pc := 92) dX6_layRow_92 ?_
  obtain ⟨g5, h⟩ := og h
  obtain ⟨τ6, e6, h⟩ := ow h
  refine mr_last (pc := 93) dX6_layRow_93 (ha_45 σ4 τ4) (g5) (mc_V.heap (hs_45 e6) ?_)
  refine mr_iincv (pc := 94) (1 : Int32) dX6_layRow_94 rfl (by decide) (show mc_V M_X6_layRow 1 none 97 [.ref 34, .int x1, .int x2, .int x3, .int x4, .int x5, .int (x6 + (1 : Int32)), .long s0, .retAddr 0] [] (mc_hp σ4 τ6) none (mc_hp σ' τ') 0 0 from ?_)
  refine mr_goto (pc := 97) 3 dX6_layRow_97 (by decide) ?_
  exact mc_V.locs (loc' := [.ref 34, .int x1, .int x2, .int x3, .int x4, .int x5, .int (x6 + (1 : Int32)), .retAddr 0, .retAddr 0]) ⟨Or.inr rfl, Or.inr rfl, Or.inr rfl, Or.inr rfl, Or.inr rfl, Or.inr rfl, Or.inr rfl, Or.inl rfl, Or.inl rfl, trivial⟩ (hk3 x1 x2 x3 x4 x5 (x6 + (1 : Int32)) σ4 τ6 σ' τ' h)
set_option maxHeartbeats 4000000 in
set_option maxRecDepth 100000 in
theorem dc_Q_layRow_l3 : ∀ (n : Nat), ∀ (x1 : Int32) (x2 : Int32) (x3 : Int32) (x4 : Int32) (x5 : Int32) (x6 : Int32) (σ : mS) (τ : mT) (σ' : mS) (τ' : mT), Q_layRow_l3 n x1 x2 x3 x4 x5 x6 σ τ = some (σ', τ') → mc_V M_X6_layRow 1 none 3 [.ref 34, .int x1, .int x2, .int x3, .int x4, .int x5, .int x6, .retAddr 0, .retAddr 0] [] (mc_hp σ τ) none (mc_hp σ' τ') 0 0 := by
  intro n
  induction n with
  | zero =>
    intros
    rename_i h
    cases h
  | succ n ih =>
    intro x1 x2 x3 x4 x5 x6 σ τ σ' τ' h
    refine mr_iload (pc := 3) dX6_layRow_3 rfl ?_
    refine mr_aload_n (pc := 5) dX6_layRow_5 rfl ?_
    refine mr_getf (pc := 6) (ci := 6) inX6 rfl 9 (by decide) fl_45 dX6_layRow_6 (ha_34 σ τ) rfl ?_
    refine mr_icmp_ge (pc := 9) 100 dX6_layRow_9 (by decide) (fun q1 => ?_) (fun q1 => ?_)
    · replace h := (if_pos q1).symm.trans h
      refine mr_iload_n (pc := 100) dX6_layRow_100 rfl ?_
      refine mr_iload_n (pc := 101) dX6_layRow_101 rfl ?_
      refine mr_icmp_ne (pc := 102) 109 dX6_layRow_102 (by decide) (fun q2 => ?_) (fun q2 => ?_)
      · replace h := (if_neg q2).symm.trans h
        refine mr_iconstv (pc := 109) (0 : Int32) dX6_layRow_109 (by decide) ?_
        exact mc_V.locs (loc' := [.ref 34, .int x1, .int x2, .retAddr 0, .int x4, .int x5, .retAddr 0, .retAddr 0, .retAddr 0]) ⟨Or.inr rfl, Or.inr rfl, Or.inr rfl, Or.inl rfl, Or.inr rfl, Or.inr rfl, Or.inl rfl, Or.inl rfl, Or.inl rfl, trivial⟩ (dc_Q_layRow_b110 x1 x2 x4 x5 (0 : Int32) σ τ σ' τ' h)
      · replace h := (if_pos q2).symm.trans h
        refine mr_iconstv (pc := 105) (1 : Int32) dX6_layRow_105 (by decide) ?_
        refine mr_goto (pc := 106) 110 dX6_layRow_106 (by decide) ?_
        exact mc_V.locs (loc' := [.ref 34, .int x1, .int x2, .retAddr 0, .int x4, .int x5, .retAddr 0, .retAddr 0, .retAddr 0]) ⟨Or.inr rfl, Or.inr rfl, Or.inr rfl, Or.inl rfl, Or.inr rfl, Or.inr rfl, Or.inl rfl, Or.inl rfl, Or.inl rfl, trivial⟩ (dc_Q_layRow_b110 x1 x2 x4 x5 (1 : Int32) σ τ σ' τ' h)
    · replace h := (if_neg q1).symm.trans h
      refine mr_aload_n (pc := 12) dX6_layRow_12 rfl ?_
      refine mr_getf (pc := 13) (ci := 6) inX6 rfl 10 (by decide) fl_38 dX6_layRow_13 (ha_34 σ τ) rfl ?_
      refine mr_iload (pc := 16) dX6_layRow_16 rfl ?_
      obtain ⟨g3, h⟩ := og h
      refine mr_iald (pc := 18) dX6_layRow_18 (ha_42 σ τ) (g3) ?_
      refine mr_iload_n (pc := 19) dX6_layRow_19 rfl ?_
      refine mr_icmp_ne (pc := 20) 27 dX6_layRow_20 (by decide) (fun q4 => ?_) (fun q4 => ?_)
      · replace h := (if_neg q4).symm.trans h
        refine mr_aload_n (pc := 27) dX6_layRow_27 rfl ?_
        refine mr_getf (pc := 28) (ci := 6) inX6 rfl 11 (by decide) fl_39 dX6_layRow_28 (ha_34 σ τ) rfl ?_
        refine mr_iload (pc := 31) dX6_layRow_31 rfl ?_
        refine mr_iald (pc := 33) dX6_layRow_33 (ha_43 σ τ) (g3) ?_
        refine mr_iload_n (pc := 34) dX6_layRow_34 rfl ?_
        refine mr_icmp_ne (pc := 35) 44 dX6_layRow_35 (by decide) (fun q5 => ?_) (fun q5 => ?_)
        · replace h := (if_neg q5).symm.trans h
          refine mr_lconstv (pc := 44) (0 : Int64) dX6_layRow_44 (by decide) ?_
          exact mc_V.locs (loc' := [.ref 34, .int x1, .int x2, .int x3, .int x4, .int x5, .int x6, .retAddr 0, .retAddr 0]) ⟨Or.inr rfl, Or.inr rfl, Or.inr rfl, Or.inr rfl, Or.inr rfl, Or.inr rfl, Or.inr rfl, Or.inl rfl, Or.inl rfl, trivial⟩ (dc_Q_layRow_b45 (Q_layRow_l3 n) ih x1 x2 x3 x4 x5 x6 (0 : Int64) σ τ σ' τ' h)
        · replace h := (if_pos q5).symm.trans h
          refine mr_ldc2 (pc := 38) kL_X6_95 dX6_layRow_38 ?_
          refine mr_goto (pc := 41) 45 dX6_layRow_41 (by decide) ?_
          exact mc_V.locs (loc' := [.ref 34, .int x1, .int x2, .int x3, .int x4, .int x5, .int x6, .retAddr 0, .retAddr 0]) ⟨Or.inr rfl, Or.inr rfl, Or.inr rfl, Or.inr rfl, Or.inr rfl, Or.inr rfl, Or.inr rfl, Or.inl rfl, Or.inl rfl, trivial⟩ (dc_Q_layRow_b45 (Q_layRow_l3 n) ih x1 x2 x3 x4 x5 x6 (-1 : Int64) σ τ σ' τ' h)
      · replace h := (if_pos q4).symm.trans h
        refine mr_lconstv (pc := 23) (1 : Int64) dX6_layRow_23 (by decide) ?_
        refine mr_goto (pc := 24) 45 dX6_layRow_24 (by decide) ?_
        exact mc_V.locs (loc' := [.ref 34, .int x1, .int x2, .int x3, .int x4, .int x5, .int x6, .retAddr 0, .retAddr 0]) ⟨Or.inr rfl, Or.inr rfl, Or.inr rfl, Or.inr rfl, Or.inr rfl, Or.inr rfl, Or.inr rfl, Or.inl rfl, Or.inl rfl, trivial⟩ (dc_Q_layRow_b45 (Q_layRow_l3 n) ih x1 x2 x3 x4 x5 x6 (1 : Int64) σ τ σ' τ' h)
set_option maxHeartbeats 4000000 in
set_option maxRecDepth 100000 in
theorem dc_Q_layRow {p1 : Int32} {p2 : Int32} {p3 : Int32} {p4 : Int32} {p5 : Int32} {σ : mS} {τ : mT} {σ' : mS} {τ' : mT} (h : Q_layRow p1 p2 p3 p4 p5 σ τ = some (σ', τ')) : mc_V M_X6_layRow 1 none 0 (mc_entry [.ref 34, .int p1, .int p2, .int p3, .int p4, .int p5] 9) [] (mc_hp σ τ) none (mc_hp σ' τ') 0 0 := by
  unfold Q_layRow at h
  show mc_V M_X6_layRow 1 none 0 [.ref 34, .int p1, .int p2, .int p3, .int p4, .int p5, .retAddr 0, .retAddr 0, .retAddr 0] [] (mc_hp σ τ) none (mc_hp σ' τ') 0 0
  refine mr_iconstv (pc := 0) (0 : Int32) dX6_layRow_0 (by decide) ?_
  refine mr_istore (pc := 1) dX6_layRow_1 (Nat.le_of_ble_eq_true rfl) (show mc_V M_X6_layRow 1 none 3 [.ref 34, .int p1, .int p2, .int p3, .int p4, .int p5, .int (0 : Int32), .retAddr 0, .retAddr 0] [] (mc_hp σ τ) none (mc_hp σ' τ') 0 0 from ?_)
  exact mc_V.locs (loc' := [.ref 34, .int p1, .int p2, .int p3, .int p4, .int p5, .int (0 : Int32), .retAddr 0, .retAddr 0]) ⟨Or.inr rfl, Or.inr rfl, Or.inr rfl, Or.inr rfl, Or.inr rfl, Or.inr rfl, Or.inr rfl, Or.inl rfl, Or.inl rfl, trivial⟩ (dc_Q_layRow_l3 mc_F p1 p2 p3 p4 p5 (0 : Int32) σ τ σ' τ' h)
set_option maxHeartbeats 4000000 in
set_option maxRecDepth 100000 in
theorem dc_Q_layRows_l8 : ∀ (n : Nat), ∀ (x1 : Int32) (x2 : Int32) (x3 : Int32) (x4 : Int32) (x5 : Int32) (σ : mS) (τ : mT) (σ' : mS) (τ' : mT), Q_layRows_l8 n x1 x2 x3 x4 x5 σ τ = some (σ', τ') → mc_V M_X6_layRows 2 none 8 [.ref 34, .int x1, .int x2, .int x3, .int x4, .int x5] [] (mc_hp σ τ) none (mc_hp σ' τ') 0 0 := by
  intro n
  induction n with
  | zero =>
    intros
    rename_i h
    cases h
  | succ n ih =>
    intro x1 x2 x3 x4 x5 σ τ σ' τ' h
    refine mr_iload (pc := 8) dX6_layRows_8 rfl ?_
    refine mr_aload_n (pc := 10) dX6_layRows_10 rfl ?_
    obtain ⟨r1, σ1, τ1, c1, h⟩ := obs h
    refine mr_callV0 (pc := 11) (ci := 6) [] ok_X6_many lk_138 st_X6_many se_X6_many dX6_layRows_11 rfl (ha_34 σ τ) rfl rfl (Nat.le_of_ble_eq_true rfl) (Nat.le_of_ble_eq_true rfl) ((dc_Q_many c1).up (by decide)) ?_
    refine mr_icmp_ge (pc := 14) 56 dX6_layRows_14 (by decide) (fun q2 => ?_) (fun q2 => ?_)
    · replace h := (if_pos q2).symm.trans h
      refine mr_aload_n (pc := 56) dX6_layRows_56 rfl ?_
      refine mr_aload_n (pc := 57) dX6_layRows_57 rfl ?_
      refine mr_getf (pc := 58) (ci := 6) inX6 rfl 9 (by decide) fl_45 dX6_layRows_58 (ha_34 σ1 τ1) rfl ?_
      refine mr_iload_n (pc := 61) dX6_layRows_61 rfl ?_
      refine mr_bipushv (pc := 62) (-9 : Int32) dX6_layRows_62 (by decide) ?_
      refine mr_icmp_eq (pc := 64) 76 dX6_layRows_64 (by decide) (fun q3 => ?_) (fun q3 => ?_)
      · replace h := (if_pos q3).symm.trans h
        refine mr_iconstv (pc := 76) (0 : Int32) dX6_layRows_76 (by decide) ?_
        refine mr_iadd (pc := 77) dX6_layRows_77 ?_
        obtain ⟨σ4, e4, h⟩ := ow h
        refine mr_putf (pc := 78) (ci := 6) inX6 tyX6 tyX6_ok nmX6 rfl 14 (by decide) fl_47 rfl dX6_layRows_78 (ha_34 σ1 τ1) (Nat.le_of_ble_eq_true rfl) rfl (mc_V.heap (hs_34_14 e4) ?_)
        obtain ⟨rfl, rfl⟩ := os2 h
        exact mr_ret (pc := 81) rfl dX6_layRows_81
      · replace h := (if_neg q3).symm.trans h
        refine mr_iload (pc := 67) dX6_layRows_67 rfl ?_
        refine mr_if_ne (pc := 69) 76 dX6_layRows_69 (by decide) (fun q5 => ?_) (fun q5 => ?_)
        · replace h := (if_neg q5).symm.trans h
          refine mr_iconstv (pc := 76) (0 : Int32) dX6_layRows_76 (by decide) ?_
          refine mr_iadd (pc := 77) dX6_layRows_77 ?_
          obtain ⟨σ6, e6, h⟩ := ow h
          refine mr_putf (pc := 78) (ci := 6) inX6 tyX6 tyX6_ok nmX6 rfl 14 (by decide) fl_47 rfl dX6_layRows_78 (ha_34 σ1 τ1) (Nat.le_of_ble_eq_true rfl) rfl (mc_V.heap (hs_34_14 e6) ?_)
          obtain ⟨rfl, rfl⟩ := os2 h
          exact mr_ret (pc := 81) rfl dX6_layRows_81
        · replace h := (if_pos q5).symm.trans h
          refine mr_iconstv (pc := 72) (1 : Int32) dX6_layRows_72 (by decide) ?_
          refine mr_goto (pc := 73) 77 dX6_layRows_73 (by decide) ?_
          refine mr_iadd (pc := 77) dX6_layRows_77 ?_
          obtain ⟨σ7, e7, h⟩ := ow h
          refine mr_putf (pc := 78) (ci := 6) inX6 tyX6 tyX6_ok nmX6 rfl 14 (by decide) fl_47 rfl dX6_layRows_78 (ha_34 σ1 τ1) (Nat.le_of_ble_eq_true rfl) rfl (mc_V.heap (hs_34_14 e7) ?_)
          obtain ⟨rfl, rfl⟩ := os2 h
          exact mr_ret (pc := 81) rfl dX6_layRows_81
    · replace h := (if_neg q2).symm.trans h
      refine mr_iload_n (pc := 17) dX6_layRows_17 rfl ?_
      refine mr_iload (pc := 18) dX6_layRows_18 rfl ?_
      obtain ⟨r8, σ8, τ8, c8, h⟩ := obs h
      refine mr_callS0 (pc := 20) [.int x1, .int x5] ok_X6_has lk_140 st_X6_has dX6_layRows_20 rfl rfl (Nat.le_of_ble_eq_true rfl) (Nat.le_of_ble_eq_true rfl) ((dc_Q_has c8).up (by decide)) ?_
      refine mr_if_eq (pc := 23) 50 dX6_layRows_23 (by decide) (fun q9 => ?_) (fun q9 => ?_)
      · replace h := (if_pos q9).symm.trans h
        refine mr_iincv (pc := 50) (1 : Int32) dX6_layRows_50 rfl (by decide) (show mc_V M_X6_layRows 2 none 53 [.ref 34, .int x1, .int x2, .int x3, .int x4, .int (x5 + (1 : Int32))] [] (mc_hp σ8 τ8) none (mc_hp σ' τ') 0 0 from ?_)
        refine mr_goto (pc := 53) 8 dX6_layRows_53 (by decide) ?_
        exact mc_V.locs (loc' := [.ref 34, .int x1, .int x2, .int x3, .int x4, .int (x5 + (1 : Int32))]) ⟨Or.inr rfl, Or.inr rfl, Or.inr rfl, Or.inr rfl, Or.inr rfl, Or.inr rfl, trivial⟩ (ih x1 x2 x3 x4 (x5 + (1 : Int32)) σ8 τ8 σ' τ' h)
      · replace h := (if_neg q9).symm.trans h
        refine mr_aload_n (pc := 26) dX6_layRows_26 rfl ?_
        refine mr_iload (pc := 27) dX6_layRows_27 rfl ?_
        refine mr_aload_n (pc := 29) dX6_layRows_29 rfl ?_
        refine mr_getf (pc := 30) (ci := 6) inX6 rfl 13 (by decide) fl_46 dX6_layRows_30 (ha_34 σ8 τ8) rfl ?_
        refine mr_iload_n (pc := 33) dX6_layRows_33 rfl ?_
        refine mr_iload_n (pc := 34) dX6_layRows_34 rfl ?_
        refine mr_iload (pc := 35) dX6_layRows_35 rfl ?_
        obtain ⟨σ10, τ10, c10, h⟩ := ovs h
        refine mr_callV0 (pc := 37) (ci := 6) [.int x5, .int (σ8 34 13), .int x2, .int x3, .int x4] ok_X6_layRow lk_141 st_X6_layRow se_X6_layRow dX6_layRows_37 rfl (ha_34 σ8 τ8) rfl rfl (Nat.le_of_ble_eq_true rfl) (Nat.le_of_ble_eq_true rfl) ((dc_Q_layRow c10).up (by decide)) ?_
        refine mr_aload_n (pc := 40) dX6_layRows_40 rfl ?_
        refine mr_dup (pc := 41) dX6_layRows_41 rfl ?_
        refine mr_getf (pc := 42) (ci := 6) inX6 rfl 13 (by decide) fl_46 dX6_layRows_42 (ha_34 σ10 τ10) rfl ?_
        refine mr_iconstv (pc := 45) (2 : Int32) dX6_layRows_45 (by decide) ?_
        refine mr_iadd (pc := 46) dX6_layRows_46 ?_
        obtain ⟨σ11, e11, h⟩ := ow h
        refine mr_putf (pc := 47) (ci := 6) inX6 tyX6 tyX6_ok nmX6 rfl 13 (by decide) fl_46 rfl dX6_layRows_47 (ha_34 σ10 τ10) (Nat.le_of_ble_eq_true rfl) rfl (mc_V.heap (hs_34_13 e11) ?_)
        refine mr_iincv (pc := 50) (1 : Int32) dX6_layRows_50 rfl (by decide) (show mc_V M_X6_layRows 2 none 53 [.ref 34, .int x1, .int x2, .int x3, .int x4, .int (x5 + (1 : Int32))] [] (mc_hp σ11 τ10) none (mc_hp σ' τ') 0 0 from ?_)
        refine mr_goto (pc := 53) 8 dX6_layRows_53 (by decide) ?_
        exact mc_V.locs (loc' := [.ref 34, .int x1, .int x2, .int x3, .int x4, .int (x5 + (1 : Int32))]) ⟨Or.inr rfl, Or.inr rfl, Or.inr rfl, Or.inr rfl, Or.inr rfl, Or.inr rfl, trivial⟩ (ih x1 x2 x3 x4 (x5 + (1 : Int32)) σ11 τ10 σ' τ' h)
set_option maxHeartbeats 4000000 in
set_option maxRecDepth 100000 in
theorem dc_Q_layRows {p1 : Int32} {p2 : Int32} {p3 : Int32} {p4 : Int32} {σ : mS} {τ : mT} {σ' : mS} {τ' : mT} (h : Q_layRows p1 p2 p3 p4 σ τ = some (σ', τ')) : mc_V M_X6_layRows 2 none 0 (mc_entry [.ref 34, .int p1, .int p2, .int p3, .int p4] 6) [] (mc_hp σ τ) none (mc_hp σ' τ') 0 0 := by
  unfold Q_layRows at h
  show mc_V M_X6_layRows 2 none 0 [.ref 34, .int p1, .int p2, .int p3, .int p4, .retAddr 0] [] (mc_hp σ τ) none (mc_hp σ' τ') 0 0
  refine mr_aload_n (pc := 0) dX6_layRows_0 rfl ?_
  refine mr_iconstv (pc := 1) (0 : Int32) dX6_layRows_1 (by decide) ?_
  obtain ⟨σ1, e1, h⟩ := ow h
  refine mr_putf (pc := 2) (ci := 6) inX6 tyX6 tyX6_ok nmX6 rfl 13 (by decide) fl_46 rfl dX6_layRows_2 (ha_34 σ τ) (Nat.le_of_ble_eq_true rfl) rfl (mc_V.heap (hs_34_13 e1) ?_)
  refine mr_iconstv (pc := 5) (0 : Int32) dX6_layRows_5 (by decide) ?_
  refine mr_istore (pc := 6) dX6_layRows_6 (Nat.le_of_ble_eq_true rfl) (show mc_V M_X6_layRows 2 none 8 [.ref 34, .int p1, .int p2, .int p3, .int p4, .int (0 : Int32)] [] (mc_hp σ1 τ) none (mc_hp σ' τ') 0 0 from ?_)
  exact mc_V.locs (loc' := [.ref 34, .int p1, .int p2, .int p3, .int p4, .int (0 : Int32)]) ⟨Or.inr rfl, Or.inr rfl, Or.inr rfl, Or.inr rfl, Or.inr rfl, Or.inr rfl, trivial⟩ (dc_Q_layRows_l8 mc_F p1 p2 p3 p4 (0 : Int32) σ1 τ σ' τ' h)
