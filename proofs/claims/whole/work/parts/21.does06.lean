set_option maxHeartbeats 4000000 in
set_option maxRecDepth 100000 in
theorem dc_Q_ones_l4 : ∀ (n : Nat), ∀ (x0 : Int32) (x1 : Int32) (x2 : Int32) (σ : mS) (τ : mT) (r : Int32) (σ' : mS) (τ' : mT), Q_ones_l4 n x0 x1 x2 σ τ = some (r, σ', τ') → mc_V M_X6_ones 0 none 4 [.int x0, .int x1, .int x2] [] (mc_hp σ τ) (some (.int r)) (mc_hp σ' τ') 0 0 := by
  intro n
  induction n with
  | zero =>
    intros
    rename_i h
    cases h
  | succ n ih =>
    intro x0 x1 x2 σ τ r σ' τ' h
    refine mr_iload_n (pc := 4) dX6_ones_4 rfl ?_
    refine mr_bipushv (pc := 5) (16 : Int32) dX6_ones_5 (by decide) ?_
    refine mr_icmp_ge (pc := 7) 24 dX6_ones_7 (by decide) (fun q1 => ?_) (fun q1 => ?_)
    · replace h := (if_pos q1).symm.trans h
      refine mr_iload_n (pc := 24) dX6_ones_24 rfl ?_
      obtain ⟨rfl, rfl, rfl⟩ := os3 h
      exact mr_iret (pc := 25) rfl (rfl) dX6_ones_25
    · replace h := (if_neg q1).symm.trans h
      refine mr_iload_n (pc := 10) dX6_ones_10 rfl ?_
      refine mr_iload_n (pc := 11) dX6_ones_11 rfl ?_
      refine mr_iload_n (pc := 12) dX6_ones_12 rfl ?_
      refine mr_ishr (pc := 13) dX6_ones_13 ?_
      refine mr_iconstv (pc := 14) (1 : Int32) dX6_ones_14 (by decide) ?_
      refine mr_iand (pc := 15) dX6_ones_15 ?_
      refine mr_iadd (pc := 16) dX6_ones_16 ?_
      refine mr_istore_n (pc := 17) dX6_ones_17 (Nat.le_of_ble_eq_true rfl) (show mc_V M_X6_ones 0 none 18 [.int x0, .int (x1 + ((x0 >>> (x2 &&& 31)) &&& (1 : Int32))), .int x2] [] (mc_hp σ τ) (some (.int r)) (mc_hp σ' τ') 0 0 from ?_)
      refine mr_iincv (pc := 18) (1 : Int32) dX6_ones_18 rfl (by decide) (show mc_V M_X6_ones 0 none 21 [.int x0, .int (x1 + ((x0 >>> (x2 &&& 31)) &&& (1 : Int32))), .int (x2 + (1 : Int32))] [] (mc_hp σ τ) (some (.int r)) (mc_hp σ' τ') 0 0 from ?_)
      refine mr_goto (pc := 21) 4 dX6_ones_21 (by decide) ?_
      exact mc_V.locs (loc' := [.int x0, .int (x1 + ((x0 >>> (x2 &&& 31)) &&& (1 : Int32))), .int (x2 + (1 : Int32))]) ⟨Or.inr rfl, Or.inr rfl, Or.inr rfl, trivial⟩ (ih x0 (x1 + ((x0 >>> (x2 &&& 31)) &&& (1 : Int32))) (x2 + (1 : Int32)) σ τ r σ' τ' h)
set_option maxHeartbeats 4000000 in
set_option maxRecDepth 100000 in
theorem dc_Q_ones {p0 : Int32} {σ : mS} {τ : mT} {r : Int32} {σ' : mS} {τ' : mT} (h : Q_ones p0 σ τ = some (r, σ', τ')) : mc_V M_X6_ones 0 none 0 (mc_entry [.int p0] 3) [] (mc_hp σ τ) (some (.int r)) (mc_hp σ' τ') 0 0 := by
  unfold Q_ones at h
  show mc_V M_X6_ones 0 none 0 [.int p0, .retAddr 0, .retAddr 0] [] (mc_hp σ τ) (some (.int r)) (mc_hp σ' τ') 0 0
  refine mr_iconstv (pc := 0) (0 : Int32) dX6_ones_0 (by decide) ?_
  refine mr_istore_n (pc := 1) dX6_ones_1 (Nat.le_of_ble_eq_true rfl) (show mc_V M_X6_ones 0 none 2 [.int p0, .int (0 : Int32), .retAddr 0] [] (mc_hp σ τ) (some (.int r)) (mc_hp σ' τ') 0 0 from ?_)
  refine mr_iconstv (pc := 2) (0 : Int32) dX6_ones_2 (by decide) ?_
  refine mr_istore_n (pc := 3) dX6_ones_3 (Nat.le_of_ble_eq_true rfl) (show mc_V M_X6_ones 0 none 4 [.int p0, .int (0 : Int32), .int (0 : Int32)] [] (mc_hp σ τ) (some (.int r)) (mc_hp σ' τ') 0 0 from ?_)
  exact mc_V.locs (loc' := [.int p0, .int (0 : Int32), .int (0 : Int32)]) ⟨Or.inr rfl, Or.inr rfl, Or.inr rfl, trivial⟩ (dc_Q_ones_l4 mc_F p0 (0 : Int32) (0 : Int32) σ τ r σ' τ' h)
set_option maxHeartbeats 4000000 in
set_option maxRecDepth 100000 in
theorem dc_Q_fills_l73 : ∀ (n : Nat), ∀ (x3 : Int32) (σ : mS) (τ : mT) (σ' : mS) (τ' : mT), Q_fills_l73 n x3 σ τ = some (σ', τ') → mc_V M_X6_fills 1 none 73 [.ref 34, .retAddr 0, .retAddr 0, .int x3, .retAddr 0] [] (mc_hp σ τ) none (mc_hp σ' τ') 0 0 := by
  intro n
  induction n with
  | zero =>
    intros
    rename_i h
    cases h
  | succ n ih =>
    intro x3 σ τ σ' τ' h
    refine mr_iload_n (pc := 73) dX6_fills_73 rfl ?_
    refine mr_aload_n (pc := 74) dX6_fills_74 rfl ?_
    refine mr_getf (pc := 75) (ci := 6) inX6 rfl 13 (by decide) fl_46 dX6_fills_75 (ha_34 σ τ) rfl ?_
    refine mr_icmp_ge (pc := 78) 107 dX6_fills_78 (by decide) (fun q1 => ?_) (fun q1 => ?_)
    · replace h := (if_pos q1).symm.trans h
      obtain ⟨rfl, rfl⟩ := os2 h
      exact mr_ret (pc := 107) rfl dX6_fills_107
    · replace h := (if_neg q1).symm.trans h
      refine mr_aload_n (pc := 81) dX6_fills_81 rfl ?_
      refine mr_getf (pc := 82) (ci := 6) inX6 rfl 17 (by decide) fl_43 dX6_fills_82 (ha_34 σ τ) rfl ?_
      refine mr_bipushv (pc := 85) (9 : Int32) dX6_fills_85 (by decide) ?_
      refine mr_iload_n (pc := 87) dX6_fills_87 rfl ?_
      refine mr_imul (pc := 88) dX6_fills_88 ?_
      refine mr_aload_n (pc := 89) dX6_fills_89 rfl ?_
      refine mr_getf (pc := 90) (ci := 6) inX6 rfl 13 (by decide) fl_46 dX6_fills_90 (ha_34 σ τ) rfl ?_
      refine mr_iadd (pc := 93) dX6_fills_93 ?_
      refine mr_aload_n (pc := 94) dX6_fills_94 rfl ?_
      refine mr_getf (pc := 95) (ci := 6) inX6 rfl 16 (by decide) fl_42 dX6_fills_95 (ha_34 σ τ) rfl ?_
      refine mr_iload_n (pc := 98) dX6_fills_98 rfl ?_
      obtain ⟨g2, h⟩ := og h
      refine mr_lald (pc := 99) dX6_fills_99 (ha_46 σ τ) (g2) ?_
      obtain ⟨g3, h⟩ := og h
      obtain ⟨τ4, e4, h⟩ := ow h
      refine mr_last (pc := 100) dX6_fills_100 (ha_47 σ τ) (g3) (mc_V.heap (hs_47 e4) ?_)
      refine mr_iincv (pc := 101) (1 : Int32) dX6_fills_101 rfl (by decide) (show mc_V M_X6_fills 1 none 104 [.ref 34, .retAddr 0, .retAddr 0, .int (x3 + (1 : Int32)), .retAddr 0] [] (mc_hp σ τ4) none (mc_hp σ' τ') 0 0 from ?_)
      refine mr_goto (pc := 104) 73 dX6_fills_104 (by decide) ?_
      exact mc_V.locs (loc' := [.ref 34, .retAddr 0, .retAddr 0, .int (x3 + (1 : Int32)), .retAddr 0]) ⟨Or.inr rfl, Or.inl rfl, Or.inl rfl, Or.inr rfl, Or.inl rfl, trivial⟩ (ih (x3 + (1 : Int32)) σ τ4 σ' τ' h)
set_option maxHeartbeats 4000000 in
set_option maxRecDepth 100000 in
theorem dc_Q_fills_l23 (k4 : Int32 → Int32 → Int32 → mS → mT → Option (mS × mT)) (hk4 : ∀ (x1 : Int32) (x2 : Int32) (x3 : Int32) (σ : mS) (τ : mT) (σ' : mS) (τ' : mT), k4 x1 x2 x3 σ τ = some (σ', τ') → mc_V M_X6_fills 1 none 4 [.ref 34, .int x1, .int x2, .int x3, .retAddr 0] [] (mc_hp σ τ) none (mc_hp σ' τ') 0 0) : ∀ (n : Nat), ∀ (x1 : Int32) (x2 : Int32) (x3 : Int32) (x4 : Int32) (σ : mS) (τ : mT) (σ' : mS) (τ' : mT), Q_fills_l23 k4 n x1 x2 x3 x4 σ τ = some (σ', τ') → mc_V M_X6_fills 1 none 23 [.ref 34, .int x1, .int x2, .int x3, .int x4] [] (mc_hp σ τ) none (mc_hp σ' τ') 0 0 := by
  intro n
  induction n with
  | zero =>
    intros
    rename_i h
    cases h
  | succ n ih =>
    intro x1 x2 x3 x4 σ τ σ' τ' h
    refine mr_iload (pc := 23) dX6_fills_23 rfl ?_
    refine mr_aload_n (pc := 25) dX6_fills_25 rfl ?_
    refine mr_getf (pc := 26) (ci := 6) inX6 rfl 13 (by decide) fl_46 dX6_fills_26 (ha_34 σ τ) rfl ?_
    refine mr_icmp_ge (pc := 29) 62 dX6_fills_29 (by decide) (fun q1 => ?_) (fun q1 => ?_)
    · replace h := (if_pos q1).symm.trans h
      refine mr_iincv (pc := 62) (1 : Int32) dX6_fills_62 rfl (by decide) (show mc_V M_X6_fills 1 none 65 [.ref 34, .int x1, .int (x2 + (1 : Int32)), .int x3, .int x4] [] (mc_hp σ τ) none (mc_hp σ' τ') 0 0 from ?_)
      refine mr_iincv (pc := 65) (1 : Int32) dX6_fills_65 rfl (by decide) (show mc_V M_X6_fills 1 none 68 [.ref 34, .int x1, .int (x2 + (1 : Int32)), .int (x3 + (1 : Int32)), .int x4] [] (mc_hp σ τ) none (mc_hp σ' τ') 0 0 from ?_)
      refine mr_goto (pc := 68) 4 dX6_fills_68 (by decide) ?_
      exact mc_V.locs (loc' := [.ref 34, .int x1, .int (x2 + (1 : Int32)), .int (x3 + (1 : Int32)), .retAddr 0]) ⟨Or.inr rfl, Or.inr rfl, Or.inr rfl, Or.inr rfl, Or.inl rfl, trivial⟩ (hk4 x1 (x2 + (1 : Int32)) (x3 + (1 : Int32)) σ τ σ' τ' h)
    · replace h := (if_neg q1).symm.trans h
      refine mr_aload_n (pc := 32) dX6_fills_32 rfl ?_
      refine mr_getf (pc := 33) (ci := 6) inX6 rfl 17 (by decide) fl_43 dX6_fills_33 (ha_34 σ τ) rfl ?_
      refine mr_bipushv (pc := 36) (9 : Int32) dX6_fills_36 (by decide) ?_
      refine mr_iload (pc := 38) dX6_fills_38 rfl ?_
      refine mr_imul (pc := 40) dX6_fills_40 ?_
      refine mr_iload_n (pc := 41) dX6_fills_41 rfl ?_
      refine mr_iadd (pc := 42) dX6_fills_42 ?_
      refine mr_aload_n (pc := 43) dX6_fills_43 rfl ?_
      refine mr_getf (pc := 44) (ci := 6) inX6 rfl 15 (by decide) fl_41 dX6_fills_44 (ha_34 σ τ) rfl ?_
      refine mr_bipushv (pc := 47) (16 : Int32) dX6_fills_47 (by decide) ?_
      refine mr_iload (pc := 49) dX6_fills_49 rfl ?_
      refine mr_imul (pc := 51) dX6_fills_51 ?_
      refine mr_iload_n (pc := 52) dX6_fills_52 rfl ?_
      refine mr_iadd (pc := 53) dX6_fills_53 ?_
      obtain ⟨g2, h⟩ := og h
      refine mr_lald (pc := 54) dX6_fills_54 (ha_45 σ τ) (g2) ?_
      obtain ⟨g3, h⟩ := og h
      obtain ⟨τ4, e4, h⟩ := ow h
      refine mr_last (pc := 55) dX6_fills_55 (ha_47 σ τ) (g3) (mc_V.heap (hs_47 e4) ?_)
      refine mr_iincv (pc := 56) (1 : Int32) dX6_fills_56 rfl (by decide) (show mc_V M_X6_fills 1 none 59 [.ref 34, .int x1, .int x2, .int x3, .int (x4 + (1 : Int32))] [] (mc_hp σ τ4) none (mc_hp σ' τ') 0 0 from ?_)
      refine mr_goto (pc := 59) 23 dX6_fills_59 (by decide) ?_
      exact mc_V.locs (loc' := [.ref 34, .int x1, .int x2, .int x3, .int (x4 + (1 : Int32))]) ⟨Or.inr rfl, Or.inr rfl, Or.inr rfl, Or.inr rfl, Or.inr rfl, trivial⟩ (ih x1 x2 x3 (x4 + (1 : Int32)) σ τ4 σ' τ' h)
set_option maxHeartbeats 4000000 in
set_option maxRecDepth 100000 in
theorem dc_Q_fills_l4 : ∀ (n : Nat), ∀ (x1 : Int32) (x2 : Int32) (x3 : Int32) (σ : mS) (τ : mT) (σ' : mS) (τ' : mT), Q_fills_l4 n x1 x2 x3 σ τ = some (σ', τ') → mc_V M_X6_fills 1 none 4 [.ref 34, .int x1, .int x2, .int x3, .retAddr 0] [] (mc_hp σ τ) none (mc_hp σ' τ') 0 0 := by
  intro n
  induction n with
  | zero =>
    intros
    rename_i h
    cases h
  | succ n ih =>
    intro x1 x2 x3 σ τ σ' τ' h
    refine mr_iload_n (pc := 4) dX6_fills_4 rfl ?_
    refine mr_aload_n (pc := 5) dX6_fills_5 rfl ?_
    refine mr_getf (pc := 6) (ci := 6) inX6 rfl 14 (by decide) fl_47 dX6_fills_6 (ha_34 σ τ) rfl ?_
    refine mr_icmp_ge (pc := 9) 71 dX6_fills_9 (by decide) (fun q1 => ?_) (fun q1 => ?_)
    · replace h := (if_pos q1).symm.trans h
      refine mr_iconstv (pc := 71) (0 : Int32) dX6_fills_71 (by decide) ?_
      refine mr_istore_n (pc := 72) dX6_fills_72 (Nat.le_of_ble_eq_true rfl) (show mc_V M_X6_fills 1 none 73 [.ref 34, .int x1, .int x2, .int (0 : Int32), .retAddr 0] [] (mc_hp σ τ) none (mc_hp σ' τ') 0 0 from ?_)
      exact mc_V.locs (loc' := [.ref 34, .retAddr 0, .retAddr 0, .int (0 : Int32), .retAddr 0]) ⟨Or.inr rfl, Or.inl rfl, Or.inl rfl, Or.inr rfl, Or.inl rfl, trivial⟩ (dc_Q_fills_l73 mc_F (0 : Int32) σ τ σ' τ' h)
    · replace h := (if_neg q1).symm.trans h
      refine mr_iload_n (pc := 12) dX6_fills_12 rfl ?_
      refine mr_iload_n (pc := 13) dX6_fills_13 rfl ?_
      obtain ⟨r2, σ2, τ2, c2, h⟩ := obs h
      refine mr_callS0 (pc := 14) [.int x1, .int x3] ok_X6_has lk_140 st_X6_has dX6_fills_14 rfl rfl (Nat.le_of_ble_eq_true rfl) (Nat.le_of_ble_eq_true rfl) ((dc_Q_has c2).up (by decide)) ?_
      refine mr_if_eq (pc := 17) 65 dX6_fills_17 (by decide) (fun q3 => ?_) (fun q3 => ?_)
      · replace h := (if_pos q3).symm.trans h
        refine mr_iincv (pc := 65) (1 : Int32) dX6_fills_65 rfl (by decide) (show mc_V M_X6_fills 1 none 68 [.ref 34, .int x1, .int x2, .int (x3 + (1 : Int32)), .retAddr 0] [] (mc_hp σ2 τ2) none (mc_hp σ' τ') 0 0 from ?_)
        refine mr_goto (pc := 68) 4 dX6_fills_68 (by decide) ?_
        exact mc_V.locs (loc' := [.ref 34, .int x1, .int x2, .int (x3 + (1 : Int32)), .retAddr 0]) ⟨Or.inr rfl, Or.inr rfl, Or.inr rfl, Or.inr rfl, Or.inl rfl, trivial⟩ (ih x1 x2 (x3 + (1 : Int32)) σ2 τ2 σ' τ' h)
      · replace h := (if_neg q3).symm.trans h
        refine mr_iconstv (pc := 20) (0 : Int32) dX6_fills_20 (by decide) ?_
        refine mr_istore (pc := 21) dX6_fills_21 (Nat.le_of_ble_eq_true rfl) (show mc_V M_X6_fills 1 none 23 [.ref 34, .int x1, .int x2, .int x3, .int (0 : Int32)] [] (mc_hp σ2 τ2) none (mc_hp σ' τ') 0 0 from ?_)
        exact mc_V.locs (loc' := [.ref 34, .int x1, .int x2, .int x3, .int (0 : Int32)]) ⟨Or.inr rfl, Or.inr rfl, Or.inr rfl, Or.inr rfl, Or.inr rfl, trivial⟩ (dc_Q_fills_l23 (Q_fills_l4 n) ih mc_F x1 x2 x3 (0 : Int32) σ2 τ2 σ' τ' h)
set_option maxHeartbeats 4000000 in
set_option maxRecDepth 100000 in
theorem dc_Q_fills {p1 : Int32} {σ : mS} {τ : mT} {σ' : mS} {τ' : mT} (h : Q_fills p1 σ τ = some (σ', τ')) : mc_V M_X6_fills 1 none 0 (mc_entry [.ref 34, .int p1] 5) [] (mc_hp σ τ) none (mc_hp σ' τ') 0 0 := by
  unfold Q_fills at h
  show mc_V M_X6_fills 1 none 0 [.ref 34, .int p1, .retAddr 0, .retAddr 0, .retAddr 0] [] (mc_hp σ τ) none (mc_hp σ' τ') 0 0
  refine mr_iconstv (pc := 0) (0 : Int32) dX6_fills_0 (by decide) ?_
  refine mr_istore_n (pc := 1) dX6_fills_1 (Nat.le_of_ble_eq_true rfl) (show mc_V M_X6_fills 1 none 2 [.ref 34, .int p1, .int (0 : Int32), .retAddr 0, .retAddr 0] [] (mc_hp σ τ) none (mc_hp σ' τ') 0 0 from ?_)
  refine mr_iconstv (pc := 2) (0 : Int32) dX6_fills_2 (by decide) ?_
  refine mr_istore_n (pc := 3) dX6_fills_3 (Nat.le_of_ble_eq_true rfl) (show mc_V M_X6_fills 1 none 4 [.ref 34, .int p1, .int (0 : Int32), .int (0 : Int32), .retAddr 0] [] (mc_hp σ τ) none (mc_hp σ' τ') 0 0 from ?_)
  exact mc_V.locs (loc' := [.ref 34, .int p1, .int (0 : Int32), .int (0 : Int32), .retAddr 0]) ⟨Or.inr rfl, Or.inr rfl, Or.inr rfl, Or.inr rfl, Or.inl rfl, trivial⟩ (dc_Q_fills_l4 mc_F p1 (0 : Int32) (0 : Int32) σ τ σ' τ' h)
set_option maxHeartbeats 4000000 in
set_option maxRecDepth 100000 in
theorem dc_Q_pivot_l10 : ∀ (n : Nat), ∀ (x1 : Int32) (x2 : Int32) (x3 : Int32) (σ : mS) (τ : mT) (r : Int32) (σ' : mS) (τ' : mT), Q_pivot_l10 n x1 x2 x3 σ τ = some (r, σ', τ') → mc_V M_X6_pivot 0 none 10 [.ref 34, .int x1, .int x2, .int x3] [] (mc_hp σ τ) (some (.int r)) (mc_hp σ' τ') 0 0 := by
  intro n
  induction n with
  | zero =>
    intros
    rename_i h
    cases h
  | succ n ih =>
    intro x1 x2 x3 σ τ r σ' τ' h
    refine mr_iload_n (pc := 10) dX6_pivot_10 rfl ?_
    refine mr_iload_n (pc := 11) dX6_pivot_11 rfl ?_
    refine mr_icmp_lt (pc := 12) 43 dX6_pivot_12 (by decide) (fun q1 => ?_) (fun q1 => ?_)
    · replace h := (if_pos q1).symm.trans h
      refine mr_iload_n (pc := 43) dX6_pivot_43 rfl ?_
      obtain ⟨rfl, rfl, rfl⟩ := os3 h
      exact mr_iret (pc := 44) rfl (rfl) dX6_pivot_44
    · replace h := (if_neg q1).symm.trans h
      refine mr_aload_n (pc := 15) dX6_pivot_15 rfl ?_
      refine mr_getf (pc := 16) (ci := 6) inX6 rfl 17 (by decide) fl_43 dX6_pivot_16 (ha_34 σ τ) rfl ?_
      refine mr_bipushv (pc := 19) (9 : Int32) dX6_pivot_19 (by decide) ?_
      refine mr_iload_n (pc := 21) dX6_pivot_21 rfl ?_
      refine mr_imul (pc := 22) dX6_pivot_22 ?_
      refine mr_iload_n (pc := 23) dX6_pivot_23 rfl ?_
      refine mr_iadd (pc := 24) dX6_pivot_24 ?_
      obtain ⟨g2, h⟩ := og h
      refine mr_lald (pc := 25) dX6_pivot_25 (ha_47 σ τ) (g2) ?_
      refine mr_lconstv (pc := 26) (0 : Int64) dX6_pivot_26 (by decide) ?_
      refine mr_lcmp (pc := 27) dX6_pivot_27 ?_
      refine mr_if_eq (pc := 28) 35 dX6_pivot_28 (by decide) (fun q3 => ?_) (fun q3 => ?_)
      · replace h := (if_pos q3).symm.trans h
        refine mr_iload_n (pc := 35) dX6_pivot_35 rfl ?_
        refine mr_istore_n (pc := 36) dX6_pivot_36 (Nat.le_of_ble_eq_true rfl) (show mc_V M_X6_pivot 0 none 37 [.ref 34, .int x1, .int x2, .int x3] [] (mc_hp σ τ) (some (.int r)) (mc_hp σ' τ') 0 0 from ?_)
        refine mr_iincv (pc := 37) (-1 : Int32) dX6_pivot_37 rfl (by decide) (show mc_V M_X6_pivot 0 none 40 [.ref 34, .int x1, .int x2, .int (x3 + (-1 : Int32))] [] (mc_hp σ τ) (some (.int r)) (mc_hp σ' τ') 0 0 from ?_)
        refine mr_goto (pc := 40) 10 dX6_pivot_40 (by decide) ?_
        exact mc_V.locs (loc' := [.ref 34, .int x1, .int x2, .int (x3 + (-1 : Int32))]) ⟨Or.inr rfl, Or.inr rfl, Or.inr rfl, Or.inr rfl, trivial⟩ (ih x1 x2 (x3 + (-1 : Int32)) σ τ r σ' τ' h)
      · replace h := (if_neg q3).symm.trans h
        refine mr_iload_n (pc := 31) dX6_pivot_31 rfl ?_
        refine mr_goto (pc := 32) 36 dX6_pivot_32 (by decide) ?_
        refine mr_istore_n (pc := 36) dX6_pivot_36 (Nat.le_of_ble_eq_true rfl) (show mc_V M_X6_pivot 0 none 37 [.ref 34, .int x1, .int x3, .int x3] [] (mc_hp σ τ) (some (.int r)) (mc_hp σ' τ') 0 0 from ?_)
        refine mr_iincv (pc := 37) (-1 : Int32) dX6_pivot_37 rfl (by decide) (show mc_V M_X6_pivot 0 none 40 [.ref 34, .int x1, .int x3, .int (x3 + (-1 : Int32))] [] (mc_hp σ τ) (some (.int r)) (mc_hp σ' τ') 0 0 from ?_)
        refine mr_goto (pc := 40) 10 dX6_pivot_40 (by decide) ?_
        exact mc_V.locs (loc' := [.ref 34, .int x1, .int x3, .int (x3 + (-1 : Int32))]) ⟨Or.inr rfl, Or.inr rfl, Or.inr rfl, Or.inr rfl, trivial⟩ (ih x1 x3 (x3 + (-1 : Int32)) σ τ r σ' τ' h)
set_option maxHeartbeats 4000000 in
set_option maxRecDepth 100000 in
theorem dc_Q_pivot {p1 : Int32} {σ : mS} {τ : mT} {r : Int32} {σ' : mS} {τ' : mT} (h : Q_pivot p1 σ τ = some (r, σ', τ')) : mc_V M_X6_pivot 0 none 0 (mc_entry [.ref 34, .int p1] 4) [] (mc_hp σ τ) (some (.int r)) (mc_hp σ' τ') 0 0 := by
  unfold Q_pivot at h
  show mc_V M_X6_pivot 0 none 0 [.ref 34, .int p1, .retAddr 0, .retAddr 0] [] (mc_hp σ τ) (some (.int r)) (mc_hp σ' τ') 0 0
  refine mr_bipushv (pc := 0) (-9 : Int32) dX6_pivot_0 (by decide) ?_
  refine mr_istore_n (pc := 2) dX6_pivot_2 (Nat.le_of_ble_eq_true rfl) (show mc_V M_X6_pivot 0 none 3 [.ref 34, .int p1, .int (-9 : Int32), .retAddr 0] [] (mc_hp σ τ) (some (.int r)) (mc_hp σ' τ') 0 0 from ?_)
  refine mr_aload_n (pc := 3) dX6_pivot_3 rfl ?_
  refine mr_getf (pc := 4) (ci := 6) inX6 rfl 13 (by decide) fl_46 dX6_pivot_4 (ha_34 σ τ) rfl ?_
  refine mr_iconstv (pc := 7) (1 : Int32) dX6_pivot_7 (by decide) ?_
  refine mr_isub (pc := 8) dX6_pivot_8 ?_
  refine mr_istore_n (pc := 9) dX6_pivot_9 (Nat.le_of_ble_eq_true rfl) (show mc_V M_X6_pivot 0 none 10 [.ref 34, .int p1, .int (-9 : Int32), .int ((σ 34 13) - (1 : Int32))] [] (mc_hp σ τ) (some (.int r)) (mc_hp σ' τ') 0 0 from ?_)
  exact mc_V.locs (loc' := [.ref 34, .int p1, .int (-9 : Int32), .int ((σ 34 13) - (1 : Int32))]) ⟨Or.inr rfl, Or.inr rfl, Or.inr rfl, Or.inr rfl, trivial⟩ (dc_Q_pivot_l10 mc_F p1 (-9 : Int32) ((σ 34 13) - (1 : Int32)) σ τ r σ' τ' h)
set_option maxHeartbeats 4000000 in
set_option maxRecDepth 100000 in
theorem dc_Q_swaps_l2 : ∀ (n : Nat), ∀ (x1 : Int32) (x2 : Int32) (x3 : Int32) (σ : mS) (τ : mT) (σ' : mS) (τ' : mT), Q_swaps_l2 n x1 x2 x3 σ τ = some (σ', τ') → mc_V M_X6_swaps 0 none 2 [.ref 34, .int x1, .int x2, .int x3, .retAddr 0, .retAddr 0] [] (mc_hp σ τ) none (mc_hp σ' τ') 0 0 := by
  intro n
  induction n with
  | zero =>
    intros
    rename_i h
    cases h
  | succ n ih =>
    intro x1 x2 x3 σ τ σ' τ' h
    refine mr_iload_n (pc := 2) dX6_swaps_2 rfl ?_
    refine mr_aload_n (pc := 3) dX6_swaps_3 rfl ?_
    refine mr_getf (pc := 4) (ci := 6) inX6 rfl 13 (by decide) fl_46 dX6_swaps_4 (ha_34 σ τ) rfl ?_
    refine mr_icmp_gt (pc := 7) 64 dX6_swaps_7 (by decide) (fun q1 => ?_) (fun q1 => ?_)
    · replace h := (if_pos q1).symm.trans h
      obtain ⟨rfl, rfl⟩ := os2 h
      exact mr_ret (pc := 64) rfl dX6_swaps_64
    · replace h := (if_neg q1).symm.trans h
      refine mr_aload_n (pc := 10) dX6_swaps_10 rfl ?_
      refine mr_getf (pc := 11) (ci := 6) inX6 rfl 17 (by decide) fl_43 dX6_swaps_11 (ha_34 σ τ) rfl ?_
      refine mr_bipushv (pc := 14) (9 : Int32) dX6_swaps_14 (by decide) ?_
      refine mr_iload_n (pc := 16) dX6_swaps_16 rfl ?_
      refine mr_imul (pc := 17) dX6_swaps_17 ?_
      refine mr_iload_n (pc := 18) dX6_swaps_18 rfl ?_
      refine mr_iadd (pc := 19) dX6_swaps_19 ?_
      obtain ⟨g2, h⟩ := og h
      refine mr_lald (pc := 20) dX6_swaps_20 (ha_47 σ τ) (g2) ?_
      refine mr_lstore (pc := 21) dX6_swaps_21 (Nat.le_of_ble_eq_true rfl) (show mc_V M_X6_swaps 0 none 23 [.ref 34, .int x1, .int x2, .int x3, .long (τ 47 (((9 : Int32) * x1) + x3).toNatClampNeg), .retAddr 0] [] (mc_hp σ τ) none (mc_hp σ' τ') 0 0 from ?_)
      refine mr_aload_n (pc := 23) dX6_swaps_23 rfl ?_
      refine mr_getf (pc := 24) (ci := 6) inX6 rfl 17 (by decide) fl_43 dX6_swaps_24 (ha_34 σ τ) rfl ?_
      refine mr_bipushv (pc := 27) (9 : Int32) dX6_swaps_27 (by decide) ?_
      refine mr_iload_n (pc := 29) dX6_swaps_29 rfl ?_
      refine mr_imul (pc := 30) dX6_swaps_30 ?_
      refine mr_iload_n (pc := 31) dX6_swaps_31 rfl ?_
      refine mr_iadd (pc := 32) dX6_swaps_32 ?_
      refine mr_aload_n (pc := 33) dX6_swaps_33 rfl ?_
      refine mr_getf (pc := 34) (ci := 6) inX6 rfl 17 (by decide) fl_43 dX6_swaps_34 (ha_34 σ τ) rfl ?_
      refine mr_bipushv (pc := 37) (9 : Int32) dX6_swaps_37 (by decide) ?_
      refine mr_iload_n (pc := 39) dX6_swaps_39 rfl ?_
      refine mr_imul (pc := 40) dX6_swaps_40 ?_
      refine mr_iload_n (pc := 41) dX6_swaps_41 rfl ?_
      refine mr_iadd (pc := 42) dX6_swaps_42 ?_
      obtain ⟨g3, h⟩ := og h
      refine mr_lald (pc := 43) dX6_swaps_43 (ha_47 σ τ) (g3) ?_
      obtain ⟨τ4, e4, h⟩ := ow h
      refine mr_last (pc := 44) dX6_swaps_44 (ha_47 σ τ) (g2) (mc_V.heap (hs_47 e4) ?_)
      refine mr_aload_n (pc := 45) dX6_swaps_45 rfl ?_
      refine mr_getf (pc := 46) (ci := 6) inX6 rfl 17 (by decide) fl_43 dX6_swaps_46 (ha_34 σ τ4) rfl ?_
      refine mr_bipushv (pc := 49) (9 : Int32) dX6_swaps_49 (by decide) ?_
      refine mr_iload_n (pc := 51) dX6_swaps_51 rfl ?_
      refine mr_imul (pc := 52) dX6_swaps_52 ?_
      refine mr_iload_n (pc := 53) dX6_swaps_53 rfl ?_
      refine mr_iadd (pc := 54) dX6_swaps_54 ?_
      refine mr_lload (pc := 55) dX6_swaps_55 rfl ?_
      obtain ⟨τ5, e5, h⟩ := ow h
      refine mr_last (pc := 57) dX6_swaps_57 (ha_47 σ τ4) (g3) (mc_V.heap (hs_47 e5) ?_)
      refine mr_iincv (pc := 58) (1 : Int32) dX6_swaps_58 rfl (by decide) (show mc_V M_X6_swaps 0 none 61 [.ref 34, .int x1, .int x2, .int (x3 + (1 : Int32)), .long (τ 47 (((9 : Int32) * x1) + x3).toNatClampNeg), .retAddr 0] [] (mc_hp σ τ5) none (mc_hp σ' τ') 0 0 from ?_)
      refine mr_goto (pc := 61) 2 dX6_swaps_61 (by decide) ?_
      exact mc_V.locs (loc' := [.ref 34, .int x1, .int x2, .int (x3 + (1 : Int32)), .retAddr 0, .retAddr 0]) ⟨Or.inr rfl, Or.inr rfl, Or.inr rfl, Or.inr rfl, Or.inl rfl, Or.inl rfl, trivial⟩ (ih x1 x2 (x3 + (1 : Int32)) σ τ5 σ' τ' h)
set_option maxHeartbeats 4000000 in
set_option maxRecDepth 100000 in
theorem dc_Q_swaps {p1 : Int32} {p2 : Int32} {σ : mS} {τ : mT} {σ' : mS} {τ' : mT} (h : Q_swaps p1 p2 σ τ = some (σ', τ')) : mc_V M_X6_swaps 0 none 0 (mc_entry [.ref 34, .int p1, .int p2] 6) [] (mc_hp σ τ) none (mc_hp σ' τ') 0 0 := by
  unfold Q_swaps at h
  show mc_V M_X6_swaps 0 none 0 [.ref 34, .int p1, .int p2, .retAddr 0, .retAddr 0, .retAddr 0] [] (mc_hp σ τ) none (mc_hp σ' τ') 0 0
  refine mr_iconstv (pc := 0) (0 : Int32) dX6_swaps_0 (by decide) ?_
  refine mr_istore_n (pc := 1) dX6_swaps_1 (Nat.le_of_ble_eq_true rfl) (show mc_V M_X6_swaps 0 none 2 [.ref 34, .int p1, .int p2, .int (0 : Int32), .retAddr 0, .retAddr 0] [] (mc_hp σ τ) none (mc_hp σ' τ') 0 0 from ?_)
  exact mc_V.locs (loc' := [.ref 34, .int p1, .int p2, .int (0 : Int32), .retAddr 0, .retAddr 0]) ⟨Or.inr rfl, Or.inr rfl, Or.inr rfl, Or.inr rfl, Or.inl rfl, Or.inl rfl, trivial⟩ (dc_Q_swaps_l2 mc_F p1 p2 (0 : Int32) σ τ σ' τ' h)
set_option maxHeartbeats 4000000 in
set_option maxRecDepth 100000 in
theorem dc_Q_clears_l29 : ∀ (n : Nat), ∀ (x1 : Int32) (x2 : Int32) (x3 : Int64) (x5 : Int64) (x7 : Int64) (x9 : Int32) (σ : mS) (τ : mT) (σ' : mS) (τ' : mT), Q_clears_l29 n x1 x2 x3 x5 x7 x9 σ τ = some (σ', τ') → mc_V M_X6_clears 0 none 29 [.ref 34, .int x1, .int x2, .long x3, .retAddr 0, .long x5, .retAddr 0, .long x7, .retAddr 0, .int x9] [] (mc_hp σ τ) none (mc_hp σ' τ') 0 0 := by
  intro n
  induction n with
  | zero =>
    intros
    rename_i h
    cases h
  | succ n ih =>
    intro x1 x2 x3 x5 x7 x9 σ τ σ' τ' h
    refine mr_iload (pc := 29) dX6_clears_29 rfl ?_
    refine mr_aload_n (pc := 31) dX6_clears_31 rfl ?_
    refine mr_getf (pc := 32) (ci := 6) inX6 rfl 13 (by decide) fl_46 dX6_clears_32 (ha_34 σ τ) rfl ?_
    refine mr_icmp_gt (pc := 35) 89 dX6_clears_35 (by decide) (fun q1 => ?_) (fun q1 => ?_)
    · replace h := (if_pos q1).symm.trans h
      obtain ⟨rfl, rfl⟩ := os2 h
      exact mr_ret (pc := 89) rfl dX6_clears_89
    · replace h := (if_neg q1).symm.trans h
      refine mr_aload_n (pc := 38) dX6_clears_38 rfl ?_
      refine mr_getf (pc := 39) (ci := 6) inX6 rfl 17 (by decide) fl_43 dX6_clears_39 (ha_34 σ τ) rfl ?_
      refine mr_bipushv (pc := 42) (9 : Int32) dX6_clears_42 (by decide) ?_
      refine mr_iload_n (pc := 44) dX6_clears_44 rfl ?_
      refine mr_imul (pc := 45) dX6_clears_45 ?_
      refine mr_iload (pc := 46) dX6_clears_46 rfl ?_
      refine mr_iadd (pc := 48) dX6_clears_48 ?_
      refine mr_lload (pc := 49) dX6_clears_49 rfl ?_
      refine mr_aload_n (pc := 51) dX6_clears_51 rfl ?_
      refine mr_getf (pc := 52) (ci := 6) inX6 rfl 17 (by decide) fl_43 dX6_clears_52 (ha_34 σ τ) rfl ?_
      refine mr_bipushv (pc := 55) (9 : Int32) dX6_clears_55 (by decide) ?_
      refine mr_iload_n (pc := 57) dX6_clears_57 rfl ?_
      refine mr_imul (pc := 58) dX6_clears_58 ?_
      refine mr_iload (pc := 59) dX6_clears_59 rfl ?_
      refine mr_iadd (pc := 61) dX6_clears_61 ?_
      obtain ⟨g2, h⟩ := og h
      refine mr_lald (pc := 62) dX6_clears_62 (ha_47 σ τ) (g2) ?_
      refine mr_lmul (pc := 63) dX6_clears_63 ?_
      refine mr_lload (pc := 64) dX6_clears_64 rfl ?_
      refine mr_aload_n (pc := 66) dX6_clears_66 rfl ?_
      refine mr_getf (pc := 67) (ci := 6) inX6 rfl 17 (by decide) fl_43 dX6_clears_67 (ha_34 σ τ) rfl ?_
      refine mr_bipushv (pc := 70) (9 : Int32) dX6_clears_70 (by decide) ?_
      refine mr_iload_n (pc := 72) dX6_clears_72 rfl ?_
      refine mr_imul (pc := 73) dX6_clears_73 ?_
      refine mr_iload (pc := 74) dX6_clears_74 rfl ?_
      refine mr_iadd (pc := 76) dX6_clears_76 ?_
      obtain ⟨g3, h⟩ := og h
      refine mr_lald (pc := 77) dX6_clears_77 (ha_47 σ τ) (g3) ?_
      refine mr_lmul (pc := 78) dX6_clears_78 ?_
      refine mr_lsub (pc := 79) dX6_clears_79 ?_
      refine mr_lload_n (pc := 80) dX6_clears_80 rfl ?_
      obtain ⟨g4, h⟩ := og h
      refine mr_ldiv (pc := 81) dX6_clears_81 g4 ?_
      obtain ⟨τ5, e5, h⟩ := ow h
      refine mr_last (pc := 82) dX6_clears_82 (ha_47 σ τ) (g2) (mc_V.heap (hs_47 e5) ?_)
      refine mr_iincv (pc := 83) (1 : Int32) dX6_clears_83 rfl (by decide) (show mc_V M_X6_clears 0 none 86 [.ref 34, .int x1, .int x2, .long x3, .retAddr 0, .long x5, .retAddr 0, .long x7, .retAddr 0, .int (x9 + (1 : Int32))] [] (mc_hp σ τ5) none (mc_hp σ' τ') 0 0 from ?_)
      refine mr_goto (pc := 86) 29 dX6_clears_86 (by decide) ?_
      exact mc_V.locs (loc' := [.ref 34, .int x1, .int x2, .long x3, .retAddr 0, .long x5, .retAddr 0, .long x7, .retAddr 0, .int (x9 + (1 : Int32))]) ⟨Or.inr rfl, Or.inr rfl, Or.inr rfl, Or.inr rfl, Or.inl rfl, Or.inr rfl, Or.inl rfl, Or.inr rfl, Or.inl rfl, Or.inr rfl, trivial⟩ (ih x1 x2 x3 x5 x7 (x9 + (1 : Int32)) σ τ5 σ' τ' h)
set_option maxHeartbeats 4000000 in
set_option maxRecDepth 100000 in
theorem dc_Q_clears {p1 : Int32} {p2 : Int32} {p3 : Int64} {σ : mS} {τ : mT} {σ' : mS} {τ' : mT} (h : Q_clears p1 p2 p3 σ τ = some (σ', τ')) : mc_V M_X6_clears 0 none 0 (mc_entry [.ref 34, .int p1, .int p2, .long p3] 10) [] (mc_hp σ τ) none (mc_hp σ' τ') 0 0 := by
  unfold Q_clears at h
  show mc_V M_X6_clears 0 none 0 [.ref 34, .int p1, .int p2, .long p3, .retAddr 0, .retAddr 0, .retAddr 0, .retAddr 0, .retAddr 0, .retAddr 0] [] (mc_hp σ τ) none (mc_hp σ' τ') 0 0
  refine mr_aload_n (pc := 0) dX6_clears_0 rfl ?_
  refine mr_getf (pc := 1) (ci := 6) inX6 rfl 17 (by decide) fl_43 dX6_clears_1 (ha_34 σ τ) rfl ?_
  refine mr_bipushv (pc := 4) (9 : Int32) dX6_clears_4 (by decide) ?_
  refine mr_iload_n (pc := 6) dX6_clears_6 rfl ?_
  refine mr_imul (pc := 7) dX6_clears_7 ?_
  refine mr_iload_n (pc := 8) dX6_clears_8 rfl ?_
  refine mr_iadd (pc := 9) dX6_clears_9 ?_
  obtain ⟨g1, h⟩ := og h
  refine mr_lald (pc := 10) dX6_clears_10 (ha_47 σ τ) (g1) ?_
  refine mr_lstore (pc := 11) dX6_clears_11 (Nat.le_of_ble_eq_true rfl) (show mc_V M_X6_clears 0 none 13 [.ref 34, .int p1, .int p2, .long p3, .retAddr 0, .long (τ 47 (((9 : Int32) * p2) + p2).toNatClampNeg), .retAddr 0, .retAddr 0, .retAddr 0, .retAddr 0] [] (mc_hp σ τ) none (mc_hp σ' τ') 0 0 from ?_)
  refine mr_aload_n (pc := 13) dX6_clears_13 rfl ?_
  refine mr_getf (pc := 14) (ci := 6) inX6 rfl 17 (by decide) fl_43 dX6_clears_14 (ha_34 σ τ) rfl ?_
  refine mr_bipushv (pc := 17) (9 : Int32) dX6_clears_17 (by decide) ?_
  refine mr_iload_n (pc := 19) dX6_clears_19 rfl ?_
  refine mr_imul (pc := 20) dX6_clears_20 ?_
  refine mr_iload_n (pc := 21) dX6_clears_21 rfl ?_
  refine mr_iadd (pc := 22) dX6_clears_22 ?_
  obtain ⟨g2, h⟩ := og h
  refine mr_lald (pc := 23) dX6_clears_23 (ha_47 σ τ) (g2) ?_
  refine mr_lstore (pc := 24) dX6_clears_24 (Nat.le_of_ble_eq_true rfl) (show mc_V M_X6_clears 0 none 26 [.ref 34, .int p1, .int p2, .long p3, .retAddr 0, .long (τ 47 (((9 : Int32) * p2) + p2).toNatClampNeg), .retAddr 0, .long (τ 47 (((9 : Int32) * p1) + p2).toNatClampNeg), .retAddr 0, .retAddr 0] [] (mc_hp σ τ) none (mc_hp σ' τ') 0 0 from ?_)
  refine mr_iconstv (pc := 26) (0 : Int32) dX6_clears_26 (by decide) ?_
  refine mr_istore (pc := 27) dX6_clears_27 (Nat.le_of_ble_eq_true rfl) (show mc_V M_X6_clears 0 none 29 [.ref 34, .int p1, .int p2, .long p3, .retAddr 0, .long (τ 47 (((9 : Int32) * p2) + p2).toNatClampNeg), .retAddr 0, .long (τ 47 (((9 : Int32) * p1) + p2).toNatClampNeg), .retAddr 0, .int (0 : Int32)] [] (mc_hp σ τ) none (mc_hp σ' τ') 0 0 from ?_)
  exact mc_V.locs (loc' := [.ref 34, .int p1, .int p2, .long p3, .retAddr 0, .long (τ 47 (((9 : Int32) * p2) + p2).toNatClampNeg), .retAddr 0, .long (τ 47 (((9 : Int32) * p1) + p2).toNatClampNeg), .retAddr 0, .int (0 : Int32)]) ⟨Or.inr rfl, Or.inr rfl, Or.inr rfl, Or.inr rfl, Or.inl rfl, Or.inr rfl, Or.inl rfl, Or.inr rfl, Or.inl rfl, Or.inr rfl, trivial⟩ (dc_Q_clears_l29 mc_F p1 p2 p3 (τ 47 (((9 : Int32) * p2) + p2).toNatClampNeg) (τ 47 (((9 : Int32) * p1) + p2).toNatClampNeg) (0 : Int32) σ τ σ' τ' h)
set_option maxHeartbeats 4000000 in
set_option maxRecDepth 100000 in
theorem dc_Q_solves_l47 (k10 : Int64 → Int32 → mS → mT → Option (Int32 × mS × mT)) (hk10 : ∀ (x2 : Int64) (x4 : Int32) (σ : mS) (τ : mT) (r : Int32) (σ' : mS) (τ' : mT), k10 x2 x4 σ τ = some (r, σ', τ') → mc_V M_X6_solves 2 none 10 [.ref 34, .retAddr 0, .long x2, .retAddr 0, .int x4, .retAddr 0, .retAddr 0] [] (mc_hp σ τ) (some (.int r)) (mc_hp σ' τ') 0 0) : ∀ (n : Nat), ∀ (x2 : Int64) (x4 : Int32) (x6 : Int32) (σ : mS) (τ : mT) (r : Int32) (σ' : mS) (τ' : mT), Q_solves_l47 k10 n x2 x4 x6 σ τ = some (r, σ', τ') → mc_V M_X6_solves 2 none 47 [.ref 34, .retAddr 0, .long x2, .retAddr 0, .int x4, .retAddr 0, .int x6] [] (mc_hp σ τ) (some (.int r)) (mc_hp σ' τ') 0 0 := by
  intro n
  induction n with
  | zero =>
    intros
    rename_i h
    cases h
  | succ n ih =>
    intro x2 x4 x6 σ τ r σ' τ' h
    refine mr_iload (pc := 47) dX6_solves_47 rfl ?_
    refine mr_aload_n (pc := 49) dX6_solves_49 rfl ?_
    refine mr_getf (pc := 50) (ci := 6) inX6 rfl 13 (by decide) fl_46 dX6_solves_50 (ha_34 σ τ) rfl ?_
    refine mr_icmp_ge (pc := 53) 78 dX6_solves_53 (by decide) (fun q1 => ?_) (fun q1 => ?_)
    · replace h := (if_pos q1).symm.trans h
      refine mr_aload_n (pc := 78) dX6_solves_78 rfl ?_
      refine mr_getf (pc := 79) (ci := 6) inX6 rfl 17 (by decide) fl_43 dX6_solves_79 (ha_34 σ τ) rfl ?_
      refine mr_bipushv (pc := 82) (9 : Int32) dX6_solves_82 (by decide) ?_
      refine mr_iload (pc := 84) dX6_solves_84 rfl ?_
      refine mr_imul (pc := 86) dX6_solves_86 ?_
      refine mr_iload (pc := 87) dX6_solves_87 rfl ?_
      refine mr_iadd (pc := 89) dX6_solves_89 ?_
      obtain ⟨g2, h⟩ := og h
      refine mr_lald (pc := 90) dX6_solves_90 (ha_47 σ τ) (g2) ?_
      refine mr_lstore_n (pc := 91) dX6_solves_91 (Nat.le_of_ble_eq_true rfl) (show mc_V M_X6_solves 2 none 92 [.ref 34, .retAddr 0, .long (τ 47 (((9 : Int32) * x4) + x4).toNatClampNeg), .retAddr 0, .int x4, .retAddr 0, .int x6] [] (mc_hp σ τ) (some (.int r)) (mc_hp σ' τ') 0 0 from ?_)
      refine mr_iincv (pc := 92) (1 : Int32) dX6_solves_92 rfl (by decide) (show mc_V M_X6_solves 2 none 95 [.ref 34, .retAddr 0, .long (τ 47 (((9 : Int32) * x4) + x4).toNatClampNeg), .retAddr 0, .int (x4 + (1 : Int32)), .retAddr 0, .int x6] [] (mc_hp σ τ) (some (.int r)) (mc_hp σ' τ') 0 0 from ?_)
      refine mr_goto (pc := 95) 10 dX6_solves_95 (by decide) ?_
      exact mc_V.locs (loc' := [.ref 34, .retAddr 0, .long (τ 47 (((9 : Int32) * x4) + x4).toNatClampNeg), .retAddr 0, .int (x4 + (1 : Int32)), .retAddr 0, .retAddr 0]) ⟨Or.inr rfl, Or.inl rfl, Or.inr rfl, Or.inl rfl, Or.inr rfl, Or.inl rfl, Or.inl rfl, trivial⟩ (hk10 (τ 47 (((9 : Int32) * x4) + x4).toNatClampNeg) (x4 + (1 : Int32)) σ τ r σ' τ' h)
    · replace h := (if_neg q1).symm.trans h
      refine mr_iload (pc := 56) dX6_solves_56 rfl ?_
      refine mr_iload (pc := 58) dX6_solves_58 rfl ?_
      refine mr_icmp_eq (pc := 60) 72 dX6_solves_60 (by decide) (fun q3 => ?_) (fun q3 => ?_)
      · replace h := (if_pos q3).symm.trans h
        refine mr_iincv (pc := 72) (1 : Int32) dX6_solves_72 rfl (by decide) (show mc_V M_X6_solves 2 none 75 [.ref 34, .retAddr 0, .long x2, .retAddr 0, .int x4, .retAddr 0, .int (x6 + (1 : Int32))] [] (mc_hp σ τ) (some (.int r)) (mc_hp σ' τ') 0 0 from ?_)
        refine mr_goto (pc := 75) 47 dX6_solves_75 (by decide) ?_
        exact mc_V.locs (loc' := [.ref 34, .retAddr 0, .long x2, .retAddr 0, .int x4, .retAddr 0, .int (x6 + (1 : Int32))]) ⟨Or.inr rfl, Or.inl rfl, Or.inr rfl, Or.inl rfl, Or.inr rfl, Or.inl rfl, Or.inr rfl, trivial⟩ (ih x2 x4 (x6 + (1 : Int32)) σ τ r σ' τ' h)
      · replace h := (if_neg q3).symm.trans h
        refine mr_aload_n (pc := 63) dX6_solves_63 rfl ?_
        refine mr_iload (pc := 64) dX6_solves_64 rfl ?_
        refine mr_iload (pc := 66) dX6_solves_66 rfl ?_
        refine mr_lload_n (pc := 68) dX6_solves_68 rfl ?_
        obtain ⟨σ4, τ4, c4, h⟩ := ovs h
        refine mr_callV0 (pc := 69) (ci := 6) [.int x6, .int x4, .long x2] ok_X6_clears lk_145 st_X6_clears se_X6_clears dX6_solves_69 rfl (ha_34 σ τ) rfl rfl (Nat.le_of_ble_eq_true rfl) (Nat.le_of_ble_eq_true rfl) ((dc_Q_clears c4).up (by decide)) ?_
        refine mr_iincv (pc := 72) (1 : Int32) dX6_solves_72 rfl (by decide) (show mc_V M_X6_solves 2 none 75 [.ref 34, .retAddr 0, .long x2, .retAddr 0, .int x4, .retAddr 0, .int (x6 + (1 : Int32))] [] (mc_hp σ4 τ4) (some (.int r)) (mc_hp σ' τ') 0 0 from ?_)
        refine mr_goto (pc := 75) 47 dX6_solves_75 (by decide) ?_
        exact mc_V.locs (loc' := [.ref 34, .retAddr 0, .long x2, .retAddr 0, .int x4, .retAddr 0, .int (x6 + (1 : Int32))]) ⟨Or.inr rfl, Or.inl rfl, Or.inr rfl, Or.inl rfl, Or.inr rfl, Or.inl rfl, Or.inr rfl, trivial⟩ (ih x2 x4 (x6 + (1 : Int32)) σ4 τ4 r σ' τ' h)
set_option maxHeartbeats 4000000 in
set_option maxRecDepth 100000 in
theorem dc_Q_solves_l10 : ∀ (n : Nat), ∀ (x2 : Int64) (x4 : Int32) (σ : mS) (τ : mT) (r : Int32) (σ' : mS) (τ' : mT), Q_solves_l10 n x2 x4 σ τ = some (r, σ', τ') → mc_V M_X6_solves 2 none 10 [.ref 34, .retAddr 0, .long x2, .retAddr 0, .int x4, .retAddr 0, .retAddr 0] [] (mc_hp σ τ) (some (.int r)) (mc_hp σ' τ') 0 0 := by
  intro n
  induction n with
  | zero =>
    intros
    rename_i h
    cases h
  | succ n ih =>
    intro x2 x4 σ τ r σ' τ' h
    refine mr_iload (pc := 10) dX6_solves_10 rfl ?_
    refine mr_aload_n (pc := 12) dX6_solves_12 rfl ?_
    refine mr_getf (pc := 13) (ci := 6) inX6 rfl 13 (by decide) fl_46 dX6_solves_13 (ha_34 σ τ) rfl ?_
    refine mr_icmp_ge (pc := 16) 98 dX6_solves_16 (by decide) (fun q1 => ?_) (fun q1 => ?_)
    · replace h := (if_pos q1).symm.trans h
      refine mr_iconstv (pc := 98) (1 : Int32) dX6_solves_98 (by decide) ?_
      obtain ⟨rfl, rfl, rfl⟩ := os3 h
      exact mr_iret (pc := 99) rfl (rfl) dX6_solves_99
    · replace h := (if_neg q1).symm.trans h
      refine mr_aload_n (pc := 19) dX6_solves_19 rfl ?_
      refine mr_iload (pc := 20) dX6_solves_20 rfl ?_
      obtain ⟨r2, σ2, τ2, c2, h⟩ := obs h
      refine mr_callV0 (pc := 22) (ci := 6) [.int x4] ok_X6_pivot lk_143 st_X6_pivot se_X6_pivot dX6_solves_22 rfl (ha_34 σ τ) rfl rfl (Nat.le_of_ble_eq_true rfl) (Nat.le_of_ble_eq_true rfl) ((dc_Q_pivot c2).up (by decide)) ?_
      refine mr_istore (pc := 25) dX6_solves_25 (Nat.le_of_ble_eq_true rfl) (show mc_V M_X6_solves 2 none 27 [.ref 34, .retAddr 0, .long x2, .retAddr 0, .int x4, .int r2, .retAddr 0] [] (mc_hp σ2 τ2) (some (.int r)) (mc_hp σ' τ') 0 0 from ?_)
      refine mr_iload (pc := 27) dX6_solves_27 rfl ?_
      refine mr_bipushv (pc := 29) (-9 : Int32) dX6_solves_29 (by decide) ?_
      refine mr_icmp_ne (pc := 31) 36 dX6_solves_31 (by decide) (fun q3 => ?_) (fun q3 => ?_)
      · replace h := (if_neg q3).symm.trans h
        refine mr_aload_n (pc := 36) dX6_solves_36 rfl ?_
        refine mr_iload (pc := 37) dX6_solves_37 rfl ?_
        refine mr_iload (pc := 39) dX6_solves_39 rfl ?_
        obtain ⟨σ4, τ4, c4, h⟩ := ovs h
        refine mr_callV0 (pc := 41) (ci := 6) [.int r2, .int x4] ok_X6_swaps lk_144 st_X6_swaps se_X6_swaps dX6_solves_41 rfl (ha_34 σ2 τ2) rfl rfl (Nat.le_of_ble_eq_true rfl) (Nat.le_of_ble_eq_true rfl) ((dc_Q_swaps c4).up (by decide)) ?_
        refine mr_iconstv (pc := 44) (0 : Int32) dX6_solves_44 (by decide) ?_
        refine mr_istore (pc := 45) dX6_solves_45 (Nat.le_of_ble_eq_true rfl) (show mc_V M_X6_solves 2 none 47 [.ref 34, .retAddr 0, .long x2, .retAddr 0, .int x4, .int r2, .int (0 : Int32)] [] (mc_hp σ4 τ4) (some (.int r)) (mc_hp σ' τ') 0 0 from ?_)
        exact mc_V.locs (loc' := [.ref 34, .retAddr 0, .long x2, .retAddr 0, .int x4, .retAddr 0, .int (0 : Int32)]) ⟨Or.inr rfl, Or.inl rfl, Or.inr rfl, Or.inl rfl, Or.inr rfl, Or.inl rfl, Or.inr rfl, trivial⟩ (dc_Q_solves_l47 (Q_solves_l10 n) ih mc_F x2 x4 (0 : Int32) σ4 τ4 r σ' τ' h)
      · replace h := (if_pos q3).symm.trans h
        refine mr_iconstv (pc := 34) (0 : Int32) dX6_solves_34 (by decide) ?_
        obtain ⟨rfl, rfl, rfl⟩ := os3 h
        exact mr_iret (pc := 35) rfl (rfl) dX6_solves_35
set_option maxHeartbeats 4000000 in
set_option maxRecDepth 100000 in
theorem dc_Q_solves {p1 : Int32} {σ : mS} {τ : mT} {r : Int32} {σ' : mS} {τ' : mT} (h : Q_solves p1 σ τ = some (r, σ', τ')) : mc_V M_X6_solves 2 none 0 (mc_entry [.ref 34, .int p1] 7) [] (mc_hp σ τ) (some (.int r)) (mc_hp σ' τ') 0 0 := by
  unfold Q_solves at h
  show mc_V M_X6_solves 2 none 0 [.ref 34, .int p1, .retAddr 0, .retAddr 0, .retAddr 0, .retAddr 0, .retAddr 0] [] (mc_hp σ τ) (some (.int r)) (mc_hp σ' τ') 0 0
  refine mr_aload_n (pc := 0) dX6_solves_0 rfl ?_
  refine mr_iload_n (pc := 1) dX6_solves_1 rfl ?_
  obtain ⟨σ1, τ1, c1, h⟩ := ovs h
  refine mr_callV0 (pc := 2) (ci := 6) [.int p1] ok_X6_fills lk_142 st_X6_fills se_X6_fills dX6_solves_2 rfl (ha_34 σ τ) rfl rfl (Nat.le_of_ble_eq_true rfl) (Nat.le_of_ble_eq_true rfl) ((dc_Q_fills c1).up (by decide)) ?_
  refine mr_lconstv (pc := 5) (1 : Int64) dX6_solves_5 (by decide) ?_
  refine mr_lstore_n (pc := 6) dX6_solves_6 (Nat.le_of_ble_eq_true rfl) (show mc_V M_X6_solves 2 none 7 [.ref 34, .int p1, .long (1 : Int64), .retAddr 0, .retAddr 0, .retAddr 0, .retAddr 0] [] (mc_hp σ1 τ1) (some (.int r)) (mc_hp σ' τ') 0 0 from ?_)
  refine mr_iconstv (pc := 7) (0 : Int32) dX6_solves_7 (by decide) ?_
  refine mr_istore (pc := 8) dX6_solves_8 (Nat.le_of_ble_eq_true rfl) (show mc_V M_X6_solves 2 none 10 [.ref 34, .int p1, .long (1 : Int64), .retAddr 0, .int (0 : Int32), .retAddr 0, .retAddr 0] [] (mc_hp σ1 τ1) (some (.int r)) (mc_hp σ' τ') 0 0 from ?_)
  exact mc_V.locs (loc' := [.ref 34, .retAddr 0, .long (1 : Int64), .retAddr 0, .int (0 : Int32), .retAddr 0, .retAddr 0]) ⟨Or.inr rfl, Or.inl rfl, Or.inr rfl, Or.inl rfl, Or.inr rfl, Or.inl rfl, Or.inl rfl, trivial⟩ (dc_Q_solves_l10 mc_F (1 : Int64) (0 : Int32) σ1 τ1 r σ' τ' h)
set_option maxHeartbeats 4000000 in
set_option maxRecDepth 100000 in
theorem dc_Q_divisor {σ : mS} {τ : mT} {r : Int64} {σ' : mS} {τ' : mT} (h : Q_divisor σ τ = some (r, σ', τ')) : mc_V M_X6_divisor 0 none 0 (mc_entry [.ref 34] 1) [] (mc_hp σ τ) (some (.long r)) (mc_hp σ' τ') 0 0 := by
  unfold Q_divisor at h
  show mc_V M_X6_divisor 0 none 0 [.ref 34] [] (mc_hp σ τ) (some (.long r)) (mc_hp σ' τ') 0 0
  refine mr_aload_n (pc := 0) dX6_divisor_0 rfl ?_
  refine mr_getf (pc := 1) (ci := 6) inX6 rfl 13 (by decide) fl_46 dX6_divisor_1 (ha_34 σ τ) rfl ?_
  refine mr_if_ne (pc := 4) 11 dX6_divisor_4 (by decide) (fun q1 => ?_) (fun q1 => ?_)
  · replace h := (if_neg q1).symm.trans h
    refine mr_aload_n (pc := 11) dX6_divisor_11 rfl ?_
    refine mr_getf (pc := 12) (ci := 6) inX6 rfl 17 (by decide) fl_43 dX6_divisor_12 (ha_34 σ τ) rfl ?_
    refine mr_bipushv (pc := 15) (9 : Int32) dX6_divisor_15 (by decide) ?_
    refine mr_aload_n (pc := 17) dX6_divisor_17 rfl ?_
    refine mr_getf (pc := 18) (ci := 6) inX6 rfl 13 (by decide) fl_46 dX6_divisor_18 (ha_34 σ τ) rfl ?_
    refine mr_iconstv (pc := 21) (1 : Int32) dX6_divisor_21 (by decide) ?_
    refine mr_isub (pc := 22) dX6_divisor_22 ?_
    refine mr_imul (pc := 23) dX6_divisor_23 ?_
    refine mr_aload_n (pc := 24) dX6_divisor_24 rfl ?_
    refine mr_getf (pc := 25) (ci := 6) inX6 rfl 13 (by decide) fl_46 dX6_divisor_25 (ha_34 σ τ) rfl ?_
    refine mr_iadd (pc := 28) dX6_divisor_28 ?_
    refine mr_iconstv (pc := 29) (1 : Int32) dX6_divisor_29 (by decide) ?_
    refine mr_isub (pc := 30) dX6_divisor_30 ?_
    obtain ⟨g2, h⟩ := og h
    refine mr_lald (pc := 31) dX6_divisor_31 (ha_47 σ τ) (g2) ?_
    obtain ⟨rfl, rfl, rfl⟩ := os3 h
    exact mr_lret (pc := 32) rfl dX6_divisor_32
  · replace h := (if_pos q1).symm.trans h
    refine mr_lconstv (pc := 7) (1 : Int64) dX6_divisor_7 (by decide) ?_
    refine mr_goto (pc := 8) 32 dX6_divisor_8 (by decide) ?_
    obtain ⟨rfl, rfl, rfl⟩ := os3 h
    exact mr_lret (pc := 32) rfl dX6_divisor_32
set_option maxHeartbeats 4000000 in
set_option maxRecDepth 100000 in
theorem dc_Q_isNoneBelow_b68 (k19 : Int32 → Int32 → Int32 → mS → mT → Option (Int32 × mS × mT)) (hk19 : ∀ (x1 : Int32) (x2 : Int32) (x3 : Int32) (σ : mS) (τ : mT) (r : Int32) (σ' : mS) (τ' : mT), k19 x1 x2 x3 σ τ = some (r, σ', τ') → mc_V M_X6_isNoneBelow 1 none 19 [.ref 34, .int x1, .int x2, .int x3, .retAddr 0, .retAddr 0] [] (mc_hp σ τ) (some (.int r)) (mc_hp σ' τ') 0 0) : ∀ (x1 : Int32) (x3 : Int32) (σ : mS) (τ : mT) (r : Int32) (σ' : mS) (τ' : mT), Q_isNoneBelow_b68 k19 x1 x3 σ τ = some (r, σ', τ') → mc_V M_X6_isNoneBelow 1 none 68 [.ref 34, .int x1, .retAddr 0, .int x3, .retAddr 0, .retAddr 0] [] (mc_hp σ τ) (some (.int r)) (mc_hp σ' τ') 0 0 := by
  intro x1 x3 σ τ r σ' τ' h
  unfold Q_isNoneBelow_b68 at h
  refine mr_iconstv (pc := 68) (1 : Int32) dX6_isNoneBelow_68 (by decide) ?_
  refine mr_goto (pc := 69) 73 dX6_isNoneBelow_69 (by decide) ?_
  refine mr_istore_n (pc := 73) dX6_isNoneBelow_73 (Nat.le_of_ble_eq_true rfl) (show mc_V M_X6_isNoneBelow 1 none 74 [.ref 34, .int x1, .int (1 : Int32), .int x3, .retAddr 0, .retAddr 0] [] (mc_hp σ τ) (some (.int r)) (mc_hp σ' τ') 0 0 from ?_)
  refine mr_iincv (pc := 74) (1 : Int32) dX6_isNoneBelow_74 rfl (by decide) (show mc_V M_X6_isNoneBelow 1 none 77 [.ref 34, .int x1, .int (1 : Int32), .int (x3 + (1 : Int32)), .retAddr 0, .retAddr 0] [] (mc_hp σ τ) (some (.int r)) (mc_hp σ' τ') 0 0 from ?_)
  refine mr_goto (pc := 77) 19 dX6_isNoneBelow_77 (by decide) ?_
  exact mc_V.locs (loc' := [.ref 34, .int x1, .int (1 : Int32), .int (x3 + (1 : Int32)), .retAddr 0, .retAddr 0]) ⟨Or.inr rfl, Or.inr rfl, Or.inr rfl, Or.inr rfl, Or.inl rfl, Or.inl rfl, trivial⟩ (hk19 x1 (1 : Int32) (x3 + (1 : Int32)) σ τ r σ' τ' h)
set_option maxHeartbeats 4000000 in
set_option maxRecDepth 100000 in
theorem dc_Q_isNoneBelow_l19 : ∀ (n : Nat), ∀ (x1 : Int32) (x2 : Int32) (x3 : Int32) (σ : mS) (τ : mT) (r : Int32) (σ' : mS) (τ' : mT), Q_isNoneBelow_l19 n x1 x2 x3 σ τ = some (r, σ', τ') → mc_V M_X6_isNoneBelow 1 none 19 [.ref 34, .int x1, .int x2, .int x3, .retAddr 0, .retAddr 0] [] (mc_hp σ τ) (some (.int r)) (mc_hp σ' τ') 0 0 := by
  intro n
  induction n with
  | zero =>
    intros
    rename_i h
    cases h
  | succ n ih =>
    intro x1 x2 x3 σ τ r σ' τ' h
    refine mr_iload_n (pc := 19) dX6_isNoneBelow_19 rfl ?_
    refine mr_aload_n (pc := 20) dX6_isNoneBelow_20 rfl ?_
    refine mr_getf (pc := 21) (ci := 6) inX6 rfl 13 (by decide) fl_46 dX6_isNoneBelow_21 (ha_34 σ τ) rfl ?_
    refine mr_icmp_ge (pc := 24) 80 dX6_isNoneBelow_24 (by decide) (fun q1 => ?_) (fun q1 => ?_)
    · replace h := (if_pos q1).symm.trans h
      refine mr_iload_n (pc := 80) dX6_isNoneBelow_80 rfl ?_
      obtain ⟨g2, h⟩ := og h
      obtain ⟨rfl, rfl, rfl⟩ := os3 h
      exact mr_iret (pc := 81) rfl (nar_b g2) dX6_isNoneBelow_81
    · replace h := (if_neg q1).symm.trans h
      refine mr_aload_n (pc := 27) dX6_isNoneBelow_27 rfl ?_
      refine mr_getf (pc := 28) (ci := 6) inX6 rfl 17 (by decide) fl_43 dX6_isNoneBelow_28 (ha_34 σ τ) rfl ?_
      refine mr_bipushv (pc := 31) (9 : Int32) dX6_isNoneBelow_31 (by decide) ?_
      refine mr_iload_n (pc := 33) dX6_isNoneBelow_33 rfl ?_
      refine mr_imul (pc := 34) dX6_isNoneBelow_34 ?_
      refine mr_aload_n (pc := 35) dX6_isNoneBelow_35 rfl ?_
      refine mr_getf (pc := 36) (ci := 6) inX6 rfl 13 (by decide) fl_46 dX6_isNoneBelow_36 (ha_34 σ τ) rfl ?_
      refine mr_iadd (pc := 39) dX6_isNoneBelow_39 ?_
      obtain ⟨g3, h⟩ := og h
      refine mr_lald (pc := 40) dX6_isNoneBelow_40 (ha_47 σ τ) (g3) ?_
      refine mr_lstore (pc := 41) dX6_isNoneBelow_41 (Nat.le_of_ble_eq_true rfl) (show mc_V M_X6_isNoneBelow 1 none 43 [.ref 34, .int x1, .int x2, .int x3, .long (τ 47 (((9 : Int32) * x3) + (σ 34 13)).toNatClampNeg), .retAddr 0] [] (mc_hp σ τ) (some (.int r)) (mc_hp σ' τ') 0 0 from ?_)
      refine mr_iload_n (pc := 43) dX6_isNoneBelow_43 rfl ?_
      refine mr_if_eq (pc := 44) 72 dX6_isNoneBelow_44 (by decide) (fun q4 => ?_) (fun q4 => ?_)
      · replace h := (if_pos q4).symm.trans h
        refine mr_iconstv (pc := 72) (0 : Int32) dX6_isNoneBelow_72 (by decide) ?_
        refine mr_istore_n (pc := 73) dX6_isNoneBelow_73 (Nat.le_of_ble_eq_true rfl) (show mc_V M_X6_isNoneBelow 1 none 74 [.ref 34, .int x1, .int (0 : Int32), .int x3, .long (τ 47 (((9 : Int32) * x3) + (σ 34 13)).toNatClampNeg), .retAddr 0] [] (mc_hp σ τ) (some (.int r)) (mc_hp σ' τ') 0 0 from ?_)
        refine mr_iincv (pc := 74) (1 : Int32) dX6_isNoneBelow_74 rfl (by decide) (show mc_V M_X6_isNoneBelow 1 none 77 [.ref 34, .int x1, .int (0 : Int32), .int (x3 + (1 : Int32)), .long (τ 47 (((9 : Int32) * x3) + (σ 34 13)).toNatClampNeg), .retAddr 0] [] (mc_hp σ τ) (some (.int r)) (mc_hp σ' τ') 0 0 from ?_)
        refine mr_goto (pc := 77) 19 dX6_isNoneBelow_77 (by decide) ?_
        exact mc_V.locs (loc' := [.ref 34, .int x1, .int (0 : Int32), .int (x3 + (1 : Int32)), .retAddr 0, .retAddr 0]) ⟨Or.inr rfl, Or.inr rfl, Or.inr rfl, Or.inr rfl, Or.inl rfl, Or.inl rfl, trivial⟩ (ih x1 (0 : Int32) (x3 + (1 : Int32)) σ τ r σ' τ' h)
      · replace h := (if_neg q4).symm.trans h
        refine mr_iload_n (pc := 47) dX6_isNoneBelow_47 rfl ?_
        refine mr_if_eq (pc := 48) 61 dX6_isNoneBelow_48 (by decide) (fun q5 => ?_) (fun q5 => ?_)
        · replace h := (if_pos q5).symm.trans h
          refine mr_lload (pc := 61) dX6_isNoneBelow_61 rfl ?_
          refine mr_lconstv (pc := 63) (0 : Int64) dX6_isNoneBelow_63 (by decide) ?_
          refine mr_lcmp (pc := 64) dX6_isNoneBelow_64 ?_
          refine mr_if_gt (pc := 65) 72 dX6_isNoneBelow_65 (by decide) (fun q6 => ?_) (fun q6 => ?_)
          · replace h := (if_pos q6).symm.trans h
            refine mr_iconstv (pc := 72) (0 : Int32) dX6_isNoneBelow_72 (by decide) ?_
            refine mr_istore_n (pc := 73) dX6_isNoneBelow_73 (Nat.le_of_ble_eq_true rfl) (show mc_V M_X6_isNoneBelow 1 none 74 [.ref 34, .int x1, .int (0 : Int32), .int x3, .long (τ 47 (((9 : Int32) * x3) + (σ 34 13)).toNatClampNeg), .retAddr 0] [] (mc_hp σ τ) (some (.int r)) (mc_hp σ' τ') 0 0 from ?_)
            refine mr_iincv (pc := 74) (1 : Int32) dX6_isNoneBelow_74 rfl (by decide) (show mc_V M_X6_isNoneBelow 1 none 77 [.ref 34, .int x1, .int (0 : Int32), .int (x3 + (1 : Int32)), .long (τ 47 (((9 : Int32) * x3) + (σ 34 13)).toNatClampNeg), .retAddr 0] [] (mc_hp σ τ) (some (.int r)) (mc_hp σ' τ') 0 0 from ?_)
            refine mr_goto (pc := 77) 19 dX6_isNoneBelow_77 (by decide) ?_
            exact mc_V.locs (loc' := [.ref 34, .int x1, .int (0 : Int32), .int (x3 + (1 : Int32)), .retAddr 0, .retAddr 0]) ⟨Or.inr rfl, Or.inr rfl, Or.inr rfl, Or.inr rfl, Or.inl rfl, Or.inl rfl, trivial⟩ (ih x1 (0 : Int32) (x3 + (1 : Int32)) σ τ r σ' τ' h)
          · replace h := (if_neg q6).symm.trans h
            exact mc_V.locs (loc' := [.ref 34, .int x1, .retAddr 0, .int x3, .retAddr 0, .retAddr 0]) ⟨Or.inr rfl, Or.inr rfl, Or.inl rfl, Or.inr rfl, Or.inl rfl, Or.inl rfl, trivial⟩ (dc_Q_isNoneBelow_b68 (Q_isNoneBelow_l19 n) ih x1 x3 σ τ r σ' τ' h)
        · replace h := (if_neg q5).symm.trans h
          refine mr_lload (pc := 51) dX6_isNoneBelow_51 rfl ?_
          refine mr_lconstv (pc := 53) (0 : Int64) dX6_isNoneBelow_53 (by decide) ?_
          refine mr_lcmp (pc := 54) dX6_isNoneBelow_54 ?_
          refine mr_if_lt (pc := 55) 72 dX6_isNoneBelow_55 (by decide) (fun q7 => ?_) (fun q7 => ?_)
          · replace h := (if_pos q7).symm.trans h
            refine mr_iconstv (pc := 72) (0 : Int32) dX6_isNoneBelow_72 (by decide) ?_
            refine mr_istore_n (pc := 73) dX6_isNoneBelow_73 (Nat.le_of_ble_eq_true rfl) (show mc_V M_X6_isNoneBelow 1 none 74 [.ref 34, .int x1, .int (0 : Int32), .int x3, .long (τ 47 (((9 : Int32) * x3) + (σ 34 13)).toNatClampNeg), .retAddr 0] [] (mc_hp σ τ) (some (.int r)) (mc_hp σ' τ') 0 0 from ?_)
            refine mr_iincv (pc := 74) (1 : Int32) dX6_isNoneBelow_74 rfl (by decide) (show mc_V M_X6_isNoneBelow 1 none 77 [.ref 34, .int x1, .int (0 : Int32), .int (x3 + (1 : Int32)), .long (τ 47 (((9 : Int32) * x3) + (σ 34 13)).toNatClampNeg), .retAddr 0] [] (mc_hp σ τ) (some (.int r)) (mc_hp σ' τ') 0 0 from ?_)
            refine mr_goto (pc := 77) 19 dX6_isNoneBelow_77 (by decide) ?_
            exact mc_V.locs (loc' := [.ref 34, .int x1, .int (0 : Int32), .int (x3 + (1 : Int32)), .retAddr 0, .retAddr 0]) ⟨Or.inr rfl, Or.inr rfl, Or.inr rfl, Or.inr rfl, Or.inl rfl, Or.inl rfl, trivial⟩ (ih x1 (0 : Int32) (x3 + (1 : Int32)) σ τ r σ' τ' h)
          · replace h := (if_neg q7).symm.trans h
            refine mr_goto (pc := 58) 68 dX6_isNoneBelow_58 (by decide) ?_
            exact mc_V.locs (loc' := [.ref 34, .int x1, .retAddr 0, .int x3, .retAddr 0, .retAddr 0]) ⟨Or.inr rfl, Or.inr rfl, Or.inl rfl, Or.inr rfl, Or.inl rfl, Or.inl rfl, trivial⟩ (dc_Q_isNoneBelow_b68 (Q_isNoneBelow_l19 n) ih x1 x3 σ τ r σ' τ' h)
set_option maxHeartbeats 4000000 in
set_option maxRecDepth 100000 in
theorem dc_Q_isNoneBelow_b14 : ∀ (s0 : Int32) (σ : mS) (τ : mT) (r : Int32) (σ' : mS) (τ' : mT), Q_isNoneBelow_b14 s0 σ τ = some (r, σ', τ') → mc_V M_X6_isNoneBelow 1 none 14 [.ref 34, .retAddr 0, .retAddr 0, .retAddr 0, .retAddr 0, .retAddr 0] [.int s0] (mc_hp σ τ) (some (.int r)) (mc_hp σ' τ') 0 0 := by
  intro s0 σ τ r σ' τ' h
  unfold Q_isNoneBelow_b14 at h
  refine mr_istore_n (pc := 14) dX6_isNoneBelow_14 (Nat.le_of_ble_eq_true rfl) (show mc_V M_X6_isNoneBelow 1 none 15 [.ref 34, .int s0, .retAddr 0, .retAddr 0, .retAddr 0, .retAddr 0] [] (mc_hp σ τ) (some (.int r)) (mc_hp σ' τ') 0 0 from ?_)
  refine mr_iconstv (pc := 15) (1 : Int32) dX6_isNoneBelow_15 (by decide) ?_
  refine mr_istore_n (pc := 16) dX6_isNoneBelow_16 (Nat.le_of_ble_eq_true rfl) (show mc_V M_X6_isNoneBelow 1 none 17 [.ref 34, .int s0, .int (1 : Int32), .retAddr 0, .retAddr 0, .retAddr 0] [] (mc_hp σ τ) (some (.int r)) (mc_hp σ' τ') 0 0 from ?_)
  refine mr_iconstv (pc := 17) (0 : Int32) dX6_isNoneBelow_17 (by decide) ?_
  refine mr_istore_n (pc := 18) dX6_isNoneBelow_18 (Nat.le_of_ble_eq_true rfl) (show mc_V M_X6_isNoneBelow 1 none 19 [.ref 34, .int s0, .int (1 : Int32), .int (0 : Int32), .retAddr 0, .retAddr 0] [] (mc_hp σ τ) (some (.int r)) (mc_hp σ' τ') 0 0 from ?_)
  exact mc_V.locs (loc' := [.ref 34, .int s0, .int (1 : Int32), .int (0 : Int32), .retAddr 0, .retAddr 0]) ⟨Or.inr rfl, Or.inr rfl, Or.inr rfl, Or.inr rfl, Or.inl rfl, Or.inl rfl, trivial⟩ (dc_Q_isNoneBelow_l19 mc_F s0 (1 : Int32) (0 : Int32) σ τ r σ' τ' h)
set_option maxHeartbeats 4000000 in
set_option maxRecDepth 100000 in
theorem dc_Q_isNoneBelow {σ : mS} {τ : mT} {r : Int32} {σ' : mS} {τ' : mT} (h : Q_isNoneBelow σ τ = some (r, σ', τ')) : mc_V M_X6_isNoneBelow 1 none 0 (mc_entry [.ref 34] 6) [] (mc_hp σ τ) (some (.int r)) (mc_hp σ' τ') 0 0 := by
  unfold Q_isNoneBelow at h
  show mc_V M_X6_isNoneBelow 1 none 0 [.ref 34, .retAddr 0, .retAddr 0, .retAddr 0, .retAddr 0, .retAddr 0] [] (mc_hp σ τ) (some (.int r)) (mc_hp σ' τ') 0 0
  refine mr_aload_n (pc := 0) dX6_isNoneBelow_0 rfl ?_
  obtain ⟨r1, σ1, τ1, c1, h⟩ := obs h
  refine mr_callV0 (pc := 1) (ci := 6) [] ok_X6_divisor lk_146 st_X6_divisor se_X6_divisor dX6_isNoneBelow_1 rfl (ha_34 σ τ) rfl rfl (Nat.le_of_ble_eq_true rfl) (Nat.le_of_ble_eq_true rfl) ((dc_Q_divisor c1).up (by decide)) ?_
  refine mr_lconstv (pc := 4) (0 : Int64) dX6_isNoneBelow_4 (by decide) ?_
  refine mr_lcmp (pc := 5) dX6_isNoneBelow_5 ?_
  refine mr_if_le (pc := 6) 13 dX6_isNoneBelow_6 (by decide) (fun q2 => ?_) (fun q2 => ?_)
  · replace h := (if_pos q2).symm.trans h
    refine mr_iconstv (pc := 13) (0 : Int32) dX6_isNoneBelow_13 (by decide) ?_
    exact mc_V.locs (loc' := [.ref 34, .retAddr 0, .retAddr 0, .retAddr 0, .retAddr 0, .retAddr 0]) ⟨Or.inr rfl, Or.inl rfl, Or.inl rfl, Or.inl rfl, Or.inl rfl, Or.inl rfl, trivial⟩ (dc_Q_isNoneBelow_b14 (0 : Int32) σ1 τ1 r σ' τ' h)
  · replace h := (if_neg q2).symm.trans h
    refine mr_iconstv (pc := 9) (1 : Int32) dX6_isNoneBelow_9 (by decide) ?_
    refine mr_goto (pc := 10) 14 dX6_isNoneBelow_10 (by decide) ?_
    exact mc_V.locs (loc' := [.ref 34, .retAddr 0, .retAddr 0, .retAddr 0, .retAddr 0, .retAddr 0]) ⟨Or.inr rfl, Or.inl rfl, Or.inl rfl, Or.inl rfl, Or.inl rfl, Or.inl rfl, trivial⟩ (dc_Q_isNoneBelow_b14 (1 : Int32) σ1 τ1 r σ' τ' h)
set_option maxHeartbeats 4000000 in
set_option maxRecDepth 100000 in
theorem dc_Q_solved {p1 : Int32} {p2 : Int32} {σ : mS} {τ : mT} {r : Int64} {σ' : mS} {τ' : mT} (h : Q_solved p1 p2 σ τ = some (r, σ', τ')) : mc_V M_X6_solved 1 none 0 (mc_entry [.ref 34, .int p1, .int p2] 5) [] (mc_hp σ τ) (some (.long r)) (mc_hp σ' τ') 0 0 := by
  unfold Q_solved at h
  show mc_V M_X6_solved 1 none 0 [.ref 34, .int p1, .int p2, .retAddr 0, .retAddr 0] [] (mc_hp σ τ) (some (.long r)) (mc_hp σ' τ') 0 0
  refine mr_iload_n (pc := 0) dX6_solved_0 rfl ?_
  refine mr_bipushv (pc := 1) (-9 : Int32) dX6_solved_1 (by decide) ?_
  refine mr_icmp_eq (pc := 3) 14 dX6_solved_3 (by decide) (fun q1 => ?_) (fun q1 => ?_)
  · replace h := (if_pos q1).symm.trans h
    refine mr_lconstv (pc := 14) (0 : Int64) dX6_solved_14 (by decide) ?_
    obtain ⟨rfl, rfl, rfl⟩ := os3 h
    exact mr_lret (pc := 15) rfl dX6_solved_15
  · replace h := (if_neg q1).symm.trans h
    refine mr_iload_n (pc := 6) dX6_solved_6 rfl ?_
    refine mr_iload_n (pc := 7) dX6_solved_7 rfl ?_
    obtain ⟨r2, σ2, τ2, c2, h⟩ := obs h
    refine mr_callS0 (pc := 8) [.int p1, .int p2] ok_X6_has lk_140 st_X6_has dX6_solved_8 rfl rfl (Nat.le_of_ble_eq_true rfl) (Nat.le_of_ble_eq_true rfl) ((dc_Q_has c2).up (by decide)) ?_
    refine mr_if_ne (pc := 11) 16 dX6_solved_11 (by decide) (fun q3 => ?_) (fun q3 => ?_)
    · replace h := (if_neg q3).symm.trans h
      refine mr_aload_n (pc := 16) dX6_solved_16 rfl ?_
      refine mr_getf (pc := 17) (ci := 6) inX6 rfl 17 (by decide) fl_43 dX6_solved_17 (ha_34 σ2 τ2) rfl ?_
      refine mr_bipushv (pc := 20) (9 : Int32) dX6_solved_20 (by decide) ?_
      refine mr_iload_n (pc := 22) dX6_solved_22 rfl ?_
      refine mr_iconstv (pc := 23) (1 : Int32) dX6_solved_23 (by decide) ?_
      refine mr_iload_n (pc := 24) dX6_solved_24 rfl ?_
      refine mr_ishl (pc := 25) dX6_solved_25 ?_
      refine mr_iconstv (pc := 26) (1 : Int32) dX6_solved_26 (by decide) ?_
      refine mr_isub (pc := 27) dX6_solved_27 ?_
      refine mr_iand (pc := 28) dX6_solved_28 ?_
      obtain ⟨r4, σ4, τ4, c4, h⟩ := obs h
      refine mr_callS0 (pc := 29) [.int (p1 &&& (((1 : Int32) <<< (p2 &&& 31)) - (1 : Int32)))] ok_X6_ones lk_147 st_X6_ones dX6_solved_29 rfl rfl (Nat.le_of_ble_eq_true rfl) (Nat.le_of_ble_eq_true rfl) ((dc_Q_ones c4).up (by decide)) ?_
      refine mr_imul (pc := 32) dX6_solved_32 ?_
      refine mr_aload_n (pc := 33) dX6_solved_33 rfl ?_
      refine mr_getf (pc := 34) (ci := 6) inX6 rfl 13 (by decide) fl_46 dX6_solved_34 (ha_34 σ4 τ4) rfl ?_
      refine mr_iadd (pc := 37) dX6_solved_37 ?_
      obtain ⟨g5, h⟩ := og h
      refine mr_lald (pc := 38) dX6_solved_38 (ha_47 σ4 τ4) (g5) ?_
      refine mr_lstore_n (pc := 39) dX6_solved_39 (Nat.le_of_ble_eq_true rfl) (show mc_V M_X6_solved 1 none 40 [.ref 34, .int p1, .int p2, .long (τ4 47 (((9 : Int32) * r4) + (σ4 34 13)).toNatClampNeg), .retAddr 0] [] (mc_hp σ4 τ4) (some (.long r)) (mc_hp σ' τ') 0 0 from ?_)
      refine mr_aload_n (pc := 40) dX6_solved_40 rfl ?_
      obtain ⟨r6, σ6, τ6, c6, h⟩ := obs h
      refine mr_callV0 (pc := 41) (ci := 6) [] ok_X6_divisor lk_146 st_X6_divisor se_X6_divisor dX6_solved_41 rfl (ha_34 σ4 τ4) rfl rfl (Nat.le_of_ble_eq_true rfl) (Nat.le_of_ble_eq_true rfl) ((dc_Q_divisor c6).up (by decide)) ?_
      refine mr_lconstv (pc := 44) (0 : Int64) dX6_solved_44 (by decide) ?_
      refine mr_lcmp (pc := 45) dX6_solved_45 ?_
      refine mr_if_le (pc := 46) 53 dX6_solved_46 (by decide) (fun q7 => ?_) (fun q7 => ?_)
      · replace h := (if_pos q7).symm.trans h
        refine mr_lload_n (pc := 53) dX6_solved_53 rfl ?_
        refine mr_lneg (pc := 54) dX6_solved_54 ?_
        obtain ⟨rfl, rfl, rfl⟩ := os3 h
        exact mr_lret (pc := 55) rfl dX6_solved_55
      · replace h := (if_neg q7).symm.trans h
        refine mr_lload_n (pc := 49) dX6_solved_49 rfl ?_
        refine mr_goto (pc := 50) 55 dX6_solved_50 (by decide) ?_
        obtain ⟨rfl, rfl, rfl⟩ := os3 h
        exact mr_lret (pc := 55) rfl dX6_solved_55
    · replace h := (if_pos q3).symm.trans h
      refine mr_lconstv (pc := 14) (0 : Int64) dX6_solved_14 (by decide) ?_
      obtain ⟨rfl, rfl, rfl⟩ := os3 h
      exact mr_lret (pc := 15) rfl dX6_solved_15
set_option maxHeartbeats 4000000 in
set_option maxRecDepth 100000 in
theorem dc_Q_meets_b56 : ∀ (x1 : Int64) (x3 : Int64) (σ : mS) (τ : mT) (σ' : mS) (τ' : mT), Q_meets_b56 x1 x3 σ τ = some (σ', τ') → mc_V M_X6_meets 0 none 56 [.ref 34, .long x1, .retAddr 0, .long x3, .retAddr 0] [] (mc_hp σ τ) none (mc_hp σ' τ') 0 0 := by
  intro x1 x3 σ τ σ' τ' h
  unfold Q_meets_b56 at h
  refine mr_aload_n (pc := 56) dX6_meets_56 rfl ?_
  refine mr_lload_n (pc := 57) dX6_meets_57 rfl ?_
  obtain ⟨τ1, e1, h⟩ := ow h
  refine mr_putf (pc := 58) (ci := 6) inX6 tyX6 tyX6_ok nmX6 rfl 21 (by decide) fl_52 rfl dX6_meets_58 (ha_34 σ τ) (Nat.le_of_ble_eq_true rfl) rfl (mc_V.heap (hs_34_21 e1) ?_)
  refine mr_aload_n (pc := 61) dX6_meets_61 rfl ?_
  refine mr_lload_n (pc := 62) dX6_meets_62 rfl ?_
  obtain ⟨τ2, e2, h⟩ := ow h
  refine mr_putf (pc := 63) (ci := 6) inX6 tyX6 tyX6_ok nmX6 rfl 22 (by decide) fl_51 rfl dX6_meets_63 (ha_34 σ τ1) (Nat.le_of_ble_eq_true rfl) rfl (mc_V.heap (hs_34_22 e2) ?_)
  refine mr_aload_n (pc := 66) dX6_meets_66 rfl ?_
  refine mr_iconstv (pc := 67) (1 : Int32) dX6_meets_67 (by decide) ?_
  obtain ⟨σ3, e3, h⟩ := ow h
  refine mr_putf (pc := 68) (ci := 6) inX6 tyX6 tyX6_ok nmX6 rfl 18 (by decide) fl_48 rfl dX6_meets_68 (ha_34 σ τ2) (Nat.le_of_ble_eq_true rfl) rfl (mc_V.heap (hs_34_18 e3) ?_)
  obtain ⟨rfl, rfl⟩ := os2 h
  exact mr_ret (pc := 71) rfl dX6_meets_71
set_option maxHeartbeats 4000000 in
set_option maxRecDepth 100000 in
theorem dc_Q_meets_b33 : ∀ (x1 : Int64) (x3 : Int64) (σ : mS) (τ : mT) (σ' : mS) (τ' : mT), Q_meets_b33 x1 x3 σ τ = some (σ', τ') → mc_V M_X6_meets 0 none 33 [.ref 34, .long x1, .retAddr 0, .long x3, .retAddr 0] [] (mc_hp σ τ) none (mc_hp σ' τ') 0 0 := by
  intro x1 x3 σ τ σ' τ' h
  unfold Q_meets_b33 at h
  refine mr_aload_n (pc := 33) dX6_meets_33 rfl ?_
  refine mr_getf (pc := 34) (ci := 6) inX6 rfl 18 (by decide) fl_48 dX6_meets_34 (ha_34 σ τ) rfl ?_
  refine mr_if_eq (pc := 37) 56 dX6_meets_37 (by decide) (fun q1 => ?_) (fun q1 => ?_)
  · replace h := (if_pos q1).symm.trans h
    exact mc_V.locs (loc' := [.ref 34, .long x1, .retAddr 0, .long x3, .retAddr 0]) ⟨Or.inr rfl, Or.inr rfl, Or.inl rfl, Or.inr rfl, Or.inl rfl, trivial⟩ (dc_Q_meets_b56 x1 x3 σ τ σ' τ' h)
  · replace h := (if_neg q1).symm.trans h
    refine mr_lload_n (pc := 40) dX6_meets_40 rfl ?_
    refine mr_aload_n (pc := 41) dX6_meets_41 rfl ?_
    refine mr_getf (pc := 42) (ci := 6) inX6 rfl 22 (by decide) fl_51 dX6_meets_42 (ha_34 σ τ) rfl ?_
    refine mr_lmul (pc := 45) dX6_meets_45 ?_
    refine mr_aload_n (pc := 46) dX6_meets_46 rfl ?_
    refine mr_getf (pc := 47) (ci := 6) inX6 rfl 21 (by decide) fl_52 dX6_meets_47 (ha_34 σ τ) rfl ?_
    refine mr_lload_n (pc := 50) dX6_meets_50 rfl ?_
    refine mr_lmul (pc := 51) dX6_meets_51 ?_
    refine mr_lcmp (pc := 52) dX6_meets_52 ?_
    refine mr_if_le (pc := 53) 66 dX6_meets_53 (by decide) (fun q2 => ?_) (fun q2 => ?_)
    · replace h := (if_pos q2).symm.trans h
      refine mr_aload_n (pc := 66) dX6_meets_66 rfl ?_
      refine mr_iconstv (pc := 67) (1 : Int32) dX6_meets_67 (by decide) ?_
      obtain ⟨σ3, e3, h⟩ := ow h
      refine mr_putf (pc := 68) (ci := 6) inX6 tyX6 tyX6_ok nmX6 rfl 18 (by decide) fl_48 rfl dX6_meets_68 (ha_34 σ τ) (Nat.le_of_ble_eq_true rfl) rfl (mc_V.heap (hs_34_18 e3) ?_)
      obtain ⟨rfl, rfl⟩ := os2 h
      exact mr_ret (pc := 71) rfl dX6_meets_71
    · replace h := (if_neg q2).symm.trans h
      exact mc_V.locs (loc' := [.ref 34, .long x1, .retAddr 0, .long x3, .retAddr 0]) ⟨Or.inr rfl, Or.inr rfl, Or.inl rfl, Or.inr rfl, Or.inl rfl, trivial⟩ (dc_Q_meets_b56 x1 x3 σ τ σ' τ' h)
set_option maxHeartbeats 4000000 in
set_option maxRecDepth 100000 in
theorem dc_Q_meets_b23 : ∀ (x1 : Int64) (x3 : Int64) (σ : mS) (τ : mT) (σ' : mS) (τ' : mT), Q_meets_b23 x1 x3 σ τ = some (σ', τ') → mc_V M_X6_meets 0 none 23 [.ref 34, .long x1, .retAddr 0, .long x3, .retAddr 0] [] (mc_hp σ τ) none (mc_hp σ' τ') 0 0 := by
  intro x1 x3 σ τ σ' τ' h
  unfold Q_meets_b23 at h
  refine mr_aload_n (pc := 23) dX6_meets_23 rfl ?_
  refine mr_lload_n (pc := 24) dX6_meets_24 rfl ?_
  obtain ⟨τ1, e1, h⟩ := ow h
  refine mr_putf (pc := 25) (ci := 6) inX6 tyX6 tyX6_ok nmX6 rfl 19 (by decide) fl_50 rfl dX6_meets_25 (ha_34 σ τ) (Nat.le_of_ble_eq_true rfl) rfl (mc_V.heap (hs_34_19 e1) ?_)
  refine mr_aload_n (pc := 28) dX6_meets_28 rfl ?_
  refine mr_lload_n (pc := 29) dX6_meets_29 rfl ?_
  obtain ⟨τ2, e2, h⟩ := ow h
  refine mr_putf (pc := 30) (ci := 6) inX6 tyX6 tyX6_ok nmX6 rfl 20 (by decide) fl_49 rfl dX6_meets_30 (ha_34 σ τ1) (Nat.le_of_ble_eq_true rfl) rfl (mc_V.heap (hs_34_20 e2) ?_)
  exact mc_V.locs (loc' := [.ref 34, .long x1, .retAddr 0, .long x3, .retAddr 0]) ⟨Or.inr rfl, Or.inr rfl, Or.inl rfl, Or.inr rfl, Or.inl rfl, trivial⟩ (dc_Q_meets_b33 x1 x3 σ τ2 σ' τ' h)
set_option maxHeartbeats 4000000 in
set_option maxRecDepth 100000 in
theorem dc_Q_meets {p1 : Int64} {p2 : Int64} {σ : mS} {τ : mT} {σ' : mS} {τ' : mT} (h : Q_meets p1 p2 σ τ = some (σ', τ')) : mc_V M_X6_meets 0 none 0 (mc_entry [.ref 34, .long p1, .long p2] 5) [] (mc_hp σ τ) none (mc_hp σ' τ') 0 0 := by
  unfold Q_meets at h
  show mc_V M_X6_meets 0 none 0 [.ref 34, .long p1, .retAddr 0, .long p2, .retAddr 0] [] (mc_hp σ τ) none (mc_hp σ' τ') 0 0
  refine mr_aload_n (pc := 0) dX6_meets_0 rfl ?_
  refine mr_getf (pc := 1) (ci := 6) inX6 rfl 18 (by decide) fl_48 dX6_meets_1 (ha_34 σ τ) rfl ?_
  refine mr_if_eq (pc := 4) 23 dX6_meets_4 (by decide) (fun q1 => ?_) (fun q1 => ?_)
  · replace h := (if_pos q1).symm.trans h
    exact mc_V.locs (loc' := [.ref 34, .long p1, .retAddr 0, .long p2, .retAddr 0]) ⟨Or.inr rfl, Or.inr rfl, Or.inl rfl, Or.inr rfl, Or.inl rfl, trivial⟩ (dc_Q_meets_b23 p1 p2 σ τ σ' τ' h)
  · replace h := (if_neg q1).symm.trans h
    refine mr_lload_n (pc := 7) dX6_meets_7 rfl ?_
    refine mr_aload_n (pc := 8) dX6_meets_8 rfl ?_
    refine mr_getf (pc := 9) (ci := 6) inX6 rfl 20 (by decide) fl_49 dX6_meets_9 (ha_34 σ τ) rfl ?_
    refine mr_lmul (pc := 12) dX6_meets_12 ?_
    refine mr_aload_n (pc := 13) dX6_meets_13 rfl ?_
    refine mr_getf (pc := 14) (ci := 6) inX6 rfl 19 (by decide) fl_50 dX6_meets_14 (ha_34 σ τ) rfl ?_
    refine mr_lload_n (pc := 17) dX6_meets_17 rfl ?_
    refine mr_lmul (pc := 18) dX6_meets_18 ?_
    refine mr_lcmp (pc := 19) dX6_meets_19 ?_
    refine mr_if_ge (pc := 20) 33 dX6_meets_20 (by decide) (fun q2 => ?_) (fun q2 => ?_)
    · replace h := (if_pos q2).symm.trans h
      exact mc_V.locs (loc' := [.ref 34, .long p1, .retAddr 0, .long p2, .retAddr 0]) ⟨Or.inr rfl, Or.inr rfl, Or.inl rfl, Or.inr rfl, Or.inl rfl, trivial⟩ (dc_Q_meets_b33 p1 p2 σ τ σ' τ' h)
    · replace h := (if_neg q2).symm.trans h
      exact mc_V.locs (loc' := [.ref 34, .long p1, .retAddr 0, .long p2, .retAddr 0]) ⟨Or.inr rfl, Or.inr rfl, Or.inl rfl, Or.inr rfl, Or.inl rfl, trivial⟩ (dc_Q_meets_b23 p1 p2 σ τ σ' τ' h)
set_option maxHeartbeats 4000000 in
set_option maxRecDepth 100000 in
theorem dc_Q_seeks_b67 (k7 : Int32 → Int32 → mS → mT → Option (mS × mT)) (hk7 : ∀ (x1 : Int32) (x2 : Int32) (σ : mS) (τ : mT) (σ' : mS) (τ' : mT), k7 x1 x2 σ τ = some (σ', τ') → mc_V M_X6_seeks 3 none 7 [.ref 34, .int x1, .int x2, .retAddr 0, .retAddr 0] [] (mc_hp σ τ) none (mc_hp σ' τ') 0 0) : ∀ (x1 : Int32) (x2 : Int32) (s1 : Int64) (s2 : Int64) (σ : mS) (τ : mT) (σ' : mS) (τ' : mT), Q_seeks_b67 k7 x1 x2 s1 s2 σ τ = some (σ', τ') → mc_V M_X6_seeks 3 none 67 [.ref 34, .int x1, .int x2, .retAddr 0, .retAddr 0] [.long s2, .long s1, .ref 34] (mc_hp σ τ) none (mc_hp σ' τ') 0 0 := by
  intro x1 x2 s1 s2 σ τ σ' τ' h
  unfold Q_seeks_b67 at h
  obtain ⟨σ1, τ1, c1, h⟩ := ovs h
  refine mr_callV0 (pc := 67) (ci := 6) [.long s1, .long s2] ok_X6_meets lk_151 st_X6_meets se_X6_meets dX6_seeks_67 rfl (ha_34 σ τ) rfl rfl (Nat.le_of_ble_eq_true rfl) (Nat.le_of_ble_eq_true rfl) ((dc_Q_meets c1).up (by decide)) ?_
  refine mr_iincv (pc := 70) (1 : Int32) dX6_seeks_70 rfl (by decide) (show mc_V M_X6_seeks 3 none 73 [.ref 34, .int x1, .int (x2 + (1 : Int32)), .retAddr 0, .retAddr 0] [] (mc_hp σ1 τ1) none (mc_hp σ' τ') 0 0 from ?_)
  refine mr_goto (pc := 73) 7 dX6_seeks_73 (by decide) ?_
  exact mc_V.locs (loc' := [.ref 34, .int x1, .int (x2 + (1 : Int32)), .retAddr 0, .retAddr 0]) ⟨Or.inr rfl, Or.inr rfl, Or.inr rfl, Or.inl rfl, Or.inl rfl, trivial⟩ (hk7 x1 (x2 + (1 : Int32)) σ1 τ1 σ' τ' h)
set_option maxHeartbeats 4000000 in
set_option maxRecDepth 100000 in
theorem dc_Q_seeks_l7 : ∀ (n : Nat), ∀ (x1 : Int32) (x2 : Int32) (σ : mS) (τ : mT) (σ' : mS) (τ' : mT), Q_seeks_l7 n x1 x2 σ τ = some (σ', τ') → mc_V M_X6_seeks 3 none 7 [.ref 34, .int x1, .int x2, .retAddr 0, .retAddr 0] [] (mc_hp σ τ) none (mc_hp σ' τ') 0 0 := by
  intro n
  induction n with
  | zero =>
    intros
    rename_i h
    cases h
  | succ n ih =>
    intro x1 x2 σ τ σ' τ' h
    refine mr_iload_n (pc := 7) dX6_seeks_7 rfl ?_
    refine mr_iconstv (pc := 8) (1 : Int32) dX6_seeks_8 (by decide) ?_
    refine mr_aload_n (pc := 9) dX6_seeks_9 rfl ?_
    refine mr_getf (pc := 10) (ci := 6) inX6 rfl 14 (by decide) fl_47 dX6_seeks_10 (ha_34 σ τ) rfl ?_
    refine mr_ishl (pc := 13) dX6_seeks_13 ?_
    refine mr_icmp_ge (pc := 14) 76 dX6_seeks_14 (by decide) (fun q1 => ?_) (fun q1 => ?_)
    · replace h := (if_pos q1).symm.trans h
      obtain ⟨rfl, rfl⟩ := os2 h
      exact mr_ret (pc := 76) rfl dX6_seeks_76
    · replace h := (if_neg q1).symm.trans h
      refine mr_iload_n (pc := 17) dX6_seeks_17 rfl ?_
      obtain ⟨r2, σ2, τ2, c2, h⟩ := obs h
      refine mr_callS0 (pc := 18) [.int x2] ok_X6_ones lk_147 st_X6_ones dX6_seeks_18 rfl rfl (Nat.le_of_ble_eq_true rfl) (Nat.le_of_ble_eq_true rfl) ((dc_Q_ones c2).up (by decide)) ?_
      refine mr_aload_n (pc := 21) dX6_seeks_21 rfl ?_
      refine mr_getf (pc := 22) (ci := 6) inX6 rfl 13 (by decide) fl_46 dX6_seeks_22 (ha_34 σ2 τ2) rfl ?_
      refine mr_icmp_ne (pc := 25) 70 dX6_seeks_25 (by decide) (fun q3 => ?_) (fun q3 => ?_)
      · replace h := (if_neg q3).symm.trans h
        refine mr_iincv (pc := 70) (1 : Int32) dX6_seeks_70 rfl (by decide) (show mc_V M_X6_seeks 3 none 73 [.ref 34, .int x1, .int (x2 + (1 : Int32)), .retAddr 0, .retAddr 0] [] (mc_hp σ2 τ2) none (mc_hp σ' τ') 0 0 from ?_)
        refine mr_goto (pc := 73) 7 dX6_seeks_73 (by decide) ?_
        exact mc_V.locs (loc' := [.ref 34, .int x1, .int (x2 + (1 : Int32)), .retAddr 0, .retAddr 0]) ⟨Or.inr rfl, Or.inr rfl, Or.inr rfl, Or.inl rfl, Or.inl rfl, trivial⟩ (ih x1 (x2 + (1 : Int32)) σ2 τ2 σ' τ' h)
      · replace h := (if_pos q3).symm.trans h
        refine mr_aload_n (pc := 28) dX6_seeks_28 rfl ?_
        refine mr_iload_n (pc := 29) dX6_seeks_29 rfl ?_
        obtain ⟨r4, σ4, τ4, c4, h⟩ := obs h
        refine mr_callV0 (pc := 30) (ci := 6) [.int x2] ok_X6_solves lk_148 st_X6_solves se_X6_solves dX6_seeks_30 rfl (ha_34 σ2 τ2) rfl rfl (Nat.le_of_ble_eq_true rfl) (Nat.le_of_ble_eq_true rfl) ((dc_Q_solves c4).up (by decide)) ?_
        refine mr_if_eq (pc := 33) 70 dX6_seeks_33 (by decide) (fun q5 => ?_) (fun q5 => ?_)
        · replace h := (if_pos q5).symm.trans h
          refine mr_iincv (pc := 70) (1 : Int32) dX6_seeks_70 rfl (by decide) (show mc_V M_X6_seeks 3 none 73 [.ref 34, .int x1, .int (x2 + (1 : Int32)), .retAddr 0, .retAddr 0] [] (mc_hp σ4 τ4) none (mc_hp σ' τ') 0 0 from ?_)
          refine mr_goto (pc := 73) 7 dX6_seeks_73 (by decide) ?_
          exact mc_V.locs (loc' := [.ref 34, .int x1, .int (x2 + (1 : Int32)), .retAddr 0, .retAddr 0]) ⟨Or.inr rfl, Or.inr rfl, Or.inr rfl, Or.inl rfl, Or.inl rfl, trivial⟩ (ih x1 (x2 + (1 : Int32)) σ4 τ4 σ' τ' h)
        · replace h := (if_neg q5).symm.trans h
          refine mr_aload_n (pc := 36) dX6_seeks_36 rfl ?_
          obtain ⟨r6, σ6, τ6, c6, h⟩ := obs h
          refine mr_callV0 (pc := 37) (ci := 6) [] ok_X6_isNoneBelow lk_149 st_X6_isNoneBelow se_X6_isNoneBelow dX6_seeks_37 rfl (ha_34 σ4 τ4) rfl rfl (Nat.le_of_ble_eq_true rfl) (Nat.le_of_ble_eq_true rfl) ((dc_Q_isNoneBelow c6).up (by decide)) ?_
          refine mr_if_eq (pc := 40) 70 dX6_seeks_40 (by decide) (fun q7 => ?_) (fun q7 => ?_)
          · replace h := (if_pos q7).symm.trans h
            refine mr_iincv (pc := 70) (1 : Int32) dX6_seeks_70 rfl (by decide) (show mc_V M_X6_seeks 3 none 73 [.ref 34, .int x1, .int (x2 + (1 : Int32)), .retAddr 0, .retAddr 0] [] (mc_hp σ6 τ6) none (mc_hp σ' τ') 0 0 from ?_)
            refine mr_goto (pc := 73) 7 dX6_seeks_73 (by decide) ?_
            exact mc_V.locs (loc' := [.ref 34, .int x1, .int (x2 + (1 : Int32)), .retAddr 0, .retAddr 0]) ⟨Or.inr rfl, Or.inr rfl, Or.inr rfl, Or.inl rfl, Or.inl rfl, trivial⟩ (ih x1 (x2 + (1 : Int32)) σ6 τ6 σ' τ' h)
          · replace h := (if_neg q7).symm.trans h
            refine mr_aload_n (pc := 43) dX6_seeks_43 rfl ?_
            obtain ⟨r8, σ8, τ8, c8, h⟩ := obs h
            refine mr_callV0 (pc := 44) (ci := 6) [] ok_X6_divisor lk_146 st_X6_divisor se_X6_divisor dX6_seeks_44 rfl (ha_34 σ6 τ6) rfl rfl (Nat.le_of_ble_eq_true rfl) (Nat.le_of_ble_eq_true rfl) ((dc_Q_divisor c8).up (by decide)) ?_
            refine mr_lstore_n (pc := 47) dX6_seeks_47 (Nat.le_of_ble_eq_true rfl) (show mc_V M_X6_seeks 3 none 48 [.ref 34, .int x1, .int x2, .long r8, .retAddr 0] [] (mc_hp σ8 τ8) none (mc_hp σ' τ') 0 0 from ?_)
            refine mr_aload_n (pc := 48) dX6_seeks_48 rfl ?_
            refine mr_aload_n (pc := 49) dX6_seeks_49 rfl ?_
            refine mr_iload_n (pc := 50) dX6_seeks_50 rfl ?_
            refine mr_iload_n (pc := 51) dX6_seeks_51 rfl ?_
            obtain ⟨r9, σ9, τ9, c9, h⟩ := obs h
            refine mr_callV0 (pc := 52) (ci := 6) [.int x2, .int x1] ok_X6_solved lk_150 st_X6_solved se_X6_solved dX6_seeks_52 rfl (ha_34 σ8 τ8) rfl rfl (Nat.le_of_ble_eq_true rfl) (Nat.le_of_ble_eq_true rfl) ((dc_Q_solved c9).up (by decide)) ?_
            refine mr_lload_n (pc := 55) dX6_seeks_55 rfl ?_
            refine mr_lconstv (pc := 56) (0 : Int64) dX6_seeks_56 (by decide) ?_
            refine mr_lcmp (pc := 57) dX6_seeks_57 ?_
            refine mr_if_ge (pc := 58) 66 dX6_seeks_58 (by decide) (fun q10 => ?_) (fun q10 => ?_)
            · replace h := (if_pos q10).symm.trans h
              refine mr_lload_n (pc := 66) dX6_seeks_66 rfl ?_
              exact mc_V.locs (loc' := [.ref 34, .int x1, .int x2, .retAddr 0, .retAddr 0]) ⟨Or.inr rfl, Or.inr rfl, Or.inr rfl, Or.inl rfl, Or.inl rfl, trivial⟩ (dc_Q_seeks_b67 (Q_seeks_l7 n) ih x1 x2 r9 r8 σ9 τ9 σ' τ' h)
            · replace h := (if_neg q10).symm.trans h
              refine mr_lload_n (pc := 61) dX6_seeks_61 rfl ?_
              refine mr_lneg (pc := 62) dX6_seeks_62 ?_
              refine mr_goto (pc := 63) 67 dX6_seeks_63 (by decide) ?_
              exact mc_V.locs (loc' := [.ref 34, .int x1, .int x2, .retAddr 0, .retAddr 0]) ⟨Or.inr rfl, Or.inr rfl, Or.inr rfl, Or.inl rfl, Or.inl rfl, trivial⟩ (dc_Q_seeks_b67 (Q_seeks_l7 n) ih x1 x2 r9 (-r8) σ9 τ9 σ' τ' h)
set_option maxHeartbeats 4000000 in
set_option maxRecDepth 100000 in
theorem dc_Q_seeks {p1 : Int32} {σ : mS} {τ : mT} {σ' : mS} {τ' : mT} (h : Q_seeks p1 σ τ = some (σ', τ')) : mc_V M_X6_seeks 3 none 0 (mc_entry [.ref 34, .int p1] 5) [] (mc_hp σ τ) none (mc_hp σ' τ') 0 0 := by
  unfold Q_seeks at h
  show mc_V M_X6_seeks 3 none 0 [.ref 34, .int p1, .retAddr 0, .retAddr 0, .retAddr 0] [] (mc_hp σ τ) none (mc_hp σ' τ') 0 0
  refine mr_aload_n (pc := 0) dX6_seeks_0 rfl ?_
  refine mr_iconstv (pc := 1) (0 : Int32) dX6_seeks_1 (by decide) ?_
  obtain ⟨σ1, e1, h⟩ := ow h
  refine mr_putf (pc := 2) (ci := 6) inX6 tyX6 tyX6_ok nmX6 rfl 18 (by decide) fl_48 rfl dX6_seeks_2 (ha_34 σ τ) (Nat.le_of_ble_eq_true rfl) rfl (mc_V.heap (hs_34_18 e1) ?_)
  refine mr_iconstv (pc := 5) (0 : Int32) dX6_seeks_5 (by decide) ?_
  refine mr_istore_n (pc := 6) dX6_seeks_6 (Nat.le_of_ble_eq_true rfl) (show mc_V M_X6_seeks 3 none 7 [.ref 34, .int p1, .int (0 : Int32), .retAddr 0, .retAddr 0] [] (mc_hp σ1 τ) none (mc_hp σ' τ') 0 0 from ?_)
  exact mc_V.locs (loc' := [.ref 34, .int p1, .int (0 : Int32), .retAddr 0, .retAddr 0]) ⟨Or.inr rfl, Or.inr rfl, Or.inr rfl, Or.inl rfl, Or.inl rfl, trivial⟩ (dc_Q_seeks_l7 mc_F p1 (0 : Int32) σ1 τ σ' τ' h)
set_option maxHeartbeats 4000000 in
set_option maxRecDepth 100000 in
theorem dc_Q_canBalance {p1 : Int32} {σ : mS} {τ : mT} {r : Int32} {σ' : mS} {τ' : mT} (h : Q_canBalance p1 σ τ = some (r, σ', τ')) : mc_V M_X6_canBalance 6 none 0 (mc_entry [.ref 34, .int p1] 2) [] (mc_hp σ τ) (some (.int r)) (mc_hp σ' τ') 0 0 := by
  unfold Q_canBalance at h
  show mc_V M_X6_canBalance 6 none 0 [.ref 34, .int p1] [] (mc_hp σ τ) (some (.int r)) (mc_hp σ' τ') 0 0
  refine mr_aload_n (pc := 0) dX6_canBalance_0 rfl ?_
  obtain ⟨σ1, τ1, c1, h⟩ := ovs h
  refine mr_callV0 (pc := 1) (ci := 6) [] ok_X6_layAll lk_152 st_X6_layAll se_X6_layAll dX6_canBalance_1 rfl (ha_34 σ τ) rfl rfl (Nat.le_of_ble_eq_true rfl) (Nat.le_of_ble_eq_true rfl) ((dc_Q_layAll c1).up (by decide)) ?_
  refine mr_aload_n (pc := 4) dX6_canBalance_4 rfl ?_
  refine mr_iload_n (pc := 5) dX6_canBalance_5 rfl ?_
  refine mr_bipushv (pc := 6) (-9 : Int32) dX6_canBalance_6 (by decide) ?_
  refine mr_iconstv (pc := 8) (0 : Int32) dX6_canBalance_8 (by decide) ?_
  refine mr_iconstv (pc := 9) (0 : Int32) dX6_canBalance_9 (by decide) ?_
  obtain ⟨σ2, τ2, c2, h⟩ := ovs h
  refine mr_callV0 (pc := 10) (ci := 6) [.int p1, .int (-9 : Int32), .int (0 : Int32), .int (0 : Int32)] ok_X6_layRows lk_153 st_X6_layRows se_X6_layRows dX6_canBalance_10 rfl (ha_34 σ1 τ1) rfl rfl (Nat.le_of_ble_eq_true rfl) (Nat.le_of_ble_eq_true rfl) ((dc_Q_layRows c2).up (by decide)) ?_
  refine mr_aload_n (pc := 13) dX6_canBalance_13 rfl ?_
  refine mr_bipushv (pc := 14) (-9 : Int32) dX6_canBalance_14 (by decide) ?_
  obtain ⟨σ3, τ3, c3, h⟩ := ovs h
  refine mr_callV0 (pc := 16) (ci := 6) [.int (-9 : Int32)] ok_X6_seeks lk_154 st_X6_seeks se_X6_seeks dX6_canBalance_16 rfl (ha_34 σ2 τ2) rfl rfl (Nat.le_of_ble_eq_true rfl) (Nat.le_of_ble_eq_true rfl) ((dc_Q_seeks c3).up (by decide)) ?_
  refine mr_aload_n (pc := 19) dX6_canBalance_19 rfl ?_
  refine mr_getf (pc := 20) (ci := 6) inX6 rfl 18 (by decide) fl_48 dX6_canBalance_20 (ha_34 σ3 τ3) rfl ?_
  obtain ⟨g4, h⟩ := og h
  obtain ⟨rfl, rfl, rfl⟩ := os3 h
  exact mr_iret (pc := 23) rfl (nar_b g4) dX6_canBalance_23
set_option maxHeartbeats 4000000 in
set_option maxRecDepth 100000 in
theorem dc_Q_isResting {σ : mS} {τ : mT} {r : Int32} {σ' : mS} {τ' : mT} (h : Q_isResting σ τ = some (r, σ', τ')) : mc_V M_X6_isResting 7 none 0 (mc_entry [.ref 34] 1) [] (mc_hp σ τ) (some (.int r)) (mc_hp σ' τ') 0 0 := by
  unfold Q_isResting at h
  show mc_V M_X6_isResting 7 none 0 [.ref 34] [] (mc_hp σ τ) (some (.int r)) (mc_hp σ' τ') 0 0
  refine mr_aload_n (pc := 0) dX6_isResting_0 rfl ?_
  refine mr_aload_n (pc := 1) dX6_isResting_1 rfl ?_
  obtain ⟨r1, σ1, τ1, c1, h⟩ := obs h
  refine mr_callV0 (pc := 2) (ci := 6) [] ok_X6_all lk_155 st_X6_all se_X6_all dX6_isResting_2 rfl (ha_34 σ τ) rfl rfl (Nat.le_of_ble_eq_true rfl) (Nat.le_of_ble_eq_true rfl) ((dc_Q_all c1).up (by decide)) ?_
  obtain ⟨r2, σ2, τ2, c2, h⟩ := obs h
  refine mr_callV0 (pc := 5) (ci := 6) [.int r1] ok_X6_canBalance lk_156 st_X6_canBalance se_X6_canBalance dX6_isResting_5 rfl (ha_34 σ1 τ1) rfl rfl (Nat.le_of_ble_eq_true rfl) (Nat.le_of_ble_eq_true rfl) ((dc_Q_canBalance c2).up (by decide)) ?_
  obtain ⟨g3, h⟩ := og h
  obtain ⟨rfl, rfl, rfl⟩ := os3 h
  exact mr_iret (pc := 8) rfl (nar_b g3) dX6_isResting_8
set_option maxHeartbeats 4000000 in
set_option maxRecDepth 100000 in
theorem dc_Q_rests {σ : mS} {τ : mT} {r : Int32} {σ' : mS} {τ' : mT} (h : Q_rests σ τ = some (r, σ', τ')) : mc_V M_X6_rests 8 none 0 (mc_entry [.ref 34] 1) [] (mc_hp σ τ) (some (.int r)) (mc_hp σ' τ') 0 0 := by
  unfold Q_rests at h
  show mc_V M_X6_rests 8 none 0 [.ref 34] [] (mc_hp σ τ) (some (.int r)) (mc_hp σ' τ') 0 0
  refine mr_aload_n (pc := 0) dX6_rests_0 rfl ?_
  obtain ⟨r1, σ1, τ1, c1, h⟩ := obs h
  refine mr_callV0 (pc := 1) (ci := 6) [] ok_X6_isResting lk_176 st_X6_isResting se_X6_isResting dX6_rests_1 rfl (ha_34 σ τ) rfl rfl (Nat.le_of_ble_eq_true rfl) (Nat.le_of_ble_eq_true rfl) ((dc_Q_isResting c1).up (by decide)) ?_
  refine mr_if_eq (pc := 4) 11 dX6_rests_4 (by decide) (fun q2 => ?_) (fun q2 => ?_)
  · replace h := (if_pos q2).symm.trans h
    refine mr_iconstv (pc := 11) (0 : Int32) dX6_rests_11 (by decide) ?_
    obtain ⟨rfl, rfl, rfl⟩ := os3 h
    exact mr_iret (pc := 12) rfl (rfl) dX6_rests_12
  · replace h := (if_neg q2).symm.trans h
    refine mr_iconstv (pc := 7) (1 : Int32) dX6_rests_7 (by decide) ?_
    refine mr_goto (pc := 8) 12 dX6_rests_8 (by decide) ?_
    obtain ⟨rfl, rfl, rfl⟩ := os3 h
    exact mr_iret (pc := 12) rfl (rfl) dX6_rests_12
set_option maxHeartbeats 4000000 in
set_option maxRecDepth 100000 in
theorem dc_B_rowThatGives_l2 : ∀ (n : Nat), ∀ (x1 : Int32) (x2 : Int32) (σ : mS) (τ : mT) (r : Int32) (σ' : mS) (τ' : mT), B_rowThatGives_l2 n x1 x2 σ τ = some (r, σ', τ') → mc_V M_X0_rowThatGives 0 none 2 [.ref 15, .int x1, .int x2] [] (mc_hp σ τ) (some (.int r)) (mc_hp σ' τ') 0 0 := by
  intro n
  induction n with
  | zero =>
    intros
    rename_i h
    cases h
  | succ n ih =>
    intro x1 x2 σ τ r σ' τ' h
    refine mr_iload_n (pc := 2) dX0_rowThatGives_2 rfl ?_
    refine mr_aload_n (pc := 3) dX0_rowThatGives_3 rfl ?_
    refine mr_getf (pc := 4) (ci := 0) inX0 rfl 3 (by decide) fl_12 dX0_rowThatGives_4 (ha_15 σ τ) rfl ?_
    refine mr_icmp_ge (pc := 7) 28 dX0_rowThatGives_7 (by decide) (fun q1 => ?_) (fun q1 => ?_)
    · replace h := (if_pos q1).symm.trans h
      refine mr_iconstv (pc := 28) (-1 : Int32) dX0_rowThatGives_28 (by decide) ?_
      obtain ⟨rfl, rfl, rfl⟩ := os3 h
      exact mr_iret (pc := 29) rfl (rfl) dX0_rowThatGives_29
    · replace h := (if_neg q1).symm.trans h
      refine mr_aload_n (pc := 10) dX0_rowThatGives_10 rfl ?_
      refine mr_getf (pc := 11) (ci := 0) inX0 rfl 1 (by decide) fl_10 dX0_rowThatGives_11 (ha_15 σ τ) rfl ?_
      refine mr_iload_n (pc := 14) dX0_rowThatGives_14 rfl ?_
      obtain ⟨g2, h⟩ := og h
      refine mr_iald (pc := 15) dX0_rowThatGives_15 (ha_25 σ τ) (g2) ?_
      refine mr_iload_n (pc := 16) dX0_rowThatGives_16 rfl ?_
      refine mr_icmp_ne (pc := 17) 22 dX0_rowThatGives_17 (by decide) (fun q3 => ?_) (fun q3 => ?_)
      · replace h := (if_neg q3).symm.trans h
        refine mr_iincv (pc := 22) (1 : Int32) dX0_rowThatGives_22 rfl (by decide) (show mc_V M_X0_rowThatGives 0 none 25 [.ref 15, .int x1, .int (x2 + (1 : Int32))] [] (mc_hp σ τ) (some (.int r)) (mc_hp σ' τ') 0 0 from ?_)
        refine mr_goto (pc := 25) 2 dX0_rowThatGives_25 (by decide) ?_
        exact mc_V.locs (loc' := [.ref 15, .int x1, .int (x2 + (1 : Int32))]) ⟨Or.inr rfl, Or.inr rfl, Or.inr rfl, trivial⟩ (ih x1 (x2 + (1 : Int32)) σ τ r σ' τ' h)
      · replace h := (if_pos q3).symm.trans h
        refine mr_iload_n (pc := 20) dX0_rowThatGives_20 rfl ?_
        obtain ⟨rfl, rfl, rfl⟩ := os3 h
        exact mr_iret (pc := 21) rfl (rfl) dX0_rowThatGives_21
set_option maxHeartbeats 4000000 in
set_option maxRecDepth 100000 in
theorem dc_B_rowThatGives {p1 : Int32} {σ : mS} {τ : mT} {r : Int32} {σ' : mS} {τ' : mT} (h : B_rowThatGives p1 σ τ = some (r, σ', τ')) : mc_V M_X0_rowThatGives 0 none 0 (mc_entry [.ref 15, .int p1] 3) [] (mc_hp σ τ) (some (.int r)) (mc_hp σ' τ') 0 0 := by
  unfold B_rowThatGives at h
  show mc_V M_X0_rowThatGives 0 none 0 [.ref 15, .int p1, .retAddr 0] [] (mc_hp σ τ) (some (.int r)) (mc_hp σ' τ') 0 0
  refine mr_iconstv (pc := 0) (0 : Int32) dX0_rowThatGives_0 (by decide) ?_
  refine mr_istore_n (pc := 1) dX0_rowThatGives_1 (Nat.le_of_ble_eq_true rfl) (show mc_V M_X0_rowThatGives 0 none 2 [.ref 15, .int p1, .int (0 : Int32)] [] (mc_hp σ τ) (some (.int r)) (mc_hp σ' τ') 0 0 from ?_)
  exact mc_V.locs (loc' := [.ref 15, .int p1, .int (0 : Int32)]) ⟨Or.inr rfl, Or.inr rfl, Or.inr rfl, trivial⟩ (dc_B_rowThatGives_l2 mc_F p1 (0 : Int32) σ τ r σ' τ' h)
set_option maxHeartbeats 4000000 in
set_option maxRecDepth 100000 in
theorem dc_B_firstOfSign_l17 : ∀ (n : Nat), ∀ (x1 : Int32) (x2 : Int32) (x3 : Int32) (x4 : Int32) (σ : mS) (τ : mT) (r : Int32) (σ' : mS) (τ' : mT), B_firstOfSign_l17 n x1 x2 x3 x4 σ τ = some (r, σ', τ') → mc_V M_X0_firstOfSign 0 none 17 [.ref 15, .int x1, .int x2, .int x3, .int x4] [] (mc_hp σ τ) (some (.int r)) (mc_hp σ' τ') 0 0 := by
  intro n
  induction n with
  | zero =>
    intros
    rename_i h
    cases h
  | succ n ih =>
    intro x1 x2 x3 x4 σ τ r σ' τ' h
    refine mr_iload (pc := 17) dX0_firstOfSign_17 rfl ?_
    refine mr_aload_n (pc := 19) dX0_firstOfSign_19 rfl ?_
    refine mr_getf (pc := 20) (ci := 0) inX0 rfl 4 (by decide) fl_13 dX0_firstOfSign_20 (ha_15 σ τ) rfl ?_
    refine mr_icmp_ge (pc := 23) 58 dX0_firstOfSign_23 (by decide) (fun q1 => ?_) (fun q1 => ?_)
    · replace h := (if_pos q1).symm.trans h
      refine mr_iconstv (pc := 58) (-1 : Int32) dX0_firstOfSign_58 (by decide) ?_
      obtain ⟨rfl, rfl, rfl⟩ := os3 h
      exact mr_iret (pc := 59) rfl (rfl) dX0_firstOfSign_59
    · replace h := (if_neg q1).symm.trans h
      refine mr_iload (pc := 26) dX0_firstOfSign_26 rfl ?_
      refine mr_iload_n (pc := 28) dX0_firstOfSign_28 rfl ?_
      refine mr_icmp_eq (pc := 29) 52 dX0_firstOfSign_29 (by decide) (fun q2 => ?_) (fun q2 => ?_)
      · replace h := (if_pos q2).symm.trans h
        refine mr_iincv (pc := 52) (1 : Int32) dX0_firstOfSign_52 rfl (by decide) (show mc_V M_X0_firstOfSign 0 none 55 [.ref 15, .int x1, .int x2, .int x3, .int (x4 + (1 : Int32))] [] (mc_hp σ τ) (some (.int r)) (mc_hp σ' τ') 0 0 from ?_)
        refine mr_goto (pc := 55) 17 dX0_firstOfSign_55 (by decide) ?_
        exact mc_V.locs (loc' := [.ref 15, .int x1, .int x2, .int x3, .int (x4 + (1 : Int32))]) ⟨Or.inr rfl, Or.inr rfl, Or.inr rfl, Or.inr rfl, Or.inr rfl, trivial⟩ (ih x1 x2 x3 (x4 + (1 : Int32)) σ τ r σ' τ' h)
      · replace h := (if_neg q2).symm.trans h
        refine mr_iload_n (pc := 32) dX0_firstOfSign_32 rfl ?_
        refine mr_i2l (pc := 33) dX0_firstOfSign_33 ?_
        refine mr_aload_n (pc := 34) dX0_firstOfSign_34 rfl ?_
        refine mr_getf (pc := 35) (ci := 0) inX0 rfl 0 (by decide) fl_9 dX0_firstOfSign_35 (ha_15 σ τ) rfl ?_
        refine mr_iload_n (pc := 38) dX0_firstOfSign_38 rfl ?_
        obtain ⟨g3, h⟩ := og h
        refine mr_aald (pc := 39) dX0_firstOfSign_39 (ha_16 σ τ) (g3) (gr_some (g3)) ?_
        refine mr_iload (pc := 40) dX0_firstOfSign_40 rfl ?_
        obtain ⟨g4, h⟩ := og h
        refine mr_gld (pc := 42) dX0_firstOfSign_42 (g3) (g4) ?_
        refine mr_lmul (pc := 43) dX0_firstOfSign_43 ?_
        refine mr_lconstv (pc := 44) (0 : Int64) dX0_firstOfSign_44 (by decide) ?_
        refine mr_lcmp (pc := 45) dX0_firstOfSign_45 ?_
        refine mr_if_le (pc := 46) 52 dX0_firstOfSign_46 (by decide) (fun q5 => ?_) (fun q5 => ?_)
        · replace h := (if_pos q5).symm.trans h
          refine mr_iincv (pc := 52) (1 : Int32) dX0_firstOfSign_52 rfl (by decide) (show mc_V M_X0_firstOfSign 0 none 55 [.ref 15, .int x1, .int x2, .int x3, .int (x4 + (1 : Int32))] [] (mc_hp σ τ) (some (.int r)) (mc_hp σ' τ') 0 0 from ?_)
          refine mr_goto (pc := 55) 17 dX0_firstOfSign_55 (by decide) ?_
          exact mc_V.locs (loc' := [.ref 15, .int x1, .int x2, .int x3, .int (x4 + (1 : Int32))]) ⟨Or.inr rfl, Or.inr rfl, Or.inr rfl, Or.inr rfl, Or.inr rfl, trivial⟩ (ih x1 x2 x3 (x4 + (1 : Int32)) σ τ r σ' τ' h)
        · replace h := (if_neg q5).symm.trans h
          refine mr_iload (pc := 49) dX0_firstOfSign_49 rfl ?_
          obtain ⟨rfl, rfl, rfl⟩ := os3 h
          exact mr_iret (pc := 51) rfl (rfl) dX0_firstOfSign_51
set_option maxHeartbeats 4000000 in
set_option maxRecDepth 100000 in
theorem dc_B_firstOfSign {p1 : Int32} {p2 : Int32} {p3 : Int32} {σ : mS} {τ : mT} {r : Int32} {σ' : mS} {τ' : mT} (h : B_firstOfSign p1 p2 p3 σ τ = some (r, σ', τ')) : mc_V M_X0_firstOfSign 0 none 0 (mc_entry [.ref 15, .int p1, .int p2, .int p3] 5) [] (mc_hp σ τ) (some (.int r)) (mc_hp σ' τ') 0 0 := by
  unfold B_firstOfSign at h
  show mc_V M_X0_firstOfSign 0 none 0 [.ref 15, .int p1, .int p2, .int p3, .retAddr 0] [] (mc_hp σ τ) (some (.int r)) (mc_hp σ' τ') 0 0
  refine mr_iload_n (pc := 0) dX0_firstOfSign_0 rfl ?_
  refine mr_if_lt (pc := 1) 12 dX0_firstOfSign_1 (by decide) (fun q1 => ?_) (fun q1 => ?_)
  · replace h := (if_pos q1).symm.trans h
    refine mr_iconstv (pc := 12) (-1 : Int32) dX0_firstOfSign_12 (by decide) ?_
    obtain ⟨rfl, rfl, rfl⟩ := os3 h
    exact mr_iret (pc := 13) rfl (rfl) dX0_firstOfSign_13
  · replace h := (if_neg q1).symm.trans h
    refine mr_iload_n (pc := 4) dX0_firstOfSign_4 rfl ?_
    refine mr_aload_n (pc := 5) dX0_firstOfSign_5 rfl ?_
    refine mr_getf (pc := 6) (ci := 0) inX0 rfl 3 (by decide) fl_12 dX0_firstOfSign_6 (ha_15 σ τ) rfl ?_
    refine mr_icmp_lt (pc := 9) 14 dX0_firstOfSign_9 (by decide) (fun q2 => ?_) (fun q2 => ?_)
    · replace h := (if_pos q2).symm.trans h
      refine mr_iconstv (pc := 14) (0 : Int32) dX0_firstOfSign_14 (by decide) ?_
      refine mr_istore (pc := 15) dX0_firstOfSign_15 (Nat.le_of_ble_eq_true rfl) (show mc_V M_X0_firstOfSign 0 none 17 [.ref 15, .int p1, .int p2, .int p3, .int (0 : Int32)] [] (mc_hp σ τ) (some (.int r)) (mc_hp σ' τ') 0 0 from ?_)
      exact mc_V.locs (loc' := [.ref 15, .int p1, .int p2, .int p3, .int (0 : Int32)]) ⟨Or.inr rfl, Or.inr rfl, Or.inr rfl, Or.inr rfl, Or.inr rfl, trivial⟩ (dc_B_firstOfSign_l17 mc_F p1 p2 p3 (0 : Int32) σ τ r σ' τ' h)
    · replace h := (if_neg q2).symm.trans h
      refine mr_iconstv (pc := 12) (-1 : Int32) dX0_firstOfSign_12 (by decide) ?_
      obtain ⟨rfl, rfl, rfl⟩ := os3 h
      exact mr_iret (pc := 13) rfl (rfl) dX0_firstOfSign_13
set_option maxHeartbeats 4000000 in
set_option maxRecDepth 100000 in
theorem dc_B_makeGreatest_l28 : ∀ (n : Nat), ∀ (x1 : Int32) (x2 : Int32) (σ : mS) (τ : mT) (r : Int32) (σ' : mS) (τ' : mT), B_makeGreatest_l28 n x1 x2 σ τ = some (r, σ', τ') → mc_V M_X0_makeGreatest 2 none 28 [.ref 15, .int x1, .int x2, .retAddr 0, .retAddr 0] [] (mc_hp σ τ) (some (.int r)) (mc_hp σ' τ') 0 0 := by
  intro n
  induction n with
  | zero =>
    intros
    rename_i h
    cases h
  | succ n ih =>
    intro x1 x2 σ τ r σ' τ' h
    refine mr_iload_n (pc := 28) dX0_makeGreatest_28 rfl ?_
    refine mr_ldc (pc := 29) kI_X0_74 dX0_makeGreatest_29 ?_
    refine mr_icmp_ge (pc := 31) 79 dX0_makeGreatest_31 (by decide) (fun q1 => ?_) (fun q1 => ?_)
    · replace h := (if_pos q1).symm.trans h
      refine mr_iconstv (pc := 79) (1 : Int32) dX0_makeGreatest_79 (by decide) ?_
      obtain ⟨rfl, rfl, rfl⟩ := os3 h
      exact mr_iret (pc := 80) rfl (rfl) dX0_makeGreatest_80
    · replace h := (if_neg q1).symm.trans h
      refine mr_aload_n (pc := 34) dX0_makeGreatest_34 rfl ?_
      refine mr_aload_n (pc := 35) dX0_makeGreatest_35 rfl ?_
      refine mr_iload_n (pc := 36) dX0_makeGreatest_36 rfl ?_
      obtain ⟨r2, σ2, τ2, c2, h⟩ := obs h
      refine mr_callV0 (pc := 37) (ci := 0) [.int x1] ok_X0_rowThatGives lk_54 st_X0_rowThatGives se_X0_rowThatGives dX0_makeGreatest_37 rfl (ha_15 σ τ) rfl rfl (Nat.le_of_ble_eq_true rfl) (Nat.le_of_ble_eq_true rfl) ((dc_B_rowThatGives c2).up (by decide)) ?_
      refine mr_iload_n (pc := 40) dX0_makeGreatest_40 rfl ?_
      refine mr_iconstv (pc := 41) (-1 : Int32) dX0_makeGreatest_41 (by decide) ?_
      obtain ⟨r3, σ3, τ3, c3, h⟩ := obs h
      refine mr_callV0 (pc := 42) (ci := 0) [.int r2, .int x1, .int (-1 : Int32)] ok_X0_firstOfSign lk_55 st_X0_firstOfSign se_X0_firstOfSign dX0_makeGreatest_42 rfl (ha_15 σ2 τ2) rfl rfl (Nat.le_of_ble_eq_true rfl) (Nat.le_of_ble_eq_true rfl) ((dc_B_firstOfSign c3).up (by decide)) ?_
      refine mr_istore_n (pc := 45) dX0_makeGreatest_45 (Nat.le_of_ble_eq_true rfl) (show mc_V M_X0_makeGreatest 2 none 46 [.ref 15, .int x1, .int x2, .int r3, .retAddr 0] [] (mc_hp σ3 τ3) (some (.int r)) (mc_hp σ' τ') 0 0 from ?_)
      refine mr_iload_n (pc := 46) dX0_makeGreatest_46 rfl ?_
      refine mr_if_ge (pc := 47) 52 dX0_makeGreatest_47 (by decide) (fun q4 => ?_) (fun q4 => ?_)
      · replace h := (if_pos q4).symm.trans h
        refine mr_aload_n (pc := 52) dX0_makeGreatest_52 rfl ?_
        refine mr_iload_n (pc := 53) dX0_makeGreatest_53 rfl ?_
        obtain ⟨r5, σ5, τ5, c5, h⟩ := obs h
        refine mr_callV0 (pc := 54) (ci := 0) [.int r3] ok_X0_leavingRow lk_50 st_X0_leavingRow se_X0_leavingRow dX0_makeGreatest_54 rfl (ha_15 σ3 τ3) rfl rfl (Nat.le_of_ble_eq_true rfl) (Nat.le_of_ble_eq_true rfl) ((dc_B_leavingRow c5).up (by decide)) ?_
        refine mr_istore (pc := 57) dX0_makeGreatest_57 (Nat.le_of_ble_eq_true rfl) (show mc_V M_X0_makeGreatest 2 none 59 [.ref 15, .int x1, .int x2, .int r3, .int r5] [] (mc_hp σ5 τ5) (some (.int r)) (mc_hp σ' τ') 0 0 from ?_)
        refine mr_iload (pc := 59) dX0_makeGreatest_59 rfl ?_
        refine mr_if_ge (pc := 61) 66 dX0_makeGreatest_61 (by decide) (fun q6 => ?_) (fun q6 => ?_)
        · replace h := (if_pos q6).symm.trans h
          refine mr_aload_n (pc := 66) dX0_makeGreatest_66 rfl ?_
          refine mr_iload (pc := 67) dX0_makeGreatest_67 rfl ?_
          refine mr_iload_n (pc := 69) dX0_makeGreatest_69 rfl ?_
          obtain ⟨σ7, τ7, c7, h⟩ := ovs h
          refine mr_callV0 (pc := 70) (ci := 0) [.int r5, .int r3] ok_X0_pivot lk_51 st_X0_pivot se_X0_pivot dX0_makeGreatest_70 rfl (ha_15 σ5 τ5) rfl rfl (Nat.le_of_ble_eq_true rfl) (Nat.le_of_ble_eq_true rfl) ((dc_B_pivot c7).up (by decide)) ?_
          refine mr_iincv (pc := 73) (1 : Int32) dX0_makeGreatest_73 rfl (by decide) (show mc_V M_X0_makeGreatest 2 none 76 [.ref 15, .int x1, .int (x2 + (1 : Int32)), .int r3, .int r5] [] (mc_hp σ7 τ7) (some (.int r)) (mc_hp σ' τ') 0 0 from ?_)
          refine mr_goto (pc := 76) 28 dX0_makeGreatest_76 (by decide) ?_
          exact mc_V.locs (loc' := [.ref 15, .int x1, .int (x2 + (1 : Int32)), .retAddr 0, .retAddr 0]) ⟨Or.inr rfl, Or.inr rfl, Or.inr rfl, Or.inl rfl, Or.inl rfl, trivial⟩ (ih x1 (x2 + (1 : Int32)) σ7 τ7 r σ' τ' h)
        · replace h := (if_neg q6).symm.trans h
          refine mr_iconstv (pc := 64) (0 : Int32) dX0_makeGreatest_64 (by decide) ?_
          obtain ⟨rfl, rfl, rfl⟩ := os3 h
          exact mr_iret (pc := 65) rfl (rfl) dX0_makeGreatest_65
      · replace h := (if_neg q4).symm.trans h
        refine mr_iconstv (pc := 50) (1 : Int32) dX0_makeGreatest_50 (by decide) ?_
        obtain ⟨rfl, rfl, rfl⟩ := os3 h
        exact mr_iret (pc := 51) rfl (rfl) dX0_makeGreatest_51
set_option maxHeartbeats 4000000 in
set_option maxRecDepth 100000 in
theorem dc_B_makeGreatest {p1 : Int32} {σ : mS} {τ : mT} {r : Int32} {σ' : mS} {τ' : mT} (h : B_makeGreatest p1 σ τ = some (r, σ', τ')) : mc_V M_X0_makeGreatest 2 none 0 (mc_entry [.ref 15, .int p1] 5) [] (mc_hp σ τ) (some (.int r)) (mc_hp σ' τ') 0 0 := by
  unfold B_makeGreatest at h
  show mc_V M_X0_makeGreatest 2 none 0 [.ref 15, .int p1, .retAddr 0, .retAddr 0, .retAddr 0] [] (mc_hp σ τ) (some (.int r)) (mc_hp σ' τ') 0 0
  refine mr_aload_n (pc := 0) dX0_makeGreatest_0 rfl ?_
  refine mr_iload_n (pc := 1) dX0_makeGreatest_1 rfl ?_
  obtain ⟨r1, σ1, τ1, c1, h⟩ := obs h
  refine mr_callV0 (pc := 2) (ci := 0) [.int p1] ok_X0_rowThatGives lk_54 st_X0_rowThatGives se_X0_rowThatGives dX0_makeGreatest_2 rfl (ha_15 σ τ) rfl rfl (Nat.le_of_ble_eq_true rfl) (Nat.le_of_ble_eq_true rfl) ((dc_B_rowThatGives c1).up (by decide)) ?_
  refine mr_if_ge (pc := 5) 26 dX0_makeGreatest_5 (by decide) (fun q2 => ?_) (fun q2 => ?_)
  · replace h := (if_pos q2).symm.trans h
    refine mr_iconstv (pc := 26) (0 : Int32) dX0_makeGreatest_26 (by decide) ?_
    refine mr_istore_n (pc := 27) dX0_makeGreatest_27 (Nat.le_of_ble_eq_true rfl) (show mc_V M_X0_makeGreatest 2 none 28 [.ref 15, .int p1, .int (0 : Int32), .retAddr 0, .retAddr 0] [] (mc_hp σ1 τ1) (some (.int r)) (mc_hp σ' τ') 0 0 from ?_)
    exact mc_V.locs (loc' := [.ref 15, .int p1, .int (0 : Int32), .retAddr 0, .retAddr 0]) ⟨Or.inr rfl, Or.inr rfl, Or.inr rfl, Or.inl rfl, Or.inl rfl, trivial⟩ (dc_B_makeGreatest_l28 mc_F p1 (0 : Int32) σ1 τ1 r σ' τ' h)
  · replace h := (if_neg q2).symm.trans h
    refine mr_aload_n (pc := 8) dX0_makeGreatest_8 rfl ?_
    refine mr_iload_n (pc := 9) dX0_makeGreatest_9 rfl ?_
    obtain ⟨r3, σ3, τ3, c3, h⟩ := obs h
    refine mr_callV0 (pc := 10) (ci := 0) [.int p1] ok_X0_leavingRow lk_50 st_X0_leavingRow se_X0_leavingRow dX0_makeGreatest_10 rfl (ha_15 σ1 τ1) rfl rfl (Nat.le_of_ble_eq_true rfl) (Nat.le_of_ble_eq_true rfl) ((dc_B_leavingRow c3).up (by decide)) ?_
    refine mr_istore_n (pc := 13) dX0_makeGreatest_13 (Nat.le_of_ble_eq_true rfl) (show mc_V M_X0_makeGreatest 2 none 14 [.ref 15, .int p1, .int r3, .retAddr 0, .retAddr 0] [] (mc_hp σ3 τ3) (some (.int r)) (mc_hp σ' τ') 0 0 from ?_)
    refine mr_iload_n (pc := 14) dX0_makeGreatest_14 rfl ?_
    refine mr_if_ge (pc := 15) 20 dX0_makeGreatest_15 (by decide) (fun q4 => ?_) (fun q4 => ?_)
    · replace h := (if_pos q4).symm.trans h
      refine mr_aload_n (pc := 20) dX0_makeGreatest_20 rfl ?_
      refine mr_iload_n (pc := 21) dX0_makeGreatest_21 rfl ?_
      refine mr_iload_n (pc := 22) dX0_makeGreatest_22 rfl ?_
      obtain ⟨σ5, τ5, c5, h⟩ := ovs h
      refine mr_callV0 (pc := 23) (ci := 0) [.int r3, .int p1] ok_X0_pivot lk_51 st_X0_pivot se_X0_pivot dX0_makeGreatest_23 rfl (ha_15 σ3 τ3) rfl rfl (Nat.le_of_ble_eq_true rfl) (Nat.le_of_ble_eq_true rfl) ((dc_B_pivot c5).up (by decide)) ?_
      refine mr_iconstv (pc := 26) (0 : Int32) dX0_makeGreatest_26 (by decide) ?_
      refine mr_istore_n (pc := 27) dX0_makeGreatest_27 (Nat.le_of_ble_eq_true rfl) (show mc_V M_X0_makeGreatest 2 none 28 [.ref 15, .int p1, .int (0 : Int32), .retAddr 0, .retAddr 0] [] (mc_hp σ5 τ5) (some (.int r)) (mc_hp σ' τ') 0 0 from ?_)
      exact mc_V.locs (loc' := [.ref 15, .int p1, .int (0 : Int32), .retAddr 0, .retAddr 0]) ⟨Or.inr rfl, Or.inr rfl, Or.inr rfl, Or.inl rfl, Or.inl rfl, trivial⟩ (dc_B_makeGreatest_l28 mc_F p1 (0 : Int32) σ5 τ5 r σ' τ' h)
    · replace h := (if_neg q4).symm.trans h
      refine mr_iconstv (pc := 18) (0 : Int32) dX0_makeGreatest_18 (by decide) ?_
      obtain ⟨rfl, rfl, rfl⟩ := os3 h
      exact mr_iret (pc := 19) rfl (rfl) dX0_makeGreatest_19
