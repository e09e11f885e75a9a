set_option maxHeartbeats 4000000 in
set_option maxRecDepth 100000 in
theorem dc_B_commonDivisor_b51 : ∀ (x4 : Int64) (σ : mS) (τ : mT) (r : Int64) (σ' : mS) (τ' : mT), B_commonDivisor_b51 x4 σ τ = some (r, σ', τ') → mc_V M_X0_commonDivisor 1 none 51 [.retAddr 0, .retAddr 0, .retAddr 0, .retAddr 0, .long x4, .retAddr 0, .retAddr 0, .retAddr 0, .retAddr 0, .retAddr 0, .retAddr 0] [] (mc_hp σ τ) (some (.long r)) (mc_hp σ' τ') 0 0 := by
  intro x4 σ τ r σ' τ' h
  unfold B_commonDivisor_b51 at h
  refine mr_lload (pc := 51) dX0_commonDivisor_51 rfl ?_
  refine mr_lconstv (pc := 53) (0 : Int64) dX0_commonDivisor_53 (by decide) ?_
  refine mr_lcmp (pc := 54) dX0_commonDivisor_54 ?_
  refine mr_if_ne (pc := 55) 62 dX0_commonDivisor_55 (by decide) (fun q1 => ?_) (fun q1 => ?_)
  · replace h := (if_neg q1).symm.trans h
    refine mr_lload (pc := 62) dX0_commonDivisor_62 rfl ?_
    obtain ⟨rfl, rfl, rfl⟩ := os3 h
    exact mr_lret (pc := 64) rfl dX0_commonDivisor_64
  · replace h := (if_pos q1).symm.trans h
    refine mr_lconstv (pc := 58) (1 : Int64) dX0_commonDivisor_58 (by decide) ?_
    refine mr_goto (pc := 59) 64 dX0_commonDivisor_59 (by decide) ?_
    obtain ⟨rfl, rfl, rfl⟩ := os3 h
    exact mr_lret (pc := 64) rfl dX0_commonDivisor_64
set_option maxHeartbeats 4000000 in
set_option maxRecDepth 100000 in
theorem dc_B_commonDivisor_l15 : ∀ (n : Nat), ∀ (x4 : Int64) (x6 : Int64) (x8 : Int32) (σ : mS) (τ : mT) (r : Int64) (σ' : mS) (τ' : mT), B_commonDivisor_l15 n x4 x6 x8 σ τ = some (r, σ', τ') → mc_V M_X0_commonDivisor 1 none 15 [.retAddr 0, .retAddr 0, .retAddr 0, .retAddr 0, .long x4, .retAddr 0, .long x6, .retAddr 0, .int x8, .retAddr 0, .retAddr 0] [] (mc_hp σ τ) (some (.long r)) (mc_hp σ' τ') 0 0 := by
  intro n
  induction n with
  | zero =>
    intros
    rename_i h
    cases h
  | succ n ih =>
    intro x4 x6 x8 σ τ r σ' τ' h
    refine mr_iload (pc := 15) dX0_commonDivisor_15 rfl ?_
    refine mr_sipushv (pc := 17) (200 : Int32) dX0_commonDivisor_17 (by decide) ?_
    refine mr_icmp_ge (pc := 20) 51 dX0_commonDivisor_20 (by decide) (fun q1 => ?_) (fun q1 => ?_)
    · replace h := (if_pos q1).symm.trans h
      exact mc_V.locs (loc' := [.retAddr 0, .retAddr 0, .retAddr 0, .retAddr 0, .long x4, .retAddr 0, .retAddr 0, .retAddr 0, .retAddr 0, .retAddr 0, .retAddr 0]) ⟨Or.inl rfl, Or.inl rfl, Or.inl rfl, Or.inl rfl, Or.inr rfl, Or.inl rfl, Or.inl rfl, Or.inl rfl, Or.inl rfl, Or.inl rfl, Or.inl rfl, trivial⟩ (dc_B_commonDivisor_b51 x4 σ τ r σ' τ' h)
    · replace h := (if_neg q1).symm.trans h
      refine mr_lload (pc := 23) dX0_commonDivisor_23 rfl ?_
      refine mr_lconstv (pc := 25) (0 : Int64) dX0_commonDivisor_25 (by decide) ?_
      refine mr_lcmp (pc := 26) dX0_commonDivisor_26 ?_
      refine mr_if_eq (pc := 27) 51 dX0_commonDivisor_27 (by decide) (fun q2 => ?_) (fun q2 => ?_)
      · replace h := (if_pos q2).symm.trans h
        exact mc_V.locs (loc' := [.retAddr 0, .retAddr 0, .retAddr 0, .retAddr 0, .long x4, .retAddr 0, .retAddr 0, .retAddr 0, .retAddr 0, .retAddr 0, .retAddr 0]) ⟨Or.inl rfl, Or.inl rfl, Or.inl rfl, Or.inl rfl, Or.inr rfl, Or.inl rfl, Or.inl rfl, Or.inl rfl, Or.inl rfl, Or.inl rfl, Or.inl rfl, trivial⟩ (dc_B_commonDivisor_b51 x4 σ τ r σ' τ' h)
      · replace h := (if_neg q2).symm.trans h
        refine mr_lload (pc := 30) dX0_commonDivisor_30 rfl ?_
        refine mr_lload (pc := 32) dX0_commonDivisor_32 rfl ?_
        obtain ⟨g3, h⟩ := og h
        refine mr_lrem (pc := 34) dX0_commonDivisor_34 g3 ?_
        refine mr_lstore (pc := 35) dX0_commonDivisor_35 (Nat.le_of_ble_eq_true rfl) (show mc_V M_X0_commonDivisor 1 none 37 [.retAddr 0, .retAddr 0, .retAddr 0, .retAddr 0, .long x4, .retAddr 0, .long x6, .retAddr 0, .int x8, .long (x4 - x4 / x6 * x6), .retAddr 0] [] (mc_hp σ τ) (some (.long r)) (mc_hp σ' τ') 0 0 from ?_)
        refine mr_lload (pc := 37) dX0_commonDivisor_37 rfl ?_
        refine mr_lstore (pc := 39) dX0_commonDivisor_39 (Nat.le_of_ble_eq_true rfl) (show mc_V M_X0_commonDivisor 1 none 41 [.retAddr 0, .retAddr 0, .retAddr 0, .retAddr 0, .long x6, .retAddr 0, .long x6, .retAddr 0, .int x8, .long (x4 - x4 / x6 * x6), .retAddr 0] [] (mc_hp σ τ) (some (.long r)) (mc_hp σ' τ') 0 0 from ?_)
        refine mr_lload (pc := 41) dX0_commonDivisor_41 rfl ?_
        refine mr_lstore (pc := 43) dX0_commonDivisor_43 (Nat.le_of_ble_eq_true rfl) (show mc_V M_X0_commonDivisor 1 none 45 [.retAddr 0, .retAddr 0, .retAddr 0, .retAddr 0, .long x6, .retAddr 0, .long (x4 - x4 / x6 * x6), .retAddr 0, .int x8, .long (x4 - x4 / x6 * x6), .retAddr 0] [] (mc_hp σ τ) (some (.long r)) (mc_hp σ' τ') 0 0 from ?_)
        refine mr_iincv (pc := 45) (1 : Int32) dX0_commonDivisor_45 rfl (by decide) (show mc_V M_X0_commonDivisor 1 none 48 [.retAddr 0, .retAddr 0, .retAddr 0, .retAddr 0, .long x6, .retAddr 0, .long (x4 - x4 / x6 * x6), .retAddr 0, .int (x8 + (1 : Int32)), .long (x4 - x4 / x6 * x6), .retAddr 0] [] (mc_hp σ τ) (some (.long r)) (mc_hp σ' τ') 0 0 from ?_)
        refine mr_goto (pc := 48) 15 dX0_commonDivisor_48 (by decide) ?_
        exact mc_V.locs (loc' := [.retAddr 0, .retAddr 0, .retAddr 0, .retAddr 0, .long x6, .retAddr 0, .long (x4 - x4 / x6 * x6), .retAddr 0, .int (x8 + (1 : Int32)), .retAddr 0, .retAddr 0]) ⟨Or.inl rfl, Or.inl rfl, Or.inl rfl, Or.inl rfl, Or.inr rfl, Or.inl rfl, Or.inr rfl, Or.inl rfl, Or.inr rfl, Or.inl rfl, Or.inl rfl, trivial⟩ (ih x6 (x4 - x4 / x6 * x6) (x8 + (1 : Int32)) σ τ r σ' τ' h)
set_option maxHeartbeats 4000000 in
set_option maxRecDepth 100000 in
theorem dc_B_commonDivisor {p0 : Int64} {p1 : Int64} {σ : mS} {τ : mT} {r : Int64} {σ' : mS} {τ' : mT} (h : B_commonDivisor p0 p1 σ τ = some (r, σ', τ')) : mc_V M_X0_commonDivisor 1 none 0 (mc_entry [.long p0, .long p1] 11) [] (mc_hp σ τ) (some (.long r)) (mc_hp σ' τ') 0 0 := by
  unfold B_commonDivisor at h
  show mc_V M_X0_commonDivisor 1 none 0 [.long p0, .retAddr 0, .long p1, .retAddr 0, .retAddr 0, .retAddr 0, .retAddr 0, .retAddr 0, .retAddr 0, .retAddr 0, .retAddr 0] [] (mc_hp σ τ) (some (.long r)) (mc_hp σ' τ') 0 0
  refine mr_lload_n (pc := 0) dX0_commonDivisor_0 rfl ?_
  refine mr_mabs (pc := 1) lk_60 dX0_commonDivisor_1 (Nat.le_of_ble_eq_true rfl) ?_
  refine mr_lstore (pc := 4) dX0_commonDivisor_4 (Nat.le_of_ble_eq_true rfl) (show mc_V M_X0_commonDivisor 1 none 6 [.long p0, .retAddr 0, .long p1, .retAddr 0, .long (jabs p0), .retAddr 0, .retAddr 0, .retAddr 0, .retAddr 0, .retAddr 0, .retAddr 0] [] (mc_hp σ τ) (some (.long r)) (mc_hp σ' τ') 0 0 from ?_)
  refine mr_lload_n (pc := 6) dX0_commonDivisor_6 rfl ?_
  refine mr_mabs (pc := 7) lk_60 dX0_commonDivisor_7 (Nat.le_of_ble_eq_true rfl) ?_
  refine mr_lstore (pc := 10) dX0_commonDivisor_10 (Nat.le_of_ble_eq_true rfl) (show mc_V M_X0_commonDivisor 1 none 12 [.long p0, .retAddr 0, .long p1, .retAddr 0, .long (jabs p0), .retAddr 0, .long (jabs p1), .retAddr 0, .retAddr 0, .retAddr 0, .retAddr 0] [] (mc_hp σ τ) (some (.long r)) (mc_hp σ' τ') 0 0 from ?_)
  refine mr_iconstv (pc := 12) (0 : Int32) dX0_commonDivisor_12 (by decide) ?_
  refine mr_istore (pc := 13) dX0_commonDivisor_13 (Nat.le_of_ble_eq_true rfl) (show mc_V M_X0_commonDivisor 1 none 15 [.long p0, .retAddr 0, .long p1, .retAddr 0, .long (jabs p0), .retAddr 0, .long (jabs p1), .retAddr 0, .int (0 : Int32), .retAddr 0, .retAddr 0] [] (mc_hp σ τ) (some (.long r)) (mc_hp σ' τ') 0 0 from ?_)
  exact mc_V.locs (loc' := [.retAddr 0, .retAddr 0, .retAddr 0, .retAddr 0, .long (jabs p0), .retAddr 0, .long (jabs p1), .retAddr 0, .int (0 : Int32), .retAddr 0, .retAddr 0]) ⟨Or.inl rfl, Or.inl rfl, Or.inl rfl, Or.inl rfl, Or.inr rfl, Or.inl rfl, Or.inr rfl, Or.inl rfl, Or.inr rfl, Or.inl rfl, Or.inl rfl, trivial⟩ (dc_B_commonDivisor_l15 mc_F (jabs p0) (jabs p1) (0 : Int32) σ τ r σ' τ' h)
set_option maxHeartbeats 4000000 in
set_option maxRecDepth 100000 in
theorem dc_B_denominator {p1 : Int32} {σ : mS} {τ : mT} {r : Int64} {σ' : mS} {τ' : mT} (h : B_denominator p1 σ τ = some (r, σ', τ')) : mc_V M_X0_denominator 2 none 0 (mc_entry [.ref 15, .int p1] 3) [] (mc_hp σ τ) (some (.long r)) (mc_hp σ' τ') 0 0 := by
  unfold B_denominator at h
  show mc_V M_X0_denominator 2 none 0 [.ref 15, .int p1, .retAddr 0] [] (mc_hp σ τ) (some (.long r)) (mc_hp σ' τ') 0 0
  refine mr_aload_n (pc := 0) dX0_denominator_0 rfl ?_
  refine mr_iload_n (pc := 1) dX0_denominator_1 rfl ?_
  obtain ⟨r1, σ1, τ1, c1, h⟩ := obs h
  refine mr_callV0 (pc := 2) (ci := 0) [.int p1] ok_X0_rowThatGives lk_54 st_X0_rowThatGives se_X0_rowThatGives dX0_denominator_2 rfl (ha_15 σ τ) rfl rfl (Nat.le_of_ble_eq_true rfl) (Nat.le_of_ble_eq_true rfl) ((dc_B_rowThatGives c1).up (by decide)) ?_
  refine mr_istore_n (pc := 5) dX0_denominator_5 (Nat.le_of_ble_eq_true rfl) (show mc_V M_X0_denominator 2 none 6 [.ref 15, .int p1, .int r1] [] (mc_hp σ1 τ1) (some (.long r)) (mc_hp σ' τ') 0 0 from ?_)
  refine mr_iload_n (pc := 6) dX0_denominator_6 rfl ?_
  refine mr_if_ge (pc := 7) 12 dX0_denominator_7 (by decide) (fun q2 => ?_) (fun q2 => ?_)
  · replace h := (if_pos q2).symm.trans h
    refine mr_aload_n (pc := 12) dX0_denominator_12 rfl ?_
    refine mr_getf (pc := 13) (ci := 0) inX0 rfl 5 (by decide) fl_14 dX0_denominator_13 (ha_15 σ1 τ1) rfl ?_
    refine mr_aload_n (pc := 16) dX0_denominator_16 rfl ?_
    refine mr_getf (pc := 17) (ci := 0) inX0 rfl 0 (by decide) fl_9 dX0_denominator_17 (ha_15 σ1 τ1) rfl ?_
    refine mr_iload_n (pc := 20) dX0_denominator_20 rfl ?_
    obtain ⟨g3, h⟩ := og h
    refine mr_aald (pc := 21) dX0_denominator_21 (ha_16 σ1 τ1) (g3) (gr_some (g3)) ?_
    refine mr_bipushv (pc := 22) (13 : Int32) dX0_denominator_22 (by decide) ?_
    refine mr_gld (pc := 24) dX0_denominator_24 (g3) (vin_ok rfl) ?_
    refine mr_aload_n (pc := 25) dX0_denominator_25 rfl ?_
    refine mr_getf (pc := 26) (ci := 0) inX0 rfl 5 (by decide) fl_14 dX0_denominator_26 (ha_15 σ1 τ1) rfl ?_
    obtain ⟨r4, σ4, τ4, c4, h⟩ := obs h
    refine mr_callS0 (pc := 29) [.long (τ1 (17 + r1.toNatClampNeg) 13), .long (τ1 15 5)] ok_X0_commonDivisor lk_59 st_X0_commonDivisor dX0_denominator_29 rfl rfl (Nat.le_of_ble_eq_true rfl) (Nat.le_of_ble_eq_true rfl) ((dc_B_commonDivisor c4).up (by decide)) ?_
    obtain ⟨g5, h⟩ := og h
    refine mr_ldiv (pc := 32) dX0_denominator_32 g5 ?_
    obtain ⟨rfl, rfl, rfl⟩ := os3 h
    exact mr_lret (pc := 33) rfl dX0_denominator_33
  · replace h := (if_neg q2).symm.trans h
    refine mr_lconstv (pc := 10) (1 : Int64) dX0_denominator_10 (by decide) ?_
    obtain ⟨rfl, rfl, rfl⟩ := os3 h
    exact mr_lret (pc := 11) rfl dX0_denominator_11
set_option maxHeartbeats 4000000 in
set_option maxRecDepth 100000 in
theorem dc_B_numerator {p1 : Int32} {σ : mS} {τ : mT} {r : Int64} {σ' : mS} {τ' : mT} (h : B_numerator p1 σ τ = some (r, σ', τ')) : mc_V M_X0_numerator 2 none 0 (mc_entry [.ref 15, .int p1] 3) [] (mc_hp σ τ) (some (.long r)) (mc_hp σ' τ') 0 0 := by
  unfold B_numerator at h
  show mc_V M_X0_numerator 2 none 0 [.ref 15, .int p1, .retAddr 0] [] (mc_hp σ τ) (some (.long r)) (mc_hp σ' τ') 0 0
  refine mr_aload_n (pc := 0) dX0_numerator_0 rfl ?_
  refine mr_iload_n (pc := 1) dX0_numerator_1 rfl ?_
  obtain ⟨r1, σ1, τ1, c1, h⟩ := obs h
  refine mr_callV0 (pc := 2) (ci := 0) [.int p1] ok_X0_rowThatGives lk_54 st_X0_rowThatGives se_X0_rowThatGives dX0_numerator_2 rfl (ha_15 σ τ) rfl rfl (Nat.le_of_ble_eq_true rfl) (Nat.le_of_ble_eq_true rfl) ((dc_B_rowThatGives c1).up (by decide)) ?_
  refine mr_istore_n (pc := 5) dX0_numerator_5 (Nat.le_of_ble_eq_true rfl) (show mc_V M_X0_numerator 2 none 6 [.ref 15, .int p1, .int r1] [] (mc_hp σ1 τ1) (some (.long r)) (mc_hp σ' τ') 0 0 from ?_)
  refine mr_iload_n (pc := 6) dX0_numerator_6 rfl ?_
  refine mr_if_ge (pc := 7) 12 dX0_numerator_7 (by decide) (fun q2 => ?_) (fun q2 => ?_)
  · replace h := (if_pos q2).symm.trans h
    refine mr_aload_n (pc := 12) dX0_numerator_12 rfl ?_
    refine mr_getf (pc := 13) (ci := 0) inX0 rfl 0 (by decide) fl_9 dX0_numerator_13 (ha_15 σ1 τ1) rfl ?_
    refine mr_iload_n (pc := 16) dX0_numerator_16 rfl ?_
    obtain ⟨g3, h⟩ := og h
    refine mr_aald (pc := 17) dX0_numerator_17 (ha_16 σ1 τ1) (g3) (gr_some (g3)) ?_
    refine mr_bipushv (pc := 18) (13 : Int32) dX0_numerator_18 (by decide) ?_
    refine mr_gld (pc := 20) dX0_numerator_20 (g3) (vin_ok rfl) ?_
    refine mr_aload_n (pc := 21) dX0_numerator_21 rfl ?_
    refine mr_getf (pc := 22) (ci := 0) inX0 rfl 0 (by decide) fl_9 dX0_numerator_22 (ha_15 σ1 τ1) rfl ?_
    refine mr_iload_n (pc := 25) dX0_numerator_25 rfl ?_
    refine mr_aald (pc := 26) dX0_numerator_26 (ha_16 σ1 τ1) (g3) (gr_some (g3)) ?_
    refine mr_bipushv (pc := 27) (13 : Int32) dX0_numerator_27 (by decide) ?_
    refine mr_gld (pc := 29) dX0_numerator_29 (g3) (vin_ok rfl) ?_
    refine mr_aload_n (pc := 30) dX0_numerator_30 rfl ?_
    refine mr_getf (pc := 31) (ci := 0) inX0 rfl 5 (by decide) fl_14 dX0_numerator_31 (ha_15 σ1 τ1) rfl ?_
    obtain ⟨r4, σ4, τ4, c4, h⟩ := obs h
    refine mr_callS0 (pc := 34) [.long (τ1 (17 + r1.toNatClampNeg) 13), .long (τ1 15 5)] ok_X0_commonDivisor lk_59 st_X0_commonDivisor dX0_numerator_34 rfl rfl (Nat.le_of_ble_eq_true rfl) (Nat.le_of_ble_eq_true rfl) ((dc_B_commonDivisor c4).up (by decide)) ?_
    obtain ⟨g5, h⟩ := og h
    refine mr_ldiv (pc := 37) dX0_numerator_37 g5 ?_
    obtain ⟨rfl, rfl, rfl⟩ := os3 h
    exact mr_lret (pc := 38) rfl dX0_numerator_38
  · replace h := (if_neg q2).symm.trans h
    refine mr_lconstv (pc := 10) (0 : Int64) dX0_numerator_10 (by decide) ?_
    obtain ⟨rfl, rfl, rfl⟩ := os3 h
    exact mr_lret (pc := 11) rfl dX0_numerator_11
set_option maxHeartbeats 4000000 in
set_option maxRecDepth 100000 in
theorem dc_B_makeLeast_l2 : ∀ (n : Nat), ∀ (x1 : Int32) (x2 : Int32) (σ : mS) (τ : mT) (σ' : mS) (τ' : mT), B_makeLeast_l2 n x1 x2 σ τ = some (σ', τ') → mc_V M_X0_makeLeast 2 none 2 [.ref 15, .int x1, .int x2, .retAddr 0, .retAddr 0] [] (mc_hp σ τ) none (mc_hp σ' τ') 0 0 := by
  intro n
  induction n with
  | zero =>
    intros
    rename_i h
    cases h
  | succ n ih =>
    intro x1 x2 σ τ σ' τ' h
    refine mr_iload_n (pc := 2) dX0_makeLeast_2 rfl ?_
    refine mr_ldc (pc := 3) kI_X0_74 dX0_makeLeast_3 ?_
    refine mr_icmp_ge (pc := 5) 46 dX0_makeLeast_5 (by decide) (fun q1 => ?_) (fun q1 => ?_)
    · replace h := (if_pos q1).symm.trans h
      obtain ⟨rfl, rfl⟩ := os2 h
      exact mr_ret (pc := 46) rfl dX0_makeLeast_46
    · replace h := (if_neg q1).symm.trans h
      refine mr_aload_n (pc := 8) dX0_makeLeast_8 rfl ?_
      refine mr_aload_n (pc := 9) dX0_makeLeast_9 rfl ?_
      refine mr_iload_n (pc := 10) dX0_makeLeast_10 rfl ?_
      obtain ⟨r2, σ2, τ2, c2, h⟩ := obs h
      refine mr_callV0 (pc := 11) (ci := 0) [.int x1] ok_X0_rowThatGives lk_54 st_X0_rowThatGives se_X0_rowThatGives dX0_makeLeast_11 rfl (ha_15 σ τ) rfl rfl (Nat.le_of_ble_eq_true rfl) (Nat.le_of_ble_eq_true rfl) ((dc_B_rowThatGives c2).up (by decide)) ?_
      refine mr_iload_n (pc := 14) dX0_makeLeast_14 rfl ?_
      refine mr_iconstv (pc := 15) (1 : Int32) dX0_makeLeast_15 (by decide) ?_
      obtain ⟨r3, σ3, τ3, c3, h⟩ := obs h
      refine mr_callV0 (pc := 16) (ci := 0) [.int r2, .int x1, .int (1 : Int32)] ok_X0_firstOfSign lk_55 st_X0_firstOfSign se_X0_firstOfSign dX0_makeLeast_16 rfl (ha_15 σ2 τ2) rfl rfl (Nat.le_of_ble_eq_true rfl) (Nat.le_of_ble_eq_true rfl) ((dc_B_firstOfSign c3).up (by decide)) ?_
      refine mr_istore_n (pc := 19) dX0_makeLeast_19 (Nat.le_of_ble_eq_true rfl) (show mc_V M_X0_makeLeast 2 none 20 [.ref 15, .int x1, .int x2, .int r3, .retAddr 0] [] (mc_hp σ3 τ3) none (mc_hp σ' τ') 0 0 from ?_)
      refine mr_aload_n (pc := 20) dX0_makeLeast_20 rfl ?_
      refine mr_iload_n (pc := 21) dX0_makeLeast_21 rfl ?_
      obtain ⟨r4, σ4, τ4, c4, h⟩ := obs h
      refine mr_callV0 (pc := 22) (ci := 0) [.int r3] ok_X0_leavingRow lk_50 st_X0_leavingRow se_X0_leavingRow dX0_makeLeast_22 rfl (ha_15 σ3 τ3) rfl rfl (Nat.le_of_ble_eq_true rfl) (Nat.le_of_ble_eq_true rfl) ((dc_B_leavingRow c4).up (by decide)) ?_
      refine mr_istore (pc := 25) dX0_makeLeast_25 (Nat.le_of_ble_eq_true rfl) (show mc_V M_X0_makeLeast 2 none 27 [.ref 15, .int x1, .int x2, .int r3, .int r4] [] (mc_hp σ4 τ4) none (mc_hp σ' τ') 0 0 from ?_)
      refine mr_iload (pc := 27) dX0_makeLeast_27 rfl ?_
      refine mr_if_ge (pc := 29) 33 dX0_makeLeast_29 (by decide) (fun q5 => ?_) (fun q5 => ?_)
      · replace h := (if_pos q5).symm.trans h
        refine mr_aload_n (pc := 33) dX0_makeLeast_33 rfl ?_
        refine mr_iload (pc := 34) dX0_makeLeast_34 rfl ?_
        refine mr_iload_n (pc := 36) dX0_makeLeast_36 rfl ?_
        obtain ⟨σ6, τ6, c6, h⟩ := ovs h
        refine mr_callV0 (pc := 37) (ci := 0) [.int r4, .int r3] ok_X0_pivot lk_51 st_X0_pivot se_X0_pivot dX0_makeLeast_37 rfl (ha_15 σ4 τ4) rfl rfl (Nat.le_of_ble_eq_true rfl) (Nat.le_of_ble_eq_true rfl) ((dc_B_pivot c6).up (by decide)) ?_
        refine mr_iincv (pc := 40) (1 : Int32) dX0_makeLeast_40 rfl (by decide) (show mc_V M_X0_makeLeast 2 none 43 [.ref 15, .int x1, .int (x2 + (1 : Int32)), .int r3, .int r4] [] (mc_hp σ6 τ6) none (mc_hp σ' τ') 0 0 from ?_)
        refine mr_goto (pc := 43) 2 dX0_makeLeast_43 (by decide) ?_
        exact mc_V.locs (loc' := [.ref 15, .int x1, .int (x2 + (1 : Int32)), .retAddr 0, .retAddr 0]) ⟨Or.inr rfl, Or.inr rfl, Or.inr rfl, Or.inl rfl, Or.inl rfl, trivial⟩ (ih x1 (x2 + (1 : Int32)) σ6 τ6 σ' τ' h)
      · replace h := (if_neg q5).symm.trans h
        obtain ⟨rfl, rfl⟩ := os2 h
        exact mr_ret (pc := 32) rfl dX0_makeLeast_32
set_option maxHeartbeats 4000000 in
set_option maxRecDepth 100000 in
theorem dc_B_makeLeast {p1 : Int32} {σ : mS} {τ : mT} {σ' : mS} {τ' : mT} (h : B_makeLeast p1 σ τ = some (σ', τ')) : mc_V M_X0_makeLeast 2 none 0 (mc_entry [.ref 15, .int p1] 5) [] (mc_hp σ τ) none (mc_hp σ' τ') 0 0 := by
  unfold B_makeLeast at h
  show mc_V M_X0_makeLeast 2 none 0 [.ref 15, .int p1, .retAddr 0, .retAddr 0, .retAddr 0] [] (mc_hp σ τ) none (mc_hp σ' τ') 0 0
  refine mr_iconstv (pc := 0) (0 : Int32) dX0_makeLeast_0 (by decide) ?_
  refine mr_istore_n (pc := 1) dX0_makeLeast_1 (Nat.le_of_ble_eq_true rfl) (show mc_V M_X0_makeLeast 2 none 2 [.ref 15, .int p1, .int (0 : Int32), .retAddr 0, .retAddr 0] [] (mc_hp σ τ) none (mc_hp σ' τ') 0 0 from ?_)
  exact mc_V.locs (loc' := [.ref 15, .int p1, .int (0 : Int32), .retAddr 0, .retAddr 0]) ⟨Or.inr rfl, Or.inr rfl, Or.inr rfl, Or.inl rfl, Or.inl rfl, trivial⟩ (dc_B_makeLeast_l2 mc_F p1 (0 : Int32) σ τ σ' τ' h)
set_option maxHeartbeats 4000000 in
set_option maxRecDepth 100000 in
theorem dc_R_extreme_b45 : ∀ (x1 : Int32) (x2 : Int32) (σ : mS) (τ : mT) (r : Int64) (σ' : mS) (τ' : mT), R_extreme_b45 x1 x2 σ τ = some (r, σ', τ') → mc_V M_X5_extreme 4 none 45 [.ref 1, .int x1, .int x2] [] (mc_hp σ τ) (some (.long r)) (mc_hp σ' τ') 0 0 := by
  intro x1 x2 σ τ r σ' τ' h
  unfold R_extreme_b45 at h
  refine mr_iload_n (pc := 45) dX5_extreme_45 rfl ?_
  refine mr_iconstv (pc := 46) (2 : Int32) dX5_extreme_46 (by decide) ?_
  refine mr_irem (pc := 47) dX5_extreme_47 (by decide) ?_
  refine mr_if_ne (pc := 48) 62 dX5_extreme_48 (by decide) (fun q1 => ?_) (fun q1 => ?_)
  · replace h := (if_neg q1).symm.trans h
    refine mr_aload_n (pc := 62) dX5_extreme_62 rfl ?_
    refine mr_getf (pc := 63) (ci := 5) inX5 rfl 3 (by decide) fl_3 dX5_extreme_63 (ha_1 σ τ) rfl ?_
    refine mr_iload_n (pc := 66) dX5_extreme_66 rfl ?_
    obtain ⟨r2, σ2, τ2, c2, h⟩ := obs h
    refine mr_callV0 (pc := 67) (ci := 0) [.int x1] ok_X0_denominator lk_40 st_X0_denominator se_X0_denominator dX5_extreme_67 rfl (ha_15 σ τ) rfl rfl (Nat.le_of_ble_eq_true rfl) (Nat.le_of_ble_eq_true rfl) ((dc_B_denominator c2).up (by decide)) ?_
    obtain ⟨rfl, rfl, rfl⟩ := os3 h
    exact mr_lret (pc := 70) rfl dX5_extreme_70
  · replace h := (if_pos q1).symm.trans h
    refine mr_aload_n (pc := 51) dX5_extreme_51 rfl ?_
    refine mr_getf (pc := 52) (ci := 5) inX5 rfl 3 (by decide) fl_3 dX5_extreme_52 (ha_1 σ τ) rfl ?_
    refine mr_iload_n (pc := 55) dX5_extreme_55 rfl ?_
    obtain ⟨r3, σ3, τ3, c3, h⟩ := obs h
    refine mr_callV0 (pc := 56) (ci := 0) [.int x1] ok_X0_numerator lk_39 st_X0_numerator se_X0_numerator dX5_extreme_56 rfl (ha_15 σ τ) rfl rfl (Nat.le_of_ble_eq_true rfl) (Nat.le_of_ble_eq_true rfl) ((dc_B_numerator c3).up (by decide)) ?_
    refine mr_goto (pc := 59) 70 dX5_extreme_59 (by decide) ?_
    obtain ⟨rfl, rfl, rfl⟩ := os3 h
    exact mr_lret (pc := 70) rfl dX5_extreme_70
set_option maxHeartbeats 4000000 in
set_option maxRecDepth 100000 in
theorem dc_R_extreme {p1 : Int32} {p2 : Int32} {σ : mS} {τ : mT} {r : Int64} {σ' : mS} {τ' : mT} (h : R_extreme p1 p2 σ τ = some (r, σ', τ')) : mc_V M_X5_extreme 4 none 0 (mc_entry [.ref 1, .int p1, .int p2] 3) [] (mc_hp σ τ) (some (.long r)) (mc_hp σ' τ') 0 0 := by
  unfold R_extreme at h
  show mc_V M_X5_extreme 4 none 0 [.ref 1, .int p1, .int p2] [] (mc_hp σ τ) (some (.long r)) (mc_hp σ' τ') 0 0
  refine mr_aload_n (pc := 0) dX5_extreme_0 rfl ?_
  refine mr_getf (pc := 1) (ci := 5) inX5 rfl 3 (by decide) fl_3 dX5_extreme_1 (ha_1 σ τ) rfl ?_
  obtain ⟨r1, σ1, τ1, c1, h⟩ := obs h
  refine mr_callV0 (pc := 4) (ci := 0) [] ok_X0_solve lk_36 st_X0_solve se_X0_solve dX5_extreme_4 rfl (ha_15 σ τ) rfl rfl (Nat.le_of_ble_eq_true rfl) (Nat.le_of_ble_eq_true rfl) ((dc_B_solve c1).up (by decide)) ?_
  refine mr_if_ne (pc := 7) 14 dX5_extreme_7 (by decide) (fun q2 => ?_) (fun q2 => ?_)
  · replace h := (if_neg q2).symm.trans h
    refine mr_iload_n (pc := 14) dX5_extreme_14 rfl ?_
    refine mr_iconstv (pc := 15) (2 : Int32) dX5_extreme_15 (by decide) ?_
    refine mr_icmp_ge (pc := 16) 30 dX5_extreme_16 (by decide) (fun q3 => ?_) (fun q3 => ?_)
    · replace h := (if_pos q3).symm.trans h
      refine mr_aload_n (pc := 30) dX5_extreme_30 rfl ?_
      refine mr_getf (pc := 31) (ci := 5) inX5 rfl 3 (by decide) fl_3 dX5_extreme_31 (ha_1 σ1 τ1) rfl ?_
      refine mr_iload_n (pc := 34) dX5_extreme_34 rfl ?_
      obtain ⟨r4, σ4, τ4, c4, h⟩ := obs h
      refine mr_callV0 (pc := 35) (ci := 0) [.int p1] ok_X0_makeGreatest lk_38 st_X0_makeGreatest se_X0_makeGreatest dX5_extreme_35 rfl (ha_15 σ1 τ1) rfl rfl (Nat.le_of_ble_eq_true rfl) (Nat.le_of_ble_eq_true rfl) ((dc_B_makeGreatest c4).up (by decide)) ?_
      refine mr_if_ne (pc := 38) 45 dX5_extreme_38 (by decide) (fun q5 => ?_) (fun q5 => ?_)
      · replace h := (if_neg q5).symm.trans h
        exact mc_V.locs (loc' := [.ref 1, .int p1, .int p2]) ⟨Or.inr rfl, Or.inr rfl, Or.inr rfl, trivial⟩ (dc_R_extreme_b45 p1 p2 σ4 τ4 r σ' τ' h)
      · replace h := (if_pos q5).symm.trans h
        refine mr_ldc2 (pc := 41) kL_X5_194 dX5_extreme_41 ?_
        obtain ⟨rfl, rfl, rfl⟩ := os3 h
        exact mr_lret (pc := 44) rfl dX5_extreme_44
    · replace h := (if_neg q3).symm.trans h
      refine mr_aload_n (pc := 19) dX5_extreme_19 rfl ?_
      refine mr_getf (pc := 20) (ci := 5) inX5 rfl 3 (by decide) fl_3 dX5_extreme_20 (ha_1 σ1 τ1) rfl ?_
      refine mr_iload_n (pc := 23) dX5_extreme_23 rfl ?_
      obtain ⟨σ6, τ6, c6, h⟩ := ovs h
      refine mr_callV0 (pc := 24) (ci := 0) [.int p1] ok_X0_makeLeast lk_37 st_X0_makeLeast se_X0_makeLeast dX5_extreme_24 rfl (ha_15 σ1 τ1) rfl rfl (Nat.le_of_ble_eq_true rfl) (Nat.le_of_ble_eq_true rfl) ((dc_B_makeLeast c6).up (by decide)) ?_
      refine mr_goto (pc := 27) 45 dX5_extreme_27 (by decide) ?_
      exact mc_V.locs (loc' := [.ref 1, .int p1, .int p2]) ⟨Or.inr rfl, Or.inr rfl, Or.inr rfl, trivial⟩ (dc_R_extreme_b45 p1 p2 σ6 τ6 r σ' τ' h)
  · replace h := (if_pos q2).symm.trans h
    refine mr_ldc2 (pc := 10) kL_X5_186 dX5_extreme_10 ?_
    obtain ⟨rfl, rfl, rfl⟩ := os3 h
    exact mr_lret (pc := 13) rfl dX5_extreme_13
set_option maxHeartbeats 4000000 in
set_option maxRecDepth 100000 in
theorem dc_R_bounds {p1 : Int32} {p2 : Int32} {σ : mS} {τ : mT} {r : Int64} {σ' : mS} {τ' : mT} (h : R_bounds p1 p2 σ τ = some (r, σ', τ')) : mc_V M_X5_bounds 5 none 0 (mc_entry [.ref 1, .int p1, .int p2] 3) [] (mc_hp σ τ) (some (.long r)) (mc_hp σ' τ') 0 0 := by
  unfold R_bounds at h
  show mc_V M_X5_bounds 5 none 0 [.ref 1, .int p1, .int p2] [] (mc_hp σ τ) (some (.long r)) (mc_hp σ' τ') 0 0
  refine mr_aload_n (pc := 0) dX5_bounds_0 rfl ?_
  refine mr_getf (pc := 1) (ci := 5) inX5 rfl 2 (by decide) fl_2 dX5_bounds_1 (ha_1 σ τ) rfl ?_
  refine mr_aload_n (pc := 4) dX5_bounds_4 rfl ?_
  refine mr_getf (pc := 5) (ci := 5) inX5 rfl 0 (by decide) fl_0 dX5_bounds_5 (ha_1 σ τ) rfl ?_
  obtain ⟨σ1, τ1, c1, h⟩ := ovs h
  refine mr_callV0 (pc := 8) (ci := 1) [.ref 2] ok_X1_find lk_12 st_X1_find se_X1_find dX5_bounds_8 rfl (ha_6 σ τ) rfl rfl (Nat.le_of_ble_eq_true rfl) (Nat.le_of_ble_eq_true rfl) ((dc_Y_find_2 c1).up (by decide)) ?_
  refine mr_iload_n (pc := 11) dX5_bounds_11 rfl ?_
  refine mr_iconstv (pc := 12) (0 : Int32) dX5_bounds_12 (by decide) ?_
  refine mr_aload_n (pc := 13) dX5_bounds_13 rfl ?_
  refine mr_getf (pc := 14) (ci := 5) inX5 rfl 2 (by decide) fl_2 dX5_bounds_14 (ha_1 σ1 τ1) rfl ?_
  obtain ⟨r2, σ2, τ2, c2, h⟩ := obs h
  refine mr_callV0 (pc := 17) (ci := 1) [] ok_X1_contacts lk_22 st_X1_contacts se_X1_contacts dX5_bounds_17 rfl (ha_6 σ1 τ1) rfl rfl (Nat.le_of_ble_eq_true rfl) (Nat.le_of_ble_eq_true rfl) ((dc_Y_contacts c2).up (by decide)) ?_
  refine mr_iconstv (pc := 20) (1 : Int32) dX5_bounds_20 (by decide) ?_
  refine mr_isub (pc := 21) dX5_bounds_21 ?_
  obtain ⟨r3, σ3, τ3, c3, h⟩ := obs h
  refine mr_callS0 (pc := 22) [.int p1, .int (0 : Int32), .int (r2 - (1 : Int32))] ok_X5_within lk_1 st_X5_within dX5_bounds_22 rfl rfl (Nat.le_of_ble_eq_true rfl) (Nat.le_of_ble_eq_true rfl) ((dc_R_within c3).up (by decide)) ?_
  refine mr_if_eq (pc := 25) 37 dX5_bounds_25 (by decide) (fun q4 => ?_) (fun q4 => ?_)
  · replace h := (if_pos q4).symm.trans h
    refine mr_ldc2 (pc := 37) kL_X5_149 dX5_bounds_37 ?_
    obtain ⟨rfl, rfl, rfl⟩ := os3 h
    exact mr_lret (pc := 40) rfl dX5_bounds_40
  · replace h := (if_neg q4).symm.trans h
    refine mr_iload_n (pc := 28) dX5_bounds_28 rfl ?_
    refine mr_iconstv (pc := 29) (0 : Int32) dX5_bounds_29 (by decide) ?_
    refine mr_iconstv (pc := 30) (3 : Int32) dX5_bounds_30 (by decide) ?_
    obtain ⟨r5, σ5, τ5, c5, h⟩ := obs h
    refine mr_callS0 (pc := 31) [.int p2, .int (0 : Int32), .int (3 : Int32)] ok_X5_within lk_1 st_X5_within dX5_bounds_31 rfl rfl (Nat.le_of_ble_eq_true rfl) (Nat.le_of_ble_eq_true rfl) ((dc_R_within c5).up (by decide)) ?_
    refine mr_if_ne (pc := 34) 41 dX5_bounds_34 (by decide) (fun q6 => ?_) (fun q6 => ?_)
    · replace h := (if_neg q6).symm.trans h
      refine mr_aload_n (pc := 41) dX5_bounds_41 rfl ?_
      refine mr_getf (pc := 42) (ci := 5) inX5 rfl 3 (by decide) fl_3 dX5_bounds_42 (ha_1 σ5 τ5) rfl ?_
      refine mr_aload_n (pc := 45) dX5_bounds_45 rfl ?_
      refine mr_getf (pc := 46) (ci := 5) inX5 rfl 0 (by decide) fl_0 dX5_bounds_46 (ha_1 σ5 τ5) rfl ?_
      refine mr_aload_n (pc := 49) dX5_bounds_49 rfl ?_
      refine mr_getf (pc := 50) (ci := 5) inX5 rfl 2 (by decide) fl_2 dX5_bounds_50 (ha_1 σ5 τ5) rfl ?_
      refine mr_iconstv (pc := 53) (0 : Int32) dX5_bounds_53 (by decide) ?_
      obtain ⟨σ7, τ7, c7, h⟩ := ovs h
      refine mr_callV0 (pc := 54) (ci := 0) [.ref 2, .ref 6, .int (0 : Int32)] ok_X0_pose lk_27 st_X0_pose se_X0_pose dX5_bounds_54 rfl (ha_15 σ5 τ5) rfl rfl (Nat.le_of_ble_eq_true rfl) (Nat.le_of_ble_eq_true rfl) ((dc_B_pose_2_6 c7).up (by decide)) ?_
      refine mr_aload_n (pc := 57) dX5_bounds_57 rfl ?_
      refine mr_iload_n (pc := 58) dX5_bounds_58 rfl ?_
      refine mr_iload_n (pc := 59) dX5_bounds_59 rfl ?_
      obtain ⟨r8, σ8, τ8, c8, h⟩ := obs h
      refine mr_callV0 (pc := 60) (ci := 5) [.int p1, .int p2] ok_X5_extreme lk_28 st_X5_extreme se_X5_extreme dX5_bounds_60 rfl (ha_1 σ7 τ7) rfl rfl (Nat.le_of_ble_eq_true rfl) (Nat.le_of_ble_eq_true rfl) ((dc_R_extreme c8).up (by decide)) ?_
      obtain ⟨rfl, rfl, rfl⟩ := os3 h
      exact mr_lret (pc := 63) rfl dX5_bounds_63
    · replace h := (if_pos q6).symm.trans h
      refine mr_ldc2 (pc := 37) kL_X5_149 dX5_bounds_37 ?_
      obtain ⟨rfl, rfl, rfl⟩ := os3 h
      exact mr_lret (pc := 40) rfl dX5_bounds_40
set_option maxHeartbeats 4000000 in
set_option maxRecDepth 100000 in
theorem dc_Q_common_l6 : ∀ (n : Nat), ∀ (x4 : Int64) (x6 : Int64) (σ : mS) (τ : mT) (r : Int64) (σ' : mS) (τ' : mT), Q_common_l6 n x4 x6 σ τ = some (r, σ', τ') → mc_V M_X6_common 0 none 6 [.retAddr 0, .retAddr 0, .retAddr 0, .retAddr 0, .long x4, .retAddr 0, .long x6, .retAddr 0, .retAddr 0, .retAddr 0] [] (mc_hp σ τ) (some (.long r)) (mc_hp σ' τ') 0 0 := by
  intro n
  induction n with
  | zero =>
    intros
    rename_i h
    cases h
  | succ n ih =>
    intro x4 x6 σ τ r σ' τ' h
    refine mr_lload (pc := 6) dX6_common_6 rfl ?_
    refine mr_lconstv (pc := 8) (0 : Int64) dX6_common_8 (by decide) ?_
    refine mr_lcmp (pc := 9) dX6_common_9 ?_
    refine mr_if_eq (pc := 10) 31 dX6_common_10 (by decide) (fun q1 => ?_) (fun q1 => ?_)
    · replace h := (if_pos q1).symm.trans h
      refine mr_lload (pc := 31) dX6_common_31 rfl ?_
      obtain ⟨rfl, rfl, rfl⟩ := os3 h
      exact mr_lret (pc := 33) rfl dX6_common_33
    · replace h := (if_neg q1).symm.trans h
      refine mr_lload (pc := 13) dX6_common_13 rfl ?_
      refine mr_lload (pc := 15) dX6_common_15 rfl ?_
      obtain ⟨g2, h⟩ := og h
      refine mr_lrem (pc := 17) dX6_common_17 g2 ?_
      refine mr_lstore (pc := 18) dX6_common_18 (Nat.le_of_ble_eq_true rfl) (show mc_V M_X6_common 0 none 20 [.retAddr 0, .retAddr 0, .retAddr 0, .retAddr 0, .long x4, .retAddr 0, .long x6, .retAddr 0, .long (x4 - x4 / x6 * x6), .retAddr 0] [] (mc_hp σ τ) (some (.long r)) (mc_hp σ' τ') 0 0 from ?_)
      refine mr_lload (pc := 20) dX6_common_20 rfl ?_
      refine mr_lstore (pc := 22) dX6_common_22 (Nat.le_of_ble_eq_true rfl) (show mc_V M_X6_common 0 none 24 [.retAddr 0, .retAddr 0, .retAddr 0, .retAddr 0, .long x6, .retAddr 0, .long x6, .retAddr 0, .long (x4 - x4 / x6 * x6), .retAddr 0] [] (mc_hp σ τ) (some (.long r)) (mc_hp σ' τ') 0 0 from ?_)
      refine mr_lload (pc := 24) dX6_common_24 rfl ?_
      refine mr_lstore (pc := 26) dX6_common_26 (Nat.le_of_ble_eq_true rfl) (show mc_V M_X6_common 0 none 28 [.retAddr 0, .retAddr 0, .retAddr 0, .retAddr 0, .long x6, .retAddr 0, .long (x4 - x4 / x6 * x6), .retAddr 0, .long (x4 - x4 / x6 * x6), .retAddr 0] [] (mc_hp σ τ) (some (.long r)) (mc_hp σ' τ') 0 0 from ?_)
      refine mr_goto (pc := 28) 6 dX6_common_28 (by decide) ?_
      exact mc_V.locs (loc' := [.retAddr 0, .retAddr 0, .retAddr 0, .retAddr 0, .long x6, .retAddr 0, .long (x4 - x4 / x6 * x6), .retAddr 0, .retAddr 0, .retAddr 0]) ⟨Or.inl rfl, Or.inl rfl, Or.inl rfl, Or.inl rfl, Or.inr rfl, Or.inl rfl, Or.inr rfl, Or.inl rfl, Or.inl rfl, Or.inl rfl, trivial⟩ (ih x6 (x4 - x4 / x6 * x6) σ τ r σ' τ' h)
set_option maxHeartbeats 4000000 in
set_option maxRecDepth 100000 in
theorem dc_Q_common {p0 : Int64} {p1 : Int64} {σ : mS} {τ : mT} {r : Int64} {σ' : mS} {τ' : mT} (h : Q_common p0 p1 σ τ = some (r, σ', τ')) : mc_V M_X6_common 0 none 0 (mc_entry [.long p0, .long p1] 10) [] (mc_hp σ τ) (some (.long r)) (mc_hp σ' τ') 0 0 := by
  unfold Q_common at h
  show mc_V M_X6_common 0 none 0 [.long p0, .retAddr 0, .long p1, .retAddr 0, .retAddr 0, .retAddr 0, .retAddr 0, .retAddr 0, .retAddr 0, .retAddr 0] [] (mc_hp σ τ) (some (.long r)) (mc_hp σ' τ') 0 0
  refine mr_lload_n (pc := 0) dX6_common_0 rfl ?_
  refine mr_lstore (pc := 1) dX6_common_1 (Nat.le_of_ble_eq_true rfl) (show mc_V M_X6_common 0 none 3 [.long p0, .retAddr 0, .long p1, .retAddr 0, .long p0, .retAddr 0, .retAddr 0, .retAddr 0, .retAddr 0, .retAddr 0] [] (mc_hp σ τ) (some (.long r)) (mc_hp σ' τ') 0 0 from ?_)
  refine mr_lload_n (pc := 3) dX6_common_3 rfl ?_
  refine mr_lstore (pc := 4) dX6_common_4 (Nat.le_of_ble_eq_true rfl) (show mc_V M_X6_common 0 none 6 [.long p0, .retAddr 0, .long p1, .retAddr 0, .long p0, .retAddr 0, .long p1, .retAddr 0, .retAddr 0, .retAddr 0] [] (mc_hp σ τ) (some (.long r)) (mc_hp σ' τ') 0 0 from ?_)
  exact mc_V.locs (loc' := [.retAddr 0, .retAddr 0, .retAddr 0, .retAddr 0, .long p0, .retAddr 0, .long p1, .retAddr 0, .retAddr 0, .retAddr 0]) ⟨Or.inl rfl, Or.inl rfl, Or.inl rfl, Or.inl rfl, Or.inr rfl, Or.inl rfl, Or.inr rfl, Or.inl rfl, Or.inl rfl, Or.inl rfl, trivial⟩ (dc_Q_common_l6 mc_F p0 p1 σ τ r σ' τ' h)
set_option maxHeartbeats 4000000 in
set_option maxRecDepth 100000 in
theorem dc_Q_told_b33 : ∀ (x1 : Int32) (x2 : Int64) (s0 : Int64) (σ : mS) (τ : mT) (r : Int64) (σ' : mS) (τ' : mT), Q_told_b33 x1 x2 s0 σ τ = some (r, σ', τ') → mc_V M_X6_told 1 none 33 [.retAddr 0, .int x1, .long x2, .retAddr 0, .retAddr 0, .retAddr 0, .retAddr 0, .retAddr 0] [.long s0] (mc_hp σ τ) (some (.long r)) (mc_hp σ' τ') 0 0 := by
  intro x1 x2 s0 σ τ r σ' τ' h
  unfold Q_told_b33 at h
  refine mr_lstore (pc := 33) dX6_told_33 (Nat.le_of_ble_eq_true rfl) (show mc_V M_X6_told 1 none 35 [.retAddr 0, .int x1, .long x2, .retAddr 0, .long s0, .retAddr 0, .retAddr 0, .retAddr 0] [] (mc_hp σ τ) (some (.long r)) (mc_hp σ' τ') 0 0 from ?_)
  refine mr_lload (pc := 35) dX6_told_35 rfl ?_
  refine mr_lload_n (pc := 37) dX6_told_37 rfl ?_
  obtain ⟨r1, σ1, τ1, c1, h⟩ := obs h
  refine mr_callS0 (pc := 38) [.long s0, .long x2] ok_X6_common lk_157 st_X6_common dX6_told_38 rfl rfl (Nat.le_of_ble_eq_true rfl) (Nat.le_of_ble_eq_true rfl) ((dc_Q_common c1).up (by decide)) ?_
  refine mr_lstore (pc := 41) dX6_told_41 (Nat.le_of_ble_eq_true rfl) (show mc_V M_X6_told 1 none 43 [.retAddr 0, .int x1, .long x2, .retAddr 0, .long s0, .retAddr 0, .long r1, .retAddr 0] [] (mc_hp σ1 τ1) (some (.long r)) (mc_hp σ' τ') 0 0 from ?_)
  refine mr_iload_n (pc := 43) dX6_told_43 rfl ?_
  refine mr_iconstv (pc := 44) (2 : Int32) dX6_told_44 (by decide) ?_
  refine mr_irem (pc := 45) dX6_told_45 (by decide) ?_
  refine mr_if_ne (pc := 46) 53 dX6_told_46 (by decide) (fun q2 => ?_) (fun q2 => ?_)
  · replace h := (if_neg q2).symm.trans h
    refine mr_lload (pc := 53) dX6_told_53 rfl ?_
    refine mr_lload (pc := 55) dX6_told_55 rfl ?_
    obtain ⟨g3, h⟩ := og h
    refine mr_ldiv (pc := 57) dX6_told_57 g3 ?_
    obtain ⟨rfl, rfl, rfl⟩ := os3 h
    exact mr_lret (pc := 58) rfl dX6_told_58
  · replace h := (if_pos q2).symm.trans h
    refine mr_lload_n (pc := 49) dX6_told_49 rfl ?_
    refine mr_goto (pc := 50) 55 dX6_told_50 (by decide) ?_
    refine mr_lload (pc := 55) dX6_told_55 rfl ?_
    obtain ⟨g4, h⟩ := og h
    refine mr_ldiv (pc := 57) dX6_told_57 g4 ?_
    obtain ⟨rfl, rfl, rfl⟩ := os3 h
    exact mr_lret (pc := 58) rfl dX6_told_58
set_option maxHeartbeats 4000000 in
set_option maxRecDepth 100000 in
theorem dc_Q_told_b16 : ∀ (x1 : Int32) (s0 : Int64) (σ : mS) (τ : mT) (r : Int64) (σ' : mS) (τ' : mT), Q_told_b16 x1 s0 σ τ = some (r, σ', τ') → mc_V M_X6_told 1 none 16 [.ref 34, .int x1, .retAddr 0, .retAddr 0, .retAddr 0, .retAddr 0, .retAddr 0, .retAddr 0] [.long s0] (mc_hp σ τ) (some (.long r)) (mc_hp σ' τ') 0 0 := by
  intro x1 s0 σ τ r σ' τ' h
  unfold Q_told_b16 at h
  refine mr_lstore_n (pc := 16) dX6_told_16 (Nat.le_of_ble_eq_true rfl) (show mc_V M_X6_told 1 none 17 [.ref 34, .int x1, .long s0, .retAddr 0, .retAddr 0, .retAddr 0, .retAddr 0, .retAddr 0] [] (mc_hp σ τ) (some (.long r)) (mc_hp σ' τ') 0 0 from ?_)
  refine mr_iload_n (pc := 17) dX6_told_17 rfl ?_
  refine mr_iconstv (pc := 18) (2 : Int32) dX6_told_18 (by decide) ?_
  refine mr_icmp_ge (pc := 19) 29 dX6_told_19 (by decide) (fun q1 => ?_) (fun q1 => ?_)
  · replace h := (if_pos q1).symm.trans h
    refine mr_aload_n (pc := 29) dX6_told_29 rfl ?_
    refine mr_getf (pc := 30) (ci := 6) inX6 rfl 22 (by decide) fl_51 dX6_told_30 (ha_34 σ τ) rfl ?_
    exact mc_V.locs (loc' := [.retAddr 0, .int x1, .long s0, .retAddr 0, .retAddr 0, .retAddr 0, .retAddr 0, .retAddr 0]) ⟨Or.inl rfl, Or.inr rfl, Or.inr rfl, Or.inl rfl, Or.inl rfl, Or.inl rfl, Or.inl rfl, Or.inl rfl, trivial⟩ (dc_Q_told_b33 x1 s0 (τ 34 22) σ τ r σ' τ' h)
  · replace h := (if_neg q1).symm.trans h
    refine mr_aload_n (pc := 22) dX6_told_22 rfl ?_
    refine mr_getf (pc := 23) (ci := 6) inX6 rfl 20 (by decide) fl_49 dX6_told_23 (ha_34 σ τ) rfl ?_
    refine mr_goto (pc := 26) 33 dX6_told_26 (by decide) ?_
    exact mc_V.locs (loc' := [.retAddr 0, .int x1, .long s0, .retAddr 0, .retAddr 0, .retAddr 0, .retAddr 0, .retAddr 0]) ⟨Or.inl rfl, Or.inr rfl, Or.inr rfl, Or.inl rfl, Or.inl rfl, Or.inl rfl, Or.inl rfl, Or.inl rfl, trivial⟩ (dc_Q_told_b33 x1 s0 (τ 34 20) σ τ r σ' τ' h)
set_option maxHeartbeats 4000000 in
set_option maxRecDepth 100000 in
theorem dc_Q_told {p1 : Int32} {σ : mS} {τ : mT} {r : Int64} {σ' : mS} {τ' : mT} (h : Q_told p1 σ τ = some (r, σ', τ')) : mc_V M_X6_told 1 none 0 (mc_entry [.ref 34, .int p1] 8) [] (mc_hp σ τ) (some (.long r)) (mc_hp σ' τ') 0 0 := by
  unfold Q_told at h
  show mc_V M_X6_told 1 none 0 [.ref 34, .int p1, .retAddr 0, .retAddr 0, .retAddr 0, .retAddr 0, .retAddr 0, .retAddr 0] [] (mc_hp σ τ) (some (.long r)) (mc_hp σ' τ') 0 0
  refine mr_iload_n (pc := 0) dX6_told_0 rfl ?_
  refine mr_iconstv (pc := 1) (2 : Int32) dX6_told_1 (by decide) ?_
  refine mr_icmp_ge (pc := 2) 12 dX6_told_2 (by decide) (fun q1 => ?_) (fun q1 => ?_)
  · replace h := (if_pos q1).symm.trans h
    refine mr_aload_n (pc := 12) dX6_told_12 rfl ?_
    refine mr_getf (pc := 13) (ci := 6) inX6 rfl 21 (by decide) fl_52 dX6_told_13 (ha_34 σ τ) rfl ?_
    exact mc_V.locs (loc' := [.ref 34, .int p1, .retAddr 0, .retAddr 0, .retAddr 0, .retAddr 0, .retAddr 0, .retAddr 0]) ⟨Or.inr rfl, Or.inr rfl, Or.inl rfl, Or.inl rfl, Or.inl rfl, Or.inl rfl, Or.inl rfl, Or.inl rfl, trivial⟩ (dc_Q_told_b16 p1 (τ 34 21) σ τ r σ' τ' h)
  · replace h := (if_neg q1).symm.trans h
    refine mr_aload_n (pc := 5) dX6_told_5 rfl ?_
    refine mr_getf (pc := 6) (ci := 6) inX6 rfl 19 (by decide) fl_50 dX6_told_6 (ha_34 σ τ) rfl ?_
    refine mr_goto (pc := 9) 16 dX6_told_9 (by decide) ?_
    exact mc_V.locs (loc' := [.ref 34, .int p1, .retAddr 0, .retAddr 0, .retAddr 0, .retAddr 0, .retAddr 0, .retAddr 0]) ⟨Or.inr rfl, Or.inr rfl, Or.inl rfl, Or.inl rfl, Or.inl rfl, Or.inl rfl, Or.inl rfl, Or.inl rfl, trivial⟩ (dc_Q_told_b16 p1 (τ 34 19) σ τ r σ' τ' h)
set_option maxHeartbeats 4000000 in
set_option maxRecDepth 100000 in
theorem dc_Q_bounds {p1 : Int32} {p2 : Int32} {σ : mS} {τ : mT} {r : Int64} {σ' : mS} {τ' : mT} (h : Q_bounds p1 p2 σ τ = some (r, σ', τ')) : mc_V M_X6_bounds 7 none 0 (mc_entry [.ref 34, .int p1, .int p2] 3) [] (mc_hp σ τ) (some (.long r)) (mc_hp σ' τ') 0 0 := by
  unfold Q_bounds at h
  show mc_V M_X6_bounds 7 none 0 [.ref 34, .int p1, .int p2] [] (mc_hp σ τ) (some (.long r)) (mc_hp σ' τ') 0 0
  refine mr_aload_n (pc := 0) dX6_bounds_0 rfl ?_
  refine mr_iload_n (pc := 1) dX6_bounds_1 rfl ?_
  obtain ⟨r1, σ1, τ1, c1, h⟩ := obs h
  refine mr_callV0 (pc := 2) (ci := 6) [.int p1] ok_X6_isContact lk_175 st_X6_isContact se_X6_isContact dX6_bounds_2 rfl (ha_34 σ τ) rfl rfl (Nat.le_of_ble_eq_true rfl) (Nat.le_of_ble_eq_true rfl) ((dc_Q_isContact c1).up (by decide)) ?_
  refine mr_if_eq (pc := 5) 17 dX6_bounds_5 (by decide) (fun q2 => ?_) (fun q2 => ?_)
  · replace h := (if_pos q2).symm.trans h
    refine mr_ldc2 (pc := 17) kL_X6_95 dX6_bounds_17 ?_
    obtain ⟨rfl, rfl, rfl⟩ := os3 h
    exact mr_lret (pc := 20) rfl dX6_bounds_20
  · replace h := (if_neg q2).symm.trans h
    refine mr_iload_n (pc := 8) dX6_bounds_8 rfl ?_
    refine mr_iconstv (pc := 9) (0 : Int32) dX6_bounds_9 (by decide) ?_
    refine mr_iconstv (pc := 10) (3 : Int32) dX6_bounds_10 (by decide) ?_
    obtain ⟨r3, σ3, τ3, c3, h⟩ := obs h
    refine mr_callS0 (pc := 11) [.int p2, .int (0 : Int32), .int (3 : Int32)] ok_X6_within lk_131 st_X6_within dX6_bounds_11 rfl rfl (Nat.le_of_ble_eq_true rfl) (Nat.le_of_ble_eq_true rfl) ((dc_Q_within c3).up (by decide)) ?_
    refine mr_if_ne (pc := 14) 21 dX6_bounds_14 (by decide) (fun q4 => ?_) (fun q4 => ?_)
    · replace h := (if_neg q4).symm.trans h
      refine mr_aload_n (pc := 21) dX6_bounds_21 rfl ?_
      refine mr_aload_n (pc := 22) dX6_bounds_22 rfl ?_
      obtain ⟨r5, σ5, τ5, c5, h⟩ := obs h
      refine mr_callV0 (pc := 23) (ci := 6) [] ok_X6_all lk_155 st_X6_all se_X6_all dX6_bounds_23 rfl (ha_34 σ3 τ3) rfl rfl (Nat.le_of_ble_eq_true rfl) (Nat.le_of_ble_eq_true rfl) ((dc_Q_all c5).up (by decide)) ?_
      refine mr_bipushv (pc := 26) (-9 : Int32) dX6_bounds_26 (by decide) ?_
      refine mr_iconstv (pc := 28) (0 : Int32) dX6_bounds_28 (by decide) ?_
      refine mr_iconstv (pc := 29) (0 : Int32) dX6_bounds_29 (by decide) ?_
      obtain ⟨σ6, τ6, c6, h⟩ := ovs h
      refine mr_callV0 (pc := 30) (ci := 6) [.int r5, .int (-9 : Int32), .int (0 : Int32), .int (0 : Int32)] ok_X6_layRows lk_153 st_X6_layRows se_X6_layRows dX6_bounds_30 rfl (ha_34 σ5 τ5) rfl rfl (Nat.le_of_ble_eq_true rfl) (Nat.le_of_ble_eq_true rfl) ((dc_Q_layRows c6).up (by decide)) ?_
      refine mr_aload_n (pc := 33) dX6_bounds_33 rfl ?_
      refine mr_iload_n (pc := 34) dX6_bounds_34 rfl ?_
      obtain ⟨σ7, τ7, c7, h⟩ := ovs h
      refine mr_callV0 (pc := 35) (ci := 6) [.int p1] ok_X6_seeks lk_154 st_X6_seeks se_X6_seeks dX6_bounds_35 rfl (ha_34 σ6 τ6) rfl rfl (Nat.le_of_ble_eq_true rfl) (Nat.le_of_ble_eq_true rfl) ((dc_Q_seeks c7).up (by decide)) ?_
      refine mr_aload_n (pc := 38) dX6_bounds_38 rfl ?_
      refine mr_getf (pc := 39) (ci := 6) inX6 rfl 18 (by decide) fl_48 dX6_bounds_39 (ha_34 σ7 τ7) rfl ?_
      refine mr_if_eq (pc := 42) 53 dX6_bounds_42 (by decide) (fun q8 => ?_) (fun q8 => ?_)
      · replace h := (if_pos q8).symm.trans h
        refine mr_ldc2 (pc := 53) kL_X6_258 dX6_bounds_53 ?_
        obtain ⟨rfl, rfl, rfl⟩ := os3 h
        exact mr_lret (pc := 56) rfl dX6_bounds_56
      · replace h := (if_neg q8).symm.trans h
        refine mr_aload_n (pc := 45) dX6_bounds_45 rfl ?_
        refine mr_iload_n (pc := 46) dX6_bounds_46 rfl ?_
        obtain ⟨r9, σ9, τ9, c9, h⟩ := obs h
        refine mr_callV0 (pc := 47) (ci := 6) [.int p2] ok_X6_told lk_177 st_X6_told se_X6_told dX6_bounds_47 rfl (ha_34 σ7 τ7) rfl rfl (Nat.le_of_ble_eq_true rfl) (Nat.le_of_ble_eq_true rfl) ((dc_Q_told c9).up (by decide)) ?_
        refine mr_goto (pc := 50) 56 dX6_bounds_50 (by decide) ?_
        obtain ⟨rfl, rfl, rfl⟩ := os3 h
        exact mr_lret (pc := 56) rfl dX6_bounds_56
    · replace h := (if_pos q4).symm.trans h
      refine mr_ldc2 (pc := 17) kL_X6_95 dX6_bounds_17 ?_
      obtain ⟨rfl, rfl, rfl⟩ := os3 h
      exact mr_lret (pc := 20) rfl dX6_bounds_20
set_option maxHeartbeats 4000000 in
set_option maxRecDepth 100000 in
theorem dc_B_poseLoad_b100 : ∀ (x3 : Int32) (σ : mS) (τ : mT) (r : Int32) (σ' : mS) (τ' : mT), B_poseLoad_b100 x3 σ τ = some (r, σ', τ') → mc_V M_X0_poseLoad 1 none 100 [.ref 15, .retAddr 0, .retAddr 0, .int x3, .retAddr 0] [] (mc_hp σ τ) (some (.int r)) (mc_hp σ' τ') 0 0 := by
  intro x3 σ τ r σ' τ' h
  unfold B_poseLoad_b100 at h
  refine mr_aload_n (pc := 100) dX0_poseLoad_100 rfl ?_
  refine mr_dup (pc := 101) dX0_poseLoad_101 rfl ?_
  refine mr_getf (pc := 102) (ci := 0) inX0 rfl 4 (by decide) fl_13 dX0_poseLoad_102 (ha_15 σ τ) rfl ?_
  refine mr_iconstv (pc := 105) (1 : Int32) dX0_poseLoad_105 (by decide) ?_
  refine mr_iadd (pc := 106) dX0_poseLoad_106 ?_
  obtain ⟨σ1, e1, h⟩ := ow h
  refine mr_putf (pc := 107) (ci := 0) inX0 tyX0 tyX0_ok nmX0 rfl 4 (by decide) fl_13 rfl dX0_poseLoad_107 (ha_15 σ τ) (Nat.le_of_ble_eq_true rfl) rfl (mc_V.heap (hs_15_4 e1) ?_)
  refine mr_iload_n (pc := 110) dX0_poseLoad_110 rfl ?_
  obtain ⟨rfl, rfl, rfl⟩ := os3 h
  exact mr_iret (pc := 111) rfl (rfl) dX0_poseLoad_111
set_option maxHeartbeats 4000000 in
set_option maxRecDepth 100000 in
theorem dc_B_poseLoad_l25 : ∀ (n : Nat), ∀ (x1 : Int32) (x2 : Int32) (x3 : Int32) (x4 : Int32) (σ : mS) (τ : mT) (r : Int32) (σ' : mS) (τ' : mT), B_poseLoad_l25 n x1 x2 x3 x4 σ τ = some (r, σ', τ') → mc_V M_X0_poseLoad 1 none 25 [.ref 15, .int x1, .int x2, .int x3, .int x4] [] (mc_hp σ τ) (some (.int r)) (mc_hp σ' τ') 0 0 := by
  intro n
  induction n with
  | zero =>
    intros
    rename_i h
    cases h
  | succ n ih =>
    intro x1 x2 x3 x4 σ τ r σ' τ' h
    refine mr_iload (pc := 25) dX0_poseLoad_25 rfl ?_
    refine mr_aload_n (pc := 27) dX0_poseLoad_27 rfl ?_
    refine mr_getf (pc := 28) (ci := 0) inX0 rfl 3 (by decide) fl_12 dX0_poseLoad_28 (ha_15 σ τ) rfl ?_
    refine mr_icmp_ge (pc := 31) 50 dX0_poseLoad_31 (by decide) (fun q1 => ?_) (fun q1 => ?_)
    · replace h := (if_pos q1).symm.trans h
      refine mr_aload_n (pc := 50) dX0_poseLoad_50 rfl ?_
      refine mr_getf (pc := 51) (ci := 0) inX0 rfl 2 (by decide) fl_11 dX0_poseLoad_51 (ha_15 σ τ) rfl ?_
      refine mr_iload_n (pc := 54) dX0_poseLoad_54 rfl ?_
      obtain ⟨g2, h⟩ := og h
      refine mr_iald (pc := 55) dX0_poseLoad_55 (ha_26 σ τ) (g2) ?_
      refine mr_istore (pc := 56) dX0_poseLoad_56 (Nat.le_of_ble_eq_true rfl) (show mc_V M_X0_poseLoad 1 none 58 [.ref 15, .int x1, .int x2, .int x3, .int (σ 26 x1.toNatClampNeg)] [] (mc_hp σ τ) (some (.int r)) (mc_hp σ' τ') 0 0 from ?_)
      refine mr_iload (pc := 58) dX0_poseLoad_58 rfl ?_
      refine mr_if_lt (pc := 60) 100 dX0_poseLoad_60 (by decide) (fun q3 => ?_) (fun q3 => ?_)
      · replace h := (if_pos q3).symm.trans h
        exact mc_V.locs (loc' := [.ref 15, .retAddr 0, .retAddr 0, .int x3, .retAddr 0]) ⟨Or.inr rfl, Or.inl rfl, Or.inl rfl, Or.inr rfl, Or.inl rfl, trivial⟩ (dc_B_poseLoad_b100 x3 σ τ r σ' τ' h)
      · replace h := (if_neg q3).symm.trans h
        refine mr_iload (pc := 63) dX0_poseLoad_63 rfl ?_
        refine mr_iconstv (pc := 65) (1 : Int32) dX0_poseLoad_65 (by decide) ?_
        refine mr_iadd (pc := 66) dX0_poseLoad_66 ?_
        refine mr_aload_n (pc := 67) dX0_poseLoad_67 rfl ?_
        refine mr_getf (pc := 68) (ci := 0) inX0 rfl 3 (by decide) fl_12 dX0_poseLoad_68 (ha_15 σ τ) rfl ?_
        refine mr_icmp_ge (pc := 71) 100 dX0_poseLoad_71 (by decide) (fun q4 => ?_) (fun q4 => ?_)
        · replace h := (if_pos q4).symm.trans h
          exact mc_V.locs (loc' := [.ref 15, .retAddr 0, .retAddr 0, .int x3, .retAddr 0]) ⟨Or.inr rfl, Or.inl rfl, Or.inl rfl, Or.inr rfl, Or.inl rfl, trivial⟩ (dc_B_poseLoad_b100 x3 σ τ r σ' τ' h)
        · replace h := (if_neg q4).symm.trans h
          refine mr_aload_n (pc := 74) dX0_poseLoad_74 rfl ?_
          refine mr_getf (pc := 75) (ci := 0) inX0 rfl 0 (by decide) fl_9 dX0_poseLoad_75 (ha_15 σ τ) rfl ?_
          refine mr_iload (pc := 78) dX0_poseLoad_78 rfl ?_
          obtain ⟨g5, h⟩ := og h
          refine mr_aald (pc := 80) dX0_poseLoad_80 (ha_16 σ τ) (g5) (gr_some (g5)) ?_
          refine mr_iload_n (pc := 81) dX0_poseLoad_81 rfl ?_
          refine mr_ldc2 (pc := 82) kL_X0_72 dX0_poseLoad_82 ?_
          obtain ⟨g6, h⟩ := og h
          obtain ⟨τ7, e7, h⟩ := ow h
          refine mr_gst (pc := 85) dX0_poseLoad_85 (g5) (g6) e7 ?_
          refine mr_aload_n (pc := 86) dX0_poseLoad_86 rfl ?_
          refine mr_getf (pc := 87) (ci := 0) inX0 rfl 0 (by decide) fl_9 dX0_poseLoad_87 (ha_15 σ τ7) rfl ?_
          refine mr_iload (pc := 90) dX0_poseLoad_90 rfl ?_
          refine mr_iconstv (pc := 92) (1 : Int32) dX0_poseLoad_92 (by decide) ?_
          refine mr_iadd (pc := 93) dX0_poseLoad_93 ?_
          obtain ⟨g8, h⟩ := og h
          refine mr_aald (pc := 94) dX0_poseLoad_94 (ha_16 σ τ7) (g8) (gr_some (g8)) ?_
          refine mr_iload_n (pc := 95) dX0_poseLoad_95 rfl ?_
          refine mr_iload_n (pc := 96) dX0_poseLoad_96 rfl ?_
          refine mr_ineg (pc := 97) dX0_poseLoad_97 ?_
          refine mr_i2l (pc := 98) dX0_poseLoad_98 ?_
          obtain ⟨τ9, e9, h⟩ := ow h
          refine mr_gst (pc := 99) dX0_poseLoad_99 (g8) (g6) e9 ?_
          exact mc_V.locs (loc' := [.ref 15, .retAddr 0, .retAddr 0, .int x3, .retAddr 0]) ⟨Or.inr rfl, Or.inl rfl, Or.inl rfl, Or.inr rfl, Or.inl rfl, trivial⟩ (dc_B_poseLoad_b100 x3 σ τ9 r σ' τ' h)
    · replace h := (if_neg q1).symm.trans h
      refine mr_aload_n (pc := 34) dX0_poseLoad_34 rfl ?_
      refine mr_getf (pc := 35) (ci := 0) inX0 rfl 0 (by decide) fl_9 dX0_poseLoad_35 (ha_15 σ τ) rfl ?_
      refine mr_iload (pc := 38) dX0_poseLoad_38 rfl ?_
      obtain ⟨g10, h⟩ := og h
      refine mr_aald (pc := 40) dX0_poseLoad_40 (ha_16 σ τ) (g10) (gr_some (g10)) ?_
      refine mr_iload_n (pc := 41) dX0_poseLoad_41 rfl ?_
      refine mr_lconstv (pc := 42) (0 : Int64) dX0_poseLoad_42 (by decide) ?_
      obtain ⟨g11, h⟩ := og h
      obtain ⟨τ12, e12, h⟩ := ow h
      refine mr_gst (pc := 43) dX0_poseLoad_43 (g10) (g11) e12 ?_
      refine mr_iincv (pc := 44) (1 : Int32) dX0_poseLoad_44 rfl (by decide) (show mc_V M_X0_poseLoad 1 none 47 [.ref 15, .int x1, .int x2, .int x3, .int (x4 + (1 : Int32))] [] (mc_hp σ τ12) (some (.int r)) (mc_hp σ' τ') 0 0 from ?_)
      refine mr_goto (pc := 47) 25 dX0_poseLoad_47 (by decide) ?_
      exact mc_V.locs (loc' := [.ref 15, .int x1, .int x2, .int x3, .int (x4 + (1 : Int32))]) ⟨Or.inr rfl, Or.inr rfl, Or.inr rfl, Or.inr rfl, Or.inr rfl, trivial⟩ (ih x1 x2 x3 (x4 + (1 : Int32)) σ τ12 r σ' τ' h)
set_option maxHeartbeats 4000000 in
set_option maxRecDepth 100000 in
theorem dc_B_poseLoad {p1 : Int32} {p2 : Int32} {σ : mS} {τ : mT} {r : Int32} {σ' : mS} {τ' : mT} (h : B_poseLoad p1 p2 σ τ = some (r, σ', τ')) : mc_V M_X0_poseLoad 1 none 0 (mc_entry [.ref 15, .int p1, .int p2] 5) [] (mc_hp σ τ) (some (.int r)) (mc_hp σ' τ') 0 0 := by
  unfold B_poseLoad at h
  show mc_V M_X0_poseLoad 1 none 0 [.ref 15, .int p1, .int p2, .retAddr 0, .retAddr 0] [] (mc_hp σ τ) (some (.int r)) (mc_hp σ' τ') 0 0
  refine mr_aload_n (pc := 0) dX0_poseLoad_0 rfl ?_
  refine mr_getf (pc := 1) (ci := 0) inX0 rfl 4 (by decide) fl_13 dX0_poseLoad_1 (ha_15 σ τ) rfl ?_
  refine mr_istore_n (pc := 4) dX0_poseLoad_4 (Nat.le_of_ble_eq_true rfl) (show mc_V M_X0_poseLoad 1 none 5 [.ref 15, .int p1, .int p2, .int (σ 15 4), .retAddr 0] [] (mc_hp σ τ) (some (.int r)) (mc_hp σ' τ') 0 0 from ?_)
  refine mr_iload_n (pc := 5) dX0_poseLoad_5 rfl ?_
  refine mr_bipushv (pc := 6) (13 : Int32) dX0_poseLoad_6 (by decide) ?_
  refine mr_icmp_ge (pc := 8) 20 dX0_poseLoad_8 (by decide) (fun q1 => ?_) (fun q1 => ?_)
  · replace h := (if_pos q1).symm.trans h
    refine mr_iconstv (pc := 20) (-1 : Int32) dX0_poseLoad_20 (by decide) ?_
    obtain ⟨rfl, rfl, rfl⟩ := os3 h
    exact mr_iret (pc := 21) rfl (rfl) dX0_poseLoad_21
  · replace h := (if_neg q1).symm.trans h
    refine mr_iload_n (pc := 11) dX0_poseLoad_11 rfl ?_
    refine mr_iconstv (pc := 12) (0 : Int32) dX0_poseLoad_12 (by decide) ?_
    refine mr_iconstv (pc := 13) (3 : Int32) dX0_poseLoad_13 (by decide) ?_
    obtain ⟨r2, σ2, τ2, c2, h⟩ := obs h
    refine mr_callSN0 (pc := 14) [.int p1, .int (0 : Int32), .int (3 : Int32)] ok_X5_within lk_186 st_X5_within dX0_poseLoad_14 rfl rfl (Nat.le_of_ble_eq_true rfl) (Nat.le_of_ble_eq_true rfl) ((dc_R_within c2).up (by decide)) ?_
    refine mr_if_ne (pc := 17) 22 dX0_poseLoad_17 (by decide) (fun q3 => ?_) (fun q3 => ?_)
    · replace h := (if_neg q3).symm.trans h
      refine mr_iconstv (pc := 22) (0 : Int32) dX0_poseLoad_22 (by decide) ?_
      refine mr_istore (pc := 23) dX0_poseLoad_23 (Nat.le_of_ble_eq_true rfl) (show mc_V M_X0_poseLoad 1 none 25 [.ref 15, .int p1, .int p2, .int (σ 15 4), .int (0 : Int32)] [] (mc_hp σ2 τ2) (some (.int r)) (mc_hp σ' τ') 0 0 from ?_)
      exact mc_V.locs (loc' := [.ref 15, .int p1, .int p2, .int (σ 15 4), .int (0 : Int32)]) ⟨Or.inr rfl, Or.inr rfl, Or.inr rfl, Or.inr rfl, Or.inr rfl, trivial⟩ (dc_B_poseLoad_l25 mc_F p1 p2 (σ 15 4) (0 : Int32) σ2 τ2 r σ' τ' h)
    · replace h := (if_pos q3).symm.trans h
      refine mr_iconstv (pc := 20) (-1 : Int32) dX0_poseLoad_20 (by decide) ?_
      obtain ⟨rfl, rfl, rfl⟩ := os3 h
      exact mr_iret (pc := 21) rfl (rfl) dX0_poseLoad_21
set_option maxHeartbeats 4000000 in
set_option maxRecDepth 100000 in
theorem dc_R_bears {p1 : Int32} {p2 : Int32} {p3 : Int32} {σ : mS} {τ : mT} {r : Int64} {σ' : mS} {τ' : mT} (h : R_bears p1 p2 p3 σ τ = some (r, σ', τ')) : mc_V M_X5_bears 5 none 0 (mc_entry [.ref 1, .int p1, .int p2, .int p3] 4) [] (mc_hp σ τ) (some (.long r)) (mc_hp σ' τ') 0 0 := by
  unfold R_bears at h
  show mc_V M_X5_bears 5 none 0 [.ref 1, .int p1, .int p2, .int p3] [] (mc_hp σ τ) (some (.long r)) (mc_hp σ' τ') 0 0
  refine mr_aload_n (pc := 0) dX5_bears_0 rfl ?_
  refine mr_iload_n (pc := 1) dX5_bears_1 rfl ?_
  refine mr_iload_n (pc := 2) dX5_bears_2 rfl ?_
  obtain ⟨r1, σ1, τ1, c1, h⟩ := obs h
  refine mr_callV0 (pc := 3) (ci := 5) [.int p1, .int p2] ok_X5_isSpot lk_19 st_X5_isSpot se_X5_isSpot dX5_bears_3 rfl (ha_1 σ τ) rfl rfl (Nat.le_of_ble_eq_true rfl) (Nat.le_of_ble_eq_true rfl) ((dc_R_isSpot c1).up (by decide)) ?_
  refine mr_if_eq (pc := 6) 18 dX5_bears_6 (by decide) (fun q2 => ?_) (fun q2 => ?_)
  · replace h := (if_pos q2).symm.trans h
    refine mr_ldc2 (pc := 18) kL_X5_149 dX5_bears_18 ?_
    obtain ⟨rfl, rfl, rfl⟩ := os3 h
    exact mr_lret (pc := 21) rfl dX5_bears_21
  · replace h := (if_neg q2).symm.trans h
    refine mr_iload_n (pc := 9) dX5_bears_9 rfl ?_
    refine mr_iconstv (pc := 10) (0 : Int32) dX5_bears_10 (by decide) ?_
    refine mr_iconstv (pc := 11) (3 : Int32) dX5_bears_11 (by decide) ?_
    obtain ⟨r3, σ3, τ3, c3, h⟩ := obs h
    refine mr_callS0 (pc := 12) [.int p3, .int (0 : Int32), .int (3 : Int32)] ok_X5_within lk_1 st_X5_within dX5_bears_12 rfl rfl (Nat.le_of_ble_eq_true rfl) (Nat.le_of_ble_eq_true rfl) ((dc_R_within c3).up (by decide)) ?_
    refine mr_if_ne (pc := 15) 22 dX5_bears_15 (by decide) (fun q4 => ?_) (fun q4 => ?_)
    · replace h := (if_neg q4).symm.trans h
      refine mr_aload_n (pc := 22) dX5_bears_22 rfl ?_
      refine mr_getf (pc := 23) (ci := 5) inX5 rfl 2 (by decide) fl_2 dX5_bears_23 (ha_1 σ3 τ3) rfl ?_
      refine mr_aload_n (pc := 26) dX5_bears_26 rfl ?_
      refine mr_getf (pc := 27) (ci := 5) inX5 rfl 0 (by decide) fl_0 dX5_bears_27 (ha_1 σ3 τ3) rfl ?_
      obtain ⟨σ5, τ5, c5, h⟩ := ovs h
      refine mr_callV0 (pc := 30) (ci := 1) [.ref 2] ok_X1_find lk_12 st_X1_find se_X1_find dX5_bears_30 rfl (ha_6 σ3 τ3) rfl rfl (Nat.le_of_ble_eq_true rfl) (Nat.le_of_ble_eq_true rfl) ((dc_Y_find_2 c5).up (by decide)) ?_
      refine mr_aload_n (pc := 33) dX5_bears_33 rfl ?_
      refine mr_getf (pc := 34) (ci := 5) inX5 rfl 3 (by decide) fl_3 dX5_bears_34 (ha_1 σ5 τ5) rfl ?_
      refine mr_aload_n (pc := 37) dX5_bears_37 rfl ?_
      refine mr_getf (pc := 38) (ci := 5) inX5 rfl 0 (by decide) fl_0 dX5_bears_38 (ha_1 σ5 τ5) rfl ?_
      refine mr_aload_n (pc := 41) dX5_bears_41 rfl ?_
      refine mr_getf (pc := 42) (ci := 5) inX5 rfl 2 (by decide) fl_2 dX5_bears_42 (ha_1 σ5 τ5) rfl ?_
      refine mr_iconstv (pc := 45) (0 : Int32) dX5_bears_45 (by decide) ?_
      obtain ⟨σ6, τ6, c6, h⟩ := ovs h
      refine mr_callV0 (pc := 46) (ci := 0) [.ref 2, .ref 6, .int (0 : Int32)] ok_X0_pose lk_27 st_X0_pose se_X0_pose dX5_bears_46 rfl (ha_15 σ5 τ5) rfl rfl (Nat.le_of_ble_eq_true rfl) (Nat.le_of_ble_eq_true rfl) ((dc_B_pose_2_6 c6).up (by decide)) ?_
      refine mr_aload_n (pc := 49) dX5_bears_49 rfl ?_
      refine mr_aload_n (pc := 50) dX5_bears_50 rfl ?_
      refine mr_getf (pc := 51) (ci := 5) inX5 rfl 3 (by decide) fl_3 dX5_bears_51 (ha_1 σ6 τ6) rfl ?_
      refine mr_iload_n (pc := 54) dX5_bears_54 rfl ?_
      refine mr_iload_n (pc := 55) dX5_bears_55 rfl ?_
      obtain ⟨r7, σ7, τ7, c7, h⟩ := obs h
      refine mr_callV0 (pc := 56) (ci := 0) [.int p1, .int p2] ok_X0_poseLoad lk_29 st_X0_poseLoad se_X0_poseLoad dX5_bears_56 rfl (ha_15 σ6 τ6) rfl rfl (Nat.le_of_ble_eq_true rfl) (Nat.le_of_ble_eq_true rfl) ((dc_B_poseLoad c7).up (by decide)) ?_
      refine mr_iload_n (pc := 59) dX5_bears_59 rfl ?_
      obtain ⟨r8, σ8, τ8, c8, h⟩ := obs h
      refine mr_callV0 (pc := 60) (ci := 5) [.int r7, .int p3] ok_X5_extreme lk_28 st_X5_extreme se_X5_extreme dX5_bears_60 rfl (ha_1 σ7 τ7) rfl rfl (Nat.le_of_ble_eq_true rfl) (Nat.le_of_ble_eq_true rfl) ((dc_R_extreme c8).up (by decide)) ?_
      obtain ⟨rfl, rfl, rfl⟩ := os3 h
      exact mr_lret (pc := 63) rfl dX5_bears_63
    · replace h := (if_pos q4).symm.trans h
      refine mr_ldc2 (pc := 18) kL_X5_149 dX5_bears_18 ?_
      obtain ⟨rfl, rfl, rfl⟩ := os3 h
      exact mr_lret (pc := 21) rfl dX5_bears_21
set_option maxHeartbeats 4000000 in
set_option maxRecDepth 100000 in
theorem dc_Q_bears_b97 : ∀ (x3 : Int32) (σ : mS) (τ : mT) (r : Int64) (σ' : mS) (τ' : mT), Q_bears_b97 x3 σ τ = some (r, σ', τ') → mc_V M_X6_bears 6 none 97 [.ref 34, .retAddr 0, .retAddr 0, .int x3, .retAddr 0] [] (mc_hp σ τ) (some (.long r)) (mc_hp σ' τ') 0 0 := by
  intro x3 σ τ r σ' τ' h
  unfold Q_bears_b97 at h
  refine mr_aload_n (pc := 97) dX6_bears_97 rfl ?_
  refine mr_iload_n (pc := 98) dX6_bears_98 rfl ?_
  obtain ⟨r1, σ1, τ1, c1, h⟩ := obs h
  refine mr_callV0 (pc := 99) (ci := 6) [.int x3] ok_X6_told lk_177 st_X6_told se_X6_told dX6_bears_99 rfl (ha_34 σ τ) rfl rfl (Nat.le_of_ble_eq_true rfl) (Nat.le_of_ble_eq_true rfl) ((dc_Q_told c1).up (by decide)) ?_
  obtain ⟨rfl, rfl, rfl⟩ := os3 h
  exact mr_lret (pc := 102) rfl dX6_bears_102
set_option maxHeartbeats 4000000 in
set_option maxRecDepth 100000 in
theorem dc_Q_bears {p1 : Int32} {p2 : Int32} {p3 : Int32} {σ : mS} {τ : mT} {r : Int64} {σ' : mS} {τ' : mT} (h : Q_bears p1 p2 p3 σ τ = some (r, σ', τ')) : mc_V M_X6_bears 6 none 0 (mc_entry [.ref 34, .int p1, .int p2, .int p3] 5) [] (mc_hp σ τ) (some (.long r)) (mc_hp σ' τ') 0 0 := by
  unfold Q_bears at h
  show mc_V M_X6_bears 6 none 0 [.ref 34, .int p1, .int p2, .int p3, .retAddr 0] [] (mc_hp σ τ) (some (.long r)) (mc_hp σ' τ') 0 0
  refine mr_aload_n (pc := 0) dX6_bears_0 rfl ?_
  refine mr_iload_n (pc := 1) dX6_bears_1 rfl ?_
  refine mr_iload_n (pc := 2) dX6_bears_2 rfl ?_
  obtain ⟨r1, σ1, τ1, c1, h⟩ := obs h
  refine mr_callV0 (pc := 3) (ci := 6) [.int p1, .int p2] ok_X6_isSpot lk_173 st_X6_isSpot se_X6_isSpot dX6_bears_3 rfl (ha_34 σ τ) rfl rfl (Nat.le_of_ble_eq_true rfl) (Nat.le_of_ble_eq_true rfl) ((dc_Q_isSpot c1).up (by decide)) ?_
  refine mr_if_eq (pc := 6) 18 dX6_bears_6 (by decide) (fun q2 => ?_) (fun q2 => ?_)
  · replace h := (if_pos q2).symm.trans h
    refine mr_ldc2 (pc := 18) kL_X6_95 dX6_bears_18 ?_
    obtain ⟨rfl, rfl, rfl⟩ := os3 h
    exact mr_lret (pc := 21) rfl dX6_bears_21
  · replace h := (if_neg q2).symm.trans h
    refine mr_iload_n (pc := 9) dX6_bears_9 rfl ?_
    refine mr_iconstv (pc := 10) (0 : Int32) dX6_bears_10 (by decide) ?_
    refine mr_iconstv (pc := 11) (3 : Int32) dX6_bears_11 (by decide) ?_
    obtain ⟨r3, σ3, τ3, c3, h⟩ := obs h
    refine mr_callS0 (pc := 12) [.int p3, .int (0 : Int32), .int (3 : Int32)] ok_X6_within lk_131 st_X6_within dX6_bears_12 rfl rfl (Nat.le_of_ble_eq_true rfl) (Nat.le_of_ble_eq_true rfl) ((dc_Q_within c3).up (by decide)) ?_
    refine mr_if_ne (pc := 15) 22 dX6_bears_15 (by decide) (fun q4 => ?_) (fun q4 => ?_)
    · replace h := (if_neg q4).symm.trans h
      refine mr_aload_n (pc := 22) dX6_bears_22 rfl ?_
      obtain ⟨σ5, τ5, c5, h⟩ := ovs h
      refine mr_callV0 (pc := 23) (ci := 6) [] ok_X6_layAll lk_152 st_X6_layAll se_X6_layAll dX6_bears_23 rfl (ha_34 σ3 τ3) rfl rfl (Nat.le_of_ble_eq_true rfl) (Nat.le_of_ble_eq_true rfl) ((dc_Q_layAll c5).up (by decide)) ?_
      refine mr_aload_n (pc := 26) dX6_bears_26 rfl ?_
      refine mr_aload_n (pc := 27) dX6_bears_27 rfl ?_
      obtain ⟨r6, σ6, τ6, c6, h⟩ := obs h
      refine mr_callV0 (pc := 28) (ci := 6) [] ok_X6_all lk_155 st_X6_all se_X6_all dX6_bears_28 rfl (ha_34 σ5 τ5) rfl rfl (Nat.le_of_ble_eq_true rfl) (Nat.le_of_ble_eq_true rfl) ((dc_Q_all c6).up (by decide)) ?_
      refine mr_iload_n (pc := 31) dX6_bears_31 rfl ?_
      refine mr_iload_n (pc := 32) dX6_bears_32 rfl ?_
      refine mr_iconstv (pc := 33) (1 : Int32) dX6_bears_33 (by decide) ?_
      obtain ⟨σ7, τ7, c7, h⟩ := ovs h
      refine mr_callV0 (pc := 34) (ci := 6) [.int r6, .int p1, .int p2, .int (1 : Int32)] ok_X6_layRows lk_153 st_X6_layRows se_X6_layRows dX6_bears_34 rfl (ha_34 σ6 τ6) rfl rfl (Nat.le_of_ble_eq_true rfl) (Nat.le_of_ble_eq_true rfl) ((dc_Q_layRows c7).up (by decide)) ?_
      refine mr_aload_n (pc := 37) dX6_bears_37 rfl ?_
      refine mr_bipushv (pc := 38) (-9 : Int32) dX6_bears_38 (by decide) ?_
      obtain ⟨σ8, τ8, c8, h⟩ := ovs h
      refine mr_callV0 (pc := 40) (ci := 6) [.int (-9 : Int32)] ok_X6_seeks lk_154 st_X6_seeks se_X6_seeks dX6_bears_40 rfl (ha_34 σ7 τ7) rfl rfl (Nat.le_of_ble_eq_true rfl) (Nat.le_of_ble_eq_true rfl) ((dc_Q_seeks c8).up (by decide)) ?_
      refine mr_aload_n (pc := 43) dX6_bears_43 rfl ?_
      refine mr_getf (pc := 44) (ci := 6) inX6 rfl 18 (by decide) fl_48 dX6_bears_44 (ha_34 σ8 τ8) rfl ?_
      refine mr_istore (pc := 47) dX6_bears_47 (Nat.le_of_ble_eq_true rfl) (show mc_V M_X6_bears 6 none 49 [.ref 34, .int p1, .int p2, .int p3, .int (σ8 34 18)] [] (mc_hp σ8 τ8) (some (.long r)) (mc_hp σ' τ') 0 0 from ?_)
      refine mr_aload_n (pc := 49) dX6_bears_49 rfl ?_
      refine mr_aload_n (pc := 50) dX6_bears_50 rfl ?_
      obtain ⟨r9, σ9, τ9, c9, h⟩ := obs h
      refine mr_callV0 (pc := 51) (ci := 6) [] ok_X6_all lk_155 st_X6_all se_X6_all dX6_bears_51 rfl (ha_34 σ8 τ8) rfl rfl (Nat.le_of_ble_eq_true rfl) (Nat.le_of_ble_eq_true rfl) ((dc_Q_all c9).up (by decide)) ?_
      refine mr_iload_n (pc := 54) dX6_bears_54 rfl ?_
      refine mr_iload_n (pc := 55) dX6_bears_55 rfl ?_
      refine mr_iconstv (pc := 56) (0 : Int32) dX6_bears_56 (by decide) ?_
      obtain ⟨σ10, τ10, c10, h⟩ := ovs h
      refine mr_callV0 (pc := 57) (ci := 6) [.int r9, .int p1, .int p2, .int (0 : Int32)] ok_X6_layRows lk_153 st_X6_layRows se_X6_layRows dX6_bears_57 rfl (ha_34 σ9 τ9) rfl rfl (Nat.le_of_ble_eq_true rfl) (Nat.le_of_ble_eq_true rfl) ((dc_Q_layRows c10).up (by decide)) ?_
      refine mr_aload_n (pc := 60) dX6_bears_60 rfl ?_
      refine mr_aload_n (pc := 61) dX6_bears_61 rfl ?_
      refine mr_getf (pc := 62) (ci := 6) inX6 rfl 9 (by decide) fl_45 dX6_bears_62 (ha_34 σ10 τ10) rfl ?_
      obtain ⟨σ11, τ11, c11, h⟩ := ovs h
      refine mr_callV0 (pc := 65) (ci := 6) [.int (σ10 34 9)] ok_X6_seeks lk_154 st_X6_seeks se_X6_seeks dX6_bears_65 rfl (ha_34 σ10 τ10) rfl rfl (Nat.le_of_ble_eq_true rfl) (Nat.le_of_ble_eq_true rfl) ((dc_Q_seeks c11).up (by decide)) ?_
      refine mr_aload_n (pc := 68) dX6_bears_68 rfl ?_
      refine mr_getf (pc := 69) (ci := 6) inX6 rfl 18 (by decide) fl_48 dX6_bears_69 (ha_34 σ11 τ11) rfl ?_
      refine mr_if_ne (pc := 72) 81 dX6_bears_72 (by decide) (fun q12 => ?_) (fun q12 => ?_)
      · replace h := (if_neg q12).symm.trans h
        refine mr_iload_n (pc := 81) dX6_bears_81 rfl ?_
        refine mr_iconstv (pc := 82) (1 : Int32) dX6_bears_82 (by decide) ?_
        refine mr_icmp_le (pc := 83) 97 dX6_bears_83 (by decide) (fun q13 => ?_) (fun q13 => ?_)
        · replace h := (if_pos q13).symm.trans h
          exact mc_V.locs (loc' := [.ref 34, .retAddr 0, .retAddr 0, .int p3, .retAddr 0]) ⟨Or.inr rfl, Or.inl rfl, Or.inl rfl, Or.inr rfl, Or.inl rfl, trivial⟩ (dc_Q_bears_b97 p3 σ11 τ11 r σ' τ' h)
        · replace h := (if_neg q13).symm.trans h
          refine mr_iload (pc := 86) dX6_bears_86 rfl ?_
          refine mr_if_eq (pc := 88) 97 dX6_bears_88 (by decide) (fun q14 => ?_) (fun q14 => ?_)
          · replace h := (if_pos q14).symm.trans h
            exact mc_V.locs (loc' := [.ref 34, .retAddr 0, .retAddr 0, .int p3, .retAddr 0]) ⟨Or.inr rfl, Or.inl rfl, Or.inl rfl, Or.inr rfl, Or.inl rfl, trivial⟩ (dc_Q_bears_b97 p3 σ11 τ11 r σ' τ' h)
          · replace h := (if_neg q14).symm.trans h
            refine mr_ldc2 (pc := 91) kL_X6_260 dX6_bears_91 ?_
            refine mr_goto (pc := 94) 102 dX6_bears_94 (by decide) ?_
            obtain ⟨rfl, rfl, rfl⟩ := os3 h
            exact mr_lret (pc := 102) rfl dX6_bears_102
      · replace h := (if_pos q12).symm.trans h
        refine mr_ldc2 (pc := 75) kL_X6_258 dX6_bears_75 ?_
        refine mr_goto (pc := 78) 102 dX6_bears_78 (by decide) ?_
        obtain ⟨rfl, rfl, rfl⟩ := os3 h
        exact mr_lret (pc := 102) rfl dX6_bears_102
    · replace h := (if_pos q4).symm.trans h
      refine mr_ldc2 (pc := 18) kL_X6_95 dX6_bears_18 ?_
      obtain ⟨rfl, rfl, rfl⟩ := os3 h
      exact mr_lret (pc := 21) rfl dX6_bears_21
set_option maxHeartbeats 4000000 in
set_option maxRecDepth 100000 in
theorem dc_P_copy_4_2 {σ : mS} {τ : mT} {σ' : mS} {τ' : mT} (h : P_copy_4_2 σ τ = some (σ', τ')) : mc_V M_X2_copy 1 none 0 (mc_entry [.ref 4, .ref 2] 2) [] (mc_hp σ τ) none (mc_hp σ' τ') 0 0 := by
  unfold P_copy_4_2 at h
  show mc_V M_X2_copy 1 none 0 [.ref 4, .ref 2] [] (mc_hp σ τ) none (mc_hp σ' τ') 0 0
  refine mr_aload_n (pc := 0) dX2_copy_0 rfl ?_
  refine mr_getf (pc := 1) (ci := 2) inX2 rfl 0 (by decide) fl_25 dX2_copy_1 (ha_2 σ τ) rfl ?_
  refine mr_iconstv (pc := 4) (0 : Int32) dX2_copy_4 (by decide) ?_
  refine mr_aload_n (pc := 5) dX2_copy_5 rfl ?_
  refine mr_getf (pc := 6) (ci := 2) inX2 rfl 0 (by decide) fl_25 dX2_copy_6 (ha_4 σ τ) rfl ?_
  refine mr_iconstv (pc := 9) (0 : Int32) dX2_copy_9 (by decide) ?_
  refine mr_bipushv (pc := 10) (21 : Int32) dX2_copy_10 (by decide) ?_
  obtain ⟨σ1, e1, h⟩ := ow h
  refine mr_copy (pc := 12) cp_X2 cp_nat cp_stat cp_ini dX2_copy_12 (ha_3 σ τ) (ha_5 σ τ) (by decide) (by decide) (by decide) (Nat.le_of_ble_eq_true rfl) (Nat.le_of_ble_eq_true rfl) (Nat.le_of_ble_eq_true rfl) (mc_V.heap (hc_5 e1) ?_)
  obtain ⟨rfl, rfl⟩ := os2 h
  exact mr_ret (pc := 15) rfl dX2_copy_15
set_option maxHeartbeats 4000000 in
set_option maxRecDepth 100000 in
theorem dc_Y_find_4_l19 : ∀ (n : Nat), ∀ (x2 : Int32) (σ : mS) (τ : mT) (σ' : mS) (τ' : mT), Y_find_4_l19 n x2 σ τ = some (σ', τ') → mc_V M_X1_find 2 none 19 [.ref 6, .ref 4, .int x2] [] (mc_hp σ τ) none (mc_hp σ' τ') 0 0 := by
  intro n
  induction n with
  | zero =>
    intros
    rename_i h
    cases h
  | succ n ih =>
    intro x2 σ τ σ' τ' h
    refine mr_iload_n (pc := 19) dX1_find_19 rfl ?_
    refine mr_aload_n (pc := 20) dX1_find_20 rfl ?_
    refine mr_getf (pc := 21) (ci := 1) inX1 rfl 8 (by decide) fl_23 dX1_find_21 (ha_6 σ τ) rfl ?_
    refine mr_icmp_ge (pc := 24) 88 dX1_find_24 (by decide) (fun q1 => ?_) (fun q1 => ?_)
    · replace h := (if_pos q1).symm.trans h
      obtain ⟨rfl, rfl⟩ := os2 h
      exact mr_ret (pc := 88) rfl dX1_find_88
    · replace h := (if_neg q1).symm.trans h
      refine mr_aload_n (pc := 27) dX1_find_27 rfl ?_
      refine mr_getf (pc := 28) (ci := 1) inX1 rfl 0 (by decide) fl_15 dX1_find_28 (ha_6 σ τ) rfl ?_
      refine mr_iload_n (pc := 31) dX1_find_31 rfl ?_
      refine mr_aload_n (pc := 32) dX1_find_32 rfl ?_
      refine mr_iload_n (pc := 33) dX1_find_33 rfl ?_
      refine mr_iconstv (pc := 34) (0 : Int32) dX1_find_34 (by decide) ?_
      obtain ⟨r2, σ2, τ2, c2, h⟩ := obs h
      refine mr_callV0 (pc := 35) (ci := 2) [.int x2, .int (0 : Int32)] ok_X2_get lk_63 st_X2_get se_X2_get dX1_find_35 rfl (ha_4 σ τ) rfl rfl (Nat.le_of_ble_eq_true rfl) (Nat.le_of_ble_eq_true rfl) ((dc_P_get_4 c2).up (by decide)) ?_
      obtain ⟨g3, h⟩ := og h
      obtain ⟨σ4, e4, h⟩ := ow h
      refine mr_iast (pc := 38) dX1_find_38 (ha_7 σ2 τ2) (g3) (mc_V.heap (hs_7 e4) ?_)
      refine mr_aload_n (pc := 39) dX1_find_39 rfl ?_
      refine mr_getf (pc := 40) (ci := 1) inX1 rfl 1 (by decide) fl_16 dX1_find_40 (ha_6 σ4 τ2) rfl ?_
      refine mr_iload_n (pc := 43) dX1_find_43 rfl ?_
      refine mr_aload_n (pc := 44) dX1_find_44 rfl ?_
      refine mr_getf (pc := 45) (ci := 1) inX1 rfl 0 (by decide) fl_15 dX1_find_45 (ha_6 σ4 τ2) rfl ?_
      refine mr_iload_n (pc := 48) dX1_find_48 rfl ?_
      refine mr_iald (pc := 49) dX1_find_49 (ha_7 σ4 τ2) (g3) ?_
      refine mr_iconstv (pc := 50) (2 : Int32) dX1_find_50 (by decide) ?_
      refine mr_aload_n (pc := 51) dX1_find_51 rfl ?_
      refine mr_iload_n (pc := 52) dX1_find_52 rfl ?_
      refine mr_iconstv (pc := 53) (1 : Int32) dX1_find_53 (by decide) ?_
      obtain ⟨r5, σ5, τ5, c5, h⟩ := obs h
      refine mr_callV0 (pc := 54) (ci := 2) [.int x2, .int (1 : Int32)] ok_X2_get lk_63 st_X2_get se_X2_get dX1_find_54 rfl (ha_4 σ4 τ2) rfl rfl (Nat.le_of_ble_eq_true rfl) (Nat.le_of_ble_eq_true rfl) ((dc_P_get_4 c5).up (by decide)) ?_
      refine mr_imul (pc := 57) dX1_find_57 ?_
      refine mr_iadd (pc := 58) dX1_find_58 ?_
      obtain ⟨σ6, e6, h⟩ := ow h
      refine mr_iast (pc := 59) dX1_find_59 (ha_8 σ5 τ5) (g3) (mc_V.heap (hs_8 e6) ?_)
      refine mr_aload_n (pc := 60) dX1_find_60 rfl ?_
      refine mr_getf (pc := 61) (ci := 1) inX1 rfl 4 (by decide) fl_19 dX1_find_61 (ha_6 σ6 τ5) rfl ?_
      refine mr_iload_n (pc := 64) dX1_find_64 rfl ?_
      refine mr_iconstv (pc := 65) (0 : Int32) dX1_find_65 (by decide) ?_
      obtain ⟨σ7, e7, h⟩ := ow h
      refine mr_iast (pc := 66) dX1_find_66 (ha_11 σ6 τ5) (g3) (mc_V.heap (hs_11 e7) ?_)
      refine mr_aload_n (pc := 67) dX1_find_67 rfl ?_
      refine mr_iload_n (pc := 68) dX1_find_68 rfl ?_
      obtain ⟨σ8, τ8, c8, h⟩ := ovs h
      refine mr_callV0 (pc := 69) (ci := 1) [.int x2] ok_X1_findLevel lk_64 st_X1_findLevel se_X1_findLevel dX1_find_69 rfl (ha_6 σ7 τ5) rfl rfl (Nat.le_of_ble_eq_true rfl) (Nat.le_of_ble_eq_true rfl) ((dc_Y_findLevel c8).up (by decide)) ?_
      refine mr_aload_n (pc := 72) dX1_find_72 rfl ?_
      refine mr_iload_n (pc := 73) dX1_find_73 rfl ?_
      obtain ⟨σ9, τ9, c9, h⟩ := ovs h
      refine mr_callV0 (pc := 74) (ci := 1) [.int x2] ok_X1_findUnder lk_65 st_X1_findUnder se_X1_findUnder dX1_find_74 rfl (ha_6 σ8 τ8) rfl rfl (Nat.le_of_ble_eq_true rfl) (Nat.le_of_ble_eq_true rfl) ((dc_Y_findUnder c9).up (by decide)) ?_
      refine mr_aload_n (pc := 77) dX1_find_77 rfl ?_
      refine mr_iload_n (pc := 78) dX1_find_78 rfl ?_
      obtain ⟨σ10, τ10, c10, h⟩ := ovs h
      refine mr_callV0 (pc := 79) (ci := 1) [.int x2] ok_X1_findContacts lk_66 st_X1_findContacts se_X1_findContacts dX1_find_79 rfl (ha_6 σ9 τ9) rfl rfl (Nat.le_of_ble_eq_true rfl) (Nat.le_of_ble_eq_true rfl) ((dc_Y_findContacts c10).up (by decide)) ?_
      refine mr_iincv (pc := 82) (1 : Int32) dX1_find_82 rfl (by decide) (show mc_V M_X1_find 2 none 85 [.ref 6, .ref 4, .int (x2 + (1 : Int32))] [] (mc_hp σ10 τ10) none (mc_hp σ' τ') 0 0 from ?_)
      refine mr_goto (pc := 85) 19 dX1_find_85 (by decide) ?_
      exact mc_V.locs (loc' := [.ref 6, .ref 4, .int (x2 + (1 : Int32))]) ⟨Or.inr rfl, Or.inr rfl, Or.inr rfl, trivial⟩ (ih (x2 + (1 : Int32)) σ10 τ10 σ' τ' h)
set_option maxHeartbeats 4000000 in
set_option maxRecDepth 100000 in
theorem dc_Y_find_4 {σ : mS} {τ : mT} {σ' : mS} {τ' : mT} (h : Y_find_4 σ τ = some (σ', τ')) : mc_V M_X1_find 2 none 0 (mc_entry [.ref 6, .ref 4] 3) [] (mc_hp σ τ) none (mc_hp σ' τ') 0 0 := by
  unfold Y_find_4 at h
  show mc_V M_X1_find 2 none 0 [.ref 6, .ref 4, .retAddr 0] [] (mc_hp σ τ) none (mc_hp σ' τ') 0 0
  refine mr_aload_n (pc := 0) dX1_find_0 rfl ?_
  refine mr_aload_n (pc := 1) dX1_find_1 rfl ?_
  obtain ⟨r1, σ1, τ1, c1, h⟩ := obs h
  refine mr_callV0 (pc := 2) (ci := 2) [] ok_X2_size lk_61 st_X2_size se_X2_size dX1_find_2 rfl (ha_4 σ τ) rfl rfl (Nat.le_of_ble_eq_true rfl) (Nat.le_of_ble_eq_true rfl) ((dc_P_size_4 c1).up (by decide)) ?_
  refine mr_iconstv (pc := 5) (4 : Int32) dX1_find_5 (by decide) ?_
  refine mr_mmin (pc := 6) lk_62 dX1_find_6 (Nat.le_of_ble_eq_true rfl) ?_
  obtain ⟨σ2, e2, h⟩ := ow h
  refine mr_putf (pc := 9) (ci := 1) inX1 tyX1 tyX1_ok nmX1 rfl 8 (by decide) fl_23 rfl dX1_find_9 (ha_6 σ1 τ1) (Nat.le_of_ble_eq_true rfl) rfl (mc_V.heap (hs_6_8 e2) ?_)
  refine mr_aload_n (pc := 12) dX1_find_12 rfl ?_
  refine mr_iconstv (pc := 13) (0 : Int32) dX1_find_13 (by decide) ?_
  obtain ⟨σ3, e3, h⟩ := ow h
  refine mr_putf (pc := 14) (ci := 1) inX1 tyX1 tyX1_ok nmX1 rfl 9 (by decide) fl_24 rfl dX1_find_14 (ha_6 σ2 τ1) (Nat.le_of_ble_eq_true rfl) rfl (mc_V.heap (hs_6_9 e3) ?_)
  refine mr_iconstv (pc := 17) (0 : Int32) dX1_find_17 (by decide) ?_
  refine mr_istore_n (pc := 18) dX1_find_18 (Nat.le_of_ble_eq_true rfl) (show mc_V M_X1_find 2 none 19 [.ref 6, .ref 4, .int (0 : Int32)] [] (mc_hp σ3 τ1) none (mc_hp σ' τ') 0 0 from ?_)
  exact mc_V.locs (loc' := [.ref 6, .ref 4, .int (0 : Int32)]) ⟨Or.inr rfl, Or.inr rfl, Or.inr rfl, trivial⟩ (dc_Y_find_4_l19 mc_F (0 : Int32) σ3 τ1 σ' τ' h)
set_option maxHeartbeats 4000000 in
set_option maxRecDepth 100000 in
theorem dc_B_poseBlock_4_6_b93 (k55 : Int32 → Int32 → Int32 → mS → mT → Option (mS × mT)) (hk55 : ∀ (x3 : Int32) (x4 : Int32) (x5 : Int32) (σ : mS) (τ : mT) (σ' : mS) (τ' : mT), k55 x3 x4 x5 σ τ = some (σ', τ') → mc_V M_X0_poseBlock 2 none 55 [.ref 15, .ref 4, .ref 6, .int x3, .int x4, .int x5, .retAddr 0] [] (mc_hp σ τ) none (mc_hp σ' τ') 0 0) : ∀ (x3 : Int32) (x4 : Int32) (x5 : Int32) (s0 : Int32) (σ : mS) (τ : mT) (σ' : mS) (τ' : mT), B_poseBlock_4_6_b93 k55 x3 x4 x5 s0 σ τ = some (σ', τ') → mc_V M_X0_poseBlock 2 none 93 [.ref 15, .ref 4, .ref 6, .int x3, .int x4, .int x5, .retAddr 0] [.int s0] (mc_hp σ τ) none (mc_hp σ' τ') 0 0 := by
  intro x3 x4 x5 s0 σ τ σ' τ' h
  unfold B_poseBlock_4_6_b93 at h
  refine mr_istore (pc := 93) dX0_poseBlock_93 (Nat.le_of_ble_eq_true rfl) (show mc_V M_X0_poseBlock 2 none 95 [.ref 15, .ref 4, .ref 6, .int x3, .int x4, .int x5, .int s0] [] (mc_hp σ τ) none (mc_hp σ' τ') 0 0 from ?_)
  refine mr_aload_n (pc := 95) dX0_poseBlock_95 rfl ?_
  refine mr_getf (pc := 96) (ci := 0) inX0 rfl 0 (by decide) fl_9 dX0_poseBlock_96 (ha_15 σ τ) rfl ?_
  refine mr_iload (pc := 99) dX0_poseBlock_99 rfl ?_
  obtain ⟨g1, h⟩ := og h
  refine mr_aald (pc := 101) dX0_poseBlock_101 (ha_16 σ τ) (g1) (gr_some (g1)) ?_
  refine mr_iload (pc := 102) dX0_poseBlock_102 rfl ?_
  refine mr_iload (pc := 104) dX0_poseBlock_104 rfl ?_
  refine mr_i2l (pc := 106) dX0_poseBlock_106 ?_
  obtain ⟨g2, h⟩ := og h
  obtain ⟨τ3, e3, h⟩ := ow h
  refine mr_gst (pc := 107) dX0_poseBlock_107 (g1) (g2) e3 ?_
  refine mr_aload_n (pc := 108) dX0_poseBlock_108 rfl ?_
  refine mr_getf (pc := 109) (ci := 0) inX0 rfl 0 (by decide) fl_9 dX0_poseBlock_109 (ha_15 σ τ3) rfl ?_
  refine mr_iload (pc := 112) dX0_poseBlock_112 rfl ?_
  refine mr_iconstv (pc := 114) (1 : Int32) dX0_poseBlock_114 (by decide) ?_
  refine mr_iadd (pc := 115) dX0_poseBlock_115 ?_
  obtain ⟨g4, h⟩ := og h
  refine mr_aald (pc := 116) dX0_poseBlock_116 (ha_16 σ τ3) (g4) (gr_some (g4)) ?_
  refine mr_iload (pc := 117) dX0_poseBlock_117 rfl ?_
  refine mr_iload (pc := 119) dX0_poseBlock_119 rfl ?_
  refine mr_aload_n (pc := 121) dX0_poseBlock_121 rfl ?_
  refine mr_iload (pc := 122) dX0_poseBlock_122 rfl ?_
  obtain ⟨r5, σ5, τ5, c5, h⟩ := obs h
  refine mr_callV0 (pc := 124) (ci := 1) [.int x5] ok_X1_x lk_47 st_X1_x se_X1_x dX0_poseBlock_124 rfl (ha_6 σ τ3) rfl rfl (Nat.le_of_ble_eq_true rfl) (Nat.le_of_ble_eq_true rfl) ((dc_Y_x c5).up (by decide)) ?_
  refine mr_aload_n (pc := 127) dX0_poseBlock_127 rfl ?_
  refine mr_iload_n (pc := 128) dX0_poseBlock_128 rfl ?_
  refine mr_iconstv (pc := 129) (0 : Int32) dX0_poseBlock_129 (by decide) ?_
  obtain ⟨r6, σ6, τ6, c6, h⟩ := obs h
  refine mr_callV0 (pc := 130) (ci := 2) [.int x3, .int (0 : Int32)] ok_X2_get lk_48 st_X2_get se_X2_get dX0_poseBlock_130 rfl (ha_4 σ5 τ5) rfl rfl (Nat.le_of_ble_eq_true rfl) (Nat.le_of_ble_eq_true rfl) ((dc_P_get_4 c6).up (by decide)) ?_
  refine mr_isub (pc := 133) dX0_poseBlock_133 ?_
  refine mr_imul (pc := 134) dX0_poseBlock_134 ?_
  refine mr_i2l (pc := 135) dX0_poseBlock_135 ?_
  obtain ⟨τ7, e7, h⟩ := ow h
  refine mr_gst (pc := 136) dX0_poseBlock_136 (g4) (g2) e7 ?_
  refine mr_iincv (pc := 137) (1 : Int32) dX0_poseBlock_137 rfl (by decide) (show mc_V M_X0_poseBlock 2 none 140 [.ref 15, .ref 4, .ref 6, .int x3, .int x4, .int (x5 + (1 : Int32)), .int s0] [] (mc_hp σ6 τ7) none (mc_hp σ' τ') 0 0 from ?_)
  refine mr_goto (pc := 140) 55 dX0_poseBlock_140 (by decide) ?_
  exact mc_V.locs (loc' := [.ref 15, .ref 4, .ref 6, .int x3, .int x4, .int (x5 + (1 : Int32)), .retAddr 0]) ⟨Or.inr rfl, Or.inr rfl, Or.inr rfl, Or.inr rfl, Or.inr rfl, Or.inr rfl, Or.inl rfl, trivial⟩ (hk55 x3 x4 (x5 + (1 : Int32)) σ6 τ7 σ' τ' h)
set_option maxHeartbeats 4000000 in
set_option maxRecDepth 100000 in
theorem dc_B_poseBlock_4_6_l55 : ∀ (n : Nat), ∀ (x3 : Int32) (x4 : Int32) (x5 : Int32) (σ : mS) (τ : mT) (σ' : mS) (τ' : mT), B_poseBlock_4_6_l55 n x3 x4 x5 σ τ = some (σ', τ') → mc_V M_X0_poseBlock 2 none 55 [.ref 15, .ref 4, .ref 6, .int x3, .int x4, .int x5, .retAddr 0] [] (mc_hp σ τ) none (mc_hp σ' τ') 0 0 := by
  intro n
  induction n with
  | zero =>
    intros
    rename_i h
    cases h
  | succ n ih =>
    intro x3 x4 x5 σ τ σ' τ' h
    refine mr_iload (pc := 55) dX0_poseBlock_55 rfl ?_
    refine mr_aload_n (pc := 57) dX0_poseBlock_57 rfl ?_
    refine mr_getf (pc := 58) (ci := 0) inX0 rfl 4 (by decide) fl_13 dX0_poseBlock_58 (ha_15 σ τ) rfl ?_
    refine mr_icmp_ge (pc := 61) 143 dX0_poseBlock_61 (by decide) (fun q1 => ?_) (fun q1 => ?_)
    · replace h := (if_pos q1).symm.trans h
      refine mr_aload_n (pc := 143) dX0_poseBlock_143 rfl ?_
      refine mr_iload_n (pc := 144) dX0_poseBlock_144 rfl ?_
      refine mr_iconstv (pc := 145) (2 : Int32) dX0_poseBlock_145 (by decide) ?_
      obtain ⟨r2, σ2, τ2, c2, h⟩ := obs h
      refine mr_callV0 (pc := 146) (ci := 2) [.int x3, .int (2 : Int32)] ok_X2_get lk_48 st_X2_get se_X2_get dX0_poseBlock_146 rfl (ha_4 σ τ) rfl rfl (Nat.le_of_ble_eq_true rfl) (Nat.le_of_ble_eq_true rfl) ((dc_P_get_4 c2).up (by decide)) ?_
      refine mr_istore (pc := 149) dX0_poseBlock_149 (Nat.le_of_ble_eq_true rfl) (show mc_V M_X0_poseBlock 2 none 151 [.ref 15, .ref 4, .ref 6, .int x3, .int x4, .int r2, .retAddr 0] [] (mc_hp σ2 τ2) none (mc_hp σ' τ') 0 0 from ?_)
      refine mr_aload_n (pc := 151) dX0_poseBlock_151 rfl ?_
      refine mr_iload_n (pc := 152) dX0_poseBlock_152 rfl ?_
      refine mr_iconstv (pc := 153) (3 : Int32) dX0_poseBlock_153 (by decide) ?_
      obtain ⟨r3, σ3, τ3, c3, h⟩ := obs h
      refine mr_callV0 (pc := 154) (ci := 2) [.int x3, .int (3 : Int32)] ok_X2_get lk_48 st_X2_get se_X2_get dX0_poseBlock_154 rfl (ha_4 σ2 τ2) rfl rfl (Nat.le_of_ble_eq_true rfl) (Nat.le_of_ble_eq_true rfl) ((dc_P_get_4 c3).up (by decide)) ?_
      refine mr_istore (pc := 157) dX0_poseBlock_157 (Nat.le_of_ble_eq_true rfl) (show mc_V M_X0_poseBlock 2 none 159 [.ref 15, .ref 4, .ref 6, .int x3, .int x4, .int r2, .int r3] [] (mc_hp σ3 τ3) none (mc_hp σ' τ') 0 0 from ?_)
      refine mr_aload_n (pc := 159) dX0_poseBlock_159 rfl ?_
      refine mr_getf (pc := 160) (ci := 0) inX0 rfl 0 (by decide) fl_9 dX0_poseBlock_160 (ha_15 σ3 τ3) rfl ?_
      refine mr_iload (pc := 163) dX0_poseBlock_163 rfl ?_
      obtain ⟨g4, h⟩ := og h
      refine mr_aald (pc := 165) dX0_poseBlock_165 (ha_16 σ3 τ3) (g4) (gr_some (g4)) ?_
      refine mr_bipushv (pc := 166) (13 : Int32) dX0_poseBlock_166 (by decide) ?_
      refine mr_iload (pc := 168) dX0_poseBlock_168 rfl ?_
      refine mr_iload (pc := 170) dX0_poseBlock_170 rfl ?_
      refine mr_iadd (pc := 172) dX0_poseBlock_172 ?_
      refine mr_i2l (pc := 173) dX0_poseBlock_173 ?_
      obtain ⟨τ5, e5, h⟩ := ow h
      refine mr_gst (pc := 174) dX0_poseBlock_174 (g4) (vin_ok rfl) e5 ?_
      refine mr_aload_n (pc := 175) dX0_poseBlock_175 rfl ?_
      refine mr_getf (pc := 176) (ci := 0) inX0 rfl 0 (by decide) fl_9 dX0_poseBlock_176 (ha_15 σ3 τ5) rfl ?_
      refine mr_iload (pc := 179) dX0_poseBlock_179 rfl ?_
      refine mr_iconstv (pc := 181) (1 : Int32) dX0_poseBlock_181 (by decide) ?_
      refine mr_iadd (pc := 182) dX0_poseBlock_182 ?_
      obtain ⟨g6, h⟩ := og h
      refine mr_aald (pc := 183) dX0_poseBlock_183 (ha_16 σ3 τ5) (g6) (gr_some (g6)) ?_
      refine mr_bipushv (pc := 184) (13 : Int32) dX0_poseBlock_184 (by decide) ?_
      refine mr_iload (pc := 186) dX0_poseBlock_186 rfl ?_
      refine mr_aload_n (pc := 188) dX0_poseBlock_188 rfl ?_
      refine mr_iload_n (pc := 189) dX0_poseBlock_189 rfl ?_
      refine mr_iconstv (pc := 190) (1 : Int32) dX0_poseBlock_190 (by decide) ?_
      obtain ⟨r7, σ7, τ7, c7, h⟩ := obs h
      refine mr_callV0 (pc := 191) (ci := 2) [.int x3, .int (1 : Int32)] ok_X2_get lk_48 st_X2_get se_X2_get dX0_poseBlock_191 rfl (ha_4 σ3 τ5) rfl rfl (Nat.le_of_ble_eq_true rfl) (Nat.le_of_ble_eq_true rfl) ((dc_P_get_4 c7).up (by decide)) ?_
      refine mr_imul (pc := 194) dX0_poseBlock_194 ?_
      refine mr_iload (pc := 195) dX0_poseBlock_195 rfl ?_
      refine mr_aload_n (pc := 197) dX0_poseBlock_197 rfl ?_
      refine mr_iload_n (pc := 198) dX0_poseBlock_198 rfl ?_
      refine mr_iconstv (pc := 199) (4 : Int32) dX0_poseBlock_199 (by decide) ?_
      obtain ⟨r8, σ8, τ8, c8, h⟩ := obs h
      refine mr_callV0 (pc := 200) (ci := 2) [.int x3, .int (4 : Int32)] ok_X2_get lk_48 st_X2_get se_X2_get dX0_poseBlock_200 rfl (ha_4 σ7 τ7) rfl rfl (Nat.le_of_ble_eq_true rfl) (Nat.le_of_ble_eq_true rfl) ((dc_P_get_4 c8).up (by decide)) ?_
      refine mr_imul (pc := 203) dX0_poseBlock_203 ?_
      refine mr_iadd (pc := 204) dX0_poseBlock_204 ?_
      refine mr_i2l (pc := 205) dX0_poseBlock_205 ?_
      obtain ⟨τ9, e9, h⟩ := ow h
      refine mr_gst (pc := 206) dX0_poseBlock_206 (g6) (vin_ok rfl) e9 ?_
      obtain ⟨rfl, rfl⟩ := os2 h
      exact mr_ret (pc := 207) rfl dX0_poseBlock_207
    · replace h := (if_neg q1).symm.trans h
      refine mr_aload_n (pc := 64) dX0_poseBlock_64 rfl ?_
      refine mr_iload (pc := 65) dX0_poseBlock_65 rfl ?_
      obtain ⟨r10, σ10, τ10, c10, h⟩ := obs h
      refine mr_callV0 (pc := 67) (ci := 1) [.int x5] ok_X1_upper lk_45 st_X1_upper se_X1_upper dX0_poseBlock_67 rfl (ha_6 σ τ) rfl rfl (Nat.le_of_ble_eq_true rfl) (Nat.le_of_ble_eq_true rfl) ((dc_Y_upper c10).up (by decide)) ?_
      refine mr_iload_n (pc := 70) dX0_poseBlock_70 rfl ?_
      refine mr_icmp_ne (pc := 71) 78 dX0_poseBlock_71 (by decide) (fun q11 => ?_) (fun q11 => ?_)
      · replace h := (if_neg q11).symm.trans h
        refine mr_aload_n (pc := 78) dX0_poseBlock_78 rfl ?_
        refine mr_iload (pc := 79) dX0_poseBlock_79 rfl ?_
        obtain ⟨r12, σ12, τ12, c12, h⟩ := obs h
        refine mr_callV0 (pc := 81) (ci := 1) [.int x5] ok_X1_lower lk_46 st_X1_lower se_X1_lower dX0_poseBlock_81 rfl (ha_6 σ10 τ10) rfl rfl (Nat.le_of_ble_eq_true rfl) (Nat.le_of_ble_eq_true rfl) ((dc_Y_lower c12).up (by decide)) ?_
        refine mr_iload_n (pc := 84) dX0_poseBlock_84 rfl ?_
        refine mr_icmp_ne (pc := 85) 92 dX0_poseBlock_85 (by decide) (fun q13 => ?_) (fun q13 => ?_)
        · replace h := (if_neg q13).symm.trans h
          refine mr_iconstv (pc := 92) (0 : Int32) dX0_poseBlock_92 (by decide) ?_
          exact mc_V.locs (loc' := [.ref 15, .ref 4, .ref 6, .int x3, .int x4, .int x5, .retAddr 0]) ⟨Or.inr rfl, Or.inr rfl, Or.inr rfl, Or.inr rfl, Or.inr rfl, Or.inr rfl, Or.inl rfl, trivial⟩ (dc_B_poseBlock_4_6_b93 (B_poseBlock_4_6_l55 n) ih x3 x4 x5 (0 : Int32) σ12 τ12 σ' τ' h)
        · replace h := (if_pos q13).symm.trans h
          refine mr_iconstv (pc := 88) (-1 : Int32) dX0_poseBlock_88 (by decide) ?_
          refine mr_goto (pc := 89) 93 dX0_poseBlock_89 (by decide) ?_
          exact mc_V.locs (loc' := [.ref 15, .ref 4, .ref 6, .int x3, .int x4, .int x5, .retAddr 0]) ⟨Or.inr rfl, Or.inr rfl, Or.inr rfl, Or.inr rfl, Or.inr rfl, Or.inr rfl, Or.inl rfl, trivial⟩ (dc_B_poseBlock_4_6_b93 (B_poseBlock_4_6_l55 n) ih x3 x4 x5 (-1 : Int32) σ12 τ12 σ' τ' h)
      · replace h := (if_pos q11).symm.trans h
        refine mr_iconstv (pc := 74) (1 : Int32) dX0_poseBlock_74 (by decide) ?_
        refine mr_goto (pc := 75) 93 dX0_poseBlock_75 (by decide) ?_
        exact mc_V.locs (loc' := [.ref 15, .ref 4, .ref 6, .int x3, .int x4, .int x5, .retAddr 0]) ⟨Or.inr rfl, Or.inr rfl, Or.inr rfl, Or.inr rfl, Or.inr rfl, Or.inr rfl, Or.inl rfl, trivial⟩ (dc_B_poseBlock_4_6_b93 (B_poseBlock_4_6_l55 n) ih x3 x4 x5 (1 : Int32) σ10 τ10 σ' τ' h)
set_option maxHeartbeats 4000000 in
set_option maxRecDepth 100000 in
theorem dc_B_poseBlock_4_6 {p3 : Int32} {σ : mS} {τ : mT} {σ' : mS} {τ' : mT} (h : B_poseBlock_4_6 p3 σ τ = some (σ', τ')) : mc_V M_X0_poseBlock 2 none 0 (mc_entry [.ref 15, .ref 4, .ref 6, .int p3] 7) [] (mc_hp σ τ) none (mc_hp σ' τ') 0 0 := by
  unfold B_poseBlock_4_6 at h
  show mc_V M_X0_poseBlock 2 none 0 [.ref 15, .ref 4, .ref 6, .int p3, .retAddr 0, .retAddr 0, .retAddr 0] [] (mc_hp σ τ) none (mc_hp σ' τ') 0 0
  refine mr_aload_n (pc := 0) dX0_poseBlock_0 rfl ?_
  refine mr_getf (pc := 1) (ci := 0) inX0 rfl 3 (by decide) fl_12 dX0_poseBlock_1 (ha_15 σ τ) rfl ?_
  refine mr_istore (pc := 4) dX0_poseBlock_4 (Nat.le_of_ble_eq_true rfl) (show mc_V M_X0_poseBlock 2 none 6 [.ref 15, .ref 4, .ref 6, .int p3, .int (σ 15 3), .retAddr 0, .retAddr 0] [] (mc_hp σ τ) none (mc_hp σ' τ') 0 0 from ?_)
  refine mr_aload_n (pc := 6) dX0_poseBlock_6 rfl ?_
  refine mr_dup (pc := 7) dX0_poseBlock_7 rfl ?_
  refine mr_getf (pc := 8) (ci := 0) inX0 rfl 3 (by decide) fl_12 dX0_poseBlock_8 (ha_15 σ τ) rfl ?_
  refine mr_iconstv (pc := 11) (2 : Int32) dX0_poseBlock_11 (by decide) ?_
  refine mr_iadd (pc := 12) dX0_poseBlock_12 ?_
  obtain ⟨σ1, e1, h⟩ := ow h
  refine mr_putf (pc := 13) (ci := 0) inX0 tyX0 tyX0_ok nmX0 rfl 3 (by decide) fl_12 rfl dX0_poseBlock_13 (ha_15 σ τ) (Nat.le_of_ble_eq_true rfl) rfl (mc_V.heap (hs_15_3 e1) ?_)
  refine mr_aload_n (pc := 16) dX0_poseBlock_16 rfl ?_
  refine mr_getf (pc := 17) (ci := 0) inX0 rfl 2 (by decide) fl_11 dX0_poseBlock_17 (ha_15 σ1 τ) rfl ?_
  refine mr_iload_n (pc := 20) dX0_poseBlock_20 rfl ?_
  refine mr_iload (pc := 21) dX0_poseBlock_21 rfl ?_
  obtain ⟨g2, h⟩ := og h
  obtain ⟨σ3, e3, h⟩ := ow h
  refine mr_iast (pc := 23) dX0_poseBlock_23 (ha_26 σ1 τ) (g2) (mc_V.heap (hs_26 e3) ?_)
  refine mr_aload_n (pc := 24) dX0_poseBlock_24 rfl ?_
  refine mr_getf (pc := 25) (ci := 0) inX0 rfl 1 (by decide) fl_10 dX0_poseBlock_25 (ha_15 σ3 τ) rfl ?_
  refine mr_iload (pc := 28) dX0_poseBlock_28 rfl ?_
  refine mr_bipushv (pc := 30) (13 : Int32) dX0_poseBlock_30 (by decide) ?_
  refine mr_iload (pc := 32) dX0_poseBlock_32 rfl ?_
  refine mr_iadd (pc := 34) dX0_poseBlock_34 ?_
  obtain ⟨g4, h⟩ := og h
  obtain ⟨σ5, e5, h⟩ := ow h
  refine mr_iast (pc := 35) dX0_poseBlock_35 (ha_25 σ3 τ) (g4) (mc_V.heap (hs_25 e5) ?_)
  refine mr_aload_n (pc := 36) dX0_poseBlock_36 rfl ?_
  refine mr_getf (pc := 37) (ci := 0) inX0 rfl 1 (by decide) fl_10 dX0_poseBlock_37 (ha_15 σ5 τ) rfl ?_
  refine mr_iload (pc := 40) dX0_poseBlock_40 rfl ?_
  refine mr_iconstv (pc := 42) (1 : Int32) dX0_poseBlock_42 (by decide) ?_
  refine mr_iadd (pc := 43) dX0_poseBlock_43 ?_
  refine mr_bipushv (pc := 44) (13 : Int32) dX0_poseBlock_44 (by decide) ?_
  refine mr_iload (pc := 46) dX0_poseBlock_46 rfl ?_
  refine mr_iadd (pc := 48) dX0_poseBlock_48 ?_
  refine mr_iconstv (pc := 49) (1 : Int32) dX0_poseBlock_49 (by decide) ?_
  refine mr_iadd (pc := 50) dX0_poseBlock_50 ?_
  obtain ⟨g6, h⟩ := og h
  obtain ⟨σ7, e7, h⟩ := ow h
  refine mr_iast (pc := 51) dX0_poseBlock_51 (ha_25 σ5 τ) (g6) (mc_V.heap (hs_25 e7) ?_)
  refine mr_iconstv (pc := 52) (0 : Int32) dX0_poseBlock_52 (by decide) ?_
  refine mr_istore (pc := 53) dX0_poseBlock_53 (Nat.le_of_ble_eq_true rfl) (show mc_V M_X0_poseBlock 2 none 55 [.ref 15, .ref 4, .ref 6, .int p3, .int (σ 15 3), .int (0 : Int32), .retAddr 0] [] (mc_hp σ7 τ) none (mc_hp σ' τ') 0 0 from ?_)
  exact mc_V.locs (loc' := [.ref 15, .ref 4, .ref 6, .int p3, .int (σ 15 3), .int (0 : Int32), .retAddr 0]) ⟨Or.inr rfl, Or.inr rfl, Or.inr rfl, Or.inr rfl, Or.inr rfl, Or.inr rfl, Or.inl rfl, trivial⟩ (dc_B_poseBlock_4_6_l55 mc_F p3 (σ 15 3) (0 : Int32) σ7 τ σ' τ' h)
set_option maxHeartbeats 4000000 in
set_option maxRecDepth 100000 in
theorem dc_B_pose_4_6_l26 : ∀ (n : Nat), ∀ (x3 : Int32) (x4 : Int32) (σ : mS) (τ : mT) (σ' : mS) (τ' : mT), B_pose_4_6_l26 n x3 x4 σ τ = some (σ', τ') → mc_V M_X0_pose 3 none 26 [.ref 15, .ref 4, .ref 6, .int x3, .int x4] [] (mc_hp σ τ) none (mc_hp σ' τ') 0 0 := by
  intro n
  induction n with
  | zero =>
    intros
    rename_i h
    cases h
  | succ n ih =>
    intro x3 x4 σ τ σ' τ' h
    refine mr_iload (pc := 26) dX0_pose_26 rfl ?_
    refine mr_aload_n (pc := 28) dX0_pose_28 rfl ?_
    obtain ⟨r1, σ1, τ1, c1, h⟩ := obs h
    refine mr_callV0 (pc := 29) (ci := 2) [] ok_X2_size lk_43 st_X2_size se_X2_size dX0_pose_29 rfl (ha_4 σ τ) rfl rfl (Nat.le_of_ble_eq_true rfl) (Nat.le_of_ble_eq_true rfl) ((dc_P_size_4 c1).up (by decide)) ?_
    refine mr_icmp_ge (pc := 32) 83 dX0_pose_32 (by decide) (fun q2 => ?_) (fun q2 => ?_)
    · replace h := (if_pos q2).symm.trans h
      obtain ⟨rfl, rfl⟩ := os2 h
      exact mr_ret (pc := 83) rfl dX0_pose_83
    · replace h := (if_neg q2).symm.trans h
      refine mr_iload (pc := 35) dX0_pose_35 rfl ?_
      refine mr_iconstv (pc := 37) (4 : Int32) dX0_pose_37 (by decide) ?_
      refine mr_icmp_ge (pc := 38) 83 dX0_pose_38 (by decide) (fun q3 => ?_) (fun q3 => ?_)
      · replace h := (if_pos q3).symm.trans h
        obtain ⟨rfl, rfl⟩ := os2 h
        exact mr_ret (pc := 83) rfl dX0_pose_83
      · replace h := (if_neg q3).symm.trans h
        refine mr_aload_n (pc := 41) dX0_pose_41 rfl ?_
        refine mr_getf (pc := 42) (ci := 0) inX0 rfl 2 (by decide) fl_11 dX0_pose_42 (ha_15 σ1 τ1) rfl ?_
        refine mr_iload (pc := 45) dX0_pose_45 rfl ?_
        refine mr_iconstv (pc := 47) (-1 : Int32) dX0_pose_47 (by decide) ?_
        obtain ⟨g4, h⟩ := og h
        obtain ⟨σ5, e5, h⟩ := ow h
        refine mr_iast (pc := 48) dX0_pose_48 (ha_26 σ1 τ1) (g4) (mc_V.heap (hs_26 e5) ?_)
        refine mr_iload_n (pc := 49) dX0_pose_49 rfl ?_
        refine mr_iload (pc := 50) dX0_pose_50 rfl ?_
        refine mr_ishr (pc := 52) dX0_pose_52 ?_
        refine mr_iconstv (pc := 53) (1 : Int32) dX0_pose_53 (by decide) ?_
        refine mr_iand (pc := 54) dX0_pose_54 ?_
        refine mr_if_ne (pc := 55) 77 dX0_pose_55 (by decide) (fun q6 => ?_) (fun q6 => ?_)
        · replace h := (if_neg q6).symm.trans h
          refine mr_iincv (pc := 77) (1 : Int32) dX0_pose_77 rfl (by decide) (show mc_V M_X0_pose 3 none 80 [.ref 15, .ref 4, .ref 6, .int x3, .int (x4 + (1 : Int32))] [] (mc_hp σ5 τ1) none (mc_hp σ' τ') 0 0 from ?_)
          refine mr_goto (pc := 80) 26 dX0_pose_80 (by decide) ?_
          exact mc_V.locs (loc' := [.ref 15, .ref 4, .ref 6, .int x3, .int (x4 + (1 : Int32))]) ⟨Or.inr rfl, Or.inr rfl, Or.inr rfl, Or.inr rfl, Or.inr rfl, trivial⟩ (ih x3 (x4 + (1 : Int32)) σ5 τ1 σ' τ' h)
        · replace h := (if_pos q6).symm.trans h
          refine mr_aload_n (pc := 58) dX0_pose_58 rfl ?_
          refine mr_getf (pc := 59) (ci := 0) inX0 rfl 3 (by decide) fl_12 dX0_pose_59 (ha_15 σ5 τ1) rfl ?_
          refine mr_iconstv (pc := 62) (2 : Int32) dX0_pose_62 (by decide) ?_
          refine mr_iadd (pc := 63) dX0_pose_63 ?_
          refine mr_bipushv (pc := 64) (8 : Int32) dX0_pose_64 (by decide) ?_
          refine mr_icmp_gt (pc := 66) 77 dX0_pose_66 (by decide) (fun q7 => ?_) (fun q7 => ?_)
          · replace h := (if_pos q7).symm.trans h
            refine mr_iincv (pc := 77) (1 : Int32) dX0_pose_77 rfl (by decide) (show mc_V M_X0_pose 3 none 80 [.ref 15, .ref 4, .ref 6, .int x3, .int (x4 + (1 : Int32))] [] (mc_hp σ5 τ1) none (mc_hp σ' τ') 0 0 from ?_)
            refine mr_goto (pc := 80) 26 dX0_pose_80 (by decide) ?_
            exact mc_V.locs (loc' := [.ref 15, .ref 4, .ref 6, .int x3, .int (x4 + (1 : Int32))]) ⟨Or.inr rfl, Or.inr rfl, Or.inr rfl, Or.inr rfl, Or.inr rfl, trivial⟩ (ih x3 (x4 + (1 : Int32)) σ5 τ1 σ' τ' h)
          · replace h := (if_neg q7).symm.trans h
            refine mr_aload_n (pc := 69) dX0_pose_69 rfl ?_
            refine mr_aload_n (pc := 70) dX0_pose_70 rfl ?_
            refine mr_aload_n (pc := 71) dX0_pose_71 rfl ?_
            refine mr_iload (pc := 72) dX0_pose_72 rfl ?_
            obtain ⟨σ8, τ8, c8, h⟩ := ovs h
            refine mr_callV0 (pc := 74) (ci := 0) [.ref 4, .ref 6, .int x4] ok_X0_poseBlock lk_44 st_X0_poseBlock se_X0_poseBlock dX0_pose_74 rfl (ha_15 σ5 τ1) rfl rfl (Nat.le_of_ble_eq_true rfl) (Nat.le_of_ble_eq_true rfl) ((dc_B_poseBlock_4_6 c8).up (by decide)) ?_
            refine mr_iincv (pc := 77) (1 : Int32) dX0_pose_77 rfl (by decide) (show mc_V M_X0_pose 3 none 80 [.ref 15, .ref 4, .ref 6, .int x3, .int (x4 + (1 : Int32))] [] (mc_hp σ8 τ8) none (mc_hp σ' τ') 0 0 from ?_)
            refine mr_goto (pc := 80) 26 dX0_pose_80 (by decide) ?_
            exact mc_V.locs (loc' := [.ref 15, .ref 4, .ref 6, .int x3, .int (x4 + (1 : Int32))]) ⟨Or.inr rfl, Or.inr rfl, Or.inr rfl, Or.inr rfl, Or.inr rfl, trivial⟩ (ih x3 (x4 + (1 : Int32)) σ8 τ8 σ' τ' h)
set_option maxHeartbeats 4000000 in
set_option maxRecDepth 100000 in
theorem dc_B_pose_4_6 {p3 : Int32} {σ : mS} {τ : mT} {σ' : mS} {τ' : mT} (h : B_pose_4_6 p3 σ τ = some (σ', τ')) : mc_V M_X0_pose 3 none 0 (mc_entry [.ref 15, .ref 4, .ref 6, .int p3] 5) [] (mc_hp σ τ) none (mc_hp σ' τ') 0 0 := by
  unfold B_pose_4_6 at h
  show mc_V M_X0_pose 3 none 0 [.ref 15, .ref 4, .ref 6, .int p3, .retAddr 0] [] (mc_hp σ τ) none (mc_hp σ' τ') 0 0
  refine mr_aload_n (pc := 0) dX0_pose_0 rfl ?_
  refine mr_iconstv (pc := 1) (0 : Int32) dX0_pose_1 (by decide) ?_
  obtain ⟨σ1, e1, h⟩ := ow h
  refine mr_putf (pc := 2) (ci := 0) inX0 tyX0 tyX0_ok nmX0 rfl 3 (by decide) fl_12 rfl dX0_pose_2 (ha_15 σ τ) (Nat.le_of_ble_eq_true rfl) rfl (mc_V.heap (hs_15_3 e1) ?_)
  refine mr_aload_n (pc := 5) dX0_pose_5 rfl ?_
  refine mr_aload_n (pc := 6) dX0_pose_6 rfl ?_
  obtain ⟨r2, σ2, τ2, c2, h⟩ := obs h
  refine mr_callV0 (pc := 7) (ci := 1) [] ok_X1_contacts lk_41 st_X1_contacts se_X1_contacts dX0_pose_7 rfl (ha_6 σ1 τ) rfl rfl (Nat.le_of_ble_eq_true rfl) (Nat.le_of_ble_eq_true rfl) ((dc_Y_contacts c2).up (by decide)) ?_
  refine mr_bipushv (pc := 10) (12 : Int32) dX0_pose_10 (by decide) ?_
  refine mr_mmin (pc := 12) lk_42 dX0_pose_12 (Nat.le_of_ble_eq_true rfl) ?_
  obtain ⟨σ3, e3, h⟩ := ow h
  refine mr_putf (pc := 15) (ci := 0) inX0 tyX0 tyX0_ok nmX0 rfl 4 (by decide) fl_13 rfl dX0_pose_15 (ha_15 σ2 τ2) (Nat.le_of_ble_eq_true rfl) rfl (mc_V.heap (hs_15_4 e3) ?_)
  refine mr_aload_n (pc := 18) dX0_pose_18 rfl ?_
  refine mr_lconstv (pc := 19) (1 : Int64) dX0_pose_19 (by decide) ?_
  obtain ⟨τ4, e4, h⟩ := ow h
  refine mr_putf (pc := 20) (ci := 0) inX0 tyX0 tyX0_ok nmX0 rfl 5 (by decide) fl_14 rfl dX0_pose_20 (ha_15 σ3 τ2) (Nat.le_of_ble_eq_true rfl) rfl (mc_V.heap (hs_15_5 e4) ?_)
  refine mr_iconstv (pc := 23) (0 : Int32) dX0_pose_23 (by decide) ?_
  refine mr_istore (pc := 24) dX0_pose_24 (Nat.le_of_ble_eq_true rfl) (show mc_V M_X0_pose 3 none 26 [.ref 15, .ref 4, .ref 6, .int p3, .int (0 : Int32)] [] (mc_hp σ3 τ4) none (mc_hp σ' τ') 0 0 from ?_)
  exact mc_V.locs (loc' := [.ref 15, .ref 4, .ref 6, .int p3, .int (0 : Int32)]) ⟨Or.inr rfl, Or.inr rfl, Or.inr rfl, Or.inr rfl, Or.inr rfl, trivial⟩ (dc_B_pose_4_6_l26 mc_F p3 (0 : Int32) σ3 τ4 σ' τ' h)
