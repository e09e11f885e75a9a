def R_within (p0 : Int32) (p1 : Int32) (p2 : Int32) (σ : mS) (τ : mT) : Option (Int32 × mS × mT) :=
  if p0 < p1 then (some ((0 : Int32), σ, τ)) else (if p2 < p0 then (some ((0 : Int32), σ, τ)) else (some ((1 : Int32), σ, τ)))
def T_append (p1 : Int32) (σ : mS) (τ : mT) : Option (Int32 × mS × mT) :=
  if (σ 27 1) < (120 : Int32) then (if (σ 27 1) < 0 ∨ 120 ≤ (σ 27 1).toNatClampNeg then none else mw (u2 σ 28 (σ 27 1).toNatClampNeg (vp_nar .short (p1.toInt16.toInt32))) fun σ3 => mw (u2 σ3 27 1 ((σ3 27 1) + (1 : Int32))) fun σ4 => some ((1 : Int32), σ4, τ)) else (some ((0 : Int32), σ, τ))
def T_length (σ : mS) (τ : mT) : Option (Int32 × mS × mT) :=
  some (σ 27 1, σ, τ)
def R_type (p1 : Int32) (σ : mS) (τ : mT) : Option (Int32 × mS × mT) :=
  ob (R_within p1 (0 : Int32) (255 : Int32) σ τ) fun r1 σ1 τ1 => if r1 = 0 then (some ((-1 : Int32), σ1, τ1)) else (ob (T_append p1 σ1 τ1) fun r3 σ3 τ3 => if r3 = 0 then (some ((-3 : Int32), σ3, τ3)) else (ob (T_length σ3 τ3) fun r5 σ5 τ5 => some (r5, σ5, τ5)))
def Q_within (p0 : Int32) (p1 : Int32) (p2 : Int32) (σ : mS) (τ : mT) : Option (Int32 × mS × mT) :=
  if p0 < p1 then (some ((0 : Int32), σ, τ)) else (if p2 < p0 then (some ((0 : Int32), σ, τ)) else (some ((1 : Int32), σ, τ)))
def Q_type (p1 : Int32) (σ : mS) (τ : mT) : Option (Int32 × mS × mT) :=
  ob (Q_within p1 (0 : Int32) (255 : Int32) σ τ) fun r1 σ1 τ1 => if r1 = 0 then (some ((-1 : Int32), σ1, τ1)) else (if (σ1 34 6) = (120 : Int32) then (some ((-3 : Int32), σ1, τ1)) else (if (σ1 34 6) < 0 ∨ 120 ≤ (σ1 34 6).toNatClampNeg then none else mw (u2 σ1 39 (σ1 34 6).toNatClampNeg p1) fun σ5 => mw (u2 σ5 34 6 ((σ5 34 6) + (1 : Int32))) fun σ6 => some (σ6 34 6, σ6, τ1)))
def T_wipe (σ : mS) (τ : mT) : Option (mS × mT) :=
  mw (u2 σ 27 1 (0 : Int32)) fun σ1 => some (σ1, τ)
def R_clear (σ : mS) (τ : mT) : Option (Int32 × mS × mT) :=
  ob (T_length σ τ) fun r1 σ1 τ1 => ov (T_wipe σ1 τ1) fun σ2 τ2 => some (r1, σ2, τ2)
def Q_clear (σ : mS) (τ : mT) : Option (Int32 × mS × mT) :=
  mw (u2 σ 34 6 (0 : Int32)) fun σ1 => some (σ 34 6, σ1, τ)
def P_empty_4 (σ : mS) (τ : mT) : Option (mS × mT) :=
  mw (u2 σ 5 20 (0 : Int32)) fun σ1 => some (σ1, τ)
def T_next (σ : mS) (τ : mT) : Option (Int32 × mS × mT) :=
  if (σ 27 2) < 0 then (some ((-1 : Int32), σ, τ)) else (if (σ 27 1) ≤ (σ 27 2) then (some ((-1 : Int32), σ, τ)) else (if (120 : Int32) ≤ (σ 27 2) then (some ((-1 : Int32), σ, τ)) else (if (σ 27 2) < 0 ∨ 120 ≤ (σ 27 2).toNatClampNeg then none else some (σ 28 (σ 27 2).toNatClampNeg, σ, τ))))
def T_skipBlanks_l0 : Nat → mS → mT → Option (mS × mT)
  | 0, _, _ => none
  | n + 1, σ, τ =>
    if (σ 27 1) ≤ (σ 27 2) then (some (σ, τ)) else (ob (T_next σ τ) fun r2 σ2 τ2 => if r2 = (32 : Int32) then (mw (u2 σ2 27 2 ((σ2 27 2) + (1 : Int32))) fun σ4 => T_skipBlanks_l0 n σ4 τ2) else (some (σ2, τ2)))
def T_skipBlanks (σ : mS) (τ : mT) : Option (mS × mT) :=
  T_skipBlanks_l0 mc_F σ τ
def P_size_4 (σ : mS) (τ : mT) : Option (Int32 × mS × mT) :=
  some (σ 5 20, σ, τ)
def T_isFigure (p0 : Int32) (σ : mS) (τ : mT) : Option (Int32 × mS × mT) :=
  ob (R_within p0 (48 : Int32) (57 : Int32) σ τ) fun r1 σ1 τ1 => if ¬ r1 &&& 1 = r1 then none else some (r1, σ1, τ1)
def T_readNumber_b127 (x3 : Int32) (σ : mS) (τ : mT) : Option (Int32 × mS × mT) :=
  mw (u2 σ 27 2 x3) fun σ1 => some ((-1 : Int32), σ1, τ)
def T_readNumber_b102 (x1 : Int32) (x2 : Int32) (x3 : Int32) (x5 : Int32) (s0 : Int32) (σ : mS) (τ : mT) : Option (Int32 × mS × mT) :=
  if (σ 27 2) = x3 then (T_readNumber_b127 x3 σ τ) else (if s0 = 0 then (ob (R_within x5 x1 x2 σ τ) fun r3 σ3 τ3 => if r3 = 0 then (T_readNumber_b127 x3 σ3 τ3) else (some (x5, σ3, τ3))) else (T_readNumber_b127 x3 σ τ))
def T_readNumber_b101 (x1 : Int32) (x2 : Int32) (x3 : Int32) (x5 : Int32) (σ : mS) (τ : mT) : Option (Int32 × mS × mT) :=
  T_readNumber_b102 x1 x2 x3 x5 (0 : Int32) σ τ
def T_readNumber_b82 (x1 : Int32) (x2 : Int32) (x3 : Int32) (x4 : Int32) (x5 : Int32) (σ : mS) (τ : mT) : Option (Int32 × mS × mT) :=
  if x4 = 0 then (T_readNumber_b101 x1 x2 x3 x5 σ τ) else (if ((σ 27 2) - x3) ≤ (1 : Int32) then (T_readNumber_b101 x1 x2 x3 x5 σ τ) else (T_readNumber_b102 x1 x2 x3 x5 (1 : Int32) σ τ))
def T_readNumber_l28 : Nat → Int32 → Int32 → Int32 → Int32 → Int32 → mS → mT → Option (Int32 × mS × mT)
  | 0, _, _, _, _, _, _, _ => none
  | n + 1, x1, x2, x3, x4, x5, σ, τ =>
    if (σ 27 1) ≤ (σ 27 2) then (T_readNumber_b82 x1 x2 x3 x4 x5 σ τ) else (ob (T_next σ τ) fun r2 σ2 τ2 => ob (T_isFigure r2 σ2 τ2) fun r3 σ3 τ3 => if r3 = 0 then (T_readNumber_b82 x1 x2 x3 x4 x5 σ3 τ3) else (ob (T_next σ3 τ3) fun r5 σ5 τ5 => mw (u2 σ5 27 2 ((σ5 27 2) + (1 : Int32))) fun σ6 => T_readNumber_l28 n x1 x2 x3 x4 (jmin ((((10 : Int32) * x5) + r5) - (48 : Int32)) (100 : Int32)) σ6 τ5))
def T_readNumber (p1 : Int32) (p2 : Int32) (σ : mS) (τ : mT) : Option (Int32 × mS × mT) :=
  ov (T_skipBlanks σ τ) fun σ1 τ1 => ob (T_next σ1 τ1) fun r2 σ2 τ2 => if r2 = (48 : Int32) then (T_readNumber_l28 mc_F p1 p2 (σ1 27 2) (1 : Int32) (0 : Int32) σ2 τ2) else (T_readNumber_l28 mc_F p1 p2 (σ1 27 2) (0 : Int32) (0 : Int32) σ2 τ2)
def T_readEnd (σ : mS) (τ : mT) : Option (Int32 × mS × mT) :=
  ov (T_skipBlanks σ τ) fun σ1 τ1 => ob (T_next σ1 τ1) fun r2 σ2 τ2 => if r2 = (59 : Int32) then (mw (u2 σ2 27 2 ((σ2 27 2) + (1 : Int32))) fun σ4 => some ((1 : Int32), σ4, τ2)) else (some ((0 : Int32), σ2, τ2))
def P_has_4 (p1 : Int32) (σ : mS) (τ : mT) : Option (Int32 × mS × mT) :=
  if p1 < 0 then (some ((0 : Int32), σ, τ)) else (if (σ 5 20) ≤ p1 then (some ((0 : Int32), σ, τ)) else (if (4 : Int32) ≤ p1 then (some ((0 : Int32), σ, τ)) else (some ((1 : Int32), σ, τ))))
def P_set_4 (p1 : Int32) (p2 : Int32) (p3 : Int32) (σ : mS) (τ : mT) : Option (mS × mT) :=
  ob (P_has_4 p1 σ τ) fun r1 σ1 τ1 => if r1 = 0 then (some (σ1, τ1)) else (ob (R_within p2 (0 : Int32) (4 : Int32) σ1 τ1) fun r3 σ3 τ3 => if r3 = 0 then (some (σ3, τ3)) else (if ((p1 * (5 : Int32)) + p2) < 0 ∨ 21 ≤ ((p1 * (5 : Int32)) + p2).toNatClampNeg then none else mw (u2 σ3 5 ((p1 * (5 : Int32)) + p2).toNatClampNeg p3) fun σ6 => some (σ6, τ3)))
def P_add_4 (p1 : Int32) (p2 : Int32) (p3 : Int32) (σ : mS) (τ : mT) : Option (mS × mT) :=
  ob (P_size_4 σ τ) fun r1 σ1 τ1 => if r1 < (4 : Int32) then (mw (u2 σ1 5 20 (r1 + (1 : Int32))) fun σ3 => ov (P_set_4 r1 (0 : Int32) p1 σ3 τ1) fun σ4 τ4 => ov (P_set_4 r1 (1 : Int32) p2 σ4 τ4) fun σ5 τ5 => ov (P_set_4 r1 (2 : Int32) p3 σ5 τ5) fun σ6 τ6 => ov (P_set_4 r1 (3 : Int32) (0 : Int32) σ6 τ6) fun σ7 τ7 => ov (P_set_4 r1 (4 : Int32) (0 : Int32) σ7 τ7) fun σ8 τ8 => some (σ8, τ8)) else (some (σ1, τ1))
def T_readBlock_4 (σ : mS) (τ : mT) : Option (Int32 × mS × mT) :=
  ob (P_size_4 σ τ) fun r1 σ1 τ1 => if r1 < (4 : Int32) then (mw (u2 σ1 27 2 ((σ1 27 2) + (1 : Int32))) fun σ3 => ob (T_readNumber (0 : Int32) (9 : Int32) σ3 τ1) fun r4 σ4 τ4 => if 0 ≤ r4 then (ob (T_readNumber (1 : Int32) (3 : Int32) σ4 τ4) fun r6 σ6 τ6 => if 0 ≤ r6 then (ob (T_readNumber (1 : Int32) (9 : Int32) σ6 τ6) fun r8 σ8 τ8 => if r8 < 0 then (some ((0 : Int32), σ8, τ8)) else (ob (T_readEnd σ8 τ8) fun r10 σ10 τ10 => if r10 = 0 then (some ((0 : Int32), σ10, τ10)) else (ov (P_add_4 r4 r6 r8 σ10 τ10) fun σ12 τ12 => some ((1 : Int32), σ12, τ12)))) else (some ((0 : Int32), σ6, τ6))) else (some ((0 : Int32), σ4, τ4))) else (some ((0 : Int32), σ1, τ1))
def P_get_4 (p1 : Int32) (p2 : Int32) (σ : mS) (τ : mT) : Option (Int32 × mS × mT) :=
  ob (P_has_4 p1 σ τ) fun r1 σ1 τ1 => if r1 = 0 then (some ((0 : Int32), σ1, τ1)) else (ob (R_within p2 (0 : Int32) (4 : Int32) σ1 τ1) fun r3 σ3 τ3 => if r3 = 0 then (some ((0 : Int32), σ3, τ3)) else (if ((p1 * (5 : Int32)) + p2) < 0 ∨ 21 ≤ ((p1 * (5 : Int32)) + p2).toNatClampNeg then none else some (σ3 5 ((p1 * (5 : Int32)) + p2).toNatClampNeg, σ3, τ3)))
def T_readLoad_4 (σ : mS) (τ : mT) : Option (Int32 × mS × mT) :=
  mw (u2 σ 27 2 ((σ 27 2) + (1 : Int32))) fun σ1 => ob (P_size_4 σ1 τ) fun r2 σ2 τ2 => ob (T_readNumber (0 : Int32) (r2 - (1 : Int32)) σ2 τ2) fun r3 σ3 τ3 => if 0 ≤ r3 then (ob (P_get_4 r3 (1 : Int32) σ3 τ3) fun r5 σ5 τ5 => ob (T_readNumber (0 : Int32) ((2 : Int32) * r5) σ5 τ5) fun r6 σ6 τ6 => if 0 ≤ r6 then (ob (T_readNumber (0 : Int32) (20 : Int32) σ6 τ6) fun r8 σ8 τ8 => if r8 < 0 then (some ((0 : Int32), σ8, τ8)) else (ob (T_readEnd σ8 τ8) fun r10 σ10 τ10 => if r10 = 0 then (some ((0 : Int32), σ10, τ10)) else (ov (P_set_4 r3 (4 : Int32) r6 σ10 τ10) fun σ12 τ12 => ov (P_set_4 r3 (3 : Int32) r8 σ12 τ12) fun σ13 τ13 => some ((1 : Int32), σ13, τ13)))) else (some ((0 : Int32), σ6, τ6))) else (some ((0 : Int32), σ3, τ3))
def T_readItem_4 (σ : mS) (τ : mT) : Option (Int32 × mS × mT) :=
  ob (T_next σ τ) fun r1 σ1 τ1 => if r1 = 98 then (ob (T_readBlock_4 σ1 τ1) fun r3 σ3 τ3 => if ¬ r3 &&& 1 = r3 then none else some (r3, σ3, τ3)) else if r1 = 108 then (ob (T_readLoad_4 σ1 τ1) fun r6 σ6 τ6 => if ¬ r6 &&& 1 = r6 then none else some (r6, σ6, τ6)) else (some ((0 : Int32), σ1, τ1))
def T_readInto_4_l11 : Nat → Int32 → mS → mT → Option (Int32 × mS × mT)
  | 0, _, _, _ => none
  | n + 1, x2, σ, τ =>
    if (120 : Int32) < x2 then (some ((-1 : Int32), σ, τ)) else (ov (T_skipBlanks σ τ) fun σ2 τ2 => if (σ2 27 2) < (σ2 27 1) then (ob (T_readItem_4 σ2 τ2) fun r4 σ4 τ4 => if r4 = 0 then (some ((-1 : Int32), σ4, τ4)) else (T_readInto_4_l11 n (x2 + (1 : Int32)) σ4 τ4)) else (some (x2, σ2, τ2)))
def T_readInto_4 (σ : mS) (τ : mT) : Option (Int32 × mS × mT) :=
  ov (P_empty_4 σ τ) fun σ1 τ1 => mw (u2 σ1 27 2 (0 : Int32)) fun σ2 => T_readInto_4_l11 mc_F (0 : Int32) σ2 τ1
def S_write_29_2 (p1 : Int32) (σ : mS) (τ : mT) : Option (mS × mT) :=
  ob (R_within p1 (0 : Int32) ((6 : Int32) - (1 : Int32)) σ τ) fun r1 σ1 τ1 => if r1 = 0 then (some (σ1, τ1)) else (if (p1 * (21 : Int32)) < 0 then none else if 126 < (p1 * (21 : Int32)).toNatClampNeg + 21 then none else mw (u1 σ1 30 (va_cpy (σ1 3) (σ1 30) 0 (p1 * (21 : Int32)).toNatClampNeg 21)) fun σ5 => some (σ5, τ1))
def S_forgetFirst_29 (σ : mS) (τ : mT) : Option (mS × mT) :=
  if (((6 : Int32) - (1 : Int32)) * (21 : Int32)) < 0 then none else if 126 < 21 + (((6 : Int32) - (1 : Int32)) * (21 : Int32)).toNatClampNeg then none else if 126 < 0 + (((6 : Int32) - (1 : Int32)) * (21 : Int32)).toNatClampNeg then none else mw (u1 σ 30 (va_cpy (σ 30) (σ 30) 21 0 (((6 : Int32) - (1 : Int32)) * (21 : Int32)).toNatClampNeg)) fun σ4 => some (σ4, τ)
def R_remember_b21 (σ : mS) (τ : mT) : Option (mS × mT) :=
  ov (S_write_29_2 (σ 1 8) σ τ) fun σ1 τ1 => mw (u2 σ1 1 8 ((σ1 1 8) + (1 : Int32))) fun σ2 => some (σ2, τ1)
def R_remember (σ : mS) (τ : mT) : Option (mS × mT) :=
  if (σ 1 8) < (6 : Int32) then (R_remember_b21 σ τ) else (ov (S_forgetFirst_29 σ τ) fun σ2 τ2 => mw (u2 σ2 1 8 (5 : Int32)) fun σ3 => R_remember_b21 σ3 τ2)
def P_copy_2_4 (σ : mS) (τ : mT) : Option (mS × mT) :=
  mw (u1 σ 3 (va_cpy (σ 5) (σ 3) 0 0 21)) fun σ1 => some (σ1, τ)
def T_place (σ : mS) (τ : mT) : Option (Int32 × mS × mT) :=
  some (σ 27 2, σ, τ)
def R_tells (σ : mS) (τ : mT) : Option (Int32 × mS × mT) :=
  ob (T_readInto_4 σ τ) fun r1 σ1 τ1 => if 0 ≤ r1 then (ov (R_remember σ1 τ1) fun σ3 τ3 => ov (P_copy_2_4 σ3 τ3) fun σ4 τ4 => ov (T_wipe σ4 τ4) fun σ5 τ5 => some (r1, σ5, τ5)) else (ob (T_place σ1 τ1) fun r6 σ6 τ6 => some ((-10 : Int32) - r6, σ6, τ6))
def Q_lays_48_l2 : Nat → Int32 → Int32 → mS → mT → Option (mS × mT)
  | 0, _, _, _, _ => none
  | n + 1, x2, x3, σ, τ =>
    if (21 : Int32) ≤ x3 then (some (σ, τ)) else (if x3 < 0 ∨ 21 ≤ x3.toNatClampNeg then none else if (x2 + x3) < 0 ∨ 21 ≤ (x2 + x3).toNatClampNeg then none else mw (u2 σ 48 (x2 + x3).toNatClampNeg (σ 35 x3.toNatClampNeg)) fun σ4 => Q_lays_48_l2 n x2 (x3 + (1 : Int32)) σ4 τ)
def Q_lays_48 (p2 : Int32) (σ : mS) (τ : mT) : Option (mS × mT) :=
  Q_lays_48_l2 mc_F p2 (0 : Int32) σ τ
def Q_skips_b38 (σ : mS) (τ : mT) : Option (mS × mT) :=
  mw (u2 σ 34 24 (σ 34 23)) fun σ1 => some (σ1, τ)
def Q_skips_l0 : Nat → mS → mT → Option (mS × mT)
  | 0, _, _ => none
  | n + 1, σ, τ =>
    if (σ 34 6) ≤ (σ 34 23) then (Q_skips_b38 σ τ) else (if (σ 34 23) < 0 ∨ 120 ≤ (σ 34 23).toNatClampNeg then none else if (σ 39 (σ 34 23).toNatClampNeg) = (32 : Int32) then (mw (u2 σ 34 23 ((σ 34 23) + (1 : Int32))) fun σ4 => Q_skips_l0 n σ4 τ) else (Q_skips_b38 σ τ))
def Q_skips (σ : mS) (τ : mT) : Option (mS × mT) :=
  Q_skips_l0 mc_F σ τ
def Q_passes_b33 (s0 : Int32) (σ : mS) (τ : mT) : Option (Int32 × mS × mT) :=
  if s0 = 0 then (mw (u2 σ 34 23 ((σ 34 23) + (0 : Int32))) fun σ2 => if ¬ s0 &&& 1 = s0 then none else some (s0, σ2, τ)) else (mw (u2 σ 34 23 ((σ 34 23) + (1 : Int32))) fun σ4 => if ¬ s0 &&& 1 = s0 then none else some (s0, σ4, τ))
def Q_passes_b32 (σ : mS) (τ : mT) : Option (Int32 × mS × mT) :=
  Q_passes_b33 (0 : Int32) σ τ
def Q_passes (p1 : Int32) (σ : mS) (τ : mT) : Option (Int32 × mS × mT) :=
  ov (Q_skips σ τ) fun σ1 τ1 => if (σ1 34 6) ≤ (σ1 34 23) then (Q_passes_b32 σ1 τ1) else (if (σ1 34 23) < 0 ∨ 120 ≤ (σ1 34 23).toNatClampNeg then none else if (σ1 39 (σ1 34 23).toNatClampNeg) = p1 then (Q_passes_b33 (1 : Int32) σ1 τ1) else (Q_passes_b32 σ1 τ1))
def Q_isFigure (σ : mS) (τ : mT) : Option (Int32 × mS × mT) :=
  if (σ 34 6) ≤ (σ 34 23) then (some ((0 : Int32), σ, τ)) else (if (σ 34 23) < 0 ∨ 120 ≤ (σ 34 23).toNatClampNeg then none else ob (Q_within (σ 39 (σ 34 23).toNatClampNeg) (48 : Int32) (57 : Int32) σ τ) fun r3 σ3 τ3 => if r3 = 0 then (some ((0 : Int32), σ3, τ3)) else (some ((1 : Int32), σ3, τ3)))
def Q_number_b106 (x3 : Int32) (s0 : Int32) (σ : mS) (τ : mT) : Option (Int32 × mS × mT) :=
  if s0 = 0 then (some ((-1 : Int32), σ, τ)) else (some (x3, σ, τ))
def Q_number_b105 (x3 : Int32) (σ : mS) (τ : mT) : Option (Int32 × mS × mT) :=
  Q_number_b106 x3 (0 : Int32) σ τ
def Q_number_b92 (x1 : Int32) (x2 : Int32) (x3 : Int32) (σ : mS) (τ : mT) : Option (Int32 × mS × mT) :=
  ob (Q_within x3 x1 x2 σ τ) fun r1 σ1 τ1 => if r1 = 0 then (Q_number_b105 x3 σ1 τ1) else (Q_number_b106 x3 (1 : Int32) σ1 τ1)
def Q_number_b44 (k9 : Int32 → Int32 → Int32 → Int32 → mS → mT → Option (Int32 × mS × mT)) (x1 : Int32) (x2 : Int32) (x4 : Int32) (s0 : Int32) (σ : mS) (τ : mT) : Option (Int32 × mS × mT) :=
  mw (u2 σ 34 23 ((σ 34 23) + (1 : Int32))) fun σ1 => k9 x1 x2 s0 (x4 + (1 : Int32)) σ1 τ
def Q_number_l9 : Nat → Int32 → Int32 → Int32 → Int32 → mS → mT → Option (Int32 × mS × mT)
  | 0, _, _, _, _, _, _ => none
  | n + 1, x1, x2, x3, x4, σ, τ =>
    ob (Q_isFigure σ τ) fun r1 σ1 τ1 => if r1 = 0 then (if x4 ≤ 0 then (Q_number_b105 x3 σ1 τ1) else (if (99 : Int32) < x3 then (Q_number_b105 x3 σ1 τ1) else (if x4 = (1 : Int32) then (Q_number_b92 x1 x2 x3 σ1 τ1) else (if (σ1 34 24) < 0 ∨ 120 ≤ (σ1 34 24).toNatClampNeg then none else if (σ1 39 (σ1 34 24).toNatClampNeg) = (48 : Int32) then (Q_number_b105 x3 σ1 τ1) else (Q_number_b92 x1 x2 x3 σ1 τ1))))) else (if x3 ≤ (99 : Int32) then (if (σ1 34 23) < 0 ∨ 120 ≤ (σ1 34 23).toNatClampNeg then none else Q_number_b44 (Q_number_l9 n) x1 x2 x4 ((((10 : Int32) * x3) + (σ1 39 (σ1 34 23).toNatClampNeg)) - (48 : Int32)) σ1 τ1) else (Q_number_b44 (Q_number_l9 n) x1 x2 x4 (100 : Int32) σ1 τ1))
def Q_number (p1 : Int32) (p2 : Int32) (σ : mS) (τ : mT) : Option (Int32 × mS × mT) :=
  ov (Q_skips σ τ) fun σ1 τ1 => Q_number_l9 mc_F p1 p2 (0 : Int32) (0 : Int32) σ1 τ1
def Q_get (p1 : Int32) (p2 : Int32) (σ : mS) (τ : mT) : Option (Int32 × mS × mT) :=
  if (((5 : Int32) * p1) + p2) < 0 ∨ 21 ≤ (((5 : Int32) * p1) + p2).toNatClampNeg then none else some (σ 35 (((5 : Int32) * p1) + p2).toNatClampNeg, σ, τ)
def Q_readsLoad_b51 (x1 : Int32) (x2 : Int32) (s0 : Int32) (σ : mS) (τ : mT) : Option (Int32 × mS × mT) :=
  if s0 < 0 then (some ((0 : Int32), σ, τ)) else (ob (Q_passes (59 : Int32) σ τ) fun r2 σ2 τ2 => if r2 = 0 then (some ((0 : Int32), σ2, τ2)) else (if (((5 : Int32) * x1) + (4 : Int32)) < 0 ∨ 21 ≤ (((5 : Int32) * x1) + (4 : Int32)).toNatClampNeg then none else mw (u2 σ2 35 (((5 : Int32) * x1) + (4 : Int32)).toNatClampNeg s0) fun σ5 => if (((5 : Int32) * x1) + (5 : Int32)) < 0 ∨ 21 ≤ (((5 : Int32) * x1) + (5 : Int32)).toNatClampNeg then none else mw (u2 σ5 35 (((5 : Int32) * x1) + (5 : Int32)).toNatClampNeg x2) fun σ7 => some ((1 : Int32), σ7, τ2)))
def Q_readsLoad_b35 (x1 : Int32) (s0 : Int32) (σ : mS) (τ : mT) : Option (Int32 × mS × mT) :=
  if 0 ≤ s0 then (ob (Q_number (0 : Int32) (20 : Int32) σ τ) fun r2 σ2 τ2 => Q_readsLoad_b51 x1 s0 r2 σ2 τ2) else (Q_readsLoad_b51 x1 s0 (-1 : Int32) σ τ)
def Q_readsLoad (σ : mS) (τ : mT) : Option (Int32 × mS × mT) :=
  ob (Q_number (0 : Int32) ((σ 35 0) - (1 : Int32)) σ τ) fun r1 σ1 τ1 => if 0 ≤ r1 then (ob (Q_get r1 (2 : Int32) σ1 τ1) fun r3 σ3 τ3 => ob (Q_number (0 : Int32) ((2 : Int32) * r3) σ3 τ3) fun r4 σ4 τ4 => Q_readsLoad_b35 r1 r4 σ4 τ4) else (Q_readsLoad_b35 r1 (-1 : Int32) σ1 τ1)
def Q_appends (p1 : Int32) (p2 : Int32) (p3 : Int32) (σ : mS) (τ : mT) : Option (mS × mT) :=
  if (((5 : Int32) * (σ 35 0)) + (1 : Int32)) < 0 ∨ 21 ≤ (((5 : Int32) * (σ 35 0)) + (1 : Int32)).toNatClampNeg then none else mw (u2 σ 35 (((5 : Int32) * (σ 35 0)) + (1 : Int32)).toNatClampNeg p1) fun σ2 => if (((5 : Int32) * (σ 35 0)) + (2 : Int32)) < 0 ∨ 21 ≤ (((5 : Int32) * (σ 35 0)) + (2 : Int32)).toNatClampNeg then none else mw (u2 σ2 35 (((5 : Int32) * (σ 35 0)) + (2 : Int32)).toNatClampNeg p2) fun σ4 => if (((5 : Int32) * (σ 35 0)) + (3 : Int32)) < 0 ∨ 21 ≤ (((5 : Int32) * (σ 35 0)) + (3 : Int32)).toNatClampNeg then none else mw (u2 σ4 35 (((5 : Int32) * (σ 35 0)) + (3 : Int32)).toNatClampNeg p3) fun σ6 => if (((5 : Int32) * (σ 35 0)) + (4 : Int32)) < 0 ∨ 21 ≤ (((5 : Int32) * (σ 35 0)) + (4 : Int32)).toNatClampNeg then none else mw (u2 σ6 35 (((5 : Int32) * (σ 35 0)) + (4 : Int32)).toNatClampNeg (0 : Int32)) fun σ8 => if (((5 : Int32) * (σ 35 0)) + (5 : Int32)) < 0 ∨ 21 ≤ (((5 : Int32) * (σ 35 0)) + (5 : Int32)).toNatClampNeg then none else mw (u2 σ8 35 (((5 : Int32) * (σ 35 0)) + (5 : Int32)).toNatClampNeg (0 : Int32)) fun σ10 => mw (u2 σ10 35 0 ((σ10 35 0) + (1 : Int32))) fun σ11 => some (σ11, τ)
def Q_readsBlock_b50 (x1 : Int32) (x2 : Int32) (s0 : Int32) (σ : mS) (τ : mT) : Option (Int32 × mS × mT) :=
  if s0 < 0 then (some ((0 : Int32), σ, τ)) else (ob (Q_passes (59 : Int32) σ τ) fun r2 σ2 τ2 => if r2 = 0 then (some ((0 : Int32), σ2, τ2)) else (ov (Q_appends x1 x2 s0 σ2 τ2) fun σ4 τ4 => some ((1 : Int32), σ4, τ4)))
def Q_readsBlock_b34 (x1 : Int32) (s0 : Int32) (σ : mS) (τ : mT) : Option (Int32 × mS × mT) :=
  if 0 ≤ s0 then (ob (Q_number (1 : Int32) (9 : Int32) σ τ) fun r2 σ2 τ2 => Q_readsBlock_b50 x1 s0 r2 σ2 τ2) else (Q_readsBlock_b50 x1 s0 (-1 : Int32) σ τ)
def Q_readsBlock (σ : mS) (τ : mT) : Option (Int32 × mS × mT) :=
  if (σ 35 0) = (4 : Int32) then (some ((0 : Int32), σ, τ)) else (ob (Q_number (0 : Int32) (9 : Int32) σ τ) fun r2 σ2 τ2 => if 0 ≤ r2 then (ob (Q_number (1 : Int32) (3 : Int32) σ2 τ2) fun r4 σ4 τ4 => Q_readsBlock_b34 r2 r4 σ4 τ4) else (Q_readsBlock_b34 r2 (-1 : Int32) σ2 τ2))
def Q_reads_b69 (k21 : mS → mT → Option (Int32 × mS × mT)) (s0 : Int32) (σ : mS) (τ : mT) : Option (Int32 × mS × mT) :=
  if s0 = 0 then (some ((0 : Int32), σ, τ)) else (mw (u2 σ 34 25 ((σ 34 25) + (1 : Int32))) fun σ2 => ov (Q_skips σ2 τ) fun σ3 τ3 => k21 σ3 τ3)
def Q_reads_b68 (k21 : mS → mT → Option (Int32 × mS × mT)) (σ : mS) (τ : mT) : Option (Int32 × mS × mT) :=
  Q_reads_b69 k21 (0 : Int32) σ τ
def Q_reads_l21 : Nat → mS → mT → Option (Int32 × mS × mT)
  | 0, _, _ => none
  | n + 1, σ, τ =>
    if (σ 34 6) ≤ (σ 34 23) then (some ((1 : Int32), σ, τ)) else (ob (Q_passes (98 : Int32) σ τ) fun r2 σ2 τ2 => if r2 = 0 then (ob (Q_passes (108 : Int32) σ2 τ2) fun r4 σ4 τ4 => if r4 = 0 then (Q_reads_b68 (Q_reads_l21 n) σ4 τ4) else (ob (Q_readsLoad σ4 τ4) fun r6 σ6 τ6 => if r6 = 0 then (Q_reads_b68 (Q_reads_l21 n) σ6 τ6) else (Q_reads_b69 (Q_reads_l21 n) (1 : Int32) σ6 τ6))) else (ob (Q_readsBlock σ2 τ2) fun r8 σ8 τ8 => Q_reads_b69 (Q_reads_l21 n) r8 σ8 τ8))
def Q_reads (σ : mS) (τ : mT) : Option (Int32 × mS × mT) :=
  mw (u2 σ 34 23 (0 : Int32)) fun σ1 => mw (u2 σ1 34 25 (0 : Int32)) fun σ2 => mw (u2 σ2 35 0 (0 : Int32)) fun σ3 => ov (Q_skips σ3 τ) fun σ4 τ4 => Q_reads_l21 mc_F σ4 τ4
def Q_keeps_l50 : Nat → Int32 → mS → mT → Option (mS × mT)
  | 0, _, _, _ => none
  | n + 1, x1, σ, τ =>
    if (21 : Int32) ≤ x1 then (mw (u2 σ 34 2 ((σ 34 2) + (1 : Int32))) fun σ2 => some (σ2, τ)) else (if x1 < 0 ∨ 21 ≤ x1.toNatClampNeg then none else if (((21 : Int32) * (σ 34 2)) + x1) < 0 ∨ 126 ≤ (((21 : Int32) * (σ 34 2)) + x1).toNatClampNeg then none else mw (u2 σ 36 (((21 : Int32) * (σ 34 2)) + x1).toNatClampNeg (σ 48 x1.toNatClampNeg)) fun σ5 => Q_keeps_l50 n (x1 + (1 : Int32)) σ5 τ)
def Q_keeps_l11 : Nat → Int32 → mS → mT → Option (mS × mT)
  | 0, _, _, _ => none
  | n + 1, x1, σ, τ =>
    if (105 : Int32) ≤ x1 then (mw (u2 σ 34 2 ((σ 34 2) - (1 : Int32))) fun σ2 => Q_keeps_l50 mc_F (0 : Int32) σ2 τ) else (if (x1 + (21 : Int32)) < 0 ∨ 126 ≤ (x1 + (21 : Int32)).toNatClampNeg then none else if x1 < 0 ∨ 126 ≤ x1.toNatClampNeg then none else mw (u2 σ 36 x1.toNatClampNeg (σ 36 (x1 + (21 : Int32)).toNatClampNeg)) fun σ5 => Q_keeps_l11 n (x1 + (1 : Int32)) σ5 τ)
def Q_keeps (σ : mS) (τ : mT) : Option (mS × mT) :=
  if (σ 34 2) = (6 : Int32) then (Q_keeps_l11 mc_F (0 : Int32) σ τ) else (Q_keeps_l50 mc_F (0 : Int32) σ τ)
def Q_takes_48_l2 : Nat → Int32 → Int32 → mS → mT → Option (mS × mT)
  | 0, _, _, _, _ => none
  | n + 1, x2, x3, σ, τ =>
    if (21 : Int32) ≤ x3 then (some (σ, τ)) else (if (x2 + x3) < 0 ∨ 21 ≤ (x2 + x3).toNatClampNeg then none else if x3 < 0 ∨ 21 ≤ x3.toNatClampNeg then none else mw (u2 σ 35 x3.toNatClampNeg (σ 48 (x2 + x3).toNatClampNeg)) fun σ4 => Q_takes_48_l2 n x2 (x3 + (1 : Int32)) σ4 τ)
def Q_takes_48 (p2 : Int32) (σ : mS) (τ : mT) : Option (mS × mT) :=
  Q_takes_48_l2 mc_F p2 (0 : Int32) σ τ
def Q_tells (σ : mS) (τ : mT) : Option (Int32 × mS × mT) :=
  ov (Q_lays_48 (0 : Int32) σ τ) fun σ1 τ1 => ob (Q_reads σ1 τ1) fun r2 σ2 τ2 => if r2 = 0 then (ov (Q_takes_48 (0 : Int32) σ2 τ2) fun σ6 τ6 => some ((-10 : Int32) - (σ6 34 24), σ6, τ6)) else (ov (Q_keeps σ2 τ2) fun σ4 τ4 => mw (u2 σ4 34 6 (0 : Int32)) fun σ5 => some (σ5 34 25, σ5, τ4))
def R_isBlock (p0 : Int32) (p1 : Int32) (σ : mS) (τ : mT) : Option (Int32 × mS × mT) :=
  ob (R_within p0 (1 : Int32) (3 : Int32) σ τ) fun r1 σ1 τ1 => if r1 = 0 then (some ((0 : Int32), σ1, τ1)) else (ob (R_within p1 (1 : Int32) (9 : Int32) σ1 τ1) fun r3 σ3 τ3 => if r3 = 0 then (some ((0 : Int32), σ3, τ3)) else (some ((1 : Int32), σ3, τ3)))
def P_size_2 (σ : mS) (τ : mT) : Option (Int32 × mS × mT) :=
  some (σ 3 20, σ, τ)
def P_has_2 (p1 : Int32) (σ : mS) (τ : mT) : Option (Int32 × mS × mT) :=
  if p1 < 0 then (some ((0 : Int32), σ, τ)) else (if (σ 3 20) ≤ p1 then (some ((0 : Int32), σ, τ)) else (if (4 : Int32) ≤ p1 then (some ((0 : Int32), σ, τ)) else (some ((1 : Int32), σ, τ))))
def P_set_2 (p1 : Int32) (p2 : Int32) (p3 : Int32) (σ : mS) (τ : mT) : Option (mS × mT) :=
  ob (P_has_2 p1 σ τ) fun r1 σ1 τ1 => if r1 = 0 then (some (σ1, τ1)) else (ob (R_within p2 (0 : Int32) (4 : Int32) σ1 τ1) fun r3 σ3 τ3 => if r3 = 0 then (some (σ3, τ3)) else (if ((p1 * (5 : Int32)) + p2) < 0 ∨ 21 ≤ ((p1 * (5 : Int32)) + p2).toNatClampNeg then none else mw (u2 σ3 3 ((p1 * (5 : Int32)) + p2).toNatClampNeg p3) fun σ6 => some (σ6, τ3)))
def P_add_2 (p1 : Int32) (p2 : Int32) (p3 : Int32) (σ : mS) (τ : mT) : Option (mS × mT) :=
  ob (P_size_2 σ τ) fun r1 σ1 τ1 => if r1 < (4 : Int32) then (mw (u2 σ1 3 20 (r1 + (1 : Int32))) fun σ3 => ov (P_set_2 r1 (0 : Int32) p1 σ3 τ1) fun σ4 τ4 => ov (P_set_2 r1 (1 : Int32) p2 σ4 τ4) fun σ5 τ5 => ov (P_set_2 r1 (2 : Int32) p3 σ5 τ5) fun σ6 τ6 => ov (P_set_2 r1 (3 : Int32) (0 : Int32) σ6 τ6) fun σ7 τ7 => ov (P_set_2 r1 (4 : Int32) (0 : Int32) σ7 τ7) fun σ8 τ8 => some (σ8, τ8)) else (some (σ1, τ1))
def P_get_2 (p1 : Int32) (p2 : Int32) (σ : mS) (τ : mT) : Option (Int32 × mS × mT) :=
  ob (P_has_2 p1 σ τ) fun r1 σ1 τ1 => if r1 = 0 then (some ((0 : Int32), σ1, τ1)) else (ob (R_within p2 (0 : Int32) (4 : Int32) σ1 τ1) fun r3 σ3 τ3 => if r3 = 0 then (some ((0 : Int32), σ3, τ3)) else (if ((p1 * (5 : Int32)) + p2) < 0 ∨ 21 ≤ ((p1 * (5 : Int32)) + p2).toNatClampNeg then none else some (σ3 3 ((p1 * (5 : Int32)) + p2).toNatClampNeg, σ3, τ3)))
def Y_overlap (p1 : Int32) (p2 : Int32) (σ : mS) (τ : mT) : Option (Int32 × mS × mT) :=
  if p1 < 0 ∨ 4 ≤ p1.toNatClampNeg then none else if p2 < 0 ∨ 4 ≤ p2.toNatClampNeg then none else if (σ 8 p2.toNatClampNeg) ≤ (σ 7 p1.toNatClampNeg) then (some ((0 : Int32), σ, τ)) else (if (σ 8 p1.toNatClampNeg) ≤ (σ 7 p2.toNatClampNeg) then (some ((0 : Int32), σ, τ)) else (some ((1 : Int32), σ, τ)))
def Y_findLevel_l4 : Nat → Int32 → Int32 → Int32 → mS → mT → Option (mS × mT)
  | 0, _, _, _, _, _ => none
  | n + 1, x1, x2, x3, σ, τ =>
    if x1 ≤ x3 then (if x1 < 0 ∨ 4 ≤ x1.toNatClampNeg then none else mw (u2 σ 9 x1.toNatClampNeg x2) fun σ3 => some (σ3, τ)) else (ob (Y_overlap x3 x1 σ τ) fun r4 σ4 τ4 => if r4 = 0 then (Y_findLevel_l4 n x1 x2 (x3 + (1 : Int32)) σ4 τ4) else (if x3 < 0 ∨ 4 ≤ x3.toNatClampNeg then none else Y_findLevel_l4 n x1 (jmax x2 ((σ4 9 x3.toNatClampNeg) + (1 : Int32))) (x3 + (1 : Int32)) σ4 τ4))
def Y_findLevel (p1 : Int32) (σ : mS) (τ : mT) : Option (mS × mT) :=
  Y_findLevel_l4 mc_F p1 (0 : Int32) (0 : Int32) σ τ
def Y_findUnder_l9 : Nat → Int32 → Int32 → mS → mT → Option (mS × mT)
  | 0, _, _, _, _ => none
  | n + 1, x1, x2, σ, τ =>
    if x1 ≤ x2 then (some (σ, τ)) else (if x2 < 0 ∨ 4 ≤ x2.toNatClampNeg then none else if x1 < 0 ∨ 4 ≤ x1.toNatClampNeg then none else if (σ 9 x2.toNatClampNeg) = ((σ 9 x1.toNatClampNeg) - (1 : Int32)) then (ob (Y_overlap x2 x1 σ τ) fun r5 σ5 τ5 => if r5 = 0 then (Y_findUnder_l9 n x1 (x2 + (1 : Int32)) σ5 τ5) else (mw (u2 σ5 10 x1.toNatClampNeg ((σ5 10 x1.toNatClampNeg) ||| ((1 : Int32) <<< (x2 &&& 31)))) fun σ7 => mw (u2 σ7 11 x2.toNatClampNeg ((σ7 11 x2.toNatClampNeg) ||| ((1 : Int32) <<< (x1 &&& 31)))) fun σ8 => Y_findUnder_l9 n x1 (x2 + (1 : Int32)) σ8 τ5)) else (Y_findUnder_l9 n x1 (x2 + (1 : Int32)) σ τ))
def Y_findUnder (p1 : Int32) (σ : mS) (τ : mT) : Option (mS × mT) :=
  if p1 < 0 ∨ 4 ≤ p1.toNatClampNeg then none else mw (u2 σ 10 p1.toNatClampNeg (0 : Int32)) fun σ2 => Y_findUnder_l9 mc_F p1 (0 : Int32) σ2 τ
def Y_addContact (p1 : Int32) (p2 : Int32) (p3 : Int32) (σ : mS) (τ : mT) : Option (mS × mT) :=
  if (12 : Int32) ≤ (σ 6 9) then (some (σ, τ)) else (if (σ 6 9) < 0 ∨ 12 ≤ (σ 6 9).toNatClampNeg then none else mw (u2 σ 12 (σ 6 9).toNatClampNeg p1) fun σ3 => if (σ3 6 9) < 0 ∨ 12 ≤ (σ3 6 9).toNatClampNeg then none else mw (u2 σ3 13 (σ3 6 9).toNatClampNeg p2) fun σ5 => if (σ5 6 9) < 0 ∨ 12 ≤ (σ5 6 9).toNatClampNeg then none else mw (u2 σ5 14 (σ5 6 9).toNatClampNeg p3) fun σ7 => mw (u2 σ7 6 9 ((σ7 6 9) + (1 : Int32))) fun σ8 => some (σ8, τ))
def Y_findContacts_l37 : Nat → Int32 → Int32 → mS → mT → Option (mS × mT)
  | 0, _, _, _, _ => none
  | n + 1, x1, x2, σ, τ =>
    if x1 ≤ x2 then (some (σ, τ)) else (if x1 < 0 ∨ 4 ≤ x1.toNatClampNeg then none else if (((σ 10 x1.toNatClampNeg) >>> (x2 &&& 31)) &&& (1 : Int32)) = (1 : Int32) then (if x2 < 0 ∨ 4 ≤ x2.toNatClampNeg then none else ov (Y_addContact x1 x2 (jmax (σ 7 x2.toNatClampNeg) (σ 7 x1.toNatClampNeg)) σ τ) fun σ5 τ5 => ov (Y_addContact x1 x2 (jmin (σ5 8 x2.toNatClampNeg) (σ5 8 x1.toNatClampNeg)) σ5 τ5) fun σ6 τ6 => Y_findContacts_l37 n x1 (x2 + (1 : Int32)) σ6 τ6) else (Y_findContacts_l37 n x1 (x2 + (1 : Int32)) σ τ))
def Y_findContacts (p1 : Int32) (σ : mS) (τ : mT) : Option (mS × mT) :=
  if p1 < 0 ∨ 4 ≤ p1.toNatClampNeg then none else if (σ 10 p1.toNatClampNeg) = 0 then (ov (Y_addContact p1 (-9 : Int32) (σ 7 p1.toNatClampNeg) σ τ) fun σ3 τ3 => ov (Y_addContact p1 (-9 : Int32) (σ3 8 p1.toNatClampNeg) σ3 τ3) fun σ4 τ4 => Y_findContacts_l37 mc_F p1 (0 : Int32) σ4 τ4) else (Y_findContacts_l37 mc_F p1 (0 : Int32) σ τ)
def Y_find_2_l19 : Nat → Int32 → mS → mT → Option (mS × mT)
  | 0, _, _, _ => none
  | n + 1, x2, σ, τ =>
    if (σ 6 8) ≤ x2 then (some (σ, τ)) else (ob (P_get_2 x2 (0 : Int32) σ τ) fun r2 σ2 τ2 => if x2 < 0 ∨ 4 ≤ x2.toNatClampNeg then none else mw (u2 σ2 7 x2.toNatClampNeg r2) fun σ4 => ob (P_get_2 x2 (1 : Int32) σ4 τ2) fun r5 σ5 τ5 => mw (u2 σ5 8 x2.toNatClampNeg ((σ4 7 x2.toNatClampNeg) + ((2 : Int32) * r5))) fun σ6 => mw (u2 σ6 11 x2.toNatClampNeg (0 : Int32)) fun σ7 => ov (Y_findLevel x2 σ7 τ5) fun σ8 τ8 => ov (Y_findUnder x2 σ8 τ8) fun σ9 τ9 => ov (Y_findContacts x2 σ9 τ9) fun σ10 τ10 => Y_find_2_l19 n (x2 + (1 : Int32)) σ10 τ10)
def Y_find_2 (σ : mS) (τ : mT) : Option (mS × mT) :=
  ob (P_size_2 σ τ) fun r1 σ1 τ1 => mw (u2 σ1 6 8 (jmin r1 (4 : Int32))) fun σ2 => mw (u2 σ2 6 9 (0 : Int32)) fun σ3 => Y_find_2_l19 mc_F (0 : Int32) σ3 τ1
def Y_level (p1 : Int32) (σ : mS) (τ : mT) : Option (Int32 × mS × mT) :=
  ob (R_within p1 (0 : Int32) ((σ 6 8) - (1 : Int32)) σ τ) fun r1 σ1 τ1 => if r1 = 0 then (some ((-9 : Int32), σ1, τ1)) else (if p1 < 0 ∨ 4 ≤ p1.toNatClampNeg then none else some (σ1 9 p1.toNatClampNeg, σ1, τ1))
def R_drops (p1 : Int32) (p2 : Int32) (p3 : Int32) (σ : mS) (τ : mT) : Option (Int32 × mS × mT) :=
  ob (R_within p1 (0 : Int32) (9 : Int32) σ τ) fun r1 σ1 τ1 => if r1 = 0 then (some ((-1 : Int32), σ1, τ1)) else (ob (R_isBlock p2 p3 σ1 τ1) fun r3 σ3 τ3 => if r3 = 0 then (some ((-1 : Int32), σ3, τ3)) else (ob (P_size_2 σ3 τ3) fun r5 σ5 τ5 => if r5 < (4 : Int32) then (ov (R_remember σ5 τ5) fun σ7 τ7 => ov (P_add_2 p1 p2 p3 σ7 τ7) fun σ8 τ8 => ov (Y_find_2 σ8 τ8) fun σ9 τ9 => ob (P_size_2 σ9 τ9) fun r10 σ10 τ10 => ob (Y_level (r10 - (1 : Int32)) σ10 τ10) fun r11 σ11 τ11 => some (r11, σ11, τ11)) else (some ((-3 : Int32), σ5, τ5))))
def Q_fits (p0 : Int32) (p1 : Int32) (p2 : Int32) (σ : mS) (τ : mT) : Option (Int32 × mS × mT) :=
  ob (Q_within p0 (0 : Int32) (9 : Int32) σ τ) fun r1 σ1 τ1 => if r1 = 0 then (some ((0 : Int32), σ1, τ1)) else (ob (Q_within p1 (1 : Int32) (3 : Int32) σ1 τ1) fun r3 σ3 τ3 => if r3 = 0 then (some ((0 : Int32), σ3, τ3)) else (ob (Q_within p2 (1 : Int32) (9 : Int32) σ3 τ3) fun r5 σ5 τ5 => if r5 = 0 then (some ((0 : Int32), σ5, τ5)) else (some ((1 : Int32), σ5, τ5))))
def Q_many (σ : mS) (τ : mT) : Option (Int32 × mS × mT) :=
  some (σ 35 0, σ, τ)
def Q_touches (p1 : Int32) (p2 : Int32) (p3 : Int32) (σ : mS) (τ : mT) : Option (mS × mT) :=
  if (σ 34 9) < 0 ∨ 16 ≤ (σ 34 9).toNatClampNeg then none else mw (u2 σ 42 (σ 34 9).toNatClampNeg p1) fun σ2 => if (σ2 34 9) < 0 ∨ 16 ≤ (σ2 34 9).toNatClampNeg then none else mw (u2 σ2 43 (σ2 34 9).toNatClampNeg p2) fun σ4 => if (σ4 34 9) < 0 ∨ 16 ≤ (σ4 34 9).toNatClampNeg then none else mw (u2 σ4 44 (σ4 34 9).toNatClampNeg p3) fun σ6 => mw (u2 σ6 34 9 ((σ6 34 9) + (1 : Int32))) fun σ7 => some (σ7, τ)
def Q_end (p1 : Int32) (σ : mS) (τ : mT) : Option (Int32 × mS × mT) :=
  ob (Q_get p1 (1 : Int32) σ τ) fun r1 σ1 τ1 => ob (Q_get p1 (2 : Int32) σ1 τ1) fun r2 σ2 τ2 => some (r1 + ((2 : Int32) * r2), σ2, τ2)
def Q_from (p1 : Int32) (p2 : Int32) (σ : mS) (τ : mT) : Option (Int32 × mS × mT) :=
  ob (Q_get p1 (1 : Int32) σ τ) fun r1 σ1 τ1 => ob (Q_get p2 (1 : Int32) σ1 τ1) fun r2 σ2 τ2 => if r1 ≤ r2 then (ob (Q_get p2 (1 : Int32) σ2 τ2) fun r4 σ4 τ4 => some (r4, σ4, τ4)) else (ob (Q_get p1 (1 : Int32) σ2 τ2) fun r5 σ5 τ5 => some (r5, σ5, τ5))
def Q_to (p1 : Int32) (p2 : Int32) (σ : mS) (τ : mT) : Option (Int32 × mS × mT) :=
  ob (Q_end p1 σ τ) fun r1 σ1 τ1 => ob (Q_end p2 σ1 τ1) fun r2 σ2 τ2 => if r2 ≤ r1 then (ob (Q_end p2 σ2 τ2) fun r4 σ4 τ4 => some (r4, σ4, τ4)) else (ob (Q_end p1 σ2 τ2) fun r5 σ5 τ5 => some (r5, σ5, τ5))
def Q_doOverlap (p1 : Int32) (p2 : Int32) (σ : mS) (τ : mT) : Option (Int32 × mS × mT) :=
  ob (Q_from p1 p2 σ τ) fun r1 σ1 τ1 => ob (Q_to p1 p2 σ1 τ1) fun r2 σ2 τ2 => if r2 ≤ r1 then (some ((0 : Int32), σ2, τ2)) else (some ((1 : Int32), σ2, τ2))
def Q_layBlock_l76 : Nat → Int32 → Int32 → mS → mT → Option (mS × mT)
  | 0, _, _, _, _ => none
  | n + 1, x1, x2, σ, τ =>
    if x1 ≤ x2 then (if x1 < 0 ∨ 4 ≤ x1.toNatClampNeg then none else if (σ 41 x1.toNatClampNeg) = 0 then (ob (Q_get x1 (1 : Int32) σ τ) fun r4 σ4 τ4 => ov (Q_touches x1 (-9 : Int32) r4 σ4 τ4) fun σ5 τ5 => ob (Q_end x1 σ5 τ5) fun r6 σ6 τ6 => ov (Q_touches x1 (-9 : Int32) r6 σ6 τ6) fun σ7 τ7 => some (σ7, τ7)) else (some (σ, τ))) else (ob (Q_doOverlap x2 x1 σ τ) fun r8 σ8 τ8 => if r8 = 0 then (Q_layBlock_l76 n x1 (x2 + (1 : Int32)) σ8 τ8) else (if x2 < 0 ∨ 4 ≤ x2.toNatClampNeg then none else if x1 < 0 ∨ 4 ≤ x1.toNatClampNeg then none else if ((σ8 40 x2.toNatClampNeg) + (1 : Int32)) = (σ8 40 x1.toNatClampNeg) then (mw (u2 σ8 41 x1.toNatClampNeg ((σ8 41 x1.toNatClampNeg) ||| ((1 : Int32) <<< (x2 &&& 31)))) fun σ13 => ob (Q_from x2 x1 σ13 τ8) fun r14 σ14 τ14 => ov (Q_touches x1 x2 r14 σ14 τ14) fun σ15 τ15 => ob (Q_to x2 x1 σ15 τ15) fun r16 σ16 τ16 => ov (Q_touches x1 x2 r16 σ16 τ16) fun σ17 τ17 => Q_layBlock_l76 n x1 (x2 + (1 : Int32)) σ17 τ17) else (Q_layBlock_l76 n x1 (x2 + (1 : Int32)) σ8 τ8)))
def Q_layBlock_b61 (k16 : Int32 → Int32 → mS → mT → Option (mS × mT)) (x1 : Int32) (x2 : Int32) (s1 : Int32) (σ : mS) (τ : mT) : Option (mS × mT) :=
  if x1 < 0 ∨ 4 ≤ x1.toNatClampNeg then none else if s1 < 0 ∨ 4 ≤ s1.toNatClampNeg then none else mw (u2 σ 40 s1.toNatClampNeg (σ 40 x1.toNatClampNeg)) fun σ3 => k16 x1 (x2 + (1 : Int32)) σ3 τ
def Q_layBlock_l16 : Nat → Int32 → Int32 → mS → mT → Option (mS × mT)
  | 0, _, _, _, _ => none
  | n + 1, x1, x2, σ, τ =>
    if x1 ≤ x2 then (Q_layBlock_l76 mc_F x1 (0 : Int32) σ τ) else (ob (Q_doOverlap x2 x1 σ τ) fun r2 σ2 τ2 => if r2 = 0 then (Q_layBlock_b61 (Q_layBlock_l16 n) x1 x2 x1 σ2 τ2) else (if x2 < 0 ∨ 4 ≤ x2.toNatClampNeg then none else if x1 < 0 ∨ 4 ≤ x1.toNatClampNeg then none else if (σ2 40 x2.toNatClampNeg) < (σ2 40 x1.toNatClampNeg) then (Q_layBlock_b61 (Q_layBlock_l16 n) x1 x2 x1 σ2 τ2) else (mw (u2 σ2 40 x1.toNatClampNeg ((σ2 40 x2.toNatClampNeg) + (1 : Int32))) fun σ7 => Q_layBlock_l16 n x1 (x2 + (1 : Int32)) σ7 τ2)))
def Q_layBlock (p1 : Int32) (σ : mS) (τ : mT) : Option (mS × mT) :=
  if p1 < 0 ∨ 4 ≤ p1.toNatClampNeg then none else mw (u2 σ 40 p1.toNatClampNeg (0 : Int32)) fun σ2 => mw (u2 σ2 41 p1.toNatClampNeg (0 : Int32)) fun σ3 => Q_layBlock_l16 mc_F p1 (0 : Int32) σ3 τ
def Q_layAll_l7 : Nat → Int32 → mS → mT → Option (mS × mT)
  | 0, _, _, _ => none
  | n + 1, x1, σ, τ =>
    ob (Q_many σ τ) fun r1 σ1 τ1 => if r1 ≤ x1 then (some (σ1, τ1)) else (ov (Q_layBlock x1 σ1 τ1) fun σ3 τ3 => Q_layAll_l7 n (x1 + (1 : Int32)) σ3 τ3)
def Q_layAll (σ : mS) (τ : mT) : Option (mS × mT) :=
  mw (u2 σ 34 9 (0 : Int32)) fun σ1 => Q_layAll_l7 mc_F (0 : Int32) σ1 τ
def Q_drops (p1 : Int32) (p2 : Int32) (p3 : Int32) (σ : mS) (τ : mT) : Option (Int32 × mS × mT) :=
  ob (Q_fits p1 p2 p3 σ τ) fun r1 σ1 τ1 => if r1 = 0 then (some ((-1 : Int32), σ1, τ1)) else (if (σ1 35 0) = (4 : Int32) then (some ((-3 : Int32), σ1, τ1)) else (ov (Q_lays_48 (0 : Int32) σ1 τ1) fun σ4 τ4 => ov (Q_keeps σ4 τ4) fun σ5 τ5 => ov (Q_appends p1 p2 p3 σ5 τ5) fun σ6 τ6 => ov (Q_layAll σ6 τ6) fun σ7 τ7 => if ((σ7 35 0) - (1 : Int32)) < 0 ∨ 4 ≤ ((σ7 35 0) - (1 : Int32)).toNatClampNeg then none else some (σ7 40 ((σ7 35 0) - (1 : Int32)).toNatClampNeg, σ7, τ7)))
def Y_over (p1 : Int32) (σ : mS) (τ : mT) : Option (Int32 × mS × mT) :=
  ob (R_within p1 (0 : Int32) ((σ 6 8) - (1 : Int32)) σ τ) fun r1 σ1 τ1 => if r1 = 0 then (some ((0 : Int32), σ1, τ1)) else (if p1 < 0 ∨ 4 ≤ p1.toNatClampNeg then none else some (σ1 11 p1.toNatClampNeg, σ1, τ1))
def P_takeOut_2 (p1 : Int32) (σ : mS) (τ : mT) : Option (mS × mT) :=
  ob (P_has_2 p1 σ τ) fun r1 σ1 τ1 => if r1 = 0 then (some (σ1, τ1)) else (ob (P_size_2 σ1 τ1) fun r3 σ3 τ3 => if ((p1 + (1 : Int32)) * (5 : Int32)) < 0 then none else if (p1 * (5 : Int32)) < 0 then none else if (((r3 - (1 : Int32)) - p1) * (5 : Int32)) < 0 then none else if 21 < ((p1 + (1 : Int32)) * (5 : Int32)).toNatClampNeg + (((r3 - (1 : Int32)) - p1) * (5 : Int32)).toNatClampNeg then none else if 21 < (p1 * (5 : Int32)).toNatClampNeg + (((r3 - (1 : Int32)) - p1) * (5 : Int32)).toNatClampNeg then none else mw (u1 σ3 3 (va_cpy (σ3 3) (σ3 3) ((p1 + (1 : Int32)) * (5 : Int32)).toNatClampNeg (p1 * (5 : Int32)).toNatClampNeg (((r3 - (1 : Int32)) - p1) * (5 : Int32)).toNatClampNeg)) fun σ9 => mw (u2 σ9 3 20 ((σ9 3 20) - (1 : Int32))) fun σ10 => some (σ10, τ3))
def R_lifts (p1 : Int32) (σ : mS) (τ : mT) : Option (Int32 × mS × mT) :=
  ob (P_has_2 p1 σ τ) fun r1 σ1 τ1 => if r1 = 0 then (some ((-1 : Int32), σ1, τ1)) else (ov (Y_find_2 σ1 τ1) fun σ3 τ3 => ob (Y_over p1 σ3 τ3) fun r4 σ4 τ4 => if r4 = 0 then (ov (R_remember σ4 τ4) fun σ6 τ6 => ov (P_takeOut_2 p1 σ6 τ6) fun σ7 τ7 => ob (P_size_2 σ7 τ7) fun r8 σ8 τ8 => some (r8, σ8, τ8)) else (some ((-2 : Int32), σ4, τ4)))
def Q_isBlock (p1 : Int32) (σ : mS) (τ : mT) : Option (Int32 × mS × mT) :=
  ob (Q_within p1 (0 : Int32) ((σ 35 0) - (1 : Int32)) σ τ) fun r1 σ1 τ1 => if ¬ r1 &&& 1 = r1 then none else some (r1, σ1, τ1)
def Q_has (p0 : Int32) (p1 : Int32) (σ : mS) (τ : mT) : Option (Int32 × mS × mT) :=
  if ((p0 >>> (p1 &&& 31)) &&& (1 : Int32)) = (1 : Int32) then (some ((1 : Int32), σ, τ)) else (some ((0 : Int32), σ, τ))
def Q_above_l4 : Nat → Int32 → Int32 → Int32 → mS → mT → Option (Int32 × mS × mT)
  | 0, _, _, _, _, _ => none
  | n + 1, x1, x2, x3, σ, τ =>
    ob (Q_many σ τ) fun r1 σ1 τ1 => if r1 ≤ x3 then (some (x2, σ1, τ1)) else (if x3 < 0 ∨ 4 ≤ x3.toNatClampNeg then none else ob (Q_has (σ1 41 x3.toNatClampNeg) x1 σ1 τ1) fun r4 σ4 τ4 => if r4 = 0 then (Q_above_l4 n x1 (x2 ||| (0 : Int32)) (x3 + (1 : Int32)) σ4 τ4) else (Q_above_l4 n x1 (x2 ||| ((1 : Int32) <<< (x3 &&& 31))) (x3 + (1 : Int32)) σ4 τ4))
def Q_above (p1 : Int32) (σ : mS) (τ : mT) : Option (Int32 × mS × mT) :=
  Q_above_l4 mc_F p1 (0 : Int32) (0 : Int32) σ τ
def Q_removes_l6 : Nat → Int32 → mS → mT → Option (mS × mT)
  | 0, _, _, _ => none
  | n + 1, x2, σ, τ =>
    if ((5 : Int32) * ((σ 35 0) - (1 : Int32))) < x2 then (mw (u2 σ 35 0 ((σ 35 0) - (1 : Int32))) fun σ2 => some (σ2, τ)) else (if (x2 + (5 : Int32)) < 0 ∨ 21 ≤ (x2 + (5 : Int32)).toNatClampNeg then none else if x2 < 0 ∨ 21 ≤ x2.toNatClampNeg then none else mw (u2 σ 35 x2.toNatClampNeg (σ 35 (x2 + (5 : Int32)).toNatClampNeg)) fun σ5 => Q_removes_l6 n (x2 + (1 : Int32)) σ5 τ)
def Q_removes (p1 : Int32) (σ : mS) (τ : mT) : Option (mS × mT) :=
  Q_removes_l6 mc_F (((5 : Int32) * p1) + (1 : Int32)) σ τ
def Q_lifts (p1 : Int32) (σ : mS) (τ : mT) : Option (Int32 × mS × mT) :=
  ob (Q_isBlock p1 σ τ) fun r1 σ1 τ1 => if r1 = 0 then (some ((-1 : Int32), σ1, τ1)) else (ov (Q_layAll σ1 τ1) fun σ3 τ3 => ob (Q_above p1 σ3 τ3) fun r4 σ4 τ4 => if r4 = 0 then (ov (Q_lays_48 (0 : Int32) σ4 τ4) fun σ6 τ6 => ov (Q_keeps σ6 τ6) fun σ7 τ7 => ov (Q_removes p1 σ7 τ7) fun σ8 τ8 => some (σ8 35 0, σ8, τ8)) else (some ((-2 : Int32), σ4, τ4)))
def R_weighs (p1 : Int32) (p2 : Int32) (σ : mS) (τ : mT) : Option (Int32 × mS × mT) :=
  ob (P_has_2 p1 σ τ) fun r1 σ1 τ1 => if r1 = 0 then (some ((-1 : Int32), σ1, τ1)) else (ob (R_within p2 (1 : Int32) (9 : Int32) σ1 τ1) fun r3 σ3 τ3 => if r3 = 0 then (some ((-1 : Int32), σ3, τ3)) else (ob (P_get_2 p1 (2 : Int32) σ3 τ3) fun r5 σ5 τ5 => if r5 = p2 then (some ((-2 : Int32), σ5, τ5)) else (ov (R_remember σ5 τ5) fun σ7 τ7 => ov (P_set_2 p1 (2 : Int32) p2 σ7 τ7) fun σ8 τ8 => some (r5, σ8, τ8))))
def Q_weighs (p1 : Int32) (p2 : Int32) (σ : mS) (τ : mT) : Option (Int32 × mS × mT) :=
  ob (Q_isBlock p1 σ τ) fun r1 σ1 τ1 => if r1 = 0 then (some ((-1 : Int32), σ1, τ1)) else (ob (Q_within p2 (1 : Int32) (9 : Int32) σ1 τ1) fun r3 σ3 τ3 => if r3 = 0 then (some ((-1 : Int32), σ3, τ3)) else (ob (Q_get p1 (3 : Int32) σ3 τ3) fun r5 σ5 τ5 => if r5 = p2 then (some ((-2 : Int32), σ5, τ5)) else (ov (Q_lays_48 (0 : Int32) σ5 τ5) fun σ7 τ7 => ov (Q_keeps σ7 τ7) fun σ8 τ8 => if (((5 : Int32) * p1) + (3 : Int32)) < 0 ∨ 21 ≤ (((5 : Int32) * p1) + (3 : Int32)).toNatClampNeg then none else mw (u2 σ8 35 (((5 : Int32) * p1) + (3 : Int32)).toNatClampNeg p2) fun σ10 => some (r5, σ10, τ8))))
def R_isSpot (p1 : Int32) (p2 : Int32) (σ : mS) (τ : mT) : Option (Int32 × mS × mT) :=
  ob (P_has_2 p1 σ τ) fun r1 σ1 τ1 => if r1 = 0 then (some ((0 : Int32), σ1, τ1)) else (ob (P_get_2 p1 (1 : Int32) σ1 τ1) fun r3 σ3 τ3 => ob (R_within p2 (0 : Int32) ((2 : Int32) * r3) σ3 τ3) fun r4 σ4 τ4 => if r4 = 0 then (some ((0 : Int32), σ4, τ4)) else (some ((1 : Int32), σ4, τ4)))
def R_loads_b54 (x1 : Int32) (x2 : Int32) (x3 : Int32) (x4 : Int32) (σ : mS) (τ : mT) : Option (Int32 × mS × mT) :=
  ov (R_remember σ τ) fun σ1 τ1 => ov (P_set_2 x1 (3 : Int32) x3 σ1 τ1) fun σ2 τ2 => ov (P_set_2 x1 (4 : Int32) x2 σ2 τ2) fun σ3 τ3 => some (x4, σ3, τ3)
def R_loads (p1 : Int32) (p2 : Int32) (p3 : Int32) (σ : mS) (τ : mT) : Option (Int32 × mS × mT) :=
  ob (R_isSpot p1 p2 σ τ) fun r1 σ1 τ1 => if r1 = 0 then (some ((-1 : Int32), σ1, τ1)) else (ob (R_within p3 (0 : Int32) (20 : Int32) σ1 τ1) fun r3 σ3 τ3 => if r3 = 0 then (some ((-1 : Int32), σ3, τ3)) else (ob (P_get_2 p1 (3 : Int32) σ3 τ3) fun r5 σ5 τ5 => if r5 = p3 then (ob (P_get_2 p1 (4 : Int32) σ5 τ5) fun r7 σ7 τ7 => if r7 = p2 then (some ((-2 : Int32), σ7, τ7)) else (R_loads_b54 p1 p2 p3 r5 σ7 τ7)) else (R_loads_b54 p1 p2 p3 r5 σ5 τ5)))
def Q_isSpot (p1 : Int32) (p2 : Int32) (σ : mS) (τ : mT) : Option (Int32 × mS × mT) :=
  ob (Q_isBlock p1 σ τ) fun r1 σ1 τ1 => if r1 = 0 then (some ((0 : Int32), σ1, τ1)) else (ob (Q_get p1 (2 : Int32) σ1 τ1) fun r3 σ3 τ3 => ob (Q_within p2 (0 : Int32) ((2 : Int32) * r3) σ3 τ3) fun r4 σ4 τ4 => if r4 = 0 then (some ((0 : Int32), σ4, τ4)) else (some ((1 : Int32), σ4, τ4)))
def Q_loads_b48 (x1 : Int32) (x2 : Int32) (x3 : Int32) (x4 : Int32) (σ : mS) (τ : mT) : Option (Int32 × mS × mT) :=
  ov (Q_lays_48 (0 : Int32) σ τ) fun σ1 τ1 => ov (Q_keeps σ1 τ1) fun σ2 τ2 => if (((5 : Int32) * x1) + (4 : Int32)) < 0 ∨ 21 ≤ (((5 : Int32) * x1) + (4 : Int32)).toNatClampNeg then none else mw (u2 σ2 35 (((5 : Int32) * x1) + (4 : Int32)).toNatClampNeg x3) fun σ4 => if (((5 : Int32) * x1) + (5 : Int32)) < 0 ∨ 21 ≤ (((5 : Int32) * x1) + (5 : Int32)).toNatClampNeg then none else mw (u2 σ4 35 (((5 : Int32) * x1) + (5 : Int32)).toNatClampNeg x2) fun σ6 => some (x4, σ6, τ2)
def Q_loads (p1 : Int32) (p2 : Int32) (p3 : Int32) (σ : mS) (τ : mT) : Option (Int32 × mS × mT) :=
  ob (Q_isSpot p1 p2 σ τ) fun r1 σ1 τ1 => if r1 = 0 then (some ((-1 : Int32), σ1, τ1)) else (ob (Q_within p3 (0 : Int32) (20 : Int32) σ1 τ1) fun r3 σ3 τ3 => if r3 = 0 then (some ((-1 : Int32), σ3, τ3)) else (ob (Q_get p1 (4 : Int32) σ3 τ3) fun r5 σ5 τ5 => if r5 = p3 then (ob (Q_get p1 (5 : Int32) σ5 τ5) fun r7 σ7 τ7 => if r7 = p2 then (some ((-2 : Int32), σ7, τ7)) else (Q_loads_b48 p1 p2 p3 r5 σ7 τ7)) else (Q_loads_b48 p1 p2 p3 r5 σ5 τ5)))
def S_read_29_2 (p1 : Int32) (σ : mS) (τ : mT) : Option (mS × mT) :=
  ob (R_within p1 (0 : Int32) ((6 : Int32) - (1 : Int32)) σ τ) fun r1 σ1 τ1 => if r1 = 0 then (some (σ1, τ1)) else (if (p1 * (21 : Int32)) < 0 then none else if 126 < (p1 * (21 : Int32)).toNatClampNeg + 21 then none else mw (u1 σ1 3 (va_cpy (σ1 30) (σ1 3) (p1 * (21 : Int32)).toNatClampNeg 0 21)) fun σ5 => some (σ5, τ1))
def R_undo (σ : mS) (τ : mT) : Option (Int32 × mS × mT) :=
  if 0 < (σ 1 8) then (mw (u2 σ 1 8 ((σ 1 8) - (1 : Int32))) fun σ2 => ov (S_read_29_2 (σ2 1 8) σ2 τ) fun σ3 τ3 => some (σ3 1 8, σ3, τ3)) else (some ((-2 : Int32), σ, τ))
def Q_takes_36_l2 : Nat → Int32 → Int32 → mS → mT → Option (mS × mT)
  | 0, _, _, _, _ => none
  | n + 1, x2, x3, σ, τ =>
    if (21 : Int32) ≤ x3 then (some (σ, τ)) else (if (x2 + x3) < 0 ∨ 126 ≤ (x2 + x3).toNatClampNeg then none else if x3 < 0 ∨ 21 ≤ x3.toNatClampNeg then none else mw (u2 σ 35 x3.toNatClampNeg (σ 36 (x2 + x3).toNatClampNeg)) fun σ4 => Q_takes_36_l2 n x2 (x3 + (1 : Int32)) σ4 τ)
def Q_takes_36 (p2 : Int32) (σ : mS) (τ : mT) : Option (mS × mT) :=
  Q_takes_36_l2 mc_F p2 (0 : Int32) σ τ
def Q_undo (σ : mS) (τ : mT) : Option (Int32 × mS × mT) :=
  if (σ 34 2) = 0 then (some ((-2 : Int32), σ, τ)) else (mw (u2 σ 34 2 ((σ 34 2) - (1 : Int32))) fun σ2 => ov (Q_takes_36 ((21 : Int32) * (σ2 34 2)) σ2 τ) fun σ3 τ3 => some (σ3 34 2, σ3, τ3))
def Y_under (p1 : Int32) (σ : mS) (τ : mT) : Option (Int32 × mS × mT) :=
  ob (R_within p1 (0 : Int32) ((σ 6 8) - (1 : Int32)) σ τ) fun r1 σ1 τ1 => if r1 = 0 then (some ((0 : Int32), σ1, τ1)) else (if p1 < 0 ∨ 4 ≤ p1.toNatClampNeg then none else some (σ1 10 p1.toNatClampNeg, σ1, τ1))
def R_block (p1 : Int32) (p2 : Int32) (σ : mS) (τ : mT) : Option (Int32 × mS × mT) :=
  ob (P_has_2 p1 σ τ) fun r1 σ1 τ1 => if r1 = 0 then (some ((-1 : Int32), σ1, τ1)) else (ob (R_within p2 (0 : Int32) (7 : Int32) σ1 τ1) fun r3 σ3 τ3 => if r3 = 0 then (some ((-1 : Int32), σ3, τ3)) else (if (5 : Int32) ≤ p2 then (ov (Y_find_2 σ3 τ3) fun σ6 τ6 => if p2 = 5 then (ob (Y_level p1 σ6 τ6) fun r8 σ8 τ8 => some (r8, σ8, τ8)) else if p2 = 6 then (ob (Y_under p1 σ6 τ6) fun r10 σ10 τ10 => some (r10, σ10, τ10)) else (ob (Y_over p1 σ6 τ6) fun r11 σ11 τ11 => some (r11, σ11, τ11))) else (ob (P_get_2 p1 p2 σ3 τ3) fun r12 σ12 τ12 => some (r12, σ12, τ12))))
def Q_tellBlock (p1 : Int32) (p2 : Int32) (σ : mS) (τ : mT) : Option (Int32 × mS × mT) :=
  if (5 : Int32) ≤ p2 then (ov (Q_layAll σ τ) fun σ2 τ2 => if p2 = (5 : Int32) then (if p1 < 0 ∨ 4 ≤ p1.toNatClampNeg then none else some (σ2 40 p1.toNatClampNeg, σ2, τ2)) else (if p2 = (6 : Int32) then (if p1 < 0 ∨ 4 ≤ p1.toNatClampNeg then none else some (σ2 41 p1.toNatClampNeg, σ2, τ2)) else (ob (Q_above p1 σ2 τ2) fun r5 σ5 τ5 => some (r5, σ5, τ5)))) else (ob (Q_get p1 (p2 + (1 : Int32)) σ τ) fun r8 σ8 τ8 => some (r8, σ8, τ8))
def Q_block (p1 : Int32) (p2 : Int32) (σ : mS) (τ : mT) : Option (Int32 × mS × mT) :=
  ob (Q_isBlock p1 σ τ) fun r1 σ1 τ1 => if r1 = 0 then (some ((-1 : Int32), σ1, τ1)) else (ob (Q_within p2 (0 : Int32) (7 : Int32) σ1 τ1) fun r3 σ3 τ3 => if r3 = 0 then (some ((-1 : Int32), σ3, τ3)) else (ob (Q_tellBlock p1 p2 σ3 τ3) fun r5 σ5 τ5 => some (r5, σ5, τ5)))
def Y_contacts (σ : mS) (τ : mT) : Option (Int32 × mS × mT) :=
  some (σ 6 9, σ, τ)
def Y_upper (p1 : Int32) (σ : mS) (τ : mT) : Option (Int32 × mS × mT) :=
  ob (R_within p1 (0 : Int32) ((σ 6 9) - (1 : Int32)) σ τ) fun r1 σ1 τ1 => if r1 = 0 then (some ((-9 : Int32), σ1, τ1)) else (if p1 < 0 ∨ 12 ≤ p1.toNatClampNeg then none else some (σ1 12 p1.toNatClampNeg, σ1, τ1))
def Y_lower (p1 : Int32) (σ : mS) (τ : mT) : Option (Int32 × mS × mT) :=
  ob (R_within p1 (0 : Int32) ((σ 6 9) - (1 : Int32)) σ τ) fun r1 σ1 τ1 => if r1 = 0 then (some ((-9 : Int32), σ1, τ1)) else (if p1 < 0 ∨ 12 ≤ p1.toNatClampNeg then none else some (σ1 13 p1.toNatClampNeg, σ1, τ1))
def Y_x (p1 : Int32) (σ : mS) (τ : mT) : Option (Int32 × mS × mT) :=
  ob (R_within p1 (0 : Int32) ((σ 6 9) - (1 : Int32)) σ τ) fun r1 σ1 τ1 => if r1 = 0 then (some ((0 : Int32), σ1, τ1)) else (if p1 < 0 ∨ 12 ≤ p1.toNatClampNeg then none else some (σ1 14 p1.toNatClampNeg, σ1, τ1))
def R_contact (p1 : Int32) (p2 : Int32) (σ : mS) (τ : mT) : Option (Int32 × mS × mT) :=
  ov (Y_find_2 σ τ) fun σ1 τ1 => ob (Y_contacts σ1 τ1) fun r2 σ2 τ2 => ob (R_within p1 (0 : Int32) (r2 - (1 : Int32)) σ2 τ2) fun r3 σ3 τ3 => if r3 = 0 then (some ((-1 : Int32), σ3, τ3)) else (if p2 = 0 then (ob (Y_upper p1 σ3 τ3) fun r6 σ6 τ6 => some (r6, σ6, τ6)) else if p2 = 1 then (ob (Y_lower p1 σ3 τ3) fun r8 σ8 τ8 => some (r8, σ8, τ8)) else if p2 = 2 then (ob (Y_x p1 σ3 τ3) fun r10 σ10 τ10 => some (r10, σ10, τ10)) else (some ((-1 : Int32), σ3, τ3)))
def Q_isContact (p1 : Int32) (σ : mS) (τ : mT) : Option (Int32 × mS × mT) :=
  ov (Q_layAll σ τ) fun σ1 τ1 => ob (Q_within p1 (0 : Int32) ((σ1 34 9) - (1 : Int32)) σ1 τ1) fun r2 σ2 τ2 => if ¬ r2 &&& 1 = r2 then none else some (r2, σ2, τ2)
def Q_contact (p1 : Int32) (p2 : Int32) (σ : mS) (τ : mT) : Option (Int32 × mS × mT) :=
  ob (Q_isContact p1 σ τ) fun r1 σ1 τ1 => if r1 = 0 then (some ((-1 : Int32), σ1, τ1)) else (ob (Q_within p2 (0 : Int32) (2 : Int32) σ1 τ1) fun r3 σ3 τ3 => if r3 = 0 then (some ((-1 : Int32), σ3, τ3)) else (if p2 = 0 then (if p1 < 0 ∨ 16 ≤ p1.toNatClampNeg then none else some (σ3 42 p1.toNatClampNeg, σ3, τ3)) else (if p2 = (1 : Int32) then (if p1 < 0 ∨ 16 ≤ p1.toNatClampNeg then none else some (σ3 43 p1.toNatClampNeg, σ3, τ3)) else (if p1 < 0 ∨ 16 ≤ p1.toNatClampNeg then none else some (σ3 44 p1.toNatClampNeg, σ3, τ3)))))
def B_poseBlock_2_6_b93 (k55 : Int32 → Int32 → Int32 → mS → mT → Option (mS × mT)) (x3 : Int32) (x4 : Int32) (x5 : Int32) (s0 : Int32) (σ : mS) (τ : mT) : Option (mS × mT) :=
  if x4 < 0 ∨ 8 ≤ x4.toNatClampNeg then none else if x5 < 0 ∨ 14 ≤ x5.toNatClampNeg then none else mw (u2L τ (17 + x4.toNatClampNeg) x5.toNatClampNeg (s0.toInt64)) fun τ3 => if (x4 + (1 : Int32)) < 0 ∨ 8 ≤ (x4 + (1 : Int32)).toNatClampNeg then none else ob (Y_x x5 σ τ3) fun r5 σ5 τ5 => ob (P_get_2 x3 (0 : Int32) σ5 τ5) fun r6 σ6 τ6 => mw (u2L τ6 (17 + (x4 + (1 : Int32)).toNatClampNeg) x5.toNatClampNeg ((s0 * (r5 - r6)).toInt64)) fun τ7 => k55 x3 x4 (x5 + (1 : Int32)) σ6 τ7
def B_poseBlock_2_6_l55 : Nat → Int32 → Int32 → Int32 → mS → mT → Option (mS × mT)
  | 0, _, _, _, _, _ => none
  | n + 1, x3, x4, x5, σ, τ =>
    if (σ 15 4) ≤ x5 then (ob (P_get_2 x3 (2 : Int32) σ τ) fun r2 σ2 τ2 => ob (P_get_2 x3 (3 : Int32) σ2 τ2) fun r3 σ3 τ3 => if x4 < 0 ∨ 8 ≤ x4.toNatClampNeg then none else mw (u2L τ3 (17 + x4.toNatClampNeg) 13 ((r2 + r3).toInt64)) fun τ5 => if (x4 + (1 : Int32)) < 0 ∨ 8 ≤ (x4 + (1 : Int32)).toNatClampNeg then none else ob (P_get_2 x3 (1 : Int32) σ3 τ5) fun r7 σ7 τ7 => ob (P_get_2 x3 (4 : Int32) σ7 τ7) fun r8 σ8 τ8 => mw (u2L τ8 (17 + (x4 + (1 : Int32)).toNatClampNeg) 13 (((r2 * r7) + (r3 * r8)).toInt64)) fun τ9 => some (σ8, τ9)) else (ob (Y_upper x5 σ τ) fun r10 σ10 τ10 => if r10 = x3 then (B_poseBlock_2_6_b93 (B_poseBlock_2_6_l55 n) x3 x4 x5 (1 : Int32) σ10 τ10) else (ob (Y_lower x5 σ10 τ10) fun r12 σ12 τ12 => if r12 = x3 then (B_poseBlock_2_6_b93 (B_poseBlock_2_6_l55 n) x3 x4 x5 (-1 : Int32) σ12 τ12) else (B_poseBlock_2_6_b93 (B_poseBlock_2_6_l55 n) x3 x4 x5 (0 : Int32) σ12 τ12)))
def B_poseBlock_2_6 (p3 : Int32) (σ : mS) (τ : mT) : Option (mS × mT) :=
  mw (u2 σ 15 3 ((σ 15 3) + (2 : Int32))) fun σ1 => if p3 < 0 ∨ 4 ≤ p3.toNatClampNeg then none else mw (u2 σ1 26 p3.toNatClampNeg (σ 15 3)) fun σ3 => if (σ 15 3) < 0 ∨ 8 ≤ (σ 15 3).toNatClampNeg then none else mw (u2 σ3 25 (σ 15 3).toNatClampNeg ((13 : Int32) + (σ 15 3))) fun σ5 => if ((σ 15 3) + (1 : Int32)) < 0 ∨ 8 ≤ ((σ 15 3) + (1 : Int32)).toNatClampNeg then none else mw (u2 σ5 25 ((σ 15 3) + (1 : Int32)).toNatClampNeg (((13 : Int32) + (σ 15 3)) + (1 : Int32))) fun σ7 => B_poseBlock_2_6_l55 mc_F p3 (σ 15 3) (0 : Int32) σ7 τ
def B_pose_2_6_l26 : Nat → Int32 → Int32 → mS → mT → Option (mS × mT)
  | 0, _, _, _, _ => none
  | n + 1, x3, x4, σ, τ =>
    ob (P_size_2 σ τ) fun r1 σ1 τ1 => if r1 ≤ x4 then (some (σ1, τ1)) else (if (4 : Int32) ≤ x4 then (some (σ1, τ1)) else (if x4 < 0 ∨ 4 ≤ x4.toNatClampNeg then none else mw (u2 σ1 26 x4.toNatClampNeg (-1 : Int32)) fun σ5 => if ((x3 >>> (x4 &&& 31)) &&& (1 : Int32)) = 0 then (if (8 : Int32) < ((σ5 15 3) + (2 : Int32)) then (B_pose_2_6_l26 n x3 (x4 + (1 : Int32)) σ5 τ1) else (ov (B_poseBlock_2_6 x4 σ5 τ1) fun σ8 τ8 => B_pose_2_6_l26 n x3 (x4 + (1 : Int32)) σ8 τ8)) else (B_pose_2_6_l26 n x3 (x4 + (1 : Int32)) σ5 τ1)))
def B_pose_2_6 (p3 : Int32) (σ : mS) (τ : mT) : Option (mS × mT) :=
  mw (u2 σ 15 3 (0 : Int32)) fun σ1 => ob (Y_contacts σ1 τ) fun r2 σ2 τ2 => mw (u2 σ2 15 4 (jmin r2 (12 : Int32))) fun σ3 => mw (u2L τ2 15 5 (1 : Int64)) fun τ4 => B_pose_2_6_l26 mc_F p3 (0 : Int32) σ3 τ4
def B_makeshift_l5 : Nat → Int32 → Int64 → Int32 → mS → mT → Option (Int64 × mS × mT)
  | 0, _, _, _, _, _ => none
  | n + 1, x1, x2, x4, σ, τ =>
    if (σ 15 3) ≤ x4 then (some (x2, σ, τ)) else (if x4 < 0 ∨ 8 ≤ x4.toNatClampNeg then none else if (σ 25 x4.toNatClampNeg) < (13 : Int32) then (B_makeshift_l5 n x1 x2 (x4 + (1 : Int32)) σ τ) else (if x1 < 0 ∨ 14 ≤ x1.toNatClampNeg then none else B_makeshift_l5 n x1 (x2 + (τ (17 + x4.toNatClampNeg) x1.toNatClampNeg)) (x4 + (1 : Int32)) σ τ))
def B_makeshift (p1 : Int32) (σ : mS) (τ : mT) : Option (Int64 × mS × mT) :=
  B_makeshift_l5 mc_F p1 (0 : Int64) (0 : Int32) σ τ
def B_clearBy_l23 : Nat → Int32 → Int32 → Int64 → Int64 → Int32 → mS → mT → Option (mS × mT)
  | 0, _, _, _, _, _, _, _ => none
  | n + 1, x1, x2, x4, x6, x8, σ, τ =>
    if (σ 15 4) ≤ x8 then (if x1 < 0 ∨ 8 ≤ x1.toNatClampNeg then none else if x2 < 0 ∨ 8 ≤ x2.toNatClampNeg then none else if (τ 15 5) = 0 then none else mw (u2L τ (17 + x1.toNatClampNeg) 13 ((((τ (17 + x1.toNatClampNeg) 13) * x4) - (x6 * (τ (17 + x2.toNatClampNeg) 13))) / (τ 15 5))) fun τ5 => some (σ, τ5)) else (if x1 < 0 ∨ 8 ≤ x1.toNatClampNeg then none else if x8 < 0 ∨ 14 ≤ x8.toNatClampNeg then none else if x2 < 0 ∨ 8 ≤ x2.toNatClampNeg then none else if (τ 15 5) = 0 then none else mw (u2L τ (17 + x1.toNatClampNeg) x8.toNatClampNeg ((((τ (17 + x1.toNatClampNeg) x8.toNatClampNeg) * x4) - (x6 * (τ (17 + x2.toNatClampNeg) x8.toNatClampNeg))) / (τ 15 5))) fun τ10 => B_clearBy_l23 n x1 x2 x4 x6 (x8 + (1 : Int32)) σ τ10)
def B_clearBy (p1 : Int32) (p2 : Int32) (p3 : Int32) (σ : mS) (τ : mT) : Option (mS × mT) :=
  if p2 < 0 ∨ 8 ≤ p2.toNatClampNeg then none else if p3 < 0 ∨ 14 ≤ p3.toNatClampNeg then none else if p1 < 0 ∨ 8 ≤ p1.toNatClampNeg then none else B_clearBy_l23 mc_F p1 p2 (τ (17 + p2.toNatClampNeg) p3.toNatClampNeg) (τ (17 + p1.toNatClampNeg) p3.toNatClampNeg) (0 : Int32) σ τ
def B_turnSigns_l2 : Nat → Int32 → Int32 → mS → mT → Option (mS × mT)
  | 0, _, _, _, _ => none
  | n + 1, x1, x2, σ, τ =>
    if (σ 15 4) ≤ x2 then (if x1 < 0 ∨ 8 ≤ x1.toNatClampNeg then none else mw (u2L τ (17 + x1.toNatClampNeg) 13 (-(τ (17 + x1.toNatClampNeg) 13))) fun τ3 => some (σ, τ3)) else (if x1 < 0 ∨ 8 ≤ x1.toNatClampNeg then none else if x2 < 0 ∨ 14 ≤ x2.toNatClampNeg then none else mw (u2L τ (17 + x1.toNatClampNeg) x2.toNatClampNeg (-(τ (17 + x1.toNatClampNeg) x2.toNatClampNeg))) fun τ6 => B_turnSigns_l2 n x1 (x2 + (1 : Int32)) σ τ6)
def B_turnSigns (p1 : Int32) (σ : mS) (τ : mT) : Option (mS × mT) :=
  B_turnSigns_l2 mc_F p1 (0 : Int32) σ τ
def B_pivot_l46 : Nat → Int32 → Int32 → Int64 → Int32 → mS → mT → Option (mS × mT)
  | 0, _, _, _, _, _, _ => none
  | n + 1, x1, x2, x3, x5, σ, τ =>
    if (σ 15 3) ≤ x5 then (mw (u2L τ 15 5 x3) fun τ2 => if x1 < 0 ∨ 8 ≤ x1.toNatClampNeg then none else mw (u2 σ 25 x1.toNatClampNeg x2) fun σ4 => some (σ4, τ2)) else (if x5 = x1 then (B_pivot_l46 n x1 x2 x3 (x5 + (1 : Int32)) σ τ) else (ov (B_clearBy x5 x1 x2 σ τ) fun σ6 τ6 => B_pivot_l46 n x1 x2 x3 (x5 + (1 : Int32)) σ6 τ6))
def B_pivot_b18 (x1 : Int32) (x2 : Int32) (σ : mS) (τ : mT) : Option (mS × mT) :=
  if x1 < 0 ∨ 8 ≤ x1.toNatClampNeg then none else if x2 < 0 ∨ 14 ≤ x2.toNatClampNeg then none else if (lg_cmp (τ (17 + x1.toNatClampNeg) x2.toNatClampNeg) (0 : Int64)) = 0 then (some (σ, τ)) else (if (lg_cmp (τ 15 5) (0 : Int64)) = 0 then (some (σ, τ)) else (B_pivot_l46 mc_F x1 x2 (τ (17 + x1.toNatClampNeg) x2.toNatClampNeg) (0 : Int32) σ τ))
def B_pivot (p1 : Int32) (p2 : Int32) (σ : mS) (τ : mT) : Option (mS × mT) :=
  if p1 < 0 ∨ 8 ≤ p1.toNatClampNeg then none else if p2 < 0 ∨ 14 ≤ p2.toNatClampNeg then none else if 0 ≤ (lg_cmp (τ (17 + p1.toNatClampNeg) p2.toNatClampNeg) (0 : Int64)) then (B_pivot_b18 p1 p2 σ τ) else (ov (B_turnSigns p1 σ τ) fun σ4 τ4 => B_pivot_b18 p1 p2 σ4 τ4)
def B_driveOutMakeshift_l12 (k2 : Int32 → mS → mT → Option (mS × mT)) : Nat → Int32 → Int32 → mS → mT → Option (mS × mT)
  | 0, _, _, _, _ => none
  | n + 1, x1, x2, σ, τ =>
    if (σ 15 4) ≤ x2 then (k2 (x1 + (1 : Int32)) σ τ) else (if x1 < 0 ∨ 8 ≤ x1.toNatClampNeg then none else if (σ 25 x1.toNatClampNeg) < (13 : Int32) then (k2 (x1 + (1 : Int32)) σ τ) else (if x2 < 0 ∨ 14 ≤ x2.toNatClampNeg then none else if (lg_cmp (τ (17 + x1.toNatClampNeg) x2.toNatClampNeg) (0 : Int64)) = 0 then (B_driveOutMakeshift_l12 k2 n x1 (x2 + (1 : Int32)) σ τ) else (ov (B_pivot x1 x2 σ τ) fun σ6 τ6 => B_driveOutMakeshift_l12 k2 n x1 (x2 + (1 : Int32)) σ6 τ6)))
def B_driveOutMakeshift_l2 : Nat → Int32 → mS → mT → Option (mS × mT)
  | 0, _, _, _ => none
  | n + 1, x1, σ, τ =>
    if (σ 15 3) ≤ x1 then (some (σ, τ)) else (B_driveOutMakeshift_l12 (B_driveOutMakeshift_l2 n) mc_F x1 (0 : Int32) σ τ)
def B_driveOutMakeshift (σ : mS) (τ : mT) : Option (mS × mT) :=
  B_driveOutMakeshift_l2 mc_F (0 : Int32) σ τ
def B_firstThatLessensMakeshift_l2 : Nat → Int32 → mS → mT → Option (Int32 × mS × mT)
  | 0, _, _, _ => none
  | n + 1, x1, σ, τ =>
    if (σ 15 4) ≤ x1 then (some ((-1 : Int32), σ, τ)) else (ob (B_makeshift x1 σ τ) fun r2 σ2 τ2 => if (lg_cmp r2 (0 : Int64)) ≤ 0 then (B_firstThatLessensMakeshift_l2 n (x1 + (1 : Int32)) σ2 τ2) else (some (x1, σ2, τ2)))
def B_firstThatLessensMakeshift (σ : mS) (τ : mT) : Option (Int32 × mS × mT) :=
  B_firstThatLessensMakeshift_l2 mc_F (0 : Int32) σ τ
def B_leavesAhead (p1 : Int32) (p2 : Int32) (p3 : Int32) (σ : mS) (τ : mT) : Option (Int32 × mS × mT) :=
  if p1 < 0 ∨ 8 ≤ p1.toNatClampNeg then none else if p2 < 0 ∨ 8 ≤ p2.toNatClampNeg then none else if p3 < 0 ∨ 14 ≤ p3.toNatClampNeg then none else if (lg_cmp ((τ (17 + p1.toNatClampNeg) 13) * (τ (17 + p2.toNatClampNeg) p3.toNatClampNeg)) ((τ (17 + p2.toNatClampNeg) 13) * (τ (17 + p1.toNatClampNeg) p3.toNatClampNeg))) < 0 then (some ((1 : Int32), σ, τ)) else (if (lg_cmp ((τ (17 + p1.toNatClampNeg) 13) * (τ (17 + p2.toNatClampNeg) p3.toNatClampNeg)) ((τ (17 + p2.toNatClampNeg) 13) * (τ (17 + p1.toNatClampNeg) p3.toNatClampNeg))) = 0 then (if (σ 25 p2.toNatClampNeg) ≤ (σ 25 p1.toNatClampNeg) then (some ((0 : Int32), σ, τ)) else (some ((1 : Int32), σ, τ))) else (some ((0 : Int32), σ, τ)))
def B_leavingRow_l18 : Nat → Int32 → Int32 → Int32 → mS → mT → Option (Int32 × mS × mT)
  | 0, _, _, _, _, _ => none
  | n + 1, x1, x2, x3, σ, τ =>
    if (σ 15 3) ≤ x3 then (some (x2, σ, τ)) else (if x3 < 0 ∨ 8 ≤ x3.toNatClampNeg then none else if x1 < 0 ∨ 14 ≤ x1.toNatClampNeg then none else if (lg_cmp (τ (17 + x3.toNatClampNeg) x1.toNatClampNeg) (0 : Int64)) ≤ 0 then (B_leavingRow_l18 n x1 x2 (x3 + (1 : Int32)) σ τ) else (if x2 < 0 then (B_leavingRow_l18 n x1 x3 (x3 + (1 : Int32)) σ τ) else (ob (B_leavesAhead x3 x2 x1 σ τ) fun r6 σ6 τ6 => if r6 = 0 then (B_leavingRow_l18 n x1 x2 (x3 + (1 : Int32)) σ6 τ6) else (B_leavingRow_l18 n x1 x3 (x3 + (1 : Int32)) σ6 τ6))))
def B_leavingRow (p1 : Int32) (σ : mS) (τ : mT) : Option (Int32 × mS × mT) :=
  if p1 < 0 then (some ((-1 : Int32), σ, τ)) else (if p1 < (σ 15 4) then (B_leavingRow_l18 mc_F p1 (-1 : Int32) (0 : Int32) σ τ) else (some ((-1 : Int32), σ, τ)))
def B_solve_b38 (σ : mS) (τ : mT) : Option (Int32 × mS × mT) :=
  ob (B_makeshift (13 : Int32) σ τ) fun r1 σ1 τ1 => if (lg_cmp r1 (0 : Int64)) = 0 then (ov (B_driveOutMakeshift σ1 τ1) fun σ3 τ3 => some ((1 : Int32), σ3, τ3)) else (some ((0 : Int32), σ1, τ1))
def B_solve_l2 : Nat → Int32 → mS → mT → Option (Int32 × mS × mT)
  | 0, _, _, _ => none
  | n + 1, x1, σ, τ =>
    if (100000 : Int32) ≤ x1 then (B_solve_b38 σ τ) else (ob (B_firstThatLessensMakeshift σ τ) fun r2 σ2 τ2 => ob (B_leavingRow r2 σ2 τ2) fun r3 σ3 τ3 => if 0 ≤ r3 then (ov (B_pivot r3 r2 σ3 τ3) fun σ5 τ5 => B_solve_l2 n (x1 + (1 : Int32)) σ5 τ5) else (B_solve_b38 σ3 τ3))
def B_solve (σ : mS) (τ : mT) : Option (Int32 × mS × mT) :=
  B_solve_l2 mc_F (0 : Int32) σ τ
def R_isBalanced_2 (p2 : Int32) (σ : mS) (τ : mT) : Option (Int32 × mS × mT) :=
  ov (Y_find_2 σ τ) fun σ1 τ1 => ov (B_pose_2_6 p2 σ1 τ1) fun σ2 τ2 => ob (B_solve σ2 τ2) fun r3 σ3 τ3 => if ¬ r3 &&& 1 = r3 then none else some (r3, σ3, τ3)
def R_rests (σ : mS) (τ : mT) : Option (Int32 × mS × mT) :=
  ob (R_isBalanced_2 (0 : Int32) σ τ) fun r1 σ1 τ1 => if r1 = 0 then (some ((0 : Int32), σ1, τ1)) else (some ((1 : Int32), σ1, τ1))
def Q_all (σ : mS) (τ : mT) : Option (Int32 × mS × mT) :=
  ob (Q_many σ τ) fun r1 σ1 τ1 => some (((1 : Int32) <<< (r1 &&& 31)) - (1 : Int32), σ1, τ1)
def Q_layRow_b205 (x1 : Int32) (x2 : Int32) (x4 : Int32) (x5 : Int32) (x6 : Int32) (s1 : Int32) (s2 : Int64) (σ : mS) (τ : mT) : Option (mS × mT) :=
  if s1 < 0 ∨ 8 ≤ s1.toNatClampNeg then none else mw (u2L τ 46 s1.toNatClampNeg s2) fun τ2 => if x5 = 0 then (ob (Q_get x1 (3 : Int32) σ τ2) fun r4 σ4 τ4 => ob (Q_get x1 (2 : Int32) σ4 τ4) fun r5 σ5 τ5 => ob (Q_get x1 (4 : Int32) σ5 τ5) fun r6 σ6 τ6 => ob (Q_get x1 (5 : Int32) σ6 τ6) fun r7 σ7 τ7 => if (x2 + (1 : Int32)) < 0 ∨ 8 ≤ (x2 + (1 : Int32)).toNatClampNeg then none else mw (u2L τ7 46 (x2 + (1 : Int32)).toNatClampNeg (((r4 * r5) + (r6 * r7)).toInt64)) fun τ9 => some (σ7, τ9)) else (if x6 = 0 then (if (x2 + (1 : Int32)) < 0 ∨ 8 ≤ (x2 + (1 : Int32)).toNatClampNeg then none else mw (u2L τ2 46 (x2 + (1 : Int32)).toNatClampNeg (0 : Int64)) fun τ12 => some (σ, τ12)) else (if (x2 + (1 : Int32)) < 0 ∨ 8 ≤ (x2 + (1 : Int32)).toNatClampNeg then none else mw (u2L τ2 46 (x2 + (1 : Int32)).toNatClampNeg (x4.toInt64)) fun τ14 => some (σ, τ14)))
def Q_layRow_b167 (x1 : Int32) (x2 : Int32) (x4 : Int32) (x5 : Int32) (x6 : Int32) (s1 : Int32) (s2 : Int64) (σ : mS) (τ : mT) : Option (mS × mT) :=
  if s1 < 0 ∨ 128 ≤ s1.toNatClampNeg then none else mw (u2L τ 45 s1.toNatClampNeg s2) fun τ2 => if x5 = 0 then (ob (Q_get x1 (3 : Int32) σ τ2) fun r4 σ4 τ4 => ob (Q_get x1 (4 : Int32) σ4 τ4) fun r5 σ5 τ5 => Q_layRow_b205 x1 x2 x4 x5 x6 x2 ((r4 + r5).toInt64) σ5 τ5) else (if x6 = 0 then (Q_layRow_b205 x1 x2 x4 x5 x6 x2 (0 : Int64) σ τ2) else (Q_layRow_b205 x1 x2 x4 x5 x6 x2 (1 : Int64) σ τ2))
def Q_layRow_b137 (x1 : Int32) (x2 : Int32) (x4 : Int32) (x5 : Int32) (x6 : Int32) (s1 : Int32) (s2 : Int64) (σ : mS) (τ : mT) : Option (mS × mT) :=
  if s1 < 0 ∨ 128 ≤ s1.toNatClampNeg then none else mw (u2L τ 45 s1.toNatClampNeg s2) fun τ2 => if x6 = 0 then (Q_layRow_b167 x1 x2 x4 x5 x6 ((((16 : Int32) * x2) + (16 : Int32)) + (σ 34 9)) (0 : Int64) σ τ2) else (Q_layRow_b167 x1 x2 x4 x5 x6 ((((16 : Int32) * x2) + (16 : Int32)) + (σ 34 9)) ((-x4).toInt64) σ τ2)
def Q_layRow_b110 (x1 : Int32) (x2 : Int32) (x4 : Int32) (x5 : Int32) (s0 : Int32) (σ : mS) (τ : mT) : Option (mS × mT) :=
  if s0 = 0 then (Q_layRow_b137 x1 x2 x4 x5 s0 (((16 : Int32) * x2) + (σ 34 9)) (0 : Int64) σ τ) else (Q_layRow_b137 x1 x2 x4 x5 s0 (((16 : Int32) * x2) + (σ 34 9)) (-1 : Int64) σ τ)
def Q_layRow_b45 (k3 : Int32 → Int32 → Int32 → Int32 → Int32 → Int32 → mS → mT → Option (mS × mT)) (x1 : Int32) (x2 : Int32) (x3 : Int32) (x4 : Int32) (x5 : Int32) (x6 : Int32) (s0 : Int64) (σ : mS) (τ : mT) : Option (mS × mT) :=
  if (((16 : Int32) * x2) + x6) < 0 ∨ 128 ≤ (((16 : Int32) * x2) + x6).toNatClampNeg then none else mw (u2L τ 45 (((16 : Int32) * x2) + x6).toNatClampNeg s0) fun τ2 => if x6 < 0 ∨ 16 ≤ x6.toNatClampNeg then none else ob (Q_get x1 (1 : Int32) σ τ2) fun r4 σ4 τ4 => if ((((16 : Int32) * x2) + (16 : Int32)) + x6) < 0 ∨ 128 ≤ ((((16 : Int32) * x2) + (16 : Int32)) + x6).toNatClampNeg then none else mw (u2L τ4 45 ((((16 : Int32) * x2) + (16 : Int32)) + x6).toNatClampNeg (s0 * (((σ 44 x6.toNatClampNeg) - r4).toInt64))) fun τ6 => k3 x1 x2 x3 x4 x5 (x6 + (1 : Int32)) σ4 τ6
def Q_layRow_l3 : Nat → Int32 → Int32 → Int32 → Int32 → Int32 → Int32 → mS → mT → Option (mS × mT)
  | 0, _, _, _, _, _, _, _, _ => none
  | n + 1, x1, x2, x3, x4, x5, x6, σ, τ =>
    if (σ 34 9) ≤ x6 then (if x3 = x1 then (Q_layRow_b110 x1 x2 x4 x5 (1 : Int32) σ τ) else (Q_layRow_b110 x1 x2 x4 x5 (0 : Int32) σ τ)) else (if x6 < 0 ∨ 16 ≤ x6.toNatClampNeg then none else if (σ 42 x6.toNatClampNeg) = x1 then (Q_layRow_b45 (Q_layRow_l3 n) x1 x2 x3 x4 x5 x6 (1 : Int64) σ τ) else (if (σ 43 x6.toNatClampNeg) = x1 then (Q_layRow_b45 (Q_layRow_l3 n) x1 x2 x3 x4 x5 x6 (-1 : Int64) σ τ) else (Q_layRow_b45 (Q_layRow_l3 n) x1 x2 x3 x4 x5 x6 (0 : Int64) σ τ)))
def Q_layRow (p1 : Int32) (p2 : Int32) (p3 : Int32) (p4 : Int32) (p5 : Int32) (σ : mS) (τ : mT) : Option (mS × mT) :=
  Q_layRow_l3 mc_F p1 p2 p3 p4 p5 (0 : Int32) σ τ
def Q_layRows_l8 : Nat → Int32 → Int32 → Int32 → Int32 → Int32 → mS → mT → Option (mS × mT)
  | 0, _, _, _, _, _, _, _ => none
  | n + 1, x1, x2, x3, x4, x5, σ, τ =>
    ob (Q_many σ τ) fun r1 σ1 τ1 => if r1 ≤ x5 then (if x2 = (-9 : Int32) then (mw (u2 σ1 34 14 ((σ1 34 9) + (0 : Int32))) fun σ4 => some (σ4, τ1)) else (if x4 = 0 then (mw (u2 σ1 34 14 ((σ1 34 9) + (1 : Int32))) fun σ7 => some (σ7, τ1)) else (mw (u2 σ1 34 14 ((σ1 34 9) + (0 : Int32))) fun σ6 => some (σ6, τ1)))) else (ob (Q_has x1 x5 σ1 τ1) fun r8 σ8 τ8 => if r8 = 0 then (Q_layRows_l8 n x1 x2 x3 x4 (x5 + (1 : Int32)) σ8 τ8) else (ov (Q_layRow x5 (σ8 34 13) x2 x3 x4 σ8 τ8) fun σ10 τ10 => mw (u2 σ10 34 13 ((σ10 34 13) + (2 : Int32))) fun σ11 => Q_layRows_l8 n x1 x2 x3 x4 (x5 + (1 : Int32)) σ11 τ10))
def Q_layRows (p1 : Int32) (p2 : Int32) (p3 : Int32) (p4 : Int32) (σ : mS) (τ : mT) : Option (mS × mT) :=
  mw (u2 σ 34 13 (0 : Int32)) fun σ1 => Q_layRows_l8 mc_F p1 p2 p3 p4 (0 : Int32) σ1 τ
def Q_ones_l4 : Nat → Int32 → Int32 → Int32 → mS → mT → Option (Int32 × mS × mT)
  | 0, _, _, _, _, _ => none
  | n + 1, x0, x1, x2, σ, τ =>
    if (16 : Int32) ≤ x2 then (some (x1, σ, τ)) else (Q_ones_l4 n x0 (x1 + ((x0 >>> (x2 &&& 31)) &&& (1 : Int32))) (x2 + (1 : Int32)) σ τ)
def Q_ones (p0 : Int32) (σ : mS) (τ : mT) : Option (Int32 × mS × mT) :=
  Q_ones_l4 mc_F p0 (0 : Int32) (0 : Int32) σ τ
def Q_fills_l73 : Nat → Int32 → mS → mT → Option (mS × mT)
  | 0, _, _, _ => none
  | n + 1, x3, σ, τ =>
    if (σ 34 13) ≤ x3 then (some (σ, τ)) else (if x3 < 0 ∨ 8 ≤ x3.toNatClampNeg then none else if (((9 : Int32) * x3) + (σ 34 13)) < 0 ∨ 72 ≤ (((9 : Int32) * x3) + (σ 34 13)).toNatClampNeg then none else mw (u2L τ 47 (((9 : Int32) * x3) + (σ 34 13)).toNatClampNeg (τ 46 x3.toNatClampNeg)) fun τ4 => Q_fills_l73 n (x3 + (1 : Int32)) σ τ4)
def Q_fills_l23 (k4 : Int32 → Int32 → Int32 → mS → mT → Option (mS × mT)) : Nat → Int32 → Int32 → Int32 → Int32 → mS → mT → Option (mS × mT)
  | 0, _, _, _, _, _, _ => none
  | n + 1, x1, x2, x3, x4, σ, τ =>
    if (σ 34 13) ≤ x4 then (k4 x1 (x2 + (1 : Int32)) (x3 + (1 : Int32)) σ τ) else (if (((16 : Int32) * x4) + x3) < 0 ∨ 128 ≤ (((16 : Int32) * x4) + x3).toNatClampNeg then none else if (((9 : Int32) * x4) + x2) < 0 ∨ 72 ≤ (((9 : Int32) * x4) + x2).toNatClampNeg then none else mw (u2L τ 47 (((9 : Int32) * x4) + x2).toNatClampNeg (τ 45 (((16 : Int32) * x4) + x3).toNatClampNeg)) fun τ4 => Q_fills_l23 k4 n x1 x2 x3 (x4 + (1 : Int32)) σ τ4)
def Q_fills_l4 : Nat → Int32 → Int32 → Int32 → mS → mT → Option (mS × mT)
  | 0, _, _, _, _, _ => none
  | n + 1, x1, x2, x3, σ, τ =>
    if (σ 34 14) ≤ x3 then (Q_fills_l73 mc_F (0 : Int32) σ τ) else (ob (Q_has x1 x3 σ τ) fun r2 σ2 τ2 => if r2 = 0 then (Q_fills_l4 n x1 x2 (x3 + (1 : Int32)) σ2 τ2) else (Q_fills_l23 (Q_fills_l4 n) mc_F x1 x2 x3 (0 : Int32) σ2 τ2))
def Q_fills (p1 : Int32) (σ : mS) (τ : mT) : Option (mS × mT) :=
  Q_fills_l4 mc_F p1 (0 : Int32) (0 : Int32) σ τ
def Q_pivot_l10 : Nat → Int32 → Int32 → Int32 → mS → mT → Option (Int32 × mS × mT)
  | 0, _, _, _, _, _ => none
  | n + 1, x1, x2, x3, σ, τ =>
    if x3 < x1 then (some (x2, σ, τ)) else (if (((9 : Int32) * x3) + x1) < 0 ∨ 72 ≤ (((9 : Int32) * x3) + x1).toNatClampNeg then none else if (lg_cmp (τ 47 (((9 : Int32) * x3) + x1).toNatClampNeg) (0 : Int64)) = 0 then (Q_pivot_l10 n x1 x2 (x3 + (-1 : Int32)) σ τ) else (Q_pivot_l10 n x1 x3 (x3 + (-1 : Int32)) σ τ))
def Q_pivot (p1 : Int32) (σ : mS) (τ : mT) : Option (Int32 × mS × mT) :=
  Q_pivot_l10 mc_F p1 (-9 : Int32) ((σ 34 13) - (1 : Int32)) σ τ
def Q_swaps_l2 : Nat → Int32 → Int32 → Int32 → mS → mT → Option (mS × mT)
  | 0, _, _, _, _, _ => none
  | n + 1, x1, x2, x3, σ, τ =>
    if (σ 34 13) < x3 then (some (σ, τ)) else (if (((9 : Int32) * x1) + x3) < 0 ∨ 72 ≤ (((9 : Int32) * x1) + x3).toNatClampNeg then none else if (((9 : Int32) * x2) + x3) < 0 ∨ 72 ≤ (((9 : Int32) * x2) + x3).toNatClampNeg then none else mw (u2L τ 47 (((9 : Int32) * x1) + x3).toNatClampNeg (τ 47 (((9 : Int32) * x2) + x3).toNatClampNeg)) fun τ4 => mw (u2L τ4 47 (((9 : Int32) * x2) + x3).toNatClampNeg (τ 47 (((9 : Int32) * x1) + x3).toNatClampNeg)) fun τ5 => Q_swaps_l2 n x1 x2 (x3 + (1 : Int32)) σ τ5)
def Q_swaps (p1 : Int32) (p2 : Int32) (σ : mS) (τ : mT) : Option (mS × mT) :=
  Q_swaps_l2 mc_F p1 p2 (0 : Int32) σ τ
def Q_clears_l29 : Nat → Int32 → Int32 → Int64 → Int64 → Int64 → Int32 → mS → mT → Option (mS × mT)
  | 0, _, _, _, _, _, _, _, _ => none
  | n + 1, x1, x2, x3, x5, x7, x9, σ, τ =>
    if (σ 34 13) < x9 then (some (σ, τ)) else (if (((9 : Int32) * x1) + x9) < 0 ∨ 72 ≤ (((9 : Int32) * x1) + x9).toNatClampNeg then none else if (((9 : Int32) * x2) + x9) < 0 ∨ 72 ≤ (((9 : Int32) * x2) + x9).toNatClampNeg then none else if x3 = 0 then none else mw (u2L τ 47 (((9 : Int32) * x1) + x9).toNatClampNeg (((x5 * (τ 47 (((9 : Int32) * x1) + x9).toNatClampNeg)) - (x7 * (τ 47 (((9 : Int32) * x2) + x9).toNatClampNeg))) / x3)) fun τ5 => Q_clears_l29 n x1 x2 x3 x5 x7 (x9 + (1 : Int32)) σ τ5)
def Q_clears (p1 : Int32) (p2 : Int32) (p3 : Int64) (σ : mS) (τ : mT) : Option (mS × mT) :=
  if (((9 : Int32) * p2) + p2) < 0 ∨ 72 ≤ (((9 : Int32) * p2) + p2).toNatClampNeg then none else if (((9 : Int32) * p1) + p2) < 0 ∨ 72 ≤ (((9 : Int32) * p1) + p2).toNatClampNeg then none else Q_clears_l29 mc_F p1 p2 p3 (τ 47 (((9 : Int32) * p2) + p2).toNatClampNeg) (τ 47 (((9 : Int32) * p1) + p2).toNatClampNeg) (0 : Int32) σ τ
def Q_solves_l47 (k10 : Int64 → Int32 → mS → mT → Option (Int32 × mS × mT)) : Nat → Int64 → Int32 → Int32 → mS → mT → Option (Int32 × mS × mT)
  | 0, _, _, _, _, _ => none
  | n + 1, x2, x4, x6, σ, τ =>
    if (σ 34 13) ≤ x6 then (if (((9 : Int32) * x4) + x4) < 0 ∨ 72 ≤ (((9 : Int32) * x4) + x4).toNatClampNeg then none else k10 (τ 47 (((9 : Int32) * x4) + x4).toNatClampNeg) (x4 + (1 : Int32)) σ τ) else (if x6 = x4 then (Q_solves_l47 k10 n x2 x4 (x6 + (1 : Int32)) σ τ) else (ov (Q_clears x6 x4 x2 σ τ) fun σ4 τ4 => Q_solves_l47 k10 n x2 x4 (x6 + (1 : Int32)) σ4 τ4))
def Q_solves_l10 : Nat → Int64 → Int32 → mS → mT → Option (Int32 × mS × mT)
  | 0, _, _, _, _ => none
  | n + 1, x2, x4, σ, τ =>
    if (σ 34 13) ≤ x4 then (some ((1 : Int32), σ, τ)) else (ob (Q_pivot x4 σ τ) fun r2 σ2 τ2 => if r2 = (-9 : Int32) then (some ((0 : Int32), σ2, τ2)) else (ov (Q_swaps r2 x4 σ2 τ2) fun σ4 τ4 => Q_solves_l47 (Q_solves_l10 n) mc_F x2 x4 (0 : Int32) σ4 τ4))
def Q_solves (p1 : Int32) (σ : mS) (τ : mT) : Option (Int32 × mS × mT) :=
  ov (Q_fills p1 σ τ) fun σ1 τ1 => Q_solves_l10 mc_F (1 : Int64) (0 : Int32) σ1 τ1
def Q_divisor (σ : mS) (τ : mT) : Option (Int64 × mS × mT) :=
  if (σ 34 13) = 0 then (some ((1 : Int64), σ, τ)) else (if ((((9 : Int32) * ((σ 34 13) - (1 : Int32))) + (σ 34 13)) - (1 : Int32)) < 0 ∨ 72 ≤ ((((9 : Int32) * ((σ 34 13) - (1 : Int32))) + (σ 34 13)) - (1 : Int32)).toNatClampNeg then none else some (τ 47 ((((9 : Int32) * ((σ 34 13) - (1 : Int32))) + (σ 34 13)) - (1 : Int32)).toNatClampNeg, σ, τ))
def Q_isNoneBelow_b68 (k19 : Int32 → Int32 → Int32 → mS → mT → Option (Int32 × mS × mT)) (x1 : Int32) (x3 : Int32) (σ : mS) (τ : mT) : Option (Int32 × mS × mT) :=
  k19 x1 (1 : Int32) (x3 + (1 : Int32)) σ τ
def Q_isNoneBelow_l19 : Nat → Int32 → Int32 → Int32 → mS → mT → Option (Int32 × mS × mT)
  | 0, _, _, _, _, _ => none
  | n + 1, x1, x2, x3, σ, τ =>
    if (σ 34 13) ≤ x3 then (if ¬ x2 &&& 1 = x2 then none else some (x2, σ, τ)) else (if (((9 : Int32) * x3) + (σ 34 13)) < 0 ∨ 72 ≤ (((9 : Int32) * x3) + (σ 34 13)).toNatClampNeg then none else if x2 = 0 then (Q_isNoneBelow_l19 n x1 (0 : Int32) (x3 + (1 : Int32)) σ τ) else (if x1 = 0 then (if 0 < (lg_cmp (τ 47 (((9 : Int32) * x3) + (σ 34 13)).toNatClampNeg) (0 : Int64)) then (Q_isNoneBelow_l19 n x1 (0 : Int32) (x3 + (1 : Int32)) σ τ) else (Q_isNoneBelow_b68 (Q_isNoneBelow_l19 n) x1 x3 σ τ)) else (if (lg_cmp (τ 47 (((9 : Int32) * x3) + (σ 34 13)).toNatClampNeg) (0 : Int64)) < 0 then (Q_isNoneBelow_l19 n x1 (0 : Int32) (x3 + (1 : Int32)) σ τ) else (Q_isNoneBelow_b68 (Q_isNoneBelow_l19 n) x1 x3 σ τ))))
def Q_isNoneBelow_b14 (s0 : Int32) (σ : mS) (τ : mT) : Option (Int32 × mS × mT) :=
  Q_isNoneBelow_l19 mc_F s0 (1 : Int32) (0 : Int32) σ τ
def Q_isNoneBelow (σ : mS) (τ : mT) : Option (Int32 × mS × mT) :=
  ob (Q_divisor σ τ) fun r1 σ1 τ1 => if (lg_cmp r1 (0 : Int64)) ≤ 0 then (Q_isNoneBelow_b14 (0 : Int32) σ1 τ1) else (Q_isNoneBelow_b14 (1 : Int32) σ1 τ1)
def Q_solved (p1 : Int32) (p2 : Int32) (σ : mS) (τ : mT) : Option (Int64 × mS × mT) :=
  if p2 = (-9 : Int32) then (some ((0 : Int64), σ, τ)) else (ob (Q_has p1 p2 σ τ) fun r2 σ2 τ2 => if r2 = 0 then (some ((0 : Int64), σ2, τ2)) else (ob (Q_ones (p1 &&& (((1 : Int32) <<< (p2 &&& 31)) - (1 : Int32))) σ2 τ2) fun r4 σ4 τ4 => if (((9 : Int32) * r4) + (σ4 34 13)) < 0 ∨ 72 ≤ (((9 : Int32) * r4) + (σ4 34 13)).toNatClampNeg then none else ob (Q_divisor σ4 τ4) fun r6 σ6 τ6 => if (lg_cmp r6 (0 : Int64)) ≤ 0 then (some (-(τ4 47 (((9 : Int32) * r4) + (σ4 34 13)).toNatClampNeg), σ6, τ6)) else (some (τ4 47 (((9 : Int32) * r4) + (σ4 34 13)).toNatClampNeg, σ6, τ6))))
def Q_meets_b56 (x1 : Int64) (x3 : Int64) (σ : mS) (τ : mT) : Option (mS × mT) :=
  mw (u2L τ 34 21 x1) fun τ1 => mw (u2L τ1 34 22 x3) fun τ2 => mw (u2 σ 34 18 (1 : Int32)) fun σ3 => some (σ3, τ2)
def Q_meets_b33 (x1 : Int64) (x3 : Int64) (σ : mS) (τ : mT) : Option (mS × mT) :=
  if (σ 34 18) = 0 then (Q_meets_b56 x1 x3 σ τ) else (if (lg_cmp (x1 * (τ 34 22)) ((τ 34 21) * x3)) ≤ 0 then (mw (u2 σ 34 18 (1 : Int32)) fun σ3 => some (σ3, τ)) else (Q_meets_b56 x1 x3 σ τ))
def Q_meets_b23 (x1 : Int64) (x3 : Int64) (σ : mS) (τ : mT) : Option (mS × mT) :=
  mw (u2L τ 34 19 x1) fun τ1 => mw (u2L τ1 34 20 x3) fun τ2 => Q_meets_b33 x1 x3 σ τ2
def Q_meets (p1 : Int64) (p2 : Int64) (σ : mS) (τ : mT) : Option (mS × mT) :=
  if (σ 34 18) = 0 then (Q_meets_b23 p1 p2 σ τ) else (if 0 ≤ (lg_cmp (p1 * (τ 34 20)) ((τ 34 19) * p2)) then (Q_meets_b33 p1 p2 σ τ) else (Q_meets_b23 p1 p2 σ τ))
def Q_seeks_b67 (k7 : Int32 → Int32 → mS → mT → Option (mS × mT)) (x1 : Int32) (x2 : Int32) (s1 : Int64) (s2 : Int64) (σ : mS) (τ : mT) : Option (mS × mT) :=
  ov (Q_meets s1 s2 σ τ) fun σ1 τ1 => k7 x1 (x2 + (1 : Int32)) σ1 τ1
def Q_seeks_l7 : Nat → Int32 → Int32 → mS → mT → Option (mS × mT)
  | 0, _, _, _, _ => none
  | n + 1, x1, x2, σ, τ =>
    if ((1 : Int32) <<< ((σ 34 14) &&& 31)) ≤ x2 then (some (σ, τ)) else (ob (Q_ones x2 σ τ) fun r2 σ2 τ2 => if r2 = (σ2 34 13) then (ob (Q_solves x2 σ2 τ2) fun r4 σ4 τ4 => if r4 = 0 then (Q_seeks_l7 n x1 (x2 + (1 : Int32)) σ4 τ4) else (ob (Q_isNoneBelow σ4 τ4) fun r6 σ6 τ6 => if r6 = 0 then (Q_seeks_l7 n x1 (x2 + (1 : Int32)) σ6 τ6) else (ob (Q_divisor σ6 τ6) fun r8 σ8 τ8 => ob (Q_solved x2 x1 σ8 τ8) fun r9 σ9 τ9 => if 0 ≤ (lg_cmp r8 (0 : Int64)) then (Q_seeks_b67 (Q_seeks_l7 n) x1 x2 r9 r8 σ9 τ9) else (Q_seeks_b67 (Q_seeks_l7 n) x1 x2 r9 (-r8) σ9 τ9)))) else (Q_seeks_l7 n x1 (x2 + (1 : Int32)) σ2 τ2))
def Q_seeks (p1 : Int32) (σ : mS) (τ : mT) : Option (mS × mT) :=
  mw (u2 σ 34 18 (0 : Int32)) fun σ1 => Q_seeks_l7 mc_F p1 (0 : Int32) σ1 τ
def Q_canBalance (p1 : Int32) (σ : mS) (τ : mT) : Option (Int32 × mS × mT) :=
  ov (Q_layAll σ τ) fun σ1 τ1 => ov (Q_layRows p1 (-9 : Int32) (0 : Int32) (0 : Int32) σ1 τ1) fun σ2 τ2 => ov (Q_seeks (-9 : Int32) σ2 τ2) fun σ3 τ3 => if ¬ (σ3 34 18) &&& 1 = (σ3 34 18) then none else some (σ3 34 18, σ3, τ3)
def Q_isResting (σ : mS) (τ : mT) : Option (Int32 × mS × mT) :=
  ob (Q_all σ τ) fun r1 σ1 τ1 => ob (Q_canBalance r1 σ1 τ1) fun r2 σ2 τ2 => if ¬ r2 &&& 1 = r2 then none else some (r2, σ2, τ2)
def Q_rests (σ : mS) (τ : mT) : Option (Int32 × mS × mT) :=
  ob (Q_isResting σ τ) fun r1 σ1 τ1 => if r1 = 0 then (some ((0 : Int32), σ1, τ1)) else (some ((1 : Int32), σ1, τ1))
def B_rowThatGives_l2 : Nat → Int32 → Int32 → mS → mT → Option (Int32 × mS × mT)
  | 0, _, _, _, _ => none
  | n + 1, x1, x2, σ, τ =>
    if (σ 15 3) ≤ x2 then (some ((-1 : Int32), σ, τ)) else (if x2 < 0 ∨ 8 ≤ x2.toNatClampNeg then none else if (σ 25 x2.toNatClampNeg) = x1 then (some (x2, σ, τ)) else (B_rowThatGives_l2 n x1 (x2 + (1 : Int32)) σ τ))
def B_rowThatGives (p1 : Int32) (σ : mS) (τ : mT) : Option (Int32 × mS × mT) :=
  B_rowThatGives_l2 mc_F p1 (0 : Int32) σ τ
def B_firstOfSign_l17 : Nat → Int32 → Int32 → Int32 → Int32 → mS → mT → Option (Int32 × mS × mT)
  | 0, _, _, _, _, _, _ => none
  | n + 1, x1, x2, x3, x4, σ, τ =>
    if (σ 15 4) ≤ x4 then (some ((-1 : Int32), σ, τ)) else (if x4 = x2 then (B_firstOfSign_l17 n x1 x2 x3 (x4 + (1 : Int32)) σ τ) else (if x1 < 0 ∨ 8 ≤ x1.toNatClampNeg then none else if x4 < 0 ∨ 14 ≤ x4.toNatClampNeg then none else if (lg_cmp ((x3.toInt64) * (τ (17 + x1.toNatClampNeg) x4.toNatClampNeg)) (0 : Int64)) ≤ 0 then (B_firstOfSign_l17 n x1 x2 x3 (x4 + (1 : Int32)) σ τ) else (some (x4, σ, τ))))
def B_firstOfSign (p1 : Int32) (p2 : Int32) (p3 : Int32) (σ : mS) (τ : mT) : Option (Int32 × mS × mT) :=
  if p1 < 0 then (some ((-1 : Int32), σ, τ)) else (if p1 < (σ 15 3) then (B_firstOfSign_l17 mc_F p1 p2 p3 (0 : Int32) σ τ) else (some ((-1 : Int32), σ, τ)))
def B_makeGreatest_l28 : Nat → Int32 → Int32 → mS → mT → Option (Int32 × mS × mT)
  | 0, _, _, _, _ => none
  | n + 1, x1, x2, σ, τ =>
    if (100000 : Int32) ≤ x2 then (some ((1 : Int32), σ, τ)) else (ob (B_rowThatGives x1 σ τ) fun r2 σ2 τ2 => ob (B_firstOfSign r2 x1 (-1 : Int32) σ2 τ2) fun r3 σ3 τ3 => if 0 ≤ r3 then (ob (B_leavingRow r3 σ3 τ3) fun r5 σ5 τ5 => if 0 ≤ r5 then (ov (B_pivot r5 r3 σ5 τ5) fun σ7 τ7 => B_makeGreatest_l28 n x1 (x2 + (1 : Int32)) σ7 τ7) else (some ((0 : Int32), σ5, τ5))) else (some ((1 : Int32), σ3, τ3)))
def B_makeGreatest (p1 : Int32) (σ : mS) (τ : mT) : Option (Int32 × mS × mT) :=
  ob (B_rowThatGives p1 σ τ) fun r1 σ1 τ1 => if 0 ≤ r1 then (B_makeGreatest_l28 mc_F p1 (0 : Int32) σ1 τ1) else (ob (B_leavingRow p1 σ1 τ1) fun r3 σ3 τ3 => if 0 ≤ r3 then (ov (B_pivot r3 p1 σ3 τ3) fun σ5 τ5 => B_makeGreatest_l28 mc_F p1 (0 : Int32) σ5 τ5) else (some ((0 : Int32), σ3, τ3)))
def B_commonDivisor_b51 (x4 : Int64) (σ : mS) (τ : mT) : Option (Int64 × mS × mT) :=
  if (lg_cmp x4 (0 : Int64)) = 0 then (some ((1 : Int64), σ, τ)) else (some (x4, σ, τ))
def B_commonDivisor_l15 : Nat → Int64 → Int64 → Int32 → mS → mT → Option (Int64 × mS × mT)
  | 0, _, _, _, _, _ => none
  | n + 1, x4, x6, x8, σ, τ =>
    if (200 : Int32) ≤ x8 then (B_commonDivisor_b51 x4 σ τ) else (if (lg_cmp x6 (0 : Int64)) = 0 then (B_commonDivisor_b51 x4 σ τ) else (if x6 = 0 then none else B_commonDivisor_l15 n x6 (x4 - x4 / x6 * x6) (x8 + (1 : Int32)) σ τ))
def B_commonDivisor (p0 : Int64) (p1 : Int64) (σ : mS) (τ : mT) : Option (Int64 × mS × mT) :=
  B_commonDivisor_l15 mc_F (jabs p0) (jabs p1) (0 : Int32) σ τ
def B_denominator (p1 : Int32) (σ : mS) (τ : mT) : Option (Int64 × mS × mT) :=
  ob (B_rowThatGives p1 σ τ) fun r1 σ1 τ1 => if 0 ≤ r1 then (if r1 < 0 ∨ 8 ≤ r1.toNatClampNeg then none else ob (B_commonDivisor (τ1 (17 + r1.toNatClampNeg) 13) (τ1 15 5) σ1 τ1) fun r4 σ4 τ4 => if r4 = 0 then none else some ((τ1 15 5) / r4, σ4, τ4)) else (some ((1 : Int64), σ1, τ1))
def B_numerator (p1 : Int32) (σ : mS) (τ : mT) : Option (Int64 × mS × mT) :=
  ob (B_rowThatGives p1 σ τ) fun r1 σ1 τ1 => if 0 ≤ r1 then (if r1 < 0 ∨ 8 ≤ r1.toNatClampNeg then none else ob (B_commonDivisor (τ1 (17 + r1.toNatClampNeg) 13) (τ1 15 5) σ1 τ1) fun r4 σ4 τ4 => if r4 = 0 then none else some ((τ1 (17 + r1.toNatClampNeg) 13) / r4, σ4, τ4)) else (some ((0 : Int64), σ1, τ1))
def B_makeLeast_l2 : Nat → Int32 → Int32 → mS → mT → Option (mS × mT)
  | 0, _, _, _, _ => none
  | n + 1, x1, x2, σ, τ =>
    if (100000 : Int32) ≤ x2 then (some (σ, τ)) else (ob (B_rowThatGives x1 σ τ) fun r2 σ2 τ2 => ob (B_firstOfSign r2 x1 (1 : Int32) σ2 τ2) fun r3 σ3 τ3 => ob (B_leavingRow r3 σ3 τ3) fun r4 σ4 τ4 => if 0 ≤ r4 then (ov (B_pivot r4 r3 σ4 τ4) fun σ6 τ6 => B_makeLeast_l2 n x1 (x2 + (1 : Int32)) σ6 τ6) else (some (σ4, τ4)))
def B_makeLeast (p1 : Int32) (σ : mS) (τ : mT) : Option (mS × mT) :=
  B_makeLeast_l2 mc_F p1 (0 : Int32) σ τ
def R_extreme_b45 (x1 : Int32) (x2 : Int32) (σ : mS) (τ : mT) : Option (Int64 × mS × mT) :=
  if (x2 - x2 / (2 : Int32) * (2 : Int32)) = 0 then (ob (B_numerator x1 σ τ) fun r3 σ3 τ3 => some (r3, σ3, τ3)) else (ob (B_denominator x1 σ τ) fun r2 σ2 τ2 => some (r2, σ2, τ2))
def R_extreme (p1 : Int32) (p2 : Int32) (σ : mS) (τ : mT) : Option (Int64 × mS × mT) :=
  ob (B_solve σ τ) fun r1 σ1 τ1 => if r1 = 0 then (some ((-9 : Int64), σ1, τ1)) else (if (2 : Int32) ≤ p2 then (ob (B_makeGreatest p1 σ1 τ1) fun r4 σ4 τ4 => if r4 = 0 then (some ((-5 : Int64), σ4, τ4)) else (R_extreme_b45 p1 p2 σ4 τ4)) else (ov (B_makeLeast p1 σ1 τ1) fun σ6 τ6 => R_extreme_b45 p1 p2 σ6 τ6))
def R_bounds (p1 : Int32) (p2 : Int32) (σ : mS) (τ : mT) : Option (Int64 × mS × mT) :=
  ov (Y_find_2 σ τ) fun σ1 τ1 => ob (Y_contacts σ1 τ1) fun r2 σ2 τ2 => ob (R_within p1 (0 : Int32) (r2 - (1 : Int32)) σ2 τ2) fun r3 σ3 τ3 => if r3 = 0 then (some ((-1 : Int64), σ3, τ3)) else (ob (R_within p2 (0 : Int32) (3 : Int32) σ3 τ3) fun r5 σ5 τ5 => if r5 = 0 then (some ((-1 : Int64), σ5, τ5)) else (ov (B_pose_2_6 (0 : Int32) σ5 τ5) fun σ7 τ7 => ob (R_extreme p1 p2 σ7 τ7) fun r8 σ8 τ8 => some (r8, σ8, τ8)))
def Q_common_l6 : Nat → Int64 → Int64 → mS → mT → Option (Int64 × mS × mT)
  | 0, _, _, _, _ => none
  | n + 1, x4, x6, σ, τ =>
    if (lg_cmp x6 (0 : Int64)) = 0 then (some (x4, σ, τ)) else (if x6 = 0 then none else Q_common_l6 n x6 (x4 - x4 / x6 * x6) σ τ)
def Q_common (p0 : Int64) (p1 : Int64) (σ : mS) (τ : mT) : Option (Int64 × mS × mT) :=
  Q_common_l6 mc_F p0 p1 σ τ
def Q_told_b33 (x1 : Int32) (x2 : Int64) (s0 : Int64) (σ : mS) (τ : mT) : Option (Int64 × mS × mT) :=
  ob (Q_common s0 x2 σ τ) fun r1 σ1 τ1 => if (x1 - x1 / (2 : Int32) * (2 : Int32)) = 0 then (if r1 = 0 then none else some (x2 / r1, σ1, τ1)) else (if r1 = 0 then none else some (s0 / r1, σ1, τ1))
def Q_told_b16 (x1 : Int32) (s0 : Int64) (σ : mS) (τ : mT) : Option (Int64 × mS × mT) :=
  if (2 : Int32) ≤ x1 then (Q_told_b33 x1 s0 (τ 34 22) σ τ) else (Q_told_b33 x1 s0 (τ 34 20) σ τ)
def Q_told (p1 : Int32) (σ : mS) (τ : mT) : Option (Int64 × mS × mT) :=
  if (2 : Int32) ≤ p1 then (Q_told_b16 p1 (τ 34 21) σ τ) else (Q_told_b16 p1 (τ 34 19) σ τ)
def Q_bounds (p1 : Int32) (p2 : Int32) (σ : mS) (τ : mT) : Option (Int64 × mS × mT) :=
  ob (Q_isContact p1 σ τ) fun r1 σ1 τ1 => if r1 = 0 then (some ((-1 : Int64), σ1, τ1)) else (ob (Q_within p2 (0 : Int32) (3 : Int32) σ1 τ1) fun r3 σ3 τ3 => if r3 = 0 then (some ((-1 : Int64), σ3, τ3)) else (ob (Q_all σ3 τ3) fun r5 σ5 τ5 => ov (Q_layRows r5 (-9 : Int32) (0 : Int32) (0 : Int32) σ5 τ5) fun σ6 τ6 => ov (Q_seeks p1 σ6 τ6) fun σ7 τ7 => if (σ7 34 18) = 0 then (some ((-9 : Int64), σ7, τ7)) else (ob (Q_told p2 σ7 τ7) fun r9 σ9 τ9 => some (r9, σ9, τ9))))
def B_poseLoad_b100 (x3 : Int32) (σ : mS) (τ : mT) : Option (Int32 × mS × mT) :=
  mw (u2 σ 15 4 ((σ 15 4) + (1 : Int32))) fun σ1 => some (x3, σ1, τ)
def B_poseLoad_l25 : Nat → Int32 → Int32 → Int32 → Int32 → mS → mT → Option (Int32 × mS × mT)
  | 0, _, _, _, _, _, _ => none
  | n + 1, x1, x2, x3, x4, σ, τ =>
    if (σ 15 3) ≤ x4 then (if x1 < 0 ∨ 4 ≤ x1.toNatClampNeg then none else if (σ 26 x1.toNatClampNeg) < 0 then (B_poseLoad_b100 x3 σ τ) else (if (σ 15 3) ≤ ((σ 26 x1.toNatClampNeg) + (1 : Int32)) then (B_poseLoad_b100 x3 σ τ) else (if (σ 26 x1.toNatClampNeg) < 0 ∨ 8 ≤ (σ 26 x1.toNatClampNeg).toNatClampNeg then none else if x3 < 0 ∨ 14 ≤ x3.toNatClampNeg then none else mw (u2L τ (17 + (σ 26 x1.toNatClampNeg).toNatClampNeg) x3.toNatClampNeg (-1 : Int64)) fun τ7 => if ((σ 26 x1.toNatClampNeg) + (1 : Int32)) < 0 ∨ 8 ≤ ((σ 26 x1.toNatClampNeg) + (1 : Int32)).toNatClampNeg then none else mw (u2L τ7 (17 + ((σ 26 x1.toNatClampNeg) + (1 : Int32)).toNatClampNeg) x3.toNatClampNeg ((-x2).toInt64)) fun τ9 => B_poseLoad_b100 x3 σ τ9))) else (if x4 < 0 ∨ 8 ≤ x4.toNatClampNeg then none else if x3 < 0 ∨ 14 ≤ x3.toNatClampNeg then none else mw (u2L τ (17 + x4.toNatClampNeg) x3.toNatClampNeg (0 : Int64)) fun τ12 => B_poseLoad_l25 n x1 x2 x3 (x4 + (1 : Int32)) σ τ12)
def B_poseLoad (p1 : Int32) (p2 : Int32) (σ : mS) (τ : mT) : Option (Int32 × mS × mT) :=
  if (13 : Int32) ≤ (σ 15 4) then (some ((-1 : Int32), σ, τ)) else (ob (R_within p1 (0 : Int32) (3 : Int32) σ τ) fun r2 σ2 τ2 => if r2 = 0 then (some ((-1 : Int32), σ2, τ2)) else (B_poseLoad_l25 mc_F p1 p2 (σ 15 4) (0 : Int32) σ2 τ2))
def R_bears (p1 : Int32) (p2 : Int32) (p3 : Int32) (σ : mS) (τ : mT) : Option (Int64 × mS × mT) :=
  ob (R_isSpot p1 p2 σ τ) fun r1 σ1 τ1 => if r1 = 0 then (some ((-1 : Int64), σ1, τ1)) else (ob (R_within p3 (0 : Int32) (3 : Int32) σ1 τ1) fun r3 σ3 τ3 => if r3 = 0 then (some ((-1 : Int64), σ3, τ3)) else (ov (Y_find_2 σ3 τ3) fun σ5 τ5 => ov (B_pose_2_6 (0 : Int32) σ5 τ5) fun σ6 τ6 => ob (B_poseLoad p1 p2 σ6 τ6) fun r7 σ7 τ7 => ob (R_extreme r7 p3 σ7 τ7) fun r8 σ8 τ8 => some (r8, σ8, τ8)))
def Q_bears_b97 (x3 : Int32) (σ : mS) (τ : mT) : Option (Int64 × mS × mT) :=
  ob (Q_told x3 σ τ) fun r1 σ1 τ1 => some (r1, σ1, τ1)
def Q_bears (p1 : Int32) (p2 : Int32) (p3 : Int32) (σ : mS) (τ : mT) : Option (Int64 × mS × mT) :=
  ob (Q_isSpot p1 p2 σ τ) fun r1 σ1 τ1 => if r1 = 0 then (some ((-1 : Int64), σ1, τ1)) else (ob (Q_within p3 (0 : Int32) (3 : Int32) σ1 τ1) fun r3 σ3 τ3 => if r3 = 0 then (some ((-1 : Int64), σ3, τ3)) else (ov (Q_layAll σ3 τ3) fun σ5 τ5 => ob (Q_all σ5 τ5) fun r6 σ6 τ6 => ov (Q_layRows r6 p1 p2 (1 : Int32) σ6 τ6) fun σ7 τ7 => ov (Q_seeks (-9 : Int32) σ7 τ7) fun σ8 τ8 => ob (Q_all σ8 τ8) fun r9 σ9 τ9 => ov (Q_layRows r9 p1 p2 (0 : Int32) σ9 τ9) fun σ10 τ10 => ov (Q_seeks (σ10 34 9) σ10 τ10) fun σ11 τ11 => if (σ11 34 18) = 0 then (some ((-9 : Int64), σ11, τ11)) else (if p3 ≤ (1 : Int32) then (Q_bears_b97 p3 σ11 τ11) else (if (σ8 34 18) = 0 then (Q_bears_b97 p3 σ11 τ11) else (some ((-5 : Int64), σ11, τ11))))))
def P_copy_4_2 (σ : mS) (τ : mT) : Option (mS × mT) :=
  mw (u1 σ 5 (va_cpy (σ 3) (σ 5) 0 0 21)) fun σ1 => some (σ1, τ)
def Y_find_4_l19 : Nat → Int32 → mS → mT → Option (mS × mT)
  | 0, _, _, _ => none
  | n + 1, x2, σ, τ =>
    if (σ 6 8) ≤ x2 then (some (σ, τ)) else (ob (P_get_4 x2 (0 : Int32) σ τ) fun r2 σ2 τ2 => if x2 < 0 ∨ 4 ≤ x2.toNatClampNeg then none else mw (u2 σ2 7 x2.toNatClampNeg r2) fun σ4 => ob (P_get_4 x2 (1 : Int32) σ4 τ2) fun r5 σ5 τ5 => mw (u2 σ5 8 x2.toNatClampNeg ((σ4 7 x2.toNatClampNeg) + ((2 : Int32) * r5))) fun σ6 => mw (u2 σ6 11 x2.toNatClampNeg (0 : Int32)) fun σ7 => ov (Y_findLevel x2 σ7 τ5) fun σ8 τ8 => ov (Y_findUnder x2 σ8 τ8) fun σ9 τ9 => ov (Y_findContacts x2 σ9 τ9) fun σ10 τ10 => Y_find_4_l19 n (x2 + (1 : Int32)) σ10 τ10)
def Y_find_4 (σ : mS) (τ : mT) : Option (mS × mT) :=
  ob (P_size_4 σ τ) fun r1 σ1 τ1 => mw (u2 σ1 6 8 (jmin r1 (4 : Int32))) fun σ2 => mw (u2 σ2 6 9 (0 : Int32)) fun σ3 => Y_find_4_l19 mc_F (0 : Int32) σ3 τ1
def B_poseBlock_4_6_b93 (k55 : Int32 → Int32 → Int32 → mS → mT → Option (mS × mT)) (x3 : Int32) (x4 : Int32) (x5 : Int32) (s0 : Int32) (σ : mS) (τ : mT) : Option (mS × mT) :=
  if x4 < 0 ∨ 8 ≤ x4.toNatClampNeg then none else if x5 < 0 ∨ 14 ≤ x5.toNatClampNeg then none else mw (u2L τ (17 + x4.toNatClampNeg) x5.toNatClampNeg (s0.toInt64)) fun τ3 => if (x4 + (1 : Int32)) < 0 ∨ 8 ≤ (x4 + (1 : Int32)).toNatClampNeg then none else ob (Y_x x5 σ τ3) fun r5 σ5 τ5 => ob (P_get_4 x3 (0 : Int32) σ5 τ5) fun r6 σ6 τ6 => mw (u2L τ6 (17 + (x4 + (1 : Int32)).toNatClampNeg) x5.toNatClampNeg ((s0 * (r5 - r6)).toInt64)) fun τ7 => k55 x3 x4 (x5 + (1 : Int32)) σ6 τ7
def B_poseBlock_4_6_l55 : Nat → Int32 → Int32 → Int32 → mS → mT → Option (mS × mT)
  | 0, _, _, _, _, _ => none
  | n + 1, x3, x4, x5, σ, τ =>
    if (σ 15 4) ≤ x5 then (ob (P_get_4 x3 (2 : Int32) σ τ) fun r2 σ2 τ2 => ob (P_get_4 x3 (3 : Int32) σ2 τ2) fun r3 σ3 τ3 => if x4 < 0 ∨ 8 ≤ x4.toNatClampNeg then none else mw (u2L τ3 (17 + x4.toNatClampNeg) 13 ((r2 + r3).toInt64)) fun τ5 => if (x4 + (1 : Int32)) < 0 ∨ 8 ≤ (x4 + (1 : Int32)).toNatClampNeg then none else ob (P_get_4 x3 (1 : Int32) σ3 τ5) fun r7 σ7 τ7 => ob (P_get_4 x3 (4 : Int32) σ7 τ7) fun r8 σ8 τ8 => mw (u2L τ8 (17 + (x4 + (1 : Int32)).toNatClampNeg) 13 (((r2 * r7) + (r3 * r8)).toInt64)) fun τ9 => some (σ8, τ9)) else (ob (Y_upper x5 σ τ) fun r10 σ10 τ10 => if r10 = x3 then (B_poseBlock_4_6_b93 (B_poseBlock_4_6_l55 n) x3 x4 x5 (1 : Int32) σ10 τ10) else (ob (Y_lower x5 σ10 τ10) fun r12 σ12 τ12 => if r12 = x3 then (B_poseBlock_4_6_b93 (B_poseBlock_4_6_l55 n) x3 x4 x5 (-1 : Int32) σ12 τ12) else (B_poseBlock_4_6_b93 (B_poseBlock_4_6_l55 n) x3 x4 x5 (0 : Int32) σ12 τ12)))
def B_poseBlock_4_6 (p3 : Int32) (σ : mS) (τ : mT) : Option (mS × mT) :=
  mw (u2 σ 15 3 ((σ 15 3) + (2 : Int32))) fun σ1 => if p3 < 0 ∨ 4 ≤ p3.toNatClampNeg then none else mw (u2 σ1 26 p3.toNatClampNeg (σ 15 3)) fun σ3 => if (σ 15 3) < 0 ∨ 8 ≤ (σ 15 3).toNatClampNeg then none else mw (u2 σ3 25 (σ 15 3).toNatClampNeg ((13 : Int32) + (σ 15 3))) fun σ5 => if ((σ 15 3) + (1 : Int32)) < 0 ∨ 8 ≤ ((σ 15 3) + (1 : Int32)).toNatClampNeg then none else mw (u2 σ5 25 ((σ 15 3) + (1 : Int32)).toNatClampNeg (((13 : Int32) + (σ 15 3)) + (1 : Int32))) fun σ7 => B_poseBlock_4_6_l55 mc_F p3 (σ 15 3) (0 : Int32) σ7 τ
def B_pose_4_6_l26 : Nat → Int32 → Int32 → mS → mT → Option (mS × mT)
  | 0, _, _, _, _ => none
  | n + 1, x3, x4, σ, τ =>
    ob (P_size_4 σ τ) fun r1 σ1 τ1 => if r1 ≤ x4 then (some (σ1, τ1)) else (if (4 : Int32) ≤ x4 then (some (σ1, τ1)) else (if x4 < 0 ∨ 4 ≤ x4.toNatClampNeg then none else mw (u2 σ1 26 x4.toNatClampNeg (-1 : Int32)) fun σ5 => if ((x3 >>> (x4 &&& 31)) &&& (1 : Int32)) = 0 then (if (8 : Int32) < ((σ5 15 3) + (2 : Int32)) then (B_pose_4_6_l26 n x3 (x4 + (1 : Int32)) σ5 τ1) else (ov (B_poseBlock_4_6 x4 σ5 τ1) fun σ8 τ8 => B_pose_4_6_l26 n x3 (x4 + (1 : Int32)) σ8 τ8)) else (B_pose_4_6_l26 n x3 (x4 + (1 : Int32)) σ5 τ1)))
def B_pose_4_6 (p3 : Int32) (σ : mS) (τ : mT) : Option (mS × mT) :=
  mw (u2 σ 15 3 (0 : Int32)) fun σ1 => ob (Y_contacts σ1 τ) fun r2 σ2 τ2 => mw (u2 σ2 15 4 (jmin r2 (12 : Int32))) fun σ3 => mw (u2L τ2 15 5 (1 : Int64)) fun τ4 => B_pose_4_6_l26 mc_F p3 (0 : Int32) σ3 τ4
def R_isBalanced_4 (p2 : Int32) (σ : mS) (τ : mT) : Option (Int32 × mS × mT) :=
  ov (Y_find_4 σ τ) fun σ1 τ1 => ov (B_pose_4_6 p2 σ1 τ1) fun σ2 τ2 => ob (B_solve σ2 τ2) fun r3 σ3 τ3 => if ¬ r3 &&& 1 = r3 then none else some (r3, σ3, τ3)
def R_where_l29 : Nat → Int32 → Int32 → Int32 → Int32 → mS → mT → Option (Int32 × mS × mT)
  | 0, _, _, _, _, _, _ => none
  | n + 1, x1, x2, x3, x4, σ, τ =>
    if (9 : Int32) < x4 then (some (x3, σ, τ)) else (ov (P_copy_4_2 σ τ) fun σ2 τ2 => ov (P_add_4 x4 x1 x2 σ2 τ2) fun σ3 τ3 => ob (R_isBalanced_4 (0 : Int32) σ3 τ3) fun r4 σ4 τ4 => if r4 = 0 then (R_where_l29 n x1 x2 x3 (x4 + (1 : Int32)) σ4 τ4) else (R_where_l29 n x1 x2 (x3 ||| ((1 : Int32) <<< (x4 &&& 31))) (x4 + (1 : Int32)) σ4 τ4))
def R_where (p1 : Int32) (p2 : Int32) (σ : mS) (τ : mT) : Option (Int32 × mS × mT) :=
  ob (R_isBlock p1 p2 σ τ) fun r1 σ1 τ1 => if r1 = 0 then (some ((-1 : Int32), σ1, τ1)) else (ob (P_size_2 σ1 τ1) fun r3 σ3 τ3 => if r3 < (4 : Int32) then (R_where_l29 mc_F p1 p2 (0 : Int32) (0 : Int32) σ3 τ3) else (some ((-3 : Int32), σ3, τ3)))
def Q_where_b60 (k29 : Int32 → Int32 → Int32 → Int32 → mS → mT → Option (Int32 × mS × mT)) (x1 : Int32) (x2 : Int32) (x4 : Int32) (s0 : Int32) (s1 : Int32) (σ : mS) (τ : mT) : Option (Int32 × mS × mT) :=
  mw (u2 σ 35 0 ((σ 35 0) - (1 : Int32))) fun σ1 => k29 x1 x2 (s0 ||| s1) (x4 + (1 : Int32)) σ1 τ
def Q_where_l29 : Nat → Int32 → Int32 → Int32 → Int32 → mS → mT → Option (Int32 × mS × mT)
  | 0, _, _, _, _, _, _ => none
  | n + 1, x1, x2, x3, x4, σ, τ =>
    if (10 : Int32) ≤ x4 then (some (x3, σ, τ)) else (ov (Q_appends x4 x1 x2 σ τ) fun σ2 τ2 => ob (Q_isResting σ2 τ2) fun r3 σ3 τ3 => if r3 = 0 then (Q_where_b60 (Q_where_l29 n) x1 x2 x4 x3 (0 : Int32) σ3 τ3) else (Q_where_b60 (Q_where_l29 n) x1 x2 x4 x3 ((1 : Int32) <<< (x4 &&& 31)) σ3 τ3))
def Q_where (p1 : Int32) (p2 : Int32) (σ : mS) (τ : mT) : Option (Int32 × mS × mT) :=
  ob (Q_fits (0 : Int32) p1 p2 σ τ) fun r1 σ1 τ1 => if r1 = 0 then (some ((-1 : Int32), σ1, τ1)) else (if (σ1 35 0) = (4 : Int32) then (some ((-3 : Int32), σ1, τ1)) else (Q_where_l29 mc_F p1 p2 (0 : Int32) (0 : Int32) σ1 τ1))
def R_weights_l28 : Nat → Int32 → Int32 → Int32 → mS → mT → Option (Int32 × mS × mT)
  | 0, _, _, _, _, _ => none
  | n + 1, x1, x2, x3, σ, τ =>
    if (9 : Int32) < x3 then (some (x2, σ, τ)) else (ov (P_set_4 x1 (2 : Int32) x3 σ τ) fun σ2 τ2 => ob (R_isBalanced_4 (0 : Int32) σ2 τ2) fun r3 σ3 τ3 => if r3 = 0 then (R_weights_l28 n x1 x2 (x3 + (1 : Int32)) σ3 τ3) else (R_weights_l28 n x1 (x2 ||| ((1 : Int32) <<< (x3 &&& 31))) (x3 + (1 : Int32)) σ3 τ3))
def R_weights (p1 : Int32) (σ : mS) (τ : mT) : Option (Int32 × mS × mT) :=
  ob (P_has_2 p1 σ τ) fun r1 σ1 τ1 => if r1 = 0 then (some ((-1 : Int32), σ1, τ1)) else (ov (P_copy_4_2 σ1 τ1) fun σ3 τ3 => R_weights_l28 mc_F p1 (0 : Int32) (1 : Int32) σ3 τ3)
def Q_weights_l22 : Nat → Int32 → Int32 → Int32 → Int32 → mS → mT → Option (Int32 × mS × mT)
  | 0, _, _, _, _, _, _ => none
  | n + 1, x1, x2, x3, x4, σ, τ =>
    if (10 : Int32) ≤ x4 then (if (((5 : Int32) * x1) + (3 : Int32)) < 0 ∨ 21 ≤ (((5 : Int32) * x1) + (3 : Int32)).toNatClampNeg then none else mw (u2 σ 35 (((5 : Int32) * x1) + (3 : Int32)).toNatClampNeg x2) fun σ3 => some (x3, σ3, τ)) else (if (((5 : Int32) * x1) + (3 : Int32)) < 0 ∨ 21 ≤ (((5 : Int32) * x1) + (3 : Int32)).toNatClampNeg then none else mw (u2 σ 35 (((5 : Int32) * x1) + (3 : Int32)).toNatClampNeg x4) fun σ5 => ob (Q_isResting σ5 τ) fun r6 σ6 τ6 => if r6 = 0 then (Q_weights_l22 n x1 x2 (x3 ||| (0 : Int32)) (x4 + (1 : Int32)) σ6 τ6) else (Q_weights_l22 n x1 x2 (x3 ||| ((1 : Int32) <<< (x4 &&& 31))) (x4 + (1 : Int32)) σ6 τ6))
def Q_weights (p1 : Int32) (σ : mS) (τ : mT) : Option (Int32 × mS × mT) :=
  ob (Q_isBlock p1 σ τ) fun r1 σ1 τ1 => if r1 = 0 then (some ((-1 : Int32), σ1, τ1)) else (ob (Q_get p1 (3 : Int32) σ1 τ1) fun r3 σ3 τ3 => Q_weights_l22 mc_F p1 r3 (0 : Int32) (1 : Int32) σ3 τ3)
def P_takeOut_4 (p1 : Int32) (σ : mS) (τ : mT) : Option (mS × mT) :=
  ob (P_has_4 p1 σ τ) fun r1 σ1 τ1 => if r1 = 0 then (some (σ1, τ1)) else (ob (P_size_4 σ1 τ1) fun r3 σ3 τ3 => if ((p1 + (1 : Int32)) * (5 : Int32)) < 0 then none else if (p1 * (5 : Int32)) < 0 then none else if (((r3 - (1 : Int32)) - p1) * (5 : Int32)) < 0 then none else if 21 < ((p1 + (1 : Int32)) * (5 : Int32)).toNatClampNeg + (((r3 - (1 : Int32)) - p1) * (5 : Int32)).toNatClampNeg then none else if 21 < (p1 * (5 : Int32)).toNatClampNeg + (((r3 - (1 : Int32)) - p1) * (5 : Int32)).toNatClampNeg then none else mw (u1 σ3 5 (va_cpy (σ3 5) (σ3 5) ((p1 + (1 : Int32)) * (5 : Int32)).toNatClampNeg (p1 * (5 : Int32)).toNatClampNeg (((r3 - (1 : Int32)) - p1) * (5 : Int32)).toNatClampNeg)) fun σ9 => mw (u2 σ9 5 20 ((σ9 5 20) - (1 : Int32))) fun σ10 => some (σ10, τ3))
def R_restsWithout (p1 : Int32) (σ : mS) (τ : mT) : Option (Int32 × mS × mT) :=
  ov (P_copy_4_2 σ τ) fun σ1 τ1 => ov (P_takeOut_4 p1 σ1 τ1) fun σ2 τ2 => ob (R_isBalanced_4 (0 : Int32) σ2 τ2) fun r3 σ3 τ3 => if ¬ r3 &&& 1 = r3 then none else some (r3, σ3, τ3)
def R_key_l17 : Nat → Int32 → mS → mT → Option (Int32 × mS × mT)
  | 0, _, _, _ => none
  | n + 1, x1, σ, τ =>
    ob (P_size_2 σ τ) fun r1 σ1 τ1 => if r1 ≤ x1 then (some ((-9 : Int32), σ1, τ1)) else (ov (Y_find_2 σ1 τ1) fun σ3 τ3 => ob (Y_over x1 σ3 τ3) fun r4 σ4 τ4 => if r4 = 0 then (ob (R_restsWithout x1 σ4 τ4) fun r6 σ6 τ6 => if r6 = 0 then (some (x1, σ6, τ6)) else (R_key_l17 n (x1 + (1 : Int32)) σ6 τ6)) else (R_key_l17 n (x1 + (1 : Int32)) σ4 τ4))
def R_key (σ : mS) (τ : mT) : Option (Int32 × mS × mT) :=
  ob (R_isBalanced_2 (0 : Int32) σ τ) fun r1 σ1 τ1 => if r1 = 0 then (some ((-9 : Int32), σ1, τ1)) else (R_key_l17 mc_F (0 : Int32) σ1 τ1)
def Q_restsWithout (p1 : Int32) (σ : mS) (τ : mT) : Option (Int32 × mS × mT) :=
  ov (Q_lays_48 (0 : Int32) σ τ) fun σ1 τ1 => ov (Q_removes p1 σ1 τ1) fun σ2 τ2 => ob (Q_isResting σ2 τ2) fun r3 σ3 τ3 => ov (Q_takes_48 (0 : Int32) σ3 τ3) fun σ4 τ4 => if ¬ r3 &&& 1 = r3 then none else some (r3, σ4, τ4)
def Q_key_l12 : Nat → Int32 → mS → mT → Option (Int32 × mS × mT)
  | 0, _, _, _ => none
  | n + 1, x1, σ, τ =>
    ob (Q_many σ τ) fun r1 σ1 τ1 => if r1 ≤ x1 then (some ((-9 : Int32), σ1, τ1)) else (ov (Q_layAll σ1 τ1) fun σ3 τ3 => ob (Q_above x1 σ3 τ3) fun r4 σ4 τ4 => if r4 = 0 then (ob (Q_restsWithout x1 σ4 τ4) fun r6 σ6 τ6 => if r6 = 0 then (some (x1, σ6, τ6)) else (Q_key_l12 n (x1 + (1 : Int32)) σ6 τ6)) else (Q_key_l12 n (x1 + (1 : Int32)) σ4 τ4))
def Q_key (σ : mS) (τ : mT) : Option (Int32 × mS × mT) :=
  ob (Q_isResting σ τ) fun r1 σ1 τ1 => if r1 = 0 then (some ((-9 : Int32), σ1, τ1)) else (Q_key_l12 mc_F (0 : Int32) σ1 τ1)
def Z_bitCount (p0 : Int32) (σ : mS) (τ : mT) : Option (Int32 × mS × mT) :=
  some ((((((((p0 - (((p0.toUInt32 >>> ((1 : Int32).toUInt32 &&& Int32.toUInt32 31)).toInt32) &&& (1431655765 : Int32))) &&& (858993459 : Int32)) + ((((p0 - (((p0.toUInt32 >>> ((1 : Int32).toUInt32 &&& Int32.toUInt32 31)).toInt32) &&& (1431655765 : Int32))).toUInt32 >>> ((2 : Int32).toUInt32 &&& Int32.toUInt32 31)).toInt32) &&& (858993459 : Int32))) + (((((p0 - (((p0.toUInt32 >>> ((1 : Int32).toUInt32 &&& Int32.toUInt32 31)).toInt32) &&& (1431655765 : Int32))) &&& (858993459 : Int32)) + ((((p0 - (((p0.toUInt32 >>> ((1 : Int32).toUInt32 &&& Int32.toUInt32 31)).toInt32) &&& (1431655765 : Int32))).toUInt32 >>> ((2 : Int32).toUInt32 &&& Int32.toUInt32 31)).toInt32) &&& (858993459 : Int32))).toUInt32 >>> ((4 : Int32).toUInt32 &&& Int32.toUInt32 31)).toInt32)) &&& (252645135 : Int32)) + (((((((p0 - (((p0.toUInt32 >>> ((1 : Int32).toUInt32 &&& Int32.toUInt32 31)).toInt32) &&& (1431655765 : Int32))) &&& (858993459 : Int32)) + ((((p0 - (((p0.toUInt32 >>> ((1 : Int32).toUInt32 &&& Int32.toUInt32 31)).toInt32) &&& (1431655765 : Int32))).toUInt32 >>> ((2 : Int32).toUInt32 &&& Int32.toUInt32 31)).toInt32) &&& (858993459 : Int32))) + (((((p0 - (((p0.toUInt32 >>> ((1 : Int32).toUInt32 &&& Int32.toUInt32 31)).toInt32) &&& (1431655765 : Int32))) &&& (858993459 : Int32)) + ((((p0 - (((p0.toUInt32 >>> ((1 : Int32).toUInt32 &&& Int32.toUInt32 31)).toInt32) &&& (1431655765 : Int32))).toUInt32 >>> ((2 : Int32).toUInt32 &&& Int32.toUInt32 31)).toInt32) &&& (858993459 : Int32))).toUInt32 >>> ((4 : Int32).toUInt32 &&& Int32.toUInt32 31)).toInt32)) &&& (252645135 : Int32)).toUInt32 >>> ((8 : Int32).toUInt32 &&& Int32.toUInt32 31)).toInt32)) + ((((((((p0 - (((p0.toUInt32 >>> ((1 : Int32).toUInt32 &&& Int32.toUInt32 31)).toInt32) &&& (1431655765 : Int32))) &&& (858993459 : Int32)) + ((((p0 - (((p0.toUInt32 >>> ((1 : Int32).toUInt32 &&& Int32.toUInt32 31)).toInt32) &&& (1431655765 : Int32))).toUInt32 >>> ((2 : Int32).toUInt32 &&& Int32.toUInt32 31)).toInt32) &&& (858993459 : Int32))) + (((((p0 - (((p0.toUInt32 >>> ((1 : Int32).toUInt32 &&& Int32.toUInt32 31)).toInt32) &&& (1431655765 : Int32))) &&& (858993459 : Int32)) + ((((p0 - (((p0.toUInt32 >>> ((1 : Int32).toUInt32 &&& Int32.toUInt32 31)).toInt32) &&& (1431655765 : Int32))).toUInt32 >>> ((2 : Int32).toUInt32 &&& Int32.toUInt32 31)).toInt32) &&& (858993459 : Int32))).toUInt32 >>> ((4 : Int32).toUInt32 &&& Int32.toUInt32 31)).toInt32)) &&& (252645135 : Int32)) + (((((((p0 - (((p0.toUInt32 >>> ((1 : Int32).toUInt32 &&& Int32.toUInt32 31)).toInt32) &&& (1431655765 : Int32))) &&& (858993459 : Int32)) + ((((p0 - (((p0.toUInt32 >>> ((1 : Int32).toUInt32 &&& Int32.toUInt32 31)).toInt32) &&& (1431655765 : Int32))).toUInt32 >>> ((2 : Int32).toUInt32 &&& Int32.toUInt32 31)).toInt32) &&& (858993459 : Int32))) + (((((p0 - (((p0.toUInt32 >>> ((1 : Int32).toUInt32 &&& Int32.toUInt32 31)).toInt32) &&& (1431655765 : Int32))) &&& (858993459 : Int32)) + ((((p0 - (((p0.toUInt32 >>> ((1 : Int32).toUInt32 &&& Int32.toUInt32 31)).toInt32) &&& (1431655765 : Int32))).toUInt32 >>> ((2 : Int32).toUInt32 &&& Int32.toUInt32 31)).toInt32) &&& (858993459 : Int32))).toUInt32 >>> ((4 : Int32).toUInt32 &&& Int32.toUInt32 31)).toInt32)) &&& (252645135 : Int32)).toUInt32 >>> ((8 : Int32).toUInt32 &&& Int32.toUInt32 31)).toInt32)).toUInt32 >>> ((16 : Int32).toUInt32 &&& Int32.toUInt32 31)).toInt32)) &&& (63 : Int32), σ, τ)
def R_hold_l17 (k10 : Int32 → Int32 → mS → mT → Option (Int32 × mS × mT)) : Nat → Int32 → Int32 → Int32 → mS → mT → Option (Int32 × mS × mT)
  | 0, _, _, _, _, _ => none
  | n + 1, x1, x2, x3, σ, τ =>
    if ((1 : Int32) <<< (x1 &&& 31)) ≤ x3 then (k10 x1 (x2 + (1 : Int32)) σ τ) else (ob (Z_bitCount x3 σ τ) fun r2 σ2 τ2 => if r2 = x2 then (ob (R_isBalanced_2 x3 σ2 τ2) fun r4 σ4 τ4 => if r4 = 0 then (R_hold_l17 k10 n x1 x2 (x3 + (1 : Int32)) σ4 τ4) else (some (x3, σ4, τ4))) else (R_hold_l17 k10 n x1 x2 (x3 + (1 : Int32)) σ2 τ2))
def R_hold_l10 : Nat → Int32 → Int32 → mS → mT → Option (Int32 × mS × mT)
  | 0, _, _, _, _ => none
  | n + 1, x1, x2, σ, τ =>
    if x1 ≤ x2 then (some (((1 : Int32) <<< (x1 &&& 31)) - (1 : Int32), σ, τ)) else (R_hold_l17 (R_hold_l10 n) mc_F x1 x2 (0 : Int32) σ τ)
def R_hold (σ : mS) (τ : mT) : Option (Int32 × mS × mT) :=
  ob (P_size_2 σ τ) fun r1 σ1 τ1 => R_hold_l10 mc_F r1 (0 : Int32) σ1 τ1
def Q_hold_l7 : Nat → Int32 → Int32 → mS → mT → Option (Int32 × mS × mT)
  | 0, _, _, _, _ => none
  | n + 1, x1, x2, σ, τ =>
    ob (Q_all σ τ) fun r1 σ1 τ1 => if r1 < x2 then (some (x1, σ1, τ1)) else (ob (Q_ones x2 σ1 τ1) fun r3 σ3 τ3 => ob (Q_ones x1 σ3 τ3) fun r4 σ4 τ4 => if r4 ≤ r3 then (Q_hold_l7 n x1 (x2 + (1 : Int32)) σ4 τ4) else (ob (Q_all σ4 τ4) fun r6 σ6 τ6 => ob (Q_canBalance (r6 &&& (x2 ^^^ (-1 : Int32))) σ6 τ6) fun r7 σ7 τ7 => if r7 = 0 then (Q_hold_l7 n x1 (x2 + (1 : Int32)) σ7 τ7) else (Q_hold_l7 n x2 (x2 + (1 : Int32)) σ7 τ7)))
def Q_hold (σ : mS) (τ : mT) : Option (Int32 × mS × mT) :=
  ob (Q_all σ τ) fun r1 σ1 τ1 => Q_hold_l7 mc_F r1 (0 : Int32) σ1 τ1
def S_write_31_2 (p1 : Int32) (σ : mS) (τ : mT) : Option (mS × mT) :=
  ob (R_within p1 (0 : Int32) ((2 : Int32) - (1 : Int32)) σ τ) fun r1 σ1 τ1 => if r1 = 0 then (some (σ1, τ1)) else (if (p1 * (21 : Int32)) < 0 then none else if 42 < (p1 * (21 : Int32)).toNatClampNeg + 21 then none else mw (u1 σ1 32 (va_cpy (σ1 3) (σ1 32) 0 (p1 * (21 : Int32)).toNatClampNeg 21)) fun σ5 => some (σ5, τ1))
def R_keep (p1 : Int32) (σ : mS) (τ : mT) : Option (Int32 × mS × mT) :=
  ob (R_within p1 (0 : Int32) (1 : Int32) σ τ) fun r1 σ1 τ1 => if r1 = 0 then (some ((-1 : Int32), σ1, τ1)) else (ov (S_write_31_2 p1 σ1 τ1) fun σ3 τ3 => if p1 < 0 ∨ 2 ≤ p1.toNatClampNeg then none else mw (u2 σ3 33 p1.toNatClampNeg (vp_nar .boolean (1 : Int32))) fun σ5 => ob (P_size_2 σ5 τ3) fun r6 σ6 τ6 => some (r6, σ6, τ6))
def Q_lays_37_l2 : Nat → Int32 → Int32 → mS → mT → Option (mS × mT)
  | 0, _, _, _, _ => none
  | n + 1, x2, x3, σ, τ =>
    if (21 : Int32) ≤ x3 then (some (σ, τ)) else (if x3 < 0 ∨ 21 ≤ x3.toNatClampNeg then none else if (x2 + x3) < 0 ∨ 42 ≤ (x2 + x3).toNatClampNeg then none else mw (u2 σ 37 (x2 + x3).toNatClampNeg (σ 35 x3.toNatClampNeg)) fun σ4 => Q_lays_37_l2 n x2 (x3 + (1 : Int32)) σ4 τ)
def Q_lays_37 (p2 : Int32) (σ : mS) (τ : mT) : Option (mS × mT) :=
  Q_lays_37_l2 mc_F p2 (0 : Int32) σ τ
def Q_keep (p1 : Int32) (σ : mS) (τ : mT) : Option (Int32 × mS × mT) :=
  ob (Q_within p1 (0 : Int32) (1 : Int32) σ τ) fun r1 σ1 τ1 => if r1 = 0 then (some ((-1 : Int32), σ1, τ1)) else (ov (Q_lays_37 ((21 : Int32) * p1) σ1 τ1) fun σ3 τ3 => if p1 < 0 ∨ 2 ≤ p1.toNatClampNeg then none else mw (u2 σ3 38 p1.toNatClampNeg (vp_nar .boolean (1 : Int32))) fun σ5 => some (σ5 35 0, σ5, τ3))
def S_read_31_2 (p1 : Int32) (σ : mS) (τ : mT) : Option (mS × mT) :=
  ob (R_within p1 (0 : Int32) ((2 : Int32) - (1 : Int32)) σ τ) fun r1 σ1 τ1 => if r1 = 0 then (some (σ1, τ1)) else (if (p1 * (21 : Int32)) < 0 then none else if 42 < (p1 * (21 : Int32)).toNatClampNeg + 21 then none else mw (u1 σ1 3 (va_cpy (σ1 32) (σ1 3) (p1 * (21 : Int32)).toNatClampNeg 0 21)) fun σ5 => some (σ5, τ1))
def R_back (p1 : Int32) (σ : mS) (τ : mT) : Option (Int32 × mS × mT) :=
  ob (R_within p1 (0 : Int32) (1 : Int32) σ τ) fun r1 σ1 τ1 => if r1 = 0 then (some ((-1 : Int32), σ1, τ1)) else (if p1 < 0 ∨ 2 ≤ p1.toNatClampNeg then none else if (σ1 33 p1.toNatClampNeg) = 0 then (some ((-2 : Int32), σ1, τ1)) else (ov (S_read_31_2 p1 σ1 τ1) fun σ5 τ5 => mw (u2 σ5 1 8 (0 : Int32)) fun σ6 => ob (P_size_2 σ6 τ5) fun r7 σ7 τ7 => some (r7, σ7, τ7)))
def Q_takes_37_l2 : Nat → Int32 → Int32 → mS → mT → Option (mS × mT)
  | 0, _, _, _, _ => none
  | n + 1, x2, x3, σ, τ =>
    if (21 : Int32) ≤ x3 then (some (σ, τ)) else (if (x2 + x3) < 0 ∨ 42 ≤ (x2 + x3).toNatClampNeg then none else if x3 < 0 ∨ 21 ≤ x3.toNatClampNeg then none else mw (u2 σ 35 x3.toNatClampNeg (σ 37 (x2 + x3).toNatClampNeg)) fun σ4 => Q_takes_37_l2 n x2 (x3 + (1 : Int32)) σ4 τ)
def Q_takes_37 (p2 : Int32) (σ : mS) (τ : mT) : Option (mS × mT) :=
  Q_takes_37_l2 mc_F p2 (0 : Int32) σ τ
def Q_back (p1 : Int32) (σ : mS) (τ : mT) : Option (Int32 × mS × mT) :=
  ob (Q_within p1 (0 : Int32) (1 : Int32) σ τ) fun r1 σ1 τ1 => if r1 = 0 then (some ((-1 : Int32), σ1, τ1)) else (if p1 < 0 ∨ 2 ≤ p1.toNatClampNeg then none else if (σ1 38 p1.toNatClampNeg) = 0 then (some ((-2 : Int32), σ1, τ1)) else (ov (Q_takes_37 ((21 : Int32) * p1) σ1 τ1) fun σ5 τ5 => mw (u2 σ5 34 2 (0 : Int32)) fun σ6 => some (σ6 35 0, σ6, τ5)))
def P_heaviness_2_l4 : Nat → Int32 → Int32 → mS → mT → Option (Int32 × mS × mT)
  | 0, _, _, _, _ => none
  | n + 1, x1, x2, σ, τ =>
    ob (P_size_2 σ τ) fun r1 σ1 τ1 => if r1 ≤ x2 then (some (x1, σ1, τ1)) else (ob (P_get_2 x2 (2 : Int32) σ1 τ1) fun r3 σ3 τ3 => ob (P_get_2 x2 (3 : Int32) σ3 τ3) fun r4 σ4 τ4 => P_heaviness_2_l4 n (x1 + (r3 + r4)) (x2 + (1 : Int32)) σ4 τ4)
def P_heaviness_2 (σ : mS) (τ : mT) : Option (Int32 × mS × mT) :=
  P_heaviness_2_l4 mc_F (0 : Int32) (0 : Int32) σ τ
def Y_greatestLevel_l5 : Nat → Int32 → Int32 → mS → mT → Option (Int32 × mS × mT)
  | 0, _, _, _, _ => none
  | n + 1, x1, x2, σ, τ =>
    if (σ 6 8) ≤ x2 then (some (x1, σ, τ)) else (if x2 < 0 ∨ 4 ≤ x2.toNatClampNeg then none else Y_greatestLevel_l5 n (jmax x1 (σ 9 x2.toNatClampNeg)) (x2 + (1 : Int32)) σ τ)
def Y_greatestLevel (σ : mS) (τ : mT) : Option (Int32 × mS × mT) :=
  Y_greatestLevel_l5 mc_F (-9 : Int32) (0 : Int32) σ τ
def R_count (p1 : Int32) (σ : mS) (τ : mT) : Option (Int32 × mS × mT) :=
  if p1 = 0 then (ob (P_size_2 σ τ) fun r2 σ2 τ2 => some (r2, σ2, τ2)) else if p1 = 1 then (ov (Y_find_2 σ τ) fun σ4 τ4 => ob (Y_contacts σ4 τ4) fun r5 σ5 τ5 => some (r5, σ5, τ5)) else if p1 = 2 then (ob (P_heaviness_2 σ τ) fun r7 σ7 τ7 => some (r7, σ7, τ7)) else if p1 = 3 then (ov (Y_find_2 σ τ) fun σ9 τ9 => ob (Y_greatestLevel σ9 τ9) fun r10 σ10 τ10 => some (r10, σ10, τ10)) else if p1 = 4 then (ob (T_length σ τ) fun r12 σ12 τ12 => some (r12, σ12, τ12)) else if p1 = 5 then (some (σ 1 8, σ, τ)) else (some ((-1 : Int32), σ, τ))
def Q_contactsNow (σ : mS) (τ : mT) : Option (Int32 × mS × mT) :=
  ov (Q_layAll σ τ) fun σ1 τ1 => some (σ1 34 9, σ1, τ1)
def Q_heavy_l4 : Nat → Int32 → Int32 → mS → mT → Option (Int32 × mS × mT)
  | 0, _, _, _, _ => none
  | n + 1, x1, x2, σ, τ =>
    ob (Q_many σ τ) fun r1 σ1 τ1 => if r1 ≤ x2 then (some (x1, σ1, τ1)) else (ob (Q_get x2 (3 : Int32) σ1 τ1) fun r3 σ3 τ3 => ob (Q_get x2 (4 : Int32) σ3 τ3) fun r4 σ4 τ4 => Q_heavy_l4 n (x1 + (r3 + r4)) (x2 + (1 : Int32)) σ4 τ4)
def Q_heavy (σ : mS) (τ : mT) : Option (Int32 × mS × mT) :=
  Q_heavy_l4 mc_F (0 : Int32) (0 : Int32) σ τ
def Q_highest_l9 : Nat → Int32 → Int32 → mS → mT → Option (Int32 × mS × mT)
  | 0, _, _, _, _ => none
  | n + 1, x1, x2, σ, τ =>
    ob (Q_many σ τ) fun r1 σ1 τ1 => if r1 ≤ x2 then (some (x1, σ1, τ1)) else (if x2 < 0 ∨ 4 ≤ x2.toNatClampNeg then none else if (σ1 40 x2.toNatClampNeg) ≤ x1 then (Q_highest_l9 n x1 (x2 + (1 : Int32)) σ1 τ1) else (Q_highest_l9 n (σ1 40 x2.toNatClampNeg) (x2 + (1 : Int32)) σ1 τ1))
def Q_highest (σ : mS) (τ : mT) : Option (Int32 × mS × mT) :=
  ov (Q_layAll σ τ) fun σ1 τ1 => Q_highest_l9 mc_F (-9 : Int32) (0 : Int32) σ1 τ1
def Q_count (p1 : Int32) (σ : mS) (τ : mT) : Option (Int32 × mS × mT) :=
  if p1 = 0 then (some (σ 35 0, σ, τ)) else if p1 = 1 then (ob (Q_contactsNow σ τ) fun r3 σ3 τ3 => some (r3, σ3, τ3)) else if p1 = 2 then (ob (Q_heavy σ τ) fun r5 σ5 τ5 => some (r5, σ5, τ5)) else if p1 = 3 then (ob (Q_highest σ τ) fun r7 σ7 τ7 => some (r7, σ7, τ7)) else if p1 = 4 then (some (σ 34 6, σ, τ)) else if p1 = 5 then (some (σ 34 2, σ, τ)) else (some ((-1 : Int32), σ, τ))
def L_law_l18 (sL : Nat) (sX : Nat → Int32) : Nat → Int32 → mS → mT → Option (Int32 × mS × mT)
  | 0, _, _, _ => none
  | n + 1, x3, σ, τ =>
    if ((Int32.ofNat sL) - (4 : Int32)) < x3 then (some ((1 : Int32), σ, τ)) else (if x3 < 0 ∨ sL ≤ x3.toNatClampNeg then none else if ((sX x3.toNatClampNeg) &&& (31 : Int32)) = 0 then (if (x3 + (1 : Int32)) < 0 ∨ sL ≤ (x3 + (1 : Int32)).toNatClampNeg then none else ob (R_type (sX (x3 + (1 : Int32)).toNatClampNeg) σ τ) fun r5 σ5 τ5 => ob (Q_type (sX (x3 + (1 : Int32)).toNatClampNeg) σ5 τ5) fun r6 σ6 τ6 => if r5 = r6 then (L_law_l18 sL sX n (x3 + (4 : Int32)) σ6 τ6) else (some ((0 : Int32), σ6, τ6))) else if ((sX x3.toNatClampNeg) &&& (31 : Int32)) = 1 then (ob (R_clear σ τ) fun r9 σ9 τ9 => ob (Q_clear σ9 τ9) fun r10 σ10 τ10 => if r9 = r10 then (L_law_l18 sL sX n (x3 + (4 : Int32)) σ10 τ10) else (some ((0 : Int32), σ10, τ10))) else if ((sX x3.toNatClampNeg) &&& (31 : Int32)) = 2 then (ob (R_tells σ τ) fun r13 σ13 τ13 => ob (Q_tells σ13 τ13) fun r14 σ14 τ14 => if r13 = r14 then (L_law_l18 sL sX n (x3 + (4 : Int32)) σ14 τ14) else (some ((0 : Int32), σ14, τ14))) else if ((sX x3.toNatClampNeg) &&& (31 : Int32)) = 3 then (if (x3 + (1 : Int32)) < 0 ∨ sL ≤ (x3 + (1 : Int32)).toNatClampNeg then none else if (x3 + (2 : Int32)) < 0 ∨ sL ≤ (x3 + (2 : Int32)).toNatClampNeg then none else if (x3 + (3 : Int32)) < 0 ∨ sL ≤ (x3 + (3 : Int32)).toNatClampNeg then none else ob (R_drops (sX (x3 + (1 : Int32)).toNatClampNeg) (sX (x3 + (2 : Int32)).toNatClampNeg) (sX (x3 + (3 : Int32)).toNatClampNeg) σ τ) fun r20 σ20 τ20 => ob (Q_drops (sX (x3 + (1 : Int32)).toNatClampNeg) (sX (x3 + (2 : Int32)).toNatClampNeg) (sX (x3 + (3 : Int32)).toNatClampNeg) σ20 τ20) fun r21 σ21 τ21 => if r20 = r21 then (L_law_l18 sL sX n (x3 + (4 : Int32)) σ21 τ21) else (some ((0 : Int32), σ21, τ21))) else if ((sX x3.toNatClampNeg) &&& (31 : Int32)) = 4 then (if (x3 + (1 : Int32)) < 0 ∨ sL ≤ (x3 + (1 : Int32)).toNatClampNeg then none else ob (R_lifts (sX (x3 + (1 : Int32)).toNatClampNeg) σ τ) fun r25 σ25 τ25 => ob (Q_lifts (sX (x3 + (1 : Int32)).toNatClampNeg) σ25 τ25) fun r26 σ26 τ26 => if r25 = r26 then (L_law_l18 sL sX n (x3 + (4 : Int32)) σ26 τ26) else (some ((0 : Int32), σ26, τ26))) else if ((sX x3.toNatClampNeg) &&& (31 : Int32)) = 5 then (if (x3 + (1 : Int32)) < 0 ∨ sL ≤ (x3 + (1 : Int32)).toNatClampNeg then none else if (x3 + (2 : Int32)) < 0 ∨ sL ≤ (x3 + (2 : Int32)).toNatClampNeg then none else ob (R_weighs (sX (x3 + (1 : Int32)).toNatClampNeg) (sX (x3 + (2 : Int32)).toNatClampNeg) σ τ) fun r31 σ31 τ31 => ob (Q_weighs (sX (x3 + (1 : Int32)).toNatClampNeg) (sX (x3 + (2 : Int32)).toNatClampNeg) σ31 τ31) fun r32 σ32 τ32 => if r31 = r32 then (L_law_l18 sL sX n (x3 + (4 : Int32)) σ32 τ32) else (some ((0 : Int32), σ32, τ32))) else if ((sX x3.toNatClampNeg) &&& (31 : Int32)) = 6 then (if (x3 + (1 : Int32)) < 0 ∨ sL ≤ (x3 + (1 : Int32)).toNatClampNeg then none else if (x3 + (2 : Int32)) < 0 ∨ sL ≤ (x3 + (2 : Int32)).toNatClampNeg then none else if (x3 + (3 : Int32)) < 0 ∨ sL ≤ (x3 + (3 : Int32)).toNatClampNeg then none else ob (R_loads (sX (x3 + (1 : Int32)).toNatClampNeg) (sX (x3 + (2 : Int32)).toNatClampNeg) (sX (x3 + (3 : Int32)).toNatClampNeg) σ τ) fun r38 σ38 τ38 => ob (Q_loads (sX (x3 + (1 : Int32)).toNatClampNeg) (sX (x3 + (2 : Int32)).toNatClampNeg) (sX (x3 + (3 : Int32)).toNatClampNeg) σ38 τ38) fun r39 σ39 τ39 => if r38 = r39 then (L_law_l18 sL sX n (x3 + (4 : Int32)) σ39 τ39) else (some ((0 : Int32), σ39, τ39))) else if ((sX x3.toNatClampNeg) &&& (31 : Int32)) = 7 then (ob (R_undo σ τ) fun r42 σ42 τ42 => ob (Q_undo σ42 τ42) fun r43 σ43 τ43 => if r42 = r43 then (L_law_l18 sL sX n (x3 + (4 : Int32)) σ43 τ43) else (some ((0 : Int32), σ43, τ43))) else if ((sX x3.toNatClampNeg) &&& (31 : Int32)) = 8 then (if (x3 + (1 : Int32)) < 0 ∨ sL ≤ (x3 + (1 : Int32)).toNatClampNeg then none else if (x3 + (2 : Int32)) < 0 ∨ sL ≤ (x3 + (2 : Int32)).toNatClampNeg then none else ob (R_block (sX (x3 + (1 : Int32)).toNatClampNeg) (sX (x3 + (2 : Int32)).toNatClampNeg) σ τ) fun r48 σ48 τ48 => ob (Q_block (sX (x3 + (1 : Int32)).toNatClampNeg) (sX (x3 + (2 : Int32)).toNatClampNeg) σ48 τ48) fun r49 σ49 τ49 => if r48 = r49 then (L_law_l18 sL sX n (x3 + (4 : Int32)) σ49 τ49) else (some ((0 : Int32), σ49, τ49))) else if ((sX x3.toNatClampNeg) &&& (31 : Int32)) = 9 then (if (x3 + (1 : Int32)) < 0 ∨ sL ≤ (x3 + (1 : Int32)).toNatClampNeg then none else if (x3 + (2 : Int32)) < 0 ∨ sL ≤ (x3 + (2 : Int32)).toNatClampNeg then none else ob (R_contact (sX (x3 + (1 : Int32)).toNatClampNeg) (sX (x3 + (2 : Int32)).toNatClampNeg) σ τ) fun r54 σ54 τ54 => ob (Q_contact (sX (x3 + (1 : Int32)).toNatClampNeg) (sX (x3 + (2 : Int32)).toNatClampNeg) σ54 τ54) fun r55 σ55 τ55 => if r54 = r55 then (L_law_l18 sL sX n (x3 + (4 : Int32)) σ55 τ55) else (some ((0 : Int32), σ55, τ55))) else if ((sX x3.toNatClampNeg) &&& (31 : Int32)) = 10 then (ob (R_rests σ τ) fun r58 σ58 τ58 => ob (Q_rests σ58 τ58) fun r59 σ59 τ59 => if r58 = r59 then (L_law_l18 sL sX n (x3 + (4 : Int32)) σ59 τ59) else (some ((0 : Int32), σ59, τ59))) else if ((sX x3.toNatClampNeg) &&& (31 : Int32)) = 11 then (if (x3 + (1 : Int32)) < 0 ∨ sL ≤ (x3 + (1 : Int32)).toNatClampNeg then none else if (x3 + (2 : Int32)) < 0 ∨ sL ≤ (x3 + (2 : Int32)).toNatClampNeg then none else ob (R_bounds (sX (x3 + (1 : Int32)).toNatClampNeg) (sX (x3 + (2 : Int32)).toNatClampNeg) σ τ) fun r64 σ64 τ64 => ob (Q_bounds (sX (x3 + (1 : Int32)).toNatClampNeg) (sX (x3 + (2 : Int32)).toNatClampNeg) σ64 τ64) fun r65 σ65 τ65 => if (lg_cmp r64 r65) = 0 then (L_law_l18 sL sX n (x3 + (4 : Int32)) σ65 τ65) else (some ((0 : Int32), σ65, τ65))) else if ((sX x3.toNatClampNeg) &&& (31 : Int32)) = 12 then (if (x3 + (1 : Int32)) < 0 ∨ sL ≤ (x3 + (1 : Int32)).toNatClampNeg then none else if (x3 + (2 : Int32)) < 0 ∨ sL ≤ (x3 + (2 : Int32)).toNatClampNeg then none else if (x3 + (3 : Int32)) < 0 ∨ sL ≤ (x3 + (3 : Int32)).toNatClampNeg then none else ob (R_bears (sX (x3 + (1 : Int32)).toNatClampNeg) (sX (x3 + (2 : Int32)).toNatClampNeg) (sX (x3 + (3 : Int32)).toNatClampNeg) σ τ) fun r71 σ71 τ71 => ob (Q_bears (sX (x3 + (1 : Int32)).toNatClampNeg) (sX (x3 + (2 : Int32)).toNatClampNeg) (sX (x3 + (3 : Int32)).toNatClampNeg) σ71 τ71) fun r72 σ72 τ72 => if (lg_cmp r71 r72) = 0 then (L_law_l18 sL sX n (x3 + (4 : Int32)) σ72 τ72) else (some ((0 : Int32), σ72, τ72))) else if ((sX x3.toNatClampNeg) &&& (31 : Int32)) = 13 then (if (x3 + (1 : Int32)) < 0 ∨ sL ≤ (x3 + (1 : Int32)).toNatClampNeg then none else if (x3 + (2 : Int32)) < 0 ∨ sL ≤ (x3 + (2 : Int32)).toNatClampNeg then none else ob (R_where (sX (x3 + (1 : Int32)).toNatClampNeg) (sX (x3 + (2 : Int32)).toNatClampNeg) σ τ) fun r77 σ77 τ77 => ob (Q_where (sX (x3 + (1 : Int32)).toNatClampNeg) (sX (x3 + (2 : Int32)).toNatClampNeg) σ77 τ77) fun r78 σ78 τ78 => if r77 = r78 then (L_law_l18 sL sX n (x3 + (4 : Int32)) σ78 τ78) else (some ((0 : Int32), σ78, τ78))) else if ((sX x3.toNatClampNeg) &&& (31 : Int32)) = 14 then (if (x3 + (1 : Int32)) < 0 ∨ sL ≤ (x3 + (1 : Int32)).toNatClampNeg then none else ob (R_weights (sX (x3 + (1 : Int32)).toNatClampNeg) σ τ) fun r82 σ82 τ82 => ob (Q_weights (sX (x3 + (1 : Int32)).toNatClampNeg) σ82 τ82) fun r83 σ83 τ83 => if r82 = r83 then (L_law_l18 sL sX n (x3 + (4 : Int32)) σ83 τ83) else (some ((0 : Int32), σ83, τ83))) else if ((sX x3.toNatClampNeg) &&& (31 : Int32)) = 15 then (ob (R_key σ τ) fun r86 σ86 τ86 => ob (Q_key σ86 τ86) fun r87 σ87 τ87 => if r86 = r87 then (L_law_l18 sL sX n (x3 + (4 : Int32)) σ87 τ87) else (some ((0 : Int32), σ87, τ87))) else if ((sX x3.toNatClampNeg) &&& (31 : Int32)) = 16 then (ob (R_hold σ τ) fun r90 σ90 τ90 => ob (Q_hold σ90 τ90) fun r91 σ91 τ91 => if r90 = r91 then (L_law_l18 sL sX n (x3 + (4 : Int32)) σ91 τ91) else (some ((0 : Int32), σ91, τ91))) else if ((sX x3.toNatClampNeg) &&& (31 : Int32)) = 17 then (if (x3 + (1 : Int32)) < 0 ∨ sL ≤ (x3 + (1 : Int32)).toNatClampNeg then none else ob (R_keep (sX (x3 + (1 : Int32)).toNatClampNeg) σ τ) fun r95 σ95 τ95 => ob (Q_keep (sX (x3 + (1 : Int32)).toNatClampNeg) σ95 τ95) fun r96 σ96 τ96 => if r95 = r96 then (L_law_l18 sL sX n (x3 + (4 : Int32)) σ96 τ96) else (some ((0 : Int32), σ96, τ96))) else if ((sX x3.toNatClampNeg) &&& (31 : Int32)) = 18 then (if (x3 + (1 : Int32)) < 0 ∨ sL ≤ (x3 + (1 : Int32)).toNatClampNeg then none else ob (R_back (sX (x3 + (1 : Int32)).toNatClampNeg) σ τ) fun r100 σ100 τ100 => ob (Q_back (sX (x3 + (1 : Int32)).toNatClampNeg) σ100 τ100) fun r101 σ101 τ101 => if r100 = r101 then (L_law_l18 sL sX n (x3 + (4 : Int32)) σ101 τ101) else (some ((0 : Int32), σ101, τ101))) else if ((sX x3.toNatClampNeg) &&& (31 : Int32)) = 19 then (if (x3 + (1 : Int32)) < 0 ∨ sL ≤ (x3 + (1 : Int32)).toNatClampNeg then none else ob (R_count (sX (x3 + (1 : Int32)).toNatClampNeg) σ τ) fun r105 σ105 τ105 => ob (Q_count (sX (x3 + (1 : Int32)).toNatClampNeg) σ105 τ105) fun r106 σ106 τ106 => if r105 = r106 then (L_law_l18 sL sX n (x3 + (4 : Int32)) σ106 τ106) else (some ((0 : Int32), σ106, τ106))) else (L_law_l18 sL sX n (x3 + (4 : Int32)) σ τ))
