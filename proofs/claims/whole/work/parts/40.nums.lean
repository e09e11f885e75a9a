/-! ===== PLAIN NUMBERS OF THE MACHINE ===== -/
theorem nl_1 : (1 : Int32) = nI 1 := rfl
theorem nl_13 : (13 : Int32) = nI 13 := rfl
theorem nl_K : (100000 : Int32) = nI 100000 := rfl
/-- an index that is in -/
theorem nin {k n : Nat} (h : k < n) (hn : n < 2 ^ 31) : ¬ (nI k < 0 ∨ n ≤ (nI k).toNatClampNeg) := nI_in h hn
theorem ncl {k : Nat} (h : k < 2 ^ 31) : (nI k).toNatClampNeg = k := nI_clamp h
theorem lc_le0 (x : Int64) : (lg_cmp x (0 : Int64) ≤ 0) ↔ x.toInt ≤ 0 := by rw [lg_cmp_le, Int64.le_iff_toInt_le, Int64.toInt_zero]
theorem lc_eq0 (x : Int64) : (lg_cmp x (0 : Int64) = 0) ↔ x.toInt = 0 := by
  rw [lg_cmp_eq, ← Int64.toInt_inj, Int64.toInt_zero]
theorem lc_ge0 (x : Int64) : (0 ≤ lg_cmp x (0 : Int64)) ↔ 0 ≤ x.toInt := by rw [lg_cmp_ge, Int64.le_iff_toInt_le, Int64.toInt_zero]
theorem lc_lt (x y : Int64) : (lg_cmp x y < 0) ↔ x.toInt < y.toInt := by rw [lg_cmp_lt, Int64.lt_iff_toInt_lt]
theorem lc_eq (x y : Int64) : (lg_cmp x y = 0) ↔ x.toInt = y.toInt := by rw [lg_cmp_eq, ← Int64.toInt_inj]
/-- a product of numbers whose bounds are known -/
theorem mul_bd {x y a b : Int} (hx : (x.natAbs : Int) ≤ a) (hy : (y.natAbs : Int) ≤ b) : ((x * y).natAbs : Int) ≤ a * b := by
  rw [Int.natAbs_mul, Int.natCast_mul]
  exact Int.mul_le_mul hx hy (by omega) (by omega)
theorem l_mul {x y : Int64} {a b : Int} (hx : (x.toInt.natAbs : Int) ≤ a) (hy : (y.toInt.natAbs : Int) ≤ b) (h : a * b < 9223372036854775807) : (x * y).toInt = x.toInt * y.toInt := by
  have := mul_bd hx hy
  exact Kit.i64_mul (by omega) (by omega)
theorem l_add {x y : Int64} {a b : Int} (hx : (x.toInt.natAbs : Int) ≤ a) (hy : (y.toInt.natAbs : Int) ≤ b) (h : a + b < 9223372036854775807) : (x + y).toInt = x.toInt + y.toInt := Kit.i64_add (by omega) (by omega)
theorem l_sub {x y : Int64} {a b : Int} (hx : (x.toInt.natAbs : Int) ≤ a) (hy : (y.toInt.natAbs : Int) ≤ b) (h : a + b < 9223372036854775807) : (x - y).toInt = x.toInt - y.toInt := Kit.i64_sub (by omega) (by omega)
theorem l_neg {x : Int64} {a : Int} (hx : (x.toInt.natAbs : Int) ≤ a) (h : a < 9223372036854775807) : (-x).toInt = - x.toInt := Kit.i64_neg (by omega)
theorem l_div {x y : Int64} {a : Int} (hx : (x.toInt.natAbs : Int) ≤ a) (h : a < 9223372036854775807) (hd : y.toInt ∣ x.toInt) : (x / y).toInt = x.toInt / y.toInt := by
  rw [Kit.i64_div (by omega), Int.tdiv_eq_ediv_of_dvd hd]
/-- a product less a product, by what divides it: the step of both programs -/
theorem l_step {x p f z D : Int64} {C S : Int} (hx : (x.toInt.natAbs : Int) ≤ S) (hp : (p.toInt.natAbs : Int) ≤ C) (hf : (f.toInt.natAbs : Int) ≤ C) (hz : (z.toInt.natAbs : Int) ≤ S) (hb : S * C * 2 < 9223372036854775807) (hC : 0 ≤ C) (hS : 0 ≤ S) (hd : D.toInt ∣ x.toInt * p.toInt - f.toInt * z.toInt) : ((x * p - f * z) / D).toInt = (x.toInt * p.toInt - f.toInt * z.toInt) / D.toInt := by
  have b1 := mul_bd hx hp
  have b2 := mul_bd hf hz
  have hn : 0 ≤ S * C := Int.mul_nonneg hS hC
  have e1 : (x * p).toInt = x.toInt * p.toInt := l_mul hx hp (by omega)
  have e2 : (f * z).toInt = f.toInt * z.toInt := l_mul hf hz (by rw [Int.mul_comm]; omega)
  rw [Int.mul_comm C S] at b2
  have e3 : (x * p - f * z).toInt = x.toInt * p.toInt - f.toInt * z.toInt := by
    rw [← e1, ← e2]
    exact Kit.i64_sub (by rw [e1, e2]; omega) (by rw [e1, e2]; omega)
  have := l_div (x := x * p - f * z) (y := D) (a := S * C * 2) (by rw [e3]; omega) hb (by rw [e3]; exact hd)
  rw [this, e3]
/-! the memories -/
theorem u2_same (σ : mS) (a k : Nat) (v : Int32) : u2 σ a k v a = upd (σ a) k v := if_pos rfl
theorem u2_ne (σ : mS) {a c : Nat} (k : Nat) (v : Int32) (h : c ≠ a) : u2 σ a k v c = σ c := if_neg h
theorem u2_at (σ : mS) (a k : Nat) (v : Int32) : u2 σ a k v a k = v := by rw [u2_same]; simp [upd]
theorem u2_off (σ : mS) {a c k j : Nat} (v : Int32) (h : c ≠ a ∨ j ≠ k) : u2 σ a k v c j = σ c j := by
  by_cases e : c = a
  · subst e
    rw [u2_same]
    rcases h with h | h
    · exact absurd rfl h
    · simp [upd, h]
  · rw [u2_ne _ _ _ e]
theorem u2L_same (τ : mT) (a k : Nat) (v : Int64) : u2L τ a k v a = vp_updL (τ a) k v := if_pos rfl
theorem u2L_ne (τ : mT) {a c : Nat} (k : Nat) (v : Int64) (h : c ≠ a) : u2L τ a k v c = τ c := if_neg h
theorem u2L_at (τ : mT) (a k : Nat) (v : Int64) : u2L τ a k v a k = v := by rw [u2L_same]; simp [vp_updL]
theorem u2L_off (τ : mT) {a c k j : Nat} (v : Int64) (h : c ≠ a ∨ j ≠ k) : u2L τ a k v c j = τ c j := by
  by_cases e : c = a
  · subst e
    rw [u2L_same]
    rcases h with h | h
    · exact absurd rfl h
    · simp [vp_updL, h]
  · rw [u2L_ne _ _ _ e]
theorem u1_same (σ : mS) (a : Nat) (f : Nat → Int32) : u1 σ a f a = f := if_pos rfl
theorem u1_ne (σ : mS) {a c : Nat} (f : Nat → Int32) (h : c ≠ a) : u1 σ a f c = σ c := if_neg h
theorem ob_some {α β : Type} {a : α} {s : mS} {t : mT} {k : α → mS → mT → Option β} : ob (some (a, s, t)) k = k a s t := rfl
theorem ov_some {β : Type} {s : mS} {t : mT} {k : mS → mT → Option β} : ov (some (s, t)) k = k s t := rfl
theorem mw_eq {α β : Type} {x : α} {k : α → Option β} : mw x k = k x := rfl
