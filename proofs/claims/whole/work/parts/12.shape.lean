/-! ===== THE CELLS BEHIND THE LAW's START: all numbers in two memories, σ (ints) and τ (longs), by cell and place ===== -/
abbrev mS : Type := Nat → Nat → Int32
abbrev mT : Type := Nat → Nat → Int64
def u2 (σ : mS) (a k : Nat) (v : Int32) : mS := fun b => if b = a then upd (σ a) k v else σ b
def u2L (τ : mT) (a k : Nat) (v : Int64) : mT := fun b => if b = a then vp_updL (τ a) k v else τ b
def u1 (σ : mS) (a : Nat) (f : Nat → Int32) : mS := fun b => if b = a then f else σ b
def mw {α β : Type} (x : α) (k : α → Option β) : Option β := k x
def ob {α β : Type} (o : Option (α × mS × mT)) (k : α → mS → mT → Option β) : Option β := match o with
  | some (a, s, t) => k a s t
  | none => none
def ov {β : Type} (o : Option (mS × mT)) (k : mS → mT → Option β) : Option β := match o with
  | some (s, t) => k s t
  | none => none
theorem og {β : Type} {c : Prop} [Decidable c] {x : Option β} {b : β} (h : (if c then none else x) = some b) : ¬ c ∧ x = some b := by
  by_cases hc : c
  · rw [if_pos hc] at h; cases h
  · rw [if_neg hc] at h; exact ⟨hc, h⟩
theorem ow {α β : Type} {x : α} {k : α → Option β} {b : β} (h : mw x k = some b) : ∃ y, y = x ∧ k y = some b := ⟨x, rfl, h⟩
theorem obs {α β : Type} {o : Option (α × mS × mT)} {k : α → mS → mT → Option β} {b : β} (h : ob o k = some b) : ∃ a s t, o = some (a, s, t) ∧ k a s t = some b := by
  unfold ob at h
  split at h
  · exact ⟨_, _, _, rfl, h⟩
  · cases h
theorem ovs {β : Type} {o : Option (mS × mT)} {k : mS → mT → Option β} {b : β} (h : ov o k = some b) : ∃ s t, o = some (s, t) ∧ k s t = some b := by
  unfold ov at h
  split at h
  · exact ⟨_, _, rfl, h⟩
  · cases h
theorem os2 {α β : Type} {a a' : α} {b b' : β} (h : some (a, b) = some (a', b')) : a = a' ∧ b = b' := by cases h; exact ⟨rfl, rfl⟩
theorem os3 {α β γ : Type} {a a' : α} {b b' : β} {c c' : γ} (h : some (a, b, c) = some (a', b', c')) : a = a' ∧ b = b' ∧ c = c' := by cases h; exact ⟨rfl, rfl, rfl⟩
theorem vin_ok {i : Int32} {n : Nat} (h : (decide (i < 0) || Nat.ble n i.toNatClampNeg) = false) : vp_in i n := by
  obtain ⟨h1, h2⟩ := Bool.or_eq_false_iff.mp h
  intro q
  rcases q with q | q
  · exact absurd q (of_decide_eq_false h1)
  · rw [Nat.ble_eq_true_of_le q] at h2; cases h2
theorem nar_b {v : Int32} (h : ¬ ¬ v &&& 1 = v) : narrow .boolean (.int v) = .int v := congrArg Value.int (Decidable.of_not_not h)
/-- fuel of the loops -/
def mc_F : Nat := 100002
/-- what is known of locals may be forgotten -/
def mc_le : List Value → List Value → Prop
  | [], [] => True
  | x :: xs, y :: ys => (x = .retAddr 0 ∨ x = y) ∧ mc_le xs ys
  | _, _ => False
theorem mc_le_at : ∀ {a b : List Value}, mc_le a b → a.length = b.length ∧ ∀ (i : Nat) (v : Value), a[i]? = some v → v ≠ .retAddr 0 → b[i]? = some v
  | [], [], _ => ⟨rfl, fun i v h => by simp at h⟩
  | x :: xs, y :: ys, h => by
    obtain ⟨h1, h2⟩ := h
    obtain ⟨g1, g2⟩ := mc_le_at h2
    refine ⟨by simp [g1], fun i v hv hn => ?_⟩
    match i, hv with
    | 0, hv =>
      cases hv
      rcases h1 with h1 | h1
      · exact absurd h1 hn
      · rw [h1]; rfl
    | i + 1, hv => exact g2 i v hv hn
  | [], _ :: _, h => h.elim
  | _ :: _, [], h => h.elim
def jmax (x y : Int32) : Int32 := if x < y then y else x
def jmin (x y : Int32) : Int32 := if y < x then y else x
def jabs (x : Int64) : Int64 := if 0 < x then x else -x
section MX
variable {Mt : mc_M} {d : Nat} {scr : Option (Nat × (Nat → Int32))} {pc : Nat} {loc stk : List Value} {h : mc_H} {r : Option Value} {h' : mc_H} {nc ns : Nat}
theorem mc_V.locs {loc' : List Value} (hle : mc_le loc' loc) (k : mc_V Mt d scr pc loc' stk h r h' nc ns) : mc_V Mt d scr pc loc stk h r h' nc ns := by
  intro p l e R s m args below meth c H locs cells slots Q ls G C K X P S L hR E
  obtain ⟨g1, g2⟩ := mc_le_at hle
  refine k p l e R s m args below meth c H locs cells slots Q ls G C K X P S ⟨mc_has_mono L.1 fun q hq => ?_, g1.trans L.2⟩ hR E
  obtain ⟨v, e1, e2, e3⟩ := mc_lv_mem.mp hq
  exact mc_lv_mem.mpr ⟨v, g2 _ v e1 e2, e2, e3⟩
theorem mc_V.heap {h1 : mc_H} (e : h = h1) (k : mc_V Mt d scr pc loc stk h1 r h' nc ns) : mc_V Mt d scr pc loc stk h r h' nc ns := e ▸ k
theorem mr_iconstv {n : Int} (v : Int32) (hd : decode Mt.2.1 pc = .ok (.iconst n, 1)) (hv : Int32.ofInt n = v) (k : mc_V Mt d scr (pc + 1) loc (.int v :: stk) h r h' nc ns) : mc_V Mt d scr pc loc stk h r h' nc ns := mr_iconst hd (hv ▸ k)
theorem mr_bipushv {n : Int} (v : Int32) (hd : decode Mt.2.1 pc = .ok (.bipush n, 2)) (hv : (Int8.ofInt n).toInt32 = v) (k : mc_V Mt d scr (pc + 2) loc (.int v :: stk) h r h' nc ns) : mc_V Mt d scr pc loc stk h r h' nc ns := mr_bipush hd (hv ▸ k)
theorem mr_sipushv {n : Int} (v : Int32) (hd : decode Mt.2.1 pc = .ok (.sipush n, 3)) (hv : (Int16.ofInt n).toInt32 = v) (k : mc_V Mt d scr (pc + 3) loc (.int v :: stk) h r h' nc ns) : mc_V Mt d scr pc loc stk h r h' nc ns := mr_sipush hd (hv ▸ k)
theorem mr_lconstv {n : Fin 2} (v : Int64) (hd : decode Mt.2.1 pc = .ok (.lconst n, 1)) (hv : Int64.ofNat (n : Nat) = v) (k : mc_V Mt d scr (pc + 1) loc (.long v :: stk) h r h' nc ns) : mc_V Mt d scr pc loc stk h r h' nc ns := mr_lconst hd (hv ▸ k)
theorem mr_iincv {i : Nat} {n : Int} {x : Int32} (v : Int32) (hd : decode Mt.2.1 pc = .ok (.iinc i n, 3)) (hl : loc[i]? = some (.int x)) (hv : Int32.ofInt n = v) (k : mc_V Mt d scr (pc + 3) (mc_set1 loc i (.int (x + v))) stk h r h' nc ns) : mc_V Mt d scr pc loc stk h r h' nc ns := mr_iinc hd hl (hv ▸ k)
theorem mr_callS0 {Mk : mc_M} {idx n : Nat} {stk0 : List Value} {rc : Option Value} {hc : mc_H} (vs : List Value) (hok : mc_ok Mk n) (hw : Cond.methodLink Mt.1.cls idx Mk.1 ∈ mc_tbl) (hst : Cond.static Mk.1 ∈ mc_tbl) (hd : decode Mt.2.1 pc = .ok (.invokestatic idx, 3)) (hs : stk0 = vs.reverse ++ stk) (hn : vs.length = n) (hvs : (mc_flat vs).length ≤ Mk.2.2.1) (hm : (stk.map fun v => v.category).sum ≤ 8)
    (kc : mc_V Mk d none 0 (mc_entry vs Mk.2.2.1) [] h rc hc 0 0) (k : mc_V Mt (d + 1) scr (pc + 3) loc (rc.toList ++ stk) hc r h' 0 0) : mc_V Mt (d + 1) scr pc loc stk0 h r h' 0 0 := mr_callS (nc1 := 0) (ns1 := 0) (nc2 := 0) (ns2 := 0) vs hok hw hst hd hs hn hvs hm kc k
theorem mr_callSN0 {Mk : mc_M} {idx n : Nat} {stk0 : List Value} {rc : Option Value} {hc : mc_H} {host : String} (vs : List Value) (hok : mc_ok Mk n) (hw : Cond.methodLinkNest Mt.1.cls idx Mk.1 host ∈ mc_tbl) (hst : Cond.static Mk.1 ∈ mc_tbl) (hd : decode Mt.2.1 pc = .ok (.invokestatic idx, 3)) (hs : stk0 = vs.reverse ++ stk) (hn : vs.length = n) (hvs : (mc_flat vs).length ≤ Mk.2.2.1) (hm : (stk.map fun v => v.category).sum ≤ 8)
    (kc : mc_V Mk d none 0 (mc_entry vs Mk.2.2.1) [] h rc hc 0 0) (k : mc_V Mt (d + 1) scr (pc + 3) loc (rc.toList ++ stk) hc r h' 0 0) : mc_V Mt (d + 1) scr pc loc stk0 h r h' 0 0 := mr_callSN (nc1 := 0) (ns1 := 0) (nc2 := 0) (ns2 := 0) vs hok hw hst hd hs hn hvs hm kc k
theorem mr_callV0 {Mk : mc_M} {a ci idx n : Nat} {C0 : String} {T : u_T} {N : Nat} {fs : List Value} {stk0 : List Value} {rc : Option Value} {hc : mc_H} (vs : List Value) (hok : mc_ok Mk n) (hw : Cond.methodLink Mt.1.cls idx Mk.1 ∈ mc_tbl) (hst : Cond.instanceMethod Mk.1 ∈ mc_tbl) (hse : Cond.selects C0 Mk.1 Mk.1 ∈ mc_tbl) (hd : decode Mt.2.1 pc = .ok (.invokevirtual idx, 3)) (hcl : mc_cl[ci]? = some (C0, T, N)) (ha : h[a]? = some (.inl (ci, fs))) (hs : stk0 = vs.reverse ++ .ref (a + 1) :: stk) (hn : vs.length = n) (hvs : (mc_flat (.ref (a + 1) :: vs)).length ≤ Mk.2.2.1) (hm : (stk.map fun v => v.category).sum ≤ 8)
    (kc : mc_V Mk d none 0 (mc_entry (.ref (a + 1) :: vs) Mk.2.2.1) [] h rc hc 0 0) (k : mc_V Mt (d + 1) scr (pc + 3) loc (rc.toList ++ stk) hc r h' 0 0) : mc_V Mt (d + 1) scr pc loc stk0 h r h' 0 0 := mr_callV (nc1 := 0) (ns1 := 0) (nc2 := 0) (ns2 := 0) vs hok hw hst hse hd hcl ha hs hn hvs hm kc k
theorem mr_mmax {idx : Nat} {x y : Int32} (hw : Cond.methodLink Mt.1.cls idx Lib.Math.max.name ∈ mc_tbl) (hd : decode Mt.2.1 pc = .ok (.invokestatic idx, 3)) (hm : (stk.map fun v => v.category).sum ≤ 8) (k : mc_V Mt (d + 1) scr (pc + 3) loc (.int (jmax x y) :: stk) h r h' nc ns) : mc_V Mt (d + 1) scr pc loc (.int y :: .int x :: stk) h r h' nc ns := by
  intro p l e R s m args below meth c H locs cells slots Q ls G C K X P S L hR E
  have hts : ∀ w ∈ mc_tbl, w.before args s = true := fun w h => C.2.2.2.2.2.2.1 _ w h
  have hrm := mc_roomW (G := G) hm
  refine va_mmax C.1 C.2.1 (C.2.2.1.trans L.1.1.symm) C.2.2.2.2.2.1 (hts _ hw) (hts _ mm_st_max) (hts _ mm_ini) (hts _ mm_cd_max) (by have := hR.1; omega) (by have := hR.2.1; omega) (by have := hR.2.2.1; omega) (by have := hR.2.2.2; omega) hd ?_
  exact k p l e R s m args below meth c H locs cells slots Q ls G C K X P S L hR E
theorem mr_mmin {idx : Nat} {x y : Int32} (hw : Cond.methodLink Mt.1.cls idx Lib.Math.min.name ∈ mc_tbl) (hd : decode Mt.2.1 pc = .ok (.invokestatic idx, 3)) (hm : (stk.map fun v => v.category).sum ≤ 8) (k : mc_V Mt (d + 1) scr (pc + 3) loc (.int (jmin x y) :: stk) h r h' nc ns) : mc_V Mt (d + 1) scr pc loc (.int y :: .int x :: stk) h r h' nc ns := by
  intro p l e R s m args below meth c H locs cells slots Q ls G C K X P S L hR E
  have hts : ∀ w ∈ mc_tbl, w.before args s = true := fun w h => C.2.2.2.2.2.2.1 _ w h
  have hrm := mc_roomW (G := G) hm
  refine va_mmin C.1 C.2.1 (C.2.2.1.trans L.1.1.symm) C.2.2.2.2.2.1 (hts _ hw) (hts _ mm_st_min) (hts _ mm_ini) (hts _ mm_cd_min) (by have := hR.1; omega) (by have := hR.2.1; omega) (by have := hR.2.2.1; omega) (by have := hR.2.2.2; omega) hd ?_
  exact k p l e R s m args below meth c H locs cells slots Q ls G C K X P S L hR E
theorem mr_mabs {idx : Nat} {x : Int64} (hw : Cond.methodLink Mt.1.cls idx Lib.MathLoose.abs_long.x ∈ mc_tbl) (hd : decode Mt.2.1 pc = .ok (.invokestatic idx, 3)) (hm : (stk.map fun v => v.category).sum ≤ 8) (k : mc_V Mt (d + 1) scr (pc + 3) loc (.long (jabs x) :: stk) h r h' nc ns) : mc_V Mt (d + 1) scr pc loc (.long x :: stk) h r h' nc ns := by
  intro p l e R s m args below meth c H locs cells slots Q ls G C K X P S L hR E
  have hts : ∀ w ∈ mc_tbl, w.before args s = true := fun w h => C.2.2.2.2.2.2.1 _ w h
  have hrm := mc_roomW (G := G) hm
  refine va_mabs_long C.1 C.2.1 (C.2.2.1.trans L.1.1.symm) C.2.2.2.2.2.1 (hts _ hw) (hts _ mm_st_abs) (hts _ mm_ini) (hts _ mm_cd_abs) (by have := hR.1; omega) (by have := hR.2.1; omega) (by have := hR.2.2.1; omega) (by have := hR.2.2.2; omega) hd ?_
  exact k p l e R s m args below meth c H locs cells slots Q ls G C K X P S L hR E
end MX

def mc_hp (σ : mS) (τ : mT) : mc_H := [
  .inl (5, [.ref 2, .ref 4, .ref 6, .ref 15, .ref 27, .ref 29, .ref 31, .ref 33, .int (σ 1 8)]),
  .inl (2, [.ref 3]),
  .inr (.inl (.int, 21, σ 3)),
  .inl (2, [.ref 5]),
  .inr (.inl (.int, 21, σ 5)),
  .inl (1, [.ref 7, .ref 8, .ref 9, .ref 10, .ref 11, .ref 12, .ref 13, .ref 14, .int (σ 6 8), .int (σ 6 9)]),
  .inr (.inl (.int, 4, σ 7)),
  .inr (.inl (.int, 4, σ 8)),
  .inr (.inl (.int, 4, σ 9)),
  .inr (.inl (.int, 4, σ 10)),
  .inr (.inl (.int, 4, σ 11)),
  .inr (.inl (.int, 12, σ 12)),
  .inr (.inl (.int, 12, σ 13)),
  .inr (.inl (.int, 12, σ 14)),
  .inl (0, [.ref 16, .ref 25, .ref 26, .int (σ 15 3), .int (σ 15 4), .long (τ 15 5)]),
  .inr (.inr (.inr (8, fun i => if i < 8 then some (17 + i) else none))),
  .inr (.inr (.inl (14, τ 17))),
  .inr (.inr (.inl (14, τ 18))),
  .inr (.inr (.inl (14, τ 19))),
  .inr (.inr (.inl (14, τ 20))),
  .inr (.inr (.inl (14, τ 21))),
  .inr (.inr (.inl (14, τ 22))),
  .inr (.inr (.inl (14, τ 23))),
  .inr (.inr (.inl (14, τ 24))),
  .inr (.inl (.int, 8, σ 25)),
  .inr (.inl (.int, 4, σ 26)),
  .inl (4, [.ref 28, .int (σ 27 1), .int (σ 27 2)]),
  .inr (.inl (.short, 120, σ 28)),
  .inl (3, [.int 6, .ref 30]),
  .inr (.inl (.int, 126, σ 30)),
  .inl (3, [.int 2, .ref 32]),
  .inr (.inl (.int, 42, σ 32)),
  .inr (.inl (.boolean, 2, σ 33)),
  .inl (6, [.ref 35, .ref 36, .int (σ 34 2), .ref 37, .ref 38, .ref 39, .int (σ 34 6), .ref 40, .ref 41, .int (σ 34 9), .ref 42, .ref 43, .ref 44, .int (σ 34 13), .int (σ 34 14), .ref 45, .ref 46, .ref 47, .int (σ 34 18), .long (τ 34 19), .long (τ 34 20), .long (τ 34 21), .long (τ 34 22), .int (σ 34 23), .int (σ 34 24), .int (σ 34 25), .ref 48]),
  .inr (.inl (.int, 21, σ 35)),
  .inr (.inl (.int, 126, σ 36)),
  .inr (.inl (.int, 42, σ 37)),
  .inr (.inl (.boolean, 2, σ 38)),
  .inr (.inl (.int, 120, σ 39)),
  .inr (.inl (.int, 4, σ 40)),
  .inr (.inl (.int, 4, σ 41)),
  .inr (.inl (.int, 16, σ 42)),
  .inr (.inl (.int, 16, σ 43)),
  .inr (.inl (.int, 16, σ 44)),
  .inr (.inr (.inl (128, τ 45))),
  .inr (.inr (.inl (8, τ 46))),
  .inr (.inr (.inl (72, τ 47))),
  .inr (.inl (.int, 21, σ 48))]
theorem ha_1 (σ : mS) (τ : mT) : (mc_hp σ τ)[0]? = some (.inl (5, [.ref 2, .ref 4, .ref 6, .ref 15, .ref 27, .ref 29, .ref 31, .ref 33, .int (σ 1 8)])) := rfl
theorem hs_1_8 {σ σ1 : mS} {τ : mT} {v : Int32} (e : σ1 = u2 σ 1 8 v) : (mc_hp σ τ).set 0 (.inl (5, [.ref 2, .ref 4, .ref 6, .ref 15, .ref 27, .ref 29, .ref 31, .ref 33, .int v])) = mc_hp σ1 τ := by subst e; rfl
theorem ha_2 (σ : mS) (τ : mT) : (mc_hp σ τ)[1]? = some (.inl (2, [.ref 3])) := rfl
theorem ha_3 (σ : mS) (τ : mT) : (mc_hp σ τ)[2]? = some (.inr (.inl (.int, 21, σ 3))) := rfl
theorem hs_3 {σ σ1 : mS} {τ : mT} {i : Nat} {v : Int32} (e : σ1 = u2 σ 3 i v) : (mc_hp σ τ).set 2 (.inr (.inl (.int, 21, upd (σ 3) i v))) = mc_hp σ1 τ := by subst e; rfl
theorem hc_3 {σ σ1 : mS} {τ : mT} {f : Nat → Int32} (e : σ1 = u1 σ 3 f) : (mc_hp σ τ).set 2 (.inr (.inl (.int, 21, f))) = mc_hp σ1 τ := by subst e; rfl
theorem ha_4 (σ : mS) (τ : mT) : (mc_hp σ τ)[3]? = some (.inl (2, [.ref 5])) := rfl
theorem ha_5 (σ : mS) (τ : mT) : (mc_hp σ τ)[4]? = some (.inr (.inl (.int, 21, σ 5))) := rfl
theorem hs_5 {σ σ1 : mS} {τ : mT} {i : Nat} {v : Int32} (e : σ1 = u2 σ 5 i v) : (mc_hp σ τ).set 4 (.inr (.inl (.int, 21, upd (σ 5) i v))) = mc_hp σ1 τ := by subst e; rfl
theorem hc_5 {σ σ1 : mS} {τ : mT} {f : Nat → Int32} (e : σ1 = u1 σ 5 f) : (mc_hp σ τ).set 4 (.inr (.inl (.int, 21, f))) = mc_hp σ1 τ := by subst e; rfl
theorem ha_6 (σ : mS) (τ : mT) : (mc_hp σ τ)[5]? = some (.inl (1, [.ref 7, .ref 8, .ref 9, .ref 10, .ref 11, .ref 12, .ref 13, .ref 14, .int (σ 6 8), .int (σ 6 9)])) := rfl
theorem hs_6_8 {σ σ1 : mS} {τ : mT} {v : Int32} (e : σ1 = u2 σ 6 8 v) : (mc_hp σ τ).set 5 (.inl (1, [.ref 7, .ref 8, .ref 9, .ref 10, .ref 11, .ref 12, .ref 13, .ref 14, .int v, .int (σ 6 9)])) = mc_hp σ1 τ := by subst e; rfl
theorem hs_6_9 {σ σ1 : mS} {τ : mT} {v : Int32} (e : σ1 = u2 σ 6 9 v) : (mc_hp σ τ).set 5 (.inl (1, [.ref 7, .ref 8, .ref 9, .ref 10, .ref 11, .ref 12, .ref 13, .ref 14, .int (σ 6 8), .int v])) = mc_hp σ1 τ := by subst e; rfl
theorem ha_7 (σ : mS) (τ : mT) : (mc_hp σ τ)[6]? = some (.inr (.inl (.int, 4, σ 7))) := rfl
theorem hs_7 {σ σ1 : mS} {τ : mT} {i : Nat} {v : Int32} (e : σ1 = u2 σ 7 i v) : (mc_hp σ τ).set 6 (.inr (.inl (.int, 4, upd (σ 7) i v))) = mc_hp σ1 τ := by subst e; rfl
theorem hc_7 {σ σ1 : mS} {τ : mT} {f : Nat → Int32} (e : σ1 = u1 σ 7 f) : (mc_hp σ τ).set 6 (.inr (.inl (.int, 4, f))) = mc_hp σ1 τ := by subst e; rfl
theorem ha_8 (σ : mS) (τ : mT) : (mc_hp σ τ)[7]? = some (.inr (.inl (.int, 4, σ 8))) := rfl
theorem hs_8 {σ σ1 : mS} {τ : mT} {i : Nat} {v : Int32} (e : σ1 = u2 σ 8 i v) : (mc_hp σ τ).set 7 (.inr (.inl (.int, 4, upd (σ 8) i v))) = mc_hp σ1 τ := by subst e; rfl
theorem hc_8 {σ σ1 : mS} {τ : mT} {f : Nat → Int32} (e : σ1 = u1 σ 8 f) : (mc_hp σ τ).set 7 (.inr (.inl (.int, 4, f))) = mc_hp σ1 τ := by subst e; rfl
theorem ha_9 (σ : mS) (τ : mT) : (mc_hp σ τ)[8]? = some (.inr (.inl (.int, 4, σ 9))) := rfl
theorem hs_9 {σ σ1 : mS} {τ : mT} {i : Nat} {v : Int32} (e : σ1 = u2 σ 9 i v) : (mc_hp σ τ).set 8 (.inr (.inl (.int, 4, upd (σ 9) i v))) = mc_hp σ1 τ := by subst e; rfl
theorem hc_9 {σ σ1 : mS} {τ : mT} {f : Nat → Int32} (e : σ1 = u1 σ 9 f) : (mc_hp σ τ).set 8 (.inr (.inl (.int, 4, f))) = mc_hp σ1 τ := by subst e; rfl
theorem ha_10 (σ : mS) (τ : mT) : (mc_hp σ τ)[9]? = some (.inr (.inl (.int, 4, σ 10))) := rfl
theorem hs_10 {σ σ1 : mS} {τ : mT} {i : Nat} {v : Int32} (e : σ1 = u2 σ 10 i v) : (mc_hp σ τ).set 9 (.inr (.inl (.int, 4, upd (σ 10) i v))) = mc_hp σ1 τ := by subst e; rfl
theorem hc_10 {σ σ1 : mS} {τ : mT} {f : Nat → Int32} (e : σ1 = u1 σ 10 f) : (mc_hp σ τ).set 9 (.inr (.inl (.int, 4, f))) = mc_hp σ1 τ := by subst e; rfl
theorem ha_11 (σ : mS) (τ : mT) : (mc_hp σ τ)[10]? = some (.inr (.inl (.int, 4, σ 11))) := rfl
theorem hs_11 {σ σ1 : mS} {τ : mT} {i : Nat} {v : Int32} (e : σ1 = u2 σ 11 i v) : (mc_hp σ τ).set 10 (.inr (.inl (.int, 4, upd (σ 11) i v))) = mc_hp σ1 τ := by subst e; rfl
theorem hc_11 {σ σ1 : mS} {τ : mT} {f : Nat → Int32} (e : σ1 = u1 σ 11 f) : (mc_hp σ τ).set 10 (.inr (.inl (.int, 4, f))) = mc_hp σ1 τ := by subst e; rfl
theorem ha_12 (σ : mS) (τ : mT) : (mc_hp σ τ)[11]? = some (.inr (.inl (.int, 12, σ 12))) := rfl
theorem hs_12 {σ σ1 : mS} {τ : mT} {i : Nat} {v : Int32} (e : σ1 = u2 σ 12 i v) : (mc_hp σ τ).set 11 (.inr (.inl (.int, 12, upd (σ 12) i v))) = mc_hp σ1 τ := by subst e; rfl
theorem hc_12 {σ σ1 : mS} {τ : mT} {f : Nat → Int32} (e : σ1 = u1 σ 12 f) : (mc_hp σ τ).set 11 (.inr (.inl (.int, 12, f))) = mc_hp σ1 τ := by subst e; rfl
theorem ha_13 (σ : mS) (τ : mT) : (mc_hp σ τ)[12]? = some (.inr (.inl (.int, 12, σ 13))) := rfl
theorem hs_13 {σ σ1 : mS} {τ : mT} {i : Nat} {v : Int32} (e : σ1 = u2 σ 13 i v) : (mc_hp σ τ).set 12 (.inr (.inl (.int, 12, upd (σ 13) i v))) = mc_hp σ1 τ := by subst e; rfl
theorem hc_13 {σ σ1 : mS} {τ : mT} {f : Nat → Int32} (e : σ1 = u1 σ 13 f) : (mc_hp σ τ).set 12 (.inr (.inl (.int, 12, f))) = mc_hp σ1 τ := by subst e; rfl
theorem ha_14 (σ : mS) (τ : mT) : (mc_hp σ τ)[13]? = some (.inr (.inl (.int, 12, σ 14))) := rfl
theorem hs_14 {σ σ1 : mS} {τ : mT} {i : Nat} {v : Int32} (e : σ1 = u2 σ 14 i v) : (mc_hp σ τ).set 13 (.inr (.inl (.int, 12, upd (σ 14) i v))) = mc_hp σ1 τ := by subst e; rfl
theorem hc_14 {σ σ1 : mS} {τ : mT} {f : Nat → Int32} (e : σ1 = u1 σ 14 f) : (mc_hp σ τ).set 13 (.inr (.inl (.int, 12, f))) = mc_hp σ1 τ := by subst e; rfl
theorem ha_15 (σ : mS) (τ : mT) : (mc_hp σ τ)[14]? = some (.inl (0, [.ref 16, .ref 25, .ref 26, .int (σ 15 3), .int (σ 15 4), .long (τ 15 5)])) := rfl
theorem hs_15_3 {σ σ1 : mS} {τ : mT} {v : Int32} (e : σ1 = u2 σ 15 3 v) : (mc_hp σ τ).set 14 (.inl (0, [.ref 16, .ref 25, .ref 26, .int v, .int (σ 15 4), .long (τ 15 5)])) = mc_hp σ1 τ := by subst e; rfl
theorem hs_15_4 {σ σ1 : mS} {τ : mT} {v : Int32} (e : σ1 = u2 σ 15 4 v) : (mc_hp σ τ).set 14 (.inl (0, [.ref 16, .ref 25, .ref 26, .int (σ 15 3), .int v, .long (τ 15 5)])) = mc_hp σ1 τ := by subst e; rfl
theorem hs_15_5 {σ : mS} {τ τ1 : mT} {v : Int64} (e : τ1 = u2L τ 15 5 v) : (mc_hp σ τ).set 14 (.inl (0, [.ref 16, .ref 25, .ref 26, .int (σ 15 3), .int (σ 15 4), .long v])) = mc_hp σ τ1 := by subst e; rfl
theorem ha_16 (σ : mS) (τ : mT) : (mc_hp σ τ)[15]? = some (.inr (.inr (.inr (8, fun i => if i < 8 then some (17 + i) else none)))) := rfl
theorem ha_17 (σ : mS) (τ : mT) : (mc_hp σ τ)[16]? = some (.inr (.inr (.inl (14, τ 17)))) := rfl
theorem hs_17 {σ : mS} {τ τ1 : mT} {i : Nat} {v : Int64} (e : τ1 = u2L τ 17 i v) : (mc_hp σ τ).set 16 (.inr (.inr (.inl (14, vp_updL (τ 17) i v)))) = mc_hp σ τ1 := by subst e; rfl
theorem ha_18 (σ : mS) (τ : mT) : (mc_hp σ τ)[17]? = some (.inr (.inr (.inl (14, τ 18)))) := rfl
theorem hs_18 {σ : mS} {τ τ1 : mT} {i : Nat} {v : Int64} (e : τ1 = u2L τ 18 i v) : (mc_hp σ τ).set 17 (.inr (.inr (.inl (14, vp_updL (τ 18) i v)))) = mc_hp σ τ1 := by subst e; rfl
theorem ha_19 (σ : mS) (τ : mT) : (mc_hp σ τ)[18]? = some (.inr (.inr (.inl (14, τ 19)))) := rfl
theorem hs_19 {σ : mS} {τ τ1 : mT} {i : Nat} {v : Int64} (e : τ1 = u2L τ 19 i v) : (mc_hp σ τ).set 18 (.inr (.inr (.inl (14, vp_updL (τ 19) i v)))) = mc_hp σ τ1 := by subst e; rfl
theorem ha_20 (σ : mS) (τ : mT) : (mc_hp σ τ)[19]? = some (.inr (.inr (.inl (14, τ 20)))) := rfl
theorem hs_20 {σ : mS} {τ τ1 : mT} {i : Nat} {v : Int64} (e : τ1 = u2L τ 20 i v) : (mc_hp σ τ).set 19 (.inr (.inr (.inl (14, vp_updL (τ 20) i v)))) = mc_hp σ τ1 := by subst e; rfl
theorem ha_21 (σ : mS) (τ : mT) : (mc_hp σ τ)[20]? = some (.inr (.inr (.inl (14, τ 21)))) := rfl
theorem hs_21 {σ : mS} {τ τ1 : mT} {i : Nat} {v : Int64} (e : τ1 = u2L τ 21 i v) : (mc_hp σ τ).set 20 (.inr (.inr (.inl (14, vp_updL (τ 21) i v)))) = mc_hp σ τ1 := by subst e; rfl
theorem ha_22 (σ : mS) (τ : mT) : (mc_hp σ τ)[21]? = some (.inr (.inr (.inl (14, τ 22)))) := rfl
theorem hs_22 {σ : mS} {τ τ1 : mT} {i : Nat} {v : Int64} (e : τ1 = u2L τ 22 i v) : (mc_hp σ τ).set 21 (.inr (.inr (.inl (14, vp_updL (τ 22) i v)))) = mc_hp σ τ1 := by subst e; rfl
theorem ha_23 (σ : mS) (τ : mT) : (mc_hp σ τ)[22]? = some (.inr (.inr (.inl (14, τ 23)))) := rfl
theorem hs_23 {σ : mS} {τ τ1 : mT} {i : Nat} {v : Int64} (e : τ1 = u2L τ 23 i v) : (mc_hp σ τ).set 22 (.inr (.inr (.inl (14, vp_updL (τ 23) i v)))) = mc_hp σ τ1 := by subst e; rfl
theorem ha_24 (σ : mS) (τ : mT) : (mc_hp σ τ)[23]? = some (.inr (.inr (.inl (14, τ 24)))) := rfl
theorem hs_24 {σ : mS} {τ τ1 : mT} {i : Nat} {v : Int64} (e : τ1 = u2L τ 24 i v) : (mc_hp σ τ).set 23 (.inr (.inr (.inl (14, vp_updL (τ 24) i v)))) = mc_hp σ τ1 := by subst e; rfl
theorem ha_25 (σ : mS) (τ : mT) : (mc_hp σ τ)[24]? = some (.inr (.inl (.int, 8, σ 25))) := rfl
theorem hs_25 {σ σ1 : mS} {τ : mT} {i : Nat} {v : Int32} (e : σ1 = u2 σ 25 i v) : (mc_hp σ τ).set 24 (.inr (.inl (.int, 8, upd (σ 25) i v))) = mc_hp σ1 τ := by subst e; rfl
theorem hc_25 {σ σ1 : mS} {τ : mT} {f : Nat → Int32} (e : σ1 = u1 σ 25 f) : (mc_hp σ τ).set 24 (.inr (.inl (.int, 8, f))) = mc_hp σ1 τ := by subst e; rfl
theorem ha_26 (σ : mS) (τ : mT) : (mc_hp σ τ)[25]? = some (.inr (.inl (.int, 4, σ 26))) := rfl
theorem hs_26 {σ σ1 : mS} {τ : mT} {i : Nat} {v : Int32} (e : σ1 = u2 σ 26 i v) : (mc_hp σ τ).set 25 (.inr (.inl (.int, 4, upd (σ 26) i v))) = mc_hp σ1 τ := by subst e; rfl
theorem hc_26 {σ σ1 : mS} {τ : mT} {f : Nat → Int32} (e : σ1 = u1 σ 26 f) : (mc_hp σ τ).set 25 (.inr (.inl (.int, 4, f))) = mc_hp σ1 τ := by subst e; rfl
theorem ha_27 (σ : mS) (τ : mT) : (mc_hp σ τ)[26]? = some (.inl (4, [.ref 28, .int (σ 27 1), .int (σ 27 2)])) := rfl
theorem hs_27_1 {σ σ1 : mS} {τ : mT} {v : Int32} (e : σ1 = u2 σ 27 1 v) : (mc_hp σ τ).set 26 (.inl (4, [.ref 28, .int v, .int (σ 27 2)])) = mc_hp σ1 τ := by subst e; rfl
theorem hs_27_2 {σ σ1 : mS} {τ : mT} {v : Int32} (e : σ1 = u2 σ 27 2 v) : (mc_hp σ τ).set 26 (.inl (4, [.ref 28, .int (σ 27 1), .int v])) = mc_hp σ1 τ := by subst e; rfl
theorem ha_28 (σ : mS) (τ : mT) : (mc_hp σ τ)[27]? = some (.inr (.inl (.short, 120, σ 28))) := rfl
theorem hs_28 {σ σ1 : mS} {τ : mT} {i : Nat} {v : Int32} (e : σ1 = u2 σ 28 i v) : (mc_hp σ τ).set 27 (.inr (.inl (.short, 120, upd (σ 28) i v))) = mc_hp σ1 τ := by subst e; rfl
theorem ha_29 (σ : mS) (τ : mT) : (mc_hp σ τ)[28]? = some (.inl (3, [.int 6, .ref 30])) := rfl
theorem ha_30 (σ : mS) (τ : mT) : (mc_hp σ τ)[29]? = some (.inr (.inl (.int, 126, σ 30))) := rfl
theorem hs_30 {σ σ1 : mS} {τ : mT} {i : Nat} {v : Int32} (e : σ1 = u2 σ 30 i v) : (mc_hp σ τ).set 29 (.inr (.inl (.int, 126, upd (σ 30) i v))) = mc_hp σ1 τ := by subst e; rfl
theorem hc_30 {σ σ1 : mS} {τ : mT} {f : Nat → Int32} (e : σ1 = u1 σ 30 f) : (mc_hp σ τ).set 29 (.inr (.inl (.int, 126, f))) = mc_hp σ1 τ := by subst e; rfl
theorem ha_31 (σ : mS) (τ : mT) : (mc_hp σ τ)[30]? = some (.inl (3, [.int 2, .ref 32])) := rfl
theorem ha_32 (σ : mS) (τ : mT) : (mc_hp σ τ)[31]? = some (.inr (.inl (.int, 42, σ 32))) := rfl
theorem hs_32 {σ σ1 : mS} {τ : mT} {i : Nat} {v : Int32} (e : σ1 = u2 σ 32 i v) : (mc_hp σ τ).set 31 (.inr (.inl (.int, 42, upd (σ 32) i v))) = mc_hp σ1 τ := by subst e; rfl
theorem hc_32 {σ σ1 : mS} {τ : mT} {f : Nat → Int32} (e : σ1 = u1 σ 32 f) : (mc_hp σ τ).set 31 (.inr (.inl (.int, 42, f))) = mc_hp σ1 τ := by subst e; rfl
theorem ha_33 (σ : mS) (τ : mT) : (mc_hp σ τ)[32]? = some (.inr (.inl (.boolean, 2, σ 33))) := rfl
theorem hs_33 {σ σ1 : mS} {τ : mT} {i : Nat} {v : Int32} (e : σ1 = u2 σ 33 i v) : (mc_hp σ τ).set 32 (.inr (.inl (.boolean, 2, upd (σ 33) i v))) = mc_hp σ1 τ := by subst e; rfl
theorem ha_34 (σ : mS) (τ : mT) : (mc_hp σ τ)[33]? = some (.inl (6, [.ref 35, .ref 36, .int (σ 34 2), .ref 37, .ref 38, .ref 39, .int (σ 34 6), .ref 40, .ref 41, .int (σ 34 9), .ref 42, .ref 43, .ref 44, .int (σ 34 13), .int (σ 34 14), .ref 45, .ref 46, .ref 47, .int (σ 34 18), .long (τ 34 19), .long (τ 34 20), .long (τ 34 21), .long (τ 34 22), .int (σ 34 23), .int (σ 34 24), .int (σ 34 25), .ref 48])) := rfl
theorem hs_34_2 {σ σ1 : mS} {τ : mT} {v : Int32} (e : σ1 = u2 σ 34 2 v) : (mc_hp σ τ).set 33 (.inl (6, [.ref 35, .ref 36, .int v, .ref 37, .ref 38, .ref 39, .int (σ 34 6), .ref 40, .ref 41, .int (σ 34 9), .ref 42, .ref 43, .ref 44, .int (σ 34 13), .int (σ 34 14), .ref 45, .ref 46, .ref 47, .int (σ 34 18), .long (τ 34 19), .long (τ 34 20), .long (τ 34 21), .long (τ 34 22), .int (σ 34 23), .int (σ 34 24), .int (σ 34 25), .ref 48])) = mc_hp σ1 τ := by subst e; rfl
theorem hs_34_6 {σ σ1 : mS} {τ : mT} {v : Int32} (e : σ1 = u2 σ 34 6 v) : (mc_hp σ τ).set 33 (.inl (6, [.ref 35, .ref 36, .int (σ 34 2), .ref 37, .ref 38, .ref 39, .int v, .ref 40, .ref 41, .int (σ 34 9), .ref 42, .ref 43, .ref 44, .int (σ 34 13), .int (σ 34 14), .ref 45, .ref 46, .ref 47, .int (σ 34 18), .long (τ 34 19), .long (τ 34 20), .long (τ 34 21), .long (τ 34 22), .int (σ 34 23), .int (σ 34 24), .int (σ 34 25), .ref 48])) = mc_hp σ1 τ := by subst e; rfl
theorem hs_34_9 {σ σ1 : mS} {τ : mT} {v : Int32} (e : σ1 = u2 σ 34 9 v) : (mc_hp σ τ).set 33 (.inl (6, [.ref 35, .ref 36, .int (σ 34 2), .ref 37, .ref 38, .ref 39, .int (σ 34 6), .ref 40, .ref 41, .int v, .ref 42, .ref 43, .ref 44, .int (σ 34 13), .int (σ 34 14), .ref 45, .ref 46, .ref 47, .int (σ 34 18), .long (τ 34 19), .long (τ 34 20), .long (τ 34 21), .long (τ 34 22), .int (σ 34 23), .int (σ 34 24), .int (σ 34 25), .ref 48])) = mc_hp σ1 τ := by subst e; rfl
theorem hs_34_13 {σ σ1 : mS} {τ : mT} {v : Int32} (e : σ1 = u2 σ 34 13 v) : (mc_hp σ τ).set 33 (.inl (6, [.ref 35, .ref 36, .int (σ 34 2), .ref 37, .ref 38, .ref 39, .int (σ 34 6), .ref 40, .ref 41, .int (σ 34 9), .ref 42, .ref 43, .ref 44, .int v, .int (σ 34 14), .ref 45, .ref 46, .ref 47, .int (σ 34 18), .long (τ 34 19), .long (τ 34 20), .long (τ 34 21), .long (τ 34 22), .int (σ 34 23), .int (σ 34 24), .int (σ 34 25), .ref 48])) = mc_hp σ1 τ := by subst e; rfl
theorem hs_34_14 {σ σ1 : mS} {τ : mT} {v : Int32} (e : σ1 = u2 σ 34 14 v) : (mc_hp σ τ).set 33 (.inl (6, [.ref 35, .ref 36, .int (σ 34 2), .ref 37, .ref 38, .ref 39, .int (σ 34 6), .ref 40, .ref 41, .int (σ 34 9), .ref 42, .ref 43, .ref 44, .int (σ 34 13), .int v, .ref 45, .ref 46, .ref 47, .int (σ 34 18), .long (τ 34 19), .long (τ 34 20), .long (τ 34 21), .long (τ 34 22), .int (σ 34 23), .int (σ 34 24), .int (σ 34 25), .ref 48])) = mc_hp σ1 τ := by subst e; rfl
theorem hs_34_18 {σ σ1 : mS} {τ : mT} {v : Int32} (e : σ1 = u2 σ 34 18 v) : (mc_hp σ τ).set 33 (.inl (6, [.ref 35, .ref 36, .int (σ 34 2), .ref 37, .ref 38, .ref 39, .int (σ 34 6), .ref 40, .ref 41, .int (σ 34 9), .ref 42, .ref 43, .ref 44, .int (σ 34 13), .int (σ 34 14), .ref 45, .ref 46, .ref 47, .int v, .long (τ 34 19), .long (τ 34 20), .long (τ 34 21), .long (τ 34 22), .int (σ 34 23), .int (σ 34 24), .int (σ 34 25), .ref 48])) = mc_hp σ1 τ := by subst e; rfl
theorem hs_34_19 {σ : mS} {τ τ1 : mT} {v : Int64} (e : τ1 = u2L τ 34 19 v) : (mc_hp σ τ).set 33 (.inl (6, [.ref 35, .ref 36, .int (σ 34 2), .ref 37, .ref 38, .ref 39, .int (σ 34 6), .ref 40, .ref 41, .int (σ 34 9), .ref 42, .ref 43, .ref 44, .int (σ 34 13), .int (σ 34 14), .ref 45, .ref 46, .ref 47, .int (σ 34 18), .long v, .long (τ 34 20), .long (τ 34 21), .long (τ 34 22), .int (σ 34 23), .int (σ 34 24), .int (σ 34 25), .ref 48])) = mc_hp σ τ1 := by subst e; rfl
theorem hs_34_20 {σ : mS} {τ τ1 : mT} {v : Int64} (e : τ1 = u2L τ 34 20 v) : (mc_hp σ τ).set 33 (.inl (6, [.ref 35, .ref 36, .int (σ 34 2), .ref 37, .ref 38, .ref 39, .int (σ 34 6), .ref 40, .ref 41, .int (σ 34 9), .ref 42, .ref 43, .ref 44, .int (σ 34 13), .int (σ 34 14), .ref 45, .ref 46, .ref 47, .int (σ 34 18), .long (τ 34 19), .long v, .long (τ 34 21), .long (τ 34 22), .int (σ 34 23), .int (σ 34 24), .int (σ 34 25), .ref 48])) = mc_hp σ τ1 := by subst e; rfl
theorem hs_34_21 {σ : mS} {τ τ1 : mT} {v : Int64} (e : τ1 = u2L τ 34 21 v) : (mc_hp σ τ).set 33 (.inl (6, [.ref 35, .ref 36, .int (σ 34 2), .ref 37, .ref 38, .ref 39, .int (σ 34 6), .ref 40, .ref 41, .int (σ 34 9), .ref 42, .ref 43, .ref 44, .int (σ 34 13), .int (σ 34 14), .ref 45, .ref 46, .ref 47, .int (σ 34 18), .long (τ 34 19), .long (τ 34 20), .long v, .long (τ 34 22), .int (σ 34 23), .int (σ 34 24), .int (σ 34 25), .ref 48])) = mc_hp σ τ1 := by subst e; rfl
theorem hs_34_22 {σ : mS} {τ τ1 : mT} {v : Int64} (e : τ1 = u2L τ 34 22 v) : (mc_hp σ τ).set 33 (.inl (6, [.ref 35, .ref 36, .int (σ 34 2), .ref 37, .ref 38, .ref 39, .int (σ 34 6), .ref 40, .ref 41, .int (σ 34 9), .ref 42, .ref 43, .ref 44, .int (σ 34 13), .int (σ 34 14), .ref 45, .ref 46, .ref 47, .int (σ 34 18), .long (τ 34 19), .long (τ 34 20), .long (τ 34 21), .long v, .int (σ 34 23), .int (σ 34 24), .int (σ 34 25), .ref 48])) = mc_hp σ τ1 := by subst e; rfl
theorem hs_34_23 {σ σ1 : mS} {τ : mT} {v : Int32} (e : σ1 = u2 σ 34 23 v) : (mc_hp σ τ).set 33 (.inl (6, [.ref 35, .ref 36, .int (σ 34 2), .ref 37, .ref 38, .ref 39, .int (σ 34 6), .ref 40, .ref 41, .int (σ 34 9), .ref 42, .ref 43, .ref 44, .int (σ 34 13), .int (σ 34 14), .ref 45, .ref 46, .ref 47, .int (σ 34 18), .long (τ 34 19), .long (τ 34 20), .long (τ 34 21), .long (τ 34 22), .int v, .int (σ 34 24), .int (σ 34 25), .ref 48])) = mc_hp σ1 τ := by subst e; rfl
theorem hs_34_24 {σ σ1 : mS} {τ : mT} {v : Int32} (e : σ1 = u2 σ 34 24 v) : (mc_hp σ τ).set 33 (.inl (6, [.ref 35, .ref 36, .int (σ 34 2), .ref 37, .ref 38, .ref 39, .int (σ 34 6), .ref 40, .ref 41, .int (σ 34 9), .ref 42, .ref 43, .ref 44, .int (σ 34 13), .int (σ 34 14), .ref 45, .ref 46, .ref 47, .int (σ 34 18), .long (τ 34 19), .long (τ 34 20), .long (τ 34 21), .long (τ 34 22), .int (σ 34 23), .int v, .int (σ 34 25), .ref 48])) = mc_hp σ1 τ := by subst e; rfl
theorem hs_34_25 {σ σ1 : mS} {τ : mT} {v : Int32} (e : σ1 = u2 σ 34 25 v) : (mc_hp σ τ).set 33 (.inl (6, [.ref 35, .ref 36, .int (σ 34 2), .ref 37, .ref 38, .ref 39, .int (σ 34 6), .ref 40, .ref 41, .int (σ 34 9), .ref 42, .ref 43, .ref 44, .int (σ 34 13), .int (σ 34 14), .ref 45, .ref 46, .ref 47, .int (σ 34 18), .long (τ 34 19), .long (τ 34 20), .long (τ 34 21), .long (τ 34 22), .int (σ 34 23), .int (σ 34 24), .int v, .ref 48])) = mc_hp σ1 τ := by subst e; rfl
theorem ha_35 (σ : mS) (τ : mT) : (mc_hp σ τ)[34]? = some (.inr (.inl (.int, 21, σ 35))) := rfl
theorem hs_35 {σ σ1 : mS} {τ : mT} {i : Nat} {v : Int32} (e : σ1 = u2 σ 35 i v) : (mc_hp σ τ).set 34 (.inr (.inl (.int, 21, upd (σ 35) i v))) = mc_hp σ1 τ := by subst e; rfl
theorem hc_35 {σ σ1 : mS} {τ : mT} {f : Nat → Int32} (e : σ1 = u1 σ 35 f) : (mc_hp σ τ).set 34 (.inr (.inl (.int, 21, f))) = mc_hp σ1 τ := by subst e; rfl
theorem ha_36 (σ : mS) (τ : mT) : (mc_hp σ τ)[35]? = some (.inr (.inl (.int, 126, σ 36))) := rfl
theorem hs_36 {σ σ1 : mS} {τ : mT} {i : Nat} {v : Int32} (e : σ1 = u2 σ 36 i v) : (mc_hp σ τ).set 35 (.inr (.inl (.int, 126, upd (σ 36) i v))) = mc_hp σ1 τ := by subst e; rfl
theorem hc_36 {σ σ1 : mS} {τ : mT} {f : Nat → Int32} (e : σ1 = u1 σ 36 f) : (mc_hp σ τ).set 35 (.inr (.inl (.int, 126, f))) = mc_hp σ1 τ := by subst e; rfl
theorem ha_37 (σ : mS) (τ : mT) : (mc_hp σ τ)[36]? = some (.inr (.inl (.int, 42, σ 37))) := rfl
theorem hs_37 {σ σ1 : mS} {τ : mT} {i : Nat} {v : Int32} (e : σ1 = u2 σ 37 i v) : (mc_hp σ τ).set 36 (.inr (.inl (.int, 42, upd (σ 37) i v))) = mc_hp σ1 τ := by subst e; rfl
theorem hc_37 {σ σ1 : mS} {τ : mT} {f : Nat → Int32} (e : σ1 = u1 σ 37 f) : (mc_hp σ τ).set 36 (.inr (.inl (.int, 42, f))) = mc_hp σ1 τ := by subst e; rfl
theorem ha_38 (σ : mS) (τ : mT) : (mc_hp σ τ)[37]? = some (.inr (.inl (.boolean, 2, σ 38))) := rfl
theorem hs_38 {σ σ1 : mS} {τ : mT} {i : Nat} {v : Int32} (e : σ1 = u2 σ 38 i v) : (mc_hp σ τ).set 37 (.inr (.inl (.boolean, 2, upd (σ 38) i v))) = mc_hp σ1 τ := by subst e; rfl
theorem ha_39 (σ : mS) (τ : mT) : (mc_hp σ τ)[38]? = some (.inr (.inl (.int, 120, σ 39))) := rfl
theorem hs_39 {σ σ1 : mS} {τ : mT} {i : Nat} {v : Int32} (e : σ1 = u2 σ 39 i v) : (mc_hp σ τ).set 38 (.inr (.inl (.int, 120, upd (σ 39) i v))) = mc_hp σ1 τ := by subst e; rfl
theorem hc_39 {σ σ1 : mS} {τ : mT} {f : Nat → Int32} (e : σ1 = u1 σ 39 f) : (mc_hp σ τ).set 38 (.inr (.inl (.int, 120, f))) = mc_hp σ1 τ := by subst e; rfl
theorem ha_40 (σ : mS) (τ : mT) : (mc_hp σ τ)[39]? = some (.inr (.inl (.int, 4, σ 40))) := rfl
theorem hs_40 {σ σ1 : mS} {τ : mT} {i : Nat} {v : Int32} (e : σ1 = u2 σ 40 i v) : (mc_hp σ τ).set 39 (.inr (.inl (.int, 4, upd (σ 40) i v))) = mc_hp σ1 τ := by subst e; rfl
theorem hc_40 {σ σ1 : mS} {τ : mT} {f : Nat → Int32} (e : σ1 = u1 σ 40 f) : (mc_hp σ τ).set 39 (.inr (.inl (.int, 4, f))) = mc_hp σ1 τ := by subst e; rfl
theorem ha_41 (σ : mS) (τ : mT) : (mc_hp σ τ)[40]? = some (.inr (.inl (.int, 4, σ 41))) := rfl
theorem hs_41 {σ σ1 : mS} {τ : mT} {i : Nat} {v : Int32} (e : σ1 = u2 σ 41 i v) : (mc_hp σ τ).set 40 (.inr (.inl (.int, 4, upd (σ 41) i v))) = mc_hp σ1 τ := by subst e; rfl
theorem hc_41 {σ σ1 : mS} {τ : mT} {f : Nat → Int32} (e : σ1 = u1 σ 41 f) : (mc_hp σ τ).set 40 (.inr (.inl (.int, 4, f))) = mc_hp σ1 τ := by subst e; rfl
theorem ha_42 (σ : mS) (τ : mT) : (mc_hp σ τ)[41]? = some (.inr (.inl (.int, 16, σ 42))) := rfl
theorem hs_42 {σ σ1 : mS} {τ : mT} {i : Nat} {v : Int32} (e : σ1 = u2 σ 42 i v) : (mc_hp σ τ).set 41 (.inr (.inl (.int, 16, upd (σ 42) i v))) = mc_hp σ1 τ := by subst e; rfl
theorem hc_42 {σ σ1 : mS} {τ : mT} {f : Nat → Int32} (e : σ1 = u1 σ 42 f) : (mc_hp σ τ).set 41 (.inr (.inl (.int, 16, f))) = mc_hp σ1 τ := by subst e; rfl
theorem ha_43 (σ : mS) (τ : mT) : (mc_hp σ τ)[42]? = some (.inr (.inl (.int, 16, σ 43))) := rfl
theorem hs_43 {σ σ1 : mS} {τ : mT} {i : Nat} {v : Int32} (e : σ1 = u2 σ 43 i v) : (mc_hp σ τ).set 42 (.inr (.inl (.int, 16, upd (σ 43) i v))) = mc_hp σ1 τ := by subst e; rfl
theorem hc_43 {σ σ1 : mS} {τ : mT} {f : Nat → Int32} (e : σ1 = u1 σ 43 f) : (mc_hp σ τ).set 42 (.inr (.inl (.int, 16, f))) = mc_hp σ1 τ := by subst e; rfl
theorem ha_44 (σ : mS) (τ : mT) : (mc_hp σ τ)[43]? = some (.inr (.inl (.int, 16, σ 44))) := rfl
theorem hs_44 {σ σ1 : mS} {τ : mT} {i : Nat} {v : Int32} (e : σ1 = u2 σ 44 i v) : (mc_hp σ τ).set 43 (.inr (.inl (.int, 16, upd (σ 44) i v))) = mc_hp σ1 τ := by subst e; rfl
theorem hc_44 {σ σ1 : mS} {τ : mT} {f : Nat → Int32} (e : σ1 = u1 σ 44 f) : (mc_hp σ τ).set 43 (.inr (.inl (.int, 16, f))) = mc_hp σ1 τ := by subst e; rfl
theorem ha_45 (σ : mS) (τ : mT) : (mc_hp σ τ)[44]? = some (.inr (.inr (.inl (128, τ 45)))) := rfl
theorem hs_45 {σ : mS} {τ τ1 : mT} {i : Nat} {v : Int64} (e : τ1 = u2L τ 45 i v) : (mc_hp σ τ).set 44 (.inr (.inr (.inl (128, vp_updL (τ 45) i v)))) = mc_hp σ τ1 := by subst e; rfl
theorem ha_46 (σ : mS) (τ : mT) : (mc_hp σ τ)[45]? = some (.inr (.inr (.inl (8, τ 46)))) := rfl
theorem hs_46 {σ : mS} {τ τ1 : mT} {i : Nat} {v : Int64} (e : τ1 = u2L τ 46 i v) : (mc_hp σ τ).set 45 (.inr (.inr (.inl (8, vp_updL (τ 46) i v)))) = mc_hp σ τ1 := by subst e; rfl
theorem ha_47 (σ : mS) (τ : mT) : (mc_hp σ τ)[46]? = some (.inr (.inr (.inl (72, τ 47)))) := rfl
theorem hs_47 {σ : mS} {τ τ1 : mT} {i : Nat} {v : Int64} (e : τ1 = u2L τ 47 i v) : (mc_hp σ τ).set 46 (.inr (.inr (.inl (72, vp_updL (τ 47) i v)))) = mc_hp σ τ1 := by subst e; rfl
theorem ha_48 (σ : mS) (τ : mT) : (mc_hp σ τ)[47]? = some (.inr (.inl (.int, 21, σ 48))) := rfl
theorem hs_48 {σ σ1 : mS} {τ : mT} {i : Nat} {v : Int32} (e : σ1 = u2 σ 48 i v) : (mc_hp σ τ).set 47 (.inr (.inl (.int, 21, upd (σ 48) i v))) = mc_hp σ1 τ := by subst e; rfl
theorem hc_48 {σ σ1 : mS} {τ : mT} {f : Nat → Int32} (e : σ1 = u1 σ 48 f) : (mc_hp σ τ).set 47 (.inr (.inl (.int, 21, f))) = mc_hp σ1 τ := by subst e; rfl
/-! the rows of the grid -/
theorem gr_some {i : Int32} (hi : vp_in i 8) : (if i.toNatClampNeg < 8 then some (17 + i.toNatClampNeg) else none) = some (17 + i.toNatClampNeg) := if_pos (Nat.not_le.mp fun q => hi (Or.inr q))
theorem gr_at (σ : mS) (τ : mT) {x : Nat} (hx : x < 8) : (mc_hp σ τ)[16 + x]? = some (.inr (.inr (.inl (14, τ (17 + x))))) := by
  match x, hx with
  | 0, _ => rfl
  | 1, _ => rfl
  | 2, _ => rfl
  | 3, _ => rfl
  | 4, _ => rfl
  | 5, _ => rfl
  | 6, _ => rfl
  | 7, _ => rfl
  | x + 8, h => exact absurd h (by omega)
theorem gr_set {σ : mS} {τ τ1 : mT} {x j : Nat} {v : Int64} (hx : x < 8) (e : τ1 = u2L τ (17 + x) j v) : (mc_hp σ τ).set (16 + x) (.inr (.inr (.inl (14, vp_updL (τ (17 + x)) j v)))) = mc_hp σ τ1 := by
  subst e
  match x, hx with
  | 0, _ => rfl
  | 1, _ => rfl
  | 2, _ => rfl
  | 3, _ => rfl
  | 4, _ => rfl
  | 5, _ => rfl
  | 6, _ => rfl
  | 7, _ => rfl
  | x + 8, h => exact absurd h (by omega)
section MY
variable {Mt : mc_M} {d : Nat} {scr : Option (Nat × (Nat → Int32))} {pc : Nat} {loc stk : List Value} {r : Option Value} {h' : mc_H} {nc ns : Nat} {σ : mS} {τ τ1 : mT}
theorem mr_gld {i j : Int32} (hd : decode Mt.2.1 pc = .ok (.laload, 1)) (gi : vp_in i 8) (gj : vp_in j 14) (k : mc_V Mt d scr (pc + 1) loc (.long (τ (17 + i.toNatClampNeg) j.toNatClampNeg) :: stk) (mc_hp σ τ) r h' nc ns) : mc_V Mt d scr pc loc (.int j :: .ref (17 + i.toNatClampNeg) :: stk) (mc_hp σ τ) r h' nc ns := by
  have hx : i.toNatClampNeg < 8 := Nat.not_le.mp fun q => gi (Or.inr q)
  have e : 17 + i.toNatClampNeg = 16 + i.toNatClampNeg + 1 := by omega
  have k1 := mr_lald (a := 16 + i.toNatClampNeg) (i := j) hd (gr_at σ τ hx) gj k
  rw [e]
  exact k1
theorem mr_gst {i j : Int32} {v : Int64} (hd : decode Mt.2.1 pc = .ok (.lastore, 1)) (gi : vp_in i 8) (gj : vp_in j 14) (e1 : τ1 = u2L τ (17 + i.toNatClampNeg) j.toNatClampNeg v) (k : mc_V Mt d scr (pc + 1) loc stk (mc_hp σ τ1) r h' nc ns) : mc_V Mt d scr pc loc (.long v :: .int j :: .ref (17 + i.toNatClampNeg) :: stk) (mc_hp σ τ) r h' nc ns := by
  have hx : i.toNatClampNeg < 8 := Nat.not_le.mp fun q => gi (Or.inr q)
  have e : 17 + i.toNatClampNeg = 16 + i.toNatClampNeg + 1 := by omega
  have k1 := mr_last (a := 16 + i.toNatClampNeg) (i := j) (x := v) hd (gr_at σ τ hx) gj (mc_V.heap (gr_set hx e1) k)
  rw [e]
  exact k1
end MY

