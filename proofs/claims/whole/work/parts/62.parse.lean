/-! ===== READING: AS A PLAIN FUNCTION ===== -/
def sk (L : Nat) (tx : Nat → Nat) : Nat → Nat → Nat
  | 0, p => p
  | k + 1, p => if p < L ∧ tx p = 32 then sk L tx k (p + 1) else p
def skp (L : Nat) (tx : Nat → Nat) (p : Nat) : Nat := sk L tx (L - p) p
theorem skp_eq (L : Nat) (tx : Nat → Nat) (p : Nat) : skp L tx p = if p < L ∧ tx p = 32 then skp L tx (p + 1) else p := by
  unfold skp
  by_cases h : p < L
  · obtain ⟨k, hk⟩ : ∃ k, L - p = k + 1 := ⟨L - p - 1, by omega⟩
    have hk2 : L - (p + 1) = k := by omega
    rw [hk, hk2]
    rfl
  · rw [show L - p = 0 by omega, if_neg (fun z => h z.1)]
    rfl
theorem skp_le (L : Nat) (tx : Nat → Nat) : ∀ (d p : Nat), p + d = L → p ≤ skp L tx p ∧ skp L tx p ≤ L ∧ (skp L tx p < L → tx (skp L tx p) ≠ 32)
  | 0, p, h => by
    rw [skp_eq, if_neg (fun z => by omega)]
    exact ⟨by omega, by omega, fun z => by omega⟩
  | d + 1, p, h => by
    have ih := skp_le L tx d (p + 1) (by omega)
    rw [skp_eq]
    by_cases z : p < L ∧ tx p = 32
    · rw [if_pos z]; exact ⟨by omega, ih.2⟩
    · rw [if_neg z]; exact ⟨by omega, by omega, fun q r => z ⟨q, r⟩⟩
theorem skp_self {L : Nat} {tx : Nat → Nat} {p : Nat} (h : p < L → tx p ≠ 32) : skp L tx p = p := by
  rw [skp_eq, if_neg (fun z => h z.1 z.2)]
abbrev isF (L : Nat) (tx : Nat → Nat) (p : Nat) : Prop := p < L ∧ 48 ≤ tx p ∧ tx p ≤ 57
def dgv (v c : Nat) : Nat := if 99 < v then 100 else 10 * v + (c - 48)
def dgs (L : Nat) (tx : Nat → Nat) : Nat → Nat → Nat → Nat × Nat
  | 0, p, v => (v, p)
  | k + 1, p, v => if isF L tx p then dgs L tx k (p + 1) (dgv v (tx p)) else (v, p)
def dgp (L : Nat) (tx : Nat → Nat) (p v : Nat) : Nat × Nat := dgs L tx (L - p) p v
theorem dgp_eq (L : Nat) (tx : Nat → Nat) (p v : Nat) : dgp L tx p v = if isF L tx p then dgp L tx (p + 1) (dgv v (tx p)) else (v, p) := by
  unfold dgp
  by_cases h : p < L
  · obtain ⟨k, hk⟩ : ∃ k, L - p = k + 1 := ⟨L - p - 1, by omega⟩
    have hk2 : L - (p + 1) = k := by omega
    rw [hk, hk2]
    rfl
  · rw [show L - p = 0 by omega, if_neg (fun z => h z.1)]
    rfl
theorem dgp_le (L : Nat) (tx : Nat → Nat) : ∀ (d p v : Nat), p + d = L → v ≤ 999 → p ≤ (dgp L tx p v).2 ∧ (dgp L tx p v).2 ≤ L ∧ (dgp L tx p v).1 ≤ 999
  | 0, p, v, h, hv => by
    rw [dgp_eq, if_neg (fun z => by have := z.1; omega)]
    exact ⟨Nat.le_refl _, by show p ≤ L; omega, hv⟩
  | d + 1, p, v, h, hv => by
    rw [dgp_eq]
    by_cases z : isF L tx p
    · rw [if_pos z]
      have ih := dgp_le L tx d (p + 1) (dgv v (tx p)) (by omega) (by
        have := z.2
        unfold dgv
        split <;> omega)
      exact ⟨by omega, ih.2⟩
    · rw [if_neg z]; exact ⟨Nat.le_refl _, by show p ≤ L; omega, hv⟩
/-- a number from lo on, below h: it and where it ends; or none, and where the token begins -/
def nuR (lo h s c v e : Nat) : Option Nat × Nat := if e ≠ s ∧ (e = s + 1 ∨ c ≠ 48) ∧ lo ≤ v ∧ v < h then (some v, e) else (none, s)
def nu (L : Nat) (tx : Nat → Nat) (lo h p : Nat) : Option Nat × Nat := nuR lo h (skp L tx p) (tx (skp L tx p)) (dgp L tx (skp L tx p) 0).1 (dgp L tx (skp L tx p) 0).2
theorem nu_le {L : Nat} {tx : Nat → Nat} {lo h p : Nat} (hp : p ≤ L) : p ≤ (nu L tx lo h p).2 ∧ (nu L tx lo h p).2 ≤ L ∧ ∀ v, (nu L tx lo h p).1 = some v → lo ≤ v ∧ v < h := by
  have h1 := skp_le L tx (L - p) p (by omega)
  have h2 := dgp_le L tx (L - skp L tx p) (skp L tx p) 0 (by omega) (by decide)
  unfold nu nuR
  split
  · rename_i z
    refine ⟨by show p ≤ (dgp _ _ _ _).2; omega, h2.2.1, fun v hv => ?_⟩
    have hv : (dgp L tx (skp L tx p) 0).1 = v := by injection hv
    rw [← hv]
    exact z.2.2
  · exact ⟨h1.1, h1.2.1, fun v hv => by cases hv⟩
/-! an item: whether it is one; where it ends, or the fault; the pile -/
abbrev itT : Type := Bool × Nat × Nat × (Nat → Nat)
def it_end (L : Nat) (tx : Nat → Nat) (q n : Nat) (f : Nat → Nat) (n' : Nat) (f' : Nat → Nat) : itT := if skp L tx q < L ∧ tx (skp L tx q) = 59 then (true, skp L tx q + 1, n', f') else (false, skp L tx q, n, f)
def it_b3 (L : Nat) (tx : Nat → Nat) (n : Nat) (f : Nat → Nat) (l h : Nat) (r : Option Nat × Nat) : itT := match r.1 with
  | none => (false, r.2, n, f)
  | some w => it_end L tx r.2 n f (n + 1) (pl_add n f l h w)
def it_b2 (L : Nat) (tx : Nat → Nat) (n : Nat) (f : Nat → Nat) (l : Nat) (r : Option Nat × Nat) : itT := match r.1 with
  | none => (false, r.2, n, f)
  | some h => it_b3 L tx n f l h (nu L tx 1 10 r.2)
def it_b1 (L : Nat) (tx : Nat → Nat) (n : Nat) (f : Nat → Nat) (r : Option Nat × Nat) : itT := match r.1 with
  | none => (false, r.2, n, f)
  | some l => it_b2 L tx n f l (nu L tx 1 4 r.2)
def it_b (L : Nat) (tx : Nat → Nat) (n : Nat) (f : Nat → Nat) (s : Nat) : itT := if n = 4 then (false, s, n, f) else it_b1 L tx n f (nu L tx 0 10 (s + 1))
def it_l3 (L : Nat) (tx : Nat → Nat) (n : Nat) (f : Nat → Nat) (b sp : Nat) (r : Option Nat × Nat) : itT := match r.1 with
  | none => (false, r.2, n, f)
  | some l => it_end L tx r.2 n f n (pl_set (pl_set f (5 * b + 3) l) (5 * b + 4) sp)
def it_l2 (L : Nat) (tx : Nat → Nat) (n : Nat) (f : Nat → Nat) (b : Nat) (r : Option Nat × Nat) : itT := match r.1 with
  | none => (false, r.2, n, f)
  | some sp => it_l3 L tx n f b sp (nu L tx 0 21 r.2)
def it_l1 (L : Nat) (tx : Nat → Nat) (n : Nat) (f : Nat → Nat) (r : Option Nat × Nat) : itT := match r.1 with
  | none => (false, r.2, n, f)
  | some b => it_l2 L tx n f b (nu L tx 0 (2 * f (5 * b + 1) + 1) r.2)
def it_l (L : Nat) (tx : Nat → Nat) (n : Nat) (f : Nat → Nat) (s : Nat) : itT := it_l1 L tx n f (nu L tx 0 n (s + 1))
def it_x (L : Nat) (tx : Nat → Nat) (n : Nat) (f : Nat → Nat) (s : Nat) : itT := if tx s = 98 then it_b L tx n f s else if tx s = 108 then it_l L tx n f s else (false, s, n, f)
/-- what holds behind an item -/
def it_G (L s : Nat) (r : itT) : Prop := s ≤ r.2.1 ∧ r.2.1 ≤ L ∧ (r.1 = true → s < r.2.1 ∧ pl_V r.2.2.1 r.2.2.2)
theorem it_end_G {L : Nat} {tx : Nat → Nat} {s q n n' : Nat} {f f' : Nat → Nat} (h1 : s ≤ q) (h2 : q ≤ L) (V : pl_V n' f') : it_G L s (it_end L tx q n f n' f') := by
  have h3 := skp_le L tx (L - q) q (by omega)
  unfold it_end
  split
  · rename_i z; exact ⟨by show s ≤ _ + 1; omega, by show _ + 1 ≤ L; omega, fun _ => ⟨by show s < _ + 1; omega, V⟩⟩
  · exact ⟨by show s ≤ skp L tx q; omega, h3.2.1, fun z => by cases z⟩
theorem it_b_G {L : Nat} {tx : Nat → Nat} {n : Nat} {f : Nat → Nat} (V : pl_V n f) {s : Nat} (hs : s < L) : it_G L s (it_b L tx n f s) := by
  unfold it_b
  split
  · exact ⟨Nat.le_refl _, by show s ≤ L; omega, fun z => by cases z⟩
  · rename_i hn4
    have hn := V.1
    obtain ⟨a1, a2, a3⟩ := nu_le (L := L) (tx := tx) (lo := 0) (h := 10) (p := s + 1) (by omega)
    unfold it_b1
    cases e1 : (nu L tx 0 10 (s + 1)).1 with
    | none => exact ⟨by show s ≤ (nu _ _ _ _ _).2; omega, a2, fun z => by cases z⟩
    | some l =>
      have a4 := a3 l e1
      generalize (nu L tx 0 10 (s + 1)).2 = q1 at a1 a2
      obtain ⟨b1, b2, b3⟩ := nu_le (L := L) (tx := tx) (lo := 1) (h := 4) (p := q1) a2
      show it_G L s (it_b2 L tx n f l (nu L tx 1 4 q1))
      unfold it_b2
      cases e2 : (nu L tx 1 4 q1).1 with
      | none => exact ⟨by show s ≤ (nu _ _ _ _ _).2; omega, b2, fun z => by cases z⟩
      | some h =>
        have b4 := b3 h e2
        generalize (nu L tx 1 4 q1).2 = q2 at b1 b2
        obtain ⟨c1, c2, c3⟩ := nu_le (L := L) (tx := tx) (lo := 1) (h := 10) (p := q2) b2
        show it_G L s (it_b3 L tx n f l h (nu L tx 1 10 q2))
        unfold it_b3
        cases e3 : (nu L tx 1 10 q2).1 with
        | none => exact ⟨by show s ≤ (nu _ _ _ _ _).2; omega, c2, fun z => by cases z⟩
        | some w =>
          have c4 := c3 w e3
          exact it_end_G (by omega) c2 (pl_add_V V (by omega) (by omega) (by omega) (by omega) (by omega) (by omega))
theorem it_l_G {L : Nat} {tx : Nat → Nat} {n : Nat} {f : Nat → Nat} (V : pl_V n f) {s : Nat} (hs : s < L) : it_G L s (it_l L tx n f s) := by
  unfold it_l
  obtain ⟨a1, a2, a3⟩ := nu_le (L := L) (tx := tx) (lo := 0) (h := n) (p := s + 1) (by omega)
  unfold it_l1
  cases e1 : (nu L tx 0 n (s + 1)).1 with
  | none => exact ⟨by show s ≤ (nu _ _ _ _ _).2; omega, a2, fun z => by cases z⟩
  | some b =>
    have a4 := a3 b e1
    generalize (nu L tx 0 n (s + 1)).2 = q1 at a1 a2
    obtain ⟨b1, b2, b3⟩ := nu_le (L := L) (tx := tx) (lo := 0) (h := 2 * f (5 * b + 1) + 1) (p := q1) a2
    show it_G L s (it_l2 L tx n f b (nu L tx 0 (2 * f (5 * b + 1) + 1) q1))
    unfold it_l2
    cases e2 : (nu L tx 0 (2 * f (5 * b + 1) + 1) q1).1 with
    | none => exact ⟨by show s ≤ (nu _ _ _ _ _).2; omega, b2, fun z => by cases z⟩
    | some sp =>
      have b4 := b3 sp e2
      generalize (nu L tx 0 (2 * f (5 * b + 1) + 1) q1).2 = q2 at b1 b2
      obtain ⟨c1, c2, c3⟩ := nu_le (L := L) (tx := tx) (lo := 0) (h := 21) (p := q2) b2
      show it_G L s (it_l3 L tx n f b sp (nu L tx 0 21 q2))
      unfold it_l3
      cases e3 : (nu L tx 0 21 q2).1 with
      | none => exact ⟨by show s ≤ (nu _ _ _ _ _).2; omega, c2, fun z => by cases z⟩
      | some l =>
        have c4 := c3 l e3
        exact it_end_G (by omega) c2 (pl_l_V V (by omega) (by omega) (by omega))
theorem it_x_G {L : Nat} {tx : Nat → Nat} {n : Nat} {f : Nat → Nat} (V : pl_V n f) {s : Nat} (hs : s < L) : it_G L s (it_x L tx n f s) := by
  unfold it_x
  split
  · exact it_b_G V hs
  · split
    · exact it_l_G V hs
    · exact ⟨Nat.le_refl _, by show s ≤ L; omega, fun z => by cases z⟩
/-- the whole text: its items and the pile; or the fault -/
def rd (L : Nat) (tx : Nat → Nat) : Nat → Nat → Nat → (Nat → Nat) → Nat → Option (Nat × Nat × (Nat → Nat)) × Nat
  | 0, items, n, f, p => (some (items, n, f), p)
  | k + 1, items, n, f, p => if skp L tx p < L then (match it_x L tx n f (skp L tx p) with
    | (true, q, n', f') => rd L tx k (items + 1) n' f' q
    | (false, q, _, _) => (none, q)) else (some (items, n, f), p)
