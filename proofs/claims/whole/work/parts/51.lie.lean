/-! ===== WHERE THE BLOCKS LIE ===== -/
def ly_l (f : Nat → Nat) (b : Nat) : Nat := f (5 * b)
def ly_r (f : Nat → Nat) (b : Nat) : Nat := f (5 * b) + 2 * f (5 * b + 1)
def ly_ov (f : Nat → Nat) (a b : Nat) : Bool := decide (ly_l f a < ly_r f b) && decide (ly_l f b < ly_r f a)
def ly_m (f : Nat → Nat) (L : Nat → Nat) (b : Nat) : Nat → Nat
  | 0 => 0
  | k + 1 => if ly_ov f k b = true ∧ ly_m f L b k ≤ L k then L k + 1 else ly_m f L b k
def ly_T (f : Nat → Nat) : Nat → Nat → Nat
  | 0, _ => 0
  | k + 1, i => if i = k then ly_m f (ly_T f k) k k else ly_T f k i
/-- the level of a block -/
def lv (f : Nat → Nat) (b : Nat) : Nat := ly_T f (b + 1) b
theorem ly_T_lv (f : Nat → Nat) {i : Nat} : ∀ {k : Nat}, i < k → ly_T f k i = lv f i
  | 0, h => absurd h (by omega)
  | k + 1, h => by
    by_cases e : i = k
    · rw [e]; rfl
    · show (if i = k then _ else ly_T f k i) = _
      rw [if_neg e]
      exact ly_T_lv f (by omega)
theorem ly_m_congr {f : Nat → Nat} {L L' : Nat → Nat} (b : Nat) : ∀ {k : Nat}, (∀ a, a < k → L a = L' a) → ly_m f L b k = ly_m f L' b k
  | 0, _ => rfl
  | k + 1, h => by
    unfold ly_m
    rw [ly_m_congr b (k := k) (fun a ha => h a (by omega)), h k (by omega)]
theorem lv_eq (f : Nat → Nat) (b : Nat) : lv f b = ly_m f (lv f) b b := by
  show (if b = b then ly_m f (ly_T f b) b b else _) = _
  rw [if_pos rfl]
  exact ly_m_congr b (fun a ha => ly_T_lv f ha)
theorem ly_m_le {f L : Nat → Nat} {b : Nat} : ∀ {k : Nat}, (∀ a, a < k → L a ≤ a) → ly_m f L b k ≤ k
  | 0, _ => Nat.le_refl _
  | k + 1, h => by
    unfold ly_m
    have h1 := ly_m_le (f := f) (b := b) (k := k) (fun a ha => h a (by omega))
    have h2 := h k (by omega)
    split <;> omega
theorem lv_le (f : Nat → Nat) : ∀ b, lv f b ≤ b := by
  intro b
  induction b using Nat.strongRecOn with
  | _ b ih =>
    rw [lv_eq]
    exact ly_m_le ih
/-- a lies directly under b -/
def ly_U (f : Nat → Nat) (b a : Nat) : Bool := ly_ov f a b && decide (lv f a + 1 = lv f b)
def un (f : Nat → Nat) (b : Nat) : Nat := ct_m (ly_U f b) b
def ab (f : Nat → Nat) (n a : Nat) : Nat := ct_m (fun b => decide (a < b) && ly_U f b a) n
abbrev ctT : Type := Nat × Option Nat × Nat
def ct_in (f : Nat → Nat) (b : Nat) : Nat → List ctT
  | 0 => []
  | k + 1 => ct_in f b k ++ (if ly_U f b k then [(b, some k, max (ly_l f k) (ly_l f b)), (b, some k, min (ly_r f k) (ly_r f b))] else [])
def ct_bl (f : Nat → Nat) (b : Nat) : List ctT := if un f b = 0 then [(b, none, ly_l f b), (b, none, ly_r f b)] else ct_in f b b
def ct_al (f : Nat → Nat) : Nat → List ctT
  | 0 => []
  | n + 1 => ct_al f n ++ ct_bl f n
theorem ct_m_0 (P : Nat → Bool) : ∀ n, ct_m P n = 0 → ∀ x, x < n → P x = false
  | 0, _, x, h => absurd h (by omega)
  | n + 1, h, x, hx => by
    have h : ct_m P n + (if P n then 2 ^ n else 0) = 0 := h
    have h2 : (if P n then 2 ^ n else 0) = 0 := by omega
    by_cases e : x = n
    · rw [e]
      cases hp : P n
      · rfl
      · rw [hp] at h2
        have := Nat.two_pow_pos n
        simp at h2
    · exact ct_m_0 P n (by omega) x (by omega)
theorem ct_m_n0 (P : Nat → Bool) : ∀ n, (∀ x, x < n → P x = false) → ct_m P n = 0
  | 0, _ => rfl
  | n + 1, h => by
    show ct_m P n + (if P n then 2 ^ n else 0) = 0
    rw [ct_m_n0 P n (fun x hx => h x (by omega)), h n (by omega)]
    rfl
theorem ct_in_nil {f : Nat → Nat} {b : Nat} (h : un f b = 0) : ∀ {k : Nat}, k ≤ b → ct_in f b k = []
  | 0, _ => rfl
  | k + 1, hk => by
    unfold ct_in
    rw [ct_in_nil h (k := k) (by omega), ct_m_0 _ b h k (by omega)]
    rfl
theorem ct_in_len (f : Nat → Nat) (b : Nat) : ∀ k, (ct_in f b k).length = 2 * ct_c (ly_U f b) k
  | 0 => rfl
  | k + 1 => by
    unfold ct_in
    rw [List.length_append, ct_in_len f b k]
    show _ = 2 * (ct_c (ly_U f b) k + (if ly_U f b k then 1 else 0))
    cases ly_U f b k
    · simp
    · simp; omega
theorem ct_in_mono (f : Nat → Nat) (b : Nat) {k k' : Nat} (h : k ≤ k') : (ct_in f b k).length ≤ (ct_in f b k').length := by
  rw [ct_in_len, ct_in_len]
  have := ct_c_le' (ly_U f b) h
  omega
theorem ct_in_le (f : Nat → Nat) (b : Nat) : (ct_in f b b).length ≤ (ct_bl f b).length := by
  unfold ct_bl
  split
  · rename_i h; rw [ct_in_nil h (Nat.le_refl _)]; simp
  · exact Nat.le_refl _
theorem ct_al_mono (f : Nat → Nat) : ∀ {a b : Nat}, a ≤ b → (ct_al f a).length ≤ (ct_al f b).length := by
  intro a b h
  induction b with
  | zero => rw [show a = 0 by omega]; exact Nat.le_refl _
  | succ b ih =>
    by_cases e : a = b + 1
    · rw [e]; exact Nat.le_refl _
    · have := ih (by omega)
      show _ ≤ (ct_al f b ++ ct_bl f b).length
      rw [List.length_append]
      omega
theorem ly_U_lv {f : Nat → Nat} {b a : Nat} (h : ly_U f b a = true) : lv f a + 1 = lv f b := by
  unfold ly_U at h
  simp at h
  exact h.2
theorem ct_12 (f : Nat → Nat) : (ct_al f 4).length ≤ 12 := by
  have len : ∀ b, (ct_bl f b).length ≤ 2 ∨ (ct_bl f b).length = 2 * ct_c (ly_U f b) b := fun b => by
    unfold ct_bl
    split
    · left; simp
    · right; exact ct_in_len f b b
  have e : (ct_al f 4).length = (ct_bl f 0).length + (ct_bl f 1).length + (ct_bl f 2).length + (ct_bl f 3).length := by
    unfold ct_al ct_al ct_al ct_al ct_al
    simp only [List.length_append, List.length_nil]
    omega
  rw [e]
  have c0 : ct_c (ly_U f 0) 0 = 0 := rfl
  have c1 := ct_c_le (ly_U f 1) 1
  have c2 : ct_c (ly_U f 2) 2 = 0 + (if ly_U f 2 0 then 1 else 0) + (if ly_U f 2 1 then 1 else 0) := rfl
  have c3 : ct_c (ly_U f 3) 3 = 0 + (if ly_U f 3 0 then 1 else 0) + (if ly_U f 3 1 then 1 else 0) + (if ly_U f 3 2 then 1 else 0) := rfl
  have l0 := len 0
  have l1 := len 1
  have l2 := len 2
  have l3 := len 3
  rw [c0] at l0
  rw [c2] at l2
  rw [c3] at l3
  have le1 : ∀ x : Bool, (if x = true then 1 else 0 : Nat) ≤ 1 := by decide
  have q1 := le1 (ly_U f 2 0)
  have q2 := le1 (ly_U f 2 1)
  have q3 := le1 (ly_U f 3 0)
  have q4 := le1 (ly_U f 3 1)
  have q5 := le1 (ly_U f 3 2)
  by_cases a0 : ly_U f 3 0 = true
  · by_cases a1 : ly_U f 3 1 = true
    · by_cases a2 : ly_U f 3 2 = true
      · have b0 : ¬ ly_U f 2 0 = true := fun z => by have := ly_U_lv z; have := ly_U_lv a0; have := ly_U_lv a2; omega
        have b1 : ¬ ly_U f 2 1 = true := fun z => by have := ly_U_lv z; have := ly_U_lv a1; have := ly_U_lv a2; omega
        rw [if_neg b0, if_neg b1] at l2
        rw [if_pos a0, if_pos a1, if_pos a2] at l3
        omega
      · rw [if_neg a2] at l3
        omega
    · rw [if_neg a1] at l3
      omega
  · rw [if_neg a0] at l3
    omega
theorem ct_al12 (f : Nat → Nat) {n : Nat} (h : n ≤ 4) : (ct_al f n).length ≤ 12 := Nat.le_trans (ct_al_mono f h) (ct_12 f)
theorem ct_room {f : Nat → Nat} {b k : Nat} (hb : b < 4) (hk : k ≤ b) : (ct_al f b).length + (ct_in f b k).length ≤ 12 := by
  have h1 := ct_al12 f (n := b + 1) (by omega)
  have h2 : (ct_al f (b + 1)).length = (ct_al f b).length + (ct_bl f b).length := by show (ct_al f b ++ ct_bl f b).length = _; rw [List.length_append]
  have h3 := ct_in_le f b
  have h4 := ct_in_mono f b hk
  omega
/-! the contacts of a list in memory -/
def ct_M (l : List ctT) (F G H : Nat → Int32) : Prop := ∀ i c, l[i]? = some c → F i = nI c.1 ∧ G i = opt9 c.2.1 ∧ H i = nI c.2.2
theorem ct_M_snoc {l : List ctT} {F G H : Nat → Int32} (h : ct_M l F G H) (c : ctT) : ct_M (l ++ [c]) (upd F l.length (nI c.1)) (upd G l.length (opt9 c.2.1)) (upd H l.length (nI c.2.2)) := by
  intro i d hd
  by_cases e : i = l.length
  · subst e
    rw [List.getElem?_append_right (Nat.le_refl _)] at hd
    simp at hd
    subst hd
    exact ⟨pk_us, pk_us, pk_us⟩
  · have hlt : i < l.length := by
      have : i < (l ++ [c]).length := by
        rcases Nat.lt_or_ge i (l ++ [c]).length with z | z
        · exact z
        · rw [List.getElem?_eq_none z] at hd; cases hd
      rw [List.length_append] at this
      simp at this
      omega
    rw [List.getElem?_append_left hlt] at hd
    rw [pk_un e, pk_un e, pk_un e]
    exact h i d hd
