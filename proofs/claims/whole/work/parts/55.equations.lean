/-! ===== THE EQUATIONS OF BALANCE ===== -/
theorem dn_S_sm (w v : Nat → Int) : ∀ n, dn_S w v (List.range n) = sm n (fun q => w q * ((v q).natAbs : Int))
  | 0 => rfl
  | n + 1 => by
    have app : ∀ (l : List Nat) (x : Nat), dn_S w v (l ++ [x]) = dn_S w v l + w x * ((v x).natAbs : Int) := by
      intro l x
      induction l with
      | nil => simp [dn_S]
      | cons r l ih2 => show _ + dn_S _ _ (l ++ [x]) = _ + dn_S _ _ l + _; rw [ih2]; omega
    rw [List.range_succ, app, dn_S_sm w v n]
    rfl
theorem sm_two (F : Nat → Int) : ∀ k, sm (2 * k) F = sm k (fun j => F (2 * j) + F (2 * j + 1))
  | 0 => rfl
  | k + 1 => by
    rw [show 2 * (k + 1) = 2 * k + 1 + 1 by omega]
    show sm (2 * k) F + F (2 * k) + F (2 * k + 1) = sm k (fun j => F (2 * j) + F (2 * j + 1)) + (F (2 * k) + F (2 * k + 1))
    rw [sm_two F k]
    omega
theorem sm_le : ∀ {n : Nat} {f g : Nat → Int}, (∀ k, k < n → f k ≤ g k) → sm n f ≤ sm n g
  | 0, _, _, _ => Int.le_refl _
  | n + 1, f, g, h => by
    have h1 := sm_le (n := n) (fun k hk => h k (by omega))
    have h2 := h n (by omega)
    show sm n f + f n ≤ sm n g + g n
    omega
theorem sm_each : ∀ {n : Nat} {f : Nat → Int}, (∀ k, k < n → 0 ≤ f k) → sm n f = 0 → ∀ k, k < n → f k = 0
  | 0, _, _, _, k, hk => absurd hk (by omega)
  | n + 1, f, h, h0, k, hk => by
    have h1 := sm_nonneg (n := n) (fun k hk => h k (by omega))
    have h2 := h n (by omega)
    have h0 : sm n f + f n = 0 := h0
    by_cases e : k = n
    · rw [e]; omega
    · exact sm_each (n := n) (fun k hk => h k (by omega)) (by omega) k (by omega)
theorem sm_pick (u : Nat) (a : Int) (ha : 0 ≤ a) : ∀ n, sm n (fun b => if b = u then a else 0) ≤ a
  | 0 => ha
  | n + 1 => by
    show sm n (fun b => if b = u then a else 0) + (if n = u then a else 0) ≤ a
    by_cases e : n = u
    · rw [if_pos e, sm_congr (g := fun _ => 0) (fun k hk => if_neg (by omega)), sm_zero]; omega
    · rw [if_neg e]; have := sm_pick u a ha n; omega
/-- rows of blocks of a set: two a block -/
def rowv (H : Nat → Bool) (n : Nat) (G : Nat → Nat → Int) : Nat → Int := fun q => if q < 2 * ct_c H n then G (sl H n (q / 2)) (q % 2) else 0
section RV
variable {H : Nat → Bool} {n : Nat}
theorem rowv_out (G : Nat → Nat → Int) {q : Nat} (h : 2 * ct_c H n ≤ q) : rowv H n G q = 0 := if_neg (by omega)
theorem rowv_at (G : Nat → Nat → Int) {b : Nat} (hb : b < n) (hH : H b = true) {p : Nat} (hp : p < 2) : rowv H n G (2 * ct_c H b + p) = G b p := by
  obtain ⟨h1, h2⟩ := sl_ct (P := H) hb hH
  unfold rowv
  rw [if_pos (by omega), show (2 * ct_c H b + p) / 2 = ct_c H b by omega, show (2 * ct_c H b + p) % 2 = p by omega, h2]
theorem rowv_row (G : Nat → Nat → Int) {j p : Nat} (hj : j < ct_c H n) (hp : p < 2) : rowv H n G (2 * j + p) = G (sl H n j) p := by
  unfold rowv
  rw [if_pos (by omega), show (2 * j + p) / 2 = j by omega, show (2 * j + p) % 2 = p by omega]
theorem rowv_nm (G : Nat → Nat → Int) (g : Nat → Int) (h0 : ∀ b, b < n → 0 ≤ g b) (h : ∀ b, b < n → 6 * ((G b 0).natAbs : Int) + ((G b 1).natAbs : Int) ≤ g b) : lp_nm (2 * ct_c H n) (rowv H n G) (sm n g) := by
  unfold lp_nm
  rw [dn_S_sm, sm_two]
  have e1 : sm (ct_c H n) (fun j => lp_wt (2 * j) * ((rowv H n G (2 * j)).natAbs : Int) + lp_wt (2 * j + 1) * ((rowv H n G (2 * j + 1)).natAbs : Int)) ≤ sm (ct_c H n) (fun j => g (sl H n j)) := sm_le fun j hj => by
    have r0 : rowv H n G (2 * j) = G (sl H n j) 0 := rowv_row G (p := 0) hj (by decide)
    have r1 : rowv H n G (2 * j + 1) = G (sl H n j) 1 := rowv_row G (p := 1) hj (by decide)
    have w0 : lp_wt (2 * j) = 6 := if_pos (by omega)
    have w1 : lp_wt (2 * j + 1) = 1 := if_neg (by omega)
    rw [r0, r1, w0, w1]
    have := h _ (sl_ok hj).1
    omega
  have e2 : sm (ct_c H n) (fun j => g (sl H n j)) ≤ sm n g := by
    rw [sm_sel]
    refine sm_le fun b hb => ?_
    have := h0 b hb
    cases hH : H b
    · exact this
    · simp only [if_true]; rw [(sl_ct hb hH).2]; exact Int.le_refl _
  omega
theorem rowv_dot (G : Nat → Nat → Int) (u : Nat → Int) : sm (2 * ct_c H n) (fun q => u q * rowv H n G q) = sm n (fun b => if H b then u (2 * ct_c H b) * G b 0 + u (2 * ct_c H b + 1) * G b 1 else 0) := by
  rw [sm_two, sm_congr (g := fun j => u (2 * j) * G (sl H n j) 0 + u (2 * j + 1) * G (sl H n j) 1) (fun j hj => by
    have r0 : rowv H n G (2 * j) = G (sl H n j) 0 := rowv_row G (p := 0) hj (by decide)
    have r1 : rowv H n G (2 * j + 1) = G (sl H n j) 1 := rowv_row G (p := 1) hj (by decide)
    rw [r0, r1]), sm_sel]
  refine sm_congr fun b hb => ?_
  cases hH : H b
  · rfl
  · simp only [if_true]; rw [(sl_ct hb hH).2]
end RV
/-! contacts -/
def ctc (l : List ctT) (x : Nat) : ctT := l.getD x (0, none, 0)
theorem ctc_at {l : List ctT} {x : Nat} {c : ctT} (h : l[x]? = some c) : ctc l x = c ∧ x < l.length := by
  refine ⟨by unfold ctc; rw [List.getD_eq_getElem?_getD, h]; rfl, ?_⟩
  rcases Nat.lt_or_ge x l.length with z | z
  · exact z
  · rw [List.getElem?_eq_none z] at h; cases h
theorem ctc_mem {l : List ctT} {x : Nat} (h : x < l.length) : l[x]? = some (ctc l x) := by
  unfold ctc
  rw [List.getD_eq_getElem?_getD, List.getElem?_eq_getElem h]
  rfl
def ct_ok (f : Nat → Nat) (n : Nat) (c : ctT) : Prop := c.1 < n ∧ (ly_l f c.1 ≤ c.2.2 ∧ c.2.2 ≤ ly_r f c.1) ∧ ∀ a, c.2.1 = some a → a < c.1 ∧ ly_l f a ≤ c.2.2 ∧ c.2.2 ≤ ly_r f a
theorem ct_in_ok {f : Nat → Nat} {n b : Nat} (V : pl_V n f) (hb : b < n) : ∀ k, k ≤ b → ∀ c ∈ ct_in f b k, ct_ok f (b + 1) c
  | 0, _, c, hc => absurd hc (by simp [ct_in])
  | k + 1, hk, c, hc => by
    unfold ct_in at hc
    rw [List.mem_append] at hc
    rcases hc with hc | hc
    · exact ct_in_ok V hb k (by omega) c hc
    · cases hu : ly_U f b k with
      | false => rw [hu] at hc; simp at hc
      | true =>
        have ho : ly_ov f k b = true := by unfold ly_U at hu; simp at hu; exact hu.1
        unfold ly_ov at ho
        simp at ho
        obtain ⟨p1, p2, p3⟩ := ly_bd V (show k < n by omega)
        obtain ⟨q1, q2, q3⟩ := ly_bd V hb
        rw [hu, if_pos rfl] at hc
        simp at hc
        rcases hc with hc | hc
        · subst hc
          refine ⟨by show b < b + 1; omega, ⟨by show ly_l f b ≤ max _ _; omega, by show max _ _ ≤ ly_r f b; omega⟩, fun a ha => ?_⟩
          have : k = a := by injection ha
          subst this
          exact ⟨by show k < b; omega, by show ly_l f k ≤ max _ _; omega, by show max _ _ ≤ ly_r f k; omega⟩
        · subst hc
          refine ⟨by show b < b + 1; omega, ⟨by show ly_l f b ≤ min _ _; omega, by show min _ _ ≤ ly_r f b; omega⟩, fun a ha => ?_⟩
          have : k = a := by injection ha
          subst this
          exact ⟨by show k < b; omega, by show ly_l f k ≤ min _ _; omega, by show min _ _ ≤ ly_r f k; omega⟩
theorem ct_al_ok {f : Nat → Nat} {n : Nat} (V : pl_V n f) : ∀ k, k ≤ n → ∀ c ∈ ct_al f k, ct_ok f k c
  | 0, _, c, hc => absurd hc (by simp [ct_al])
  | k + 1, hk, c, hc => by
    unfold ct_al at hc
    rw [List.mem_append] at hc
    rcases hc with hc | hc
    · obtain ⟨h1, h2⟩ := ct_al_ok V k (by omega) c hc
      exact ⟨by omega, h2⟩
    · unfold ct_bl at hc
      split at hc
      · obtain ⟨q1, q2, q3⟩ := ly_bd V (show k < n by omega)
        simp at hc
        rcases hc with hc | hc
        · subst hc
          exact ⟨by show k < k + 1; omega, ⟨by show ly_l f k ≤ ly_l f k; omega, by show ly_l f k ≤ ly_r f k; omega⟩, fun a ha => by cases ha⟩
        · subst hc
          exact ⟨by show k < k + 1; omega, ⟨by show ly_l f k ≤ ly_r f k; omega, by show ly_r f k ≤ ly_r f k; omega⟩, fun a ha => by cases ha⟩
      · exact ct_in_ok V (show k < n by omega) k (Nat.le_refl _) c hc
theorem ct_in_two {f : Nat → Nat} {n b : Nat} (V : pl_V n f) (hb : b < n) : ∀ k, k ≤ b → (∃ a, a < k ∧ ly_U f b a = true) → ∃ lo p p', p < p' ∧ (b, lo, p) ∈ ct_in f b k ∧ (b, lo, p') ∈ ct_in f b k
  | 0, _, ⟨a, ha, _⟩ => absurd ha (by omega)
  | k + 1, hk, ⟨a, ha, hu⟩ => by
    unfold ct_in
    by_cases e : a = k
    · subst e
      have ho : ly_ov f a b = true := by unfold ly_U at hu; simp at hu; exact hu.1
      unfold ly_ov at ho
      simp at ho
      obtain ⟨p1, p2, p3⟩ := ly_bd V (show a < n by omega)
      obtain ⟨q1, q2, q3⟩ := ly_bd V hb
      rw [hu, if_pos rfl]
      exact ⟨some a, max (ly_l f a) (ly_l f b), min (ly_r f a) (ly_r f b), by omega, by simp, by simp⟩
    · obtain ⟨lo, p, p', h1, h2, h3⟩ := ct_in_two V hb k (by omega) ⟨a, by omega, hu⟩
      exact ⟨lo, p, p', h1, List.mem_append_left _ h2, List.mem_append_left _ h3⟩
theorem ct_two {f : Nat → Nat} {n : Nat} (V : pl_V n f) : ∀ k, k ≤ n → ∀ b, b < k → ∃ lo p p', p < p' ∧ (b, lo, p) ∈ ct_al f k ∧ (b, lo, p') ∈ ct_al f k
  | 0, _, b, hb => absurd hb (by omega)
  | k + 1, hk, b, hb => by
    unfold ct_al
    by_cases e : b = k
    · subst e
      by_cases h0 : un f b = 0
      · obtain ⟨q1, q2, q3⟩ := ly_bd V (show b < n by omega)
        rw [show ct_bl f b = [(b, none, ly_l f b), (b, none, ly_r f b)] from if_pos h0]
        exact ⟨none, ly_l f b, ly_r f b, q2, by simp, by simp⟩
      · rw [show ct_bl f b = ct_in f b b from if_neg h0]
        have hex : ∃ a, a < b ∧ ly_U f b a = true := by
          apply Classical.byContradiction
          intro hno
          exact h0 (ct_m_n0 _ _ fun x hx => by
            cases hu : ly_U f b x
            · rfl
            · exact absurd ⟨x, hx, hu⟩ hno)
        obtain ⟨lo, p, p', h1, h2, h3⟩ := ct_in_two V (show b < n by omega) b (Nat.le_refl _) hex
        exact ⟨lo, p, p', h1, List.mem_append_right _ h2, List.mem_append_right _ h3⟩
    · obtain ⟨lo, p, p', h1, h2, h3⟩ := ct_two V k (by omega) b (by omega)
      exact ⟨lo, p, p', h1, List.mem_append_left _ h2, List.mem_append_left _ h3⟩
def ct_sg (c : ctT) (b : Nat) : Int := if c.1 = b then 1 else if c.2.1 = some b then -1 else 0
def ct_ev (f : Nat → Nat) (c : ctT) (b p : Nat) : Int := if p = 0 then ct_sg c b else ct_sg c b * ((c.2.2 : Int) - (ly_l f b : Int))
theorem ct_ev_0 (f : Nat → Nat) (c : ctT) (b : Nat) : ct_ev f c b 0 = ct_sg c b := rfl
theorem ct_ev_1 (f : Nat → Nat) (c : ctT) (b : Nat) : ct_ev f c b 1 = ct_sg c b * ((c.2.2 : Int) - (ly_l f b : Int)) := rfl
/-- the pushes' columns; what they must come to -/
def eqA (f : Nat → Nat) (n : Nat) (H : Nat → Bool) (x : Nat) : Nat → Int := rowv H n (ct_ev f (ctc (ct_al f n) x))
def eq_w (f : Nat → Nat) (b p : Nat) : Int := if p = 0 then ((f (5 * b + 2) + f (5 * b + 3) : Nat) : Int) else ((f (5 * b + 2) * f (5 * b + 1) + f (5 * b + 3) * f (5 * b + 4) : Nat) : Int)
def eq_d (e spot : Nat) (b p : Nat) : Int := if b = e then (if p = 0 then 1 else (spot : Int)) else 0
theorem eq_d_0 (e spot b : Nat) : eq_d e spot b 0 = if b = e then 1 else 0 := rfl
theorem eq_d_1 (e spot b : Nat) : eq_d e spot b 1 = if b = e then (spot : Int) else 0 := rfl
/-- with one load more -/
def eqL (f : Nat → Nat) (n : Nat) (H : Nat → Bool) (e spot : Nat) (x : Nat) : Nat → Int := if x < (ct_al f n).length then eqA f n H x else rowv H n (fun b p => - eq_d e spot b p)
section EQ
variable {f : Nat → Nat} {n : Nat} {H : Nat → Bool}
theorem ct_x_ok (V : pl_V n f) {x : Nat} (hx : x < (ct_al f n).length) : ct_ok f n (ctc (ct_al f n) x) := ct_al_ok V n (Nat.le_refl _) _ (List.mem_of_getElem? (ctc_mem hx))
theorem eqA_nm (V : pl_V n f) {x : Nat} (hx : x < (ct_al f n).length) : lp_nm (2 * ct_c H n) (eqA f n H x) 24 := by
  obtain ⟨h1, h2, h3⟩ := ct_x_ok V hx
  generalize hc : ctc (ct_al f n) x = c at h1 h2 h3
  have key := rowv_nm (H := H) (n := n) (ct_ev f c) (fun b => (if b = c.1 then 12 else 0) + (if b = c.2.1.getD n then 12 else 0)) (fun b _ => by (try dsimp only); split <;> split <;> omega) (fun b hb => by
    try dsimp only
    obtain ⟨q1, q2, q3⟩ := ly_bd V hb
    have qh := (V.2 b hb).2.2.1
    have qr : ly_r f b ≤ ly_l f b + 6 := by unfold ly_r ly_l; omega
    rw [ct_ev_0, ct_ev_1]
    unfold ct_sg
    by_cases e1 : c.1 = b
    · rw [if_pos e1, if_pos (show b = c.1 from e1.symm)]
      rw [e1] at h2
      have : ((1 : Int) * ((c.2.2 : Int) - (ly_l f b : Int))).natAbs ≤ 6 := by omega
      have e : ((1 : Int).natAbs : Int) = 1 := rfl
      split <;> omega
    · rw [if_neg e1, if_neg (show ¬ b = c.1 from fun z => e1 z.symm)]
      by_cases e2 : c.2.1 = some b
      · rw [if_pos e2, e2]
        have h3 := h3 b e2
        have : ((-1 : Int) * ((c.2.2 : Int) - (ly_l f b : Int))).natAbs ≤ 6 := by omega
        have e : ((-1 : Int).natAbs : Int) = 1 := rfl
        show _ ≤ (0 : Int) + (if b = b then 12 else 0)
        rw [if_pos rfl]
        omega
      · rw [if_neg e2]
        have e : ((0 : Int) * ((c.2.2 : Int) - (ly_l f b : Int))) = 0 := by omega
        rw [e]
        show (6 : Int) * 0 + 0 ≤ _
        split <;> omega)
  have b1 := sm_pick c.1 12 (by decide) n
  have b2 := sm_pick (c.2.1.getD n) 12 (by decide) n
  rw [sm_add] at key
  unfold eqA lp_nm at *
  rw [hc]
  omega
theorem rowv_nmB {B : Nat → Nat → Int} (hn : n ≤ 4) (hB : ∀ b, b < n → 0 ≤ B b 0 ∧ 0 ≤ B b 1 ∧ 6 * B b 0 + B b 1 ≤ 321) : lp_nm (2 * ct_c H n) (rowv H n B) 1284 := by
  have key := rowv_nm (H := H) (n := n) B (fun _ => 321) (fun _ _ => by decide) (fun b hb => by have := hB b hb; omega)
  have e : sm n (fun _ => (321 : Int)) = 321 * (n : Int) := by
    rw [← sm_ones n, ← sm_mul]
    exact sm_congr fun _ _ => rfl
  unfold lp_nm at *
  rw [e] at key
  omega
theorem eqA_fr (V : pl_V n f) : lp_fr (2 * ct_c H n) (ct_al f n).length (eqA f n H) := by
  intro u hu
  have blk : ∀ b, b < n → H b = true → u (2 * ct_c H b) = 0 ∧ u (2 * ct_c H b + 1) = 0 := by
    intro b
    induction b using Nat.strongRecOn with
    | _ b ih =>
      intro hb hH
      have one : ∀ c, c ∈ ct_al f n → c.1 = b → u (2 * ct_c H b) + u (2 * ct_c H b + 1) * ((c.2.2 : Int) - (ly_l f b : Int)) = 0 := fun c hc e => by
        obtain ⟨x, hx⟩ := List.mem_iff_getElem?.mp hc
        obtain ⟨x1, x2⟩ := ctc_at hx
        have h := hu x x2
        unfold eqA at h
        rw [x1, rowv_dot, sm_one (i := b) hb (fun k hk hn => by
          try dsimp only
          cases hHk : H k
          · rfl
          · simp only [if_true]
            rw [ct_ev_0, ct_ev_1]
            unfold ct_sg
            rw [if_neg (fun z => hn (by omega))]
            by_cases e2 : c.2.1 = some k
            · have hlt := ((ct_al_ok V n (Nat.le_refl _) c hc).2.2 k e2).1
              obtain ⟨z1, z2⟩ := ih k (by omega) hk hHk
              rw [z1, z2]; simp
            · rw [if_neg e2]; simp), if_pos hH] at h
        rw [ct_ev_0, ct_ev_1] at h
        unfold ct_sg at h
        rw [if_pos e, Int.mul_one, Int.one_mul] at h
        exact h
      obtain ⟨lo, p, p', h1, h2, h3⟩ := ct_two V n (Nat.le_refl _) b hb
      have a1 := one _ h2 rfl
      have a2 := one _ h3 rfl
      have a1 : u (2 * ct_c H b) + u (2 * ct_c H b + 1) * ((p : Int) - (ly_l f b : Int)) = 0 := a1
      have a2 : u (2 * ct_c H b) + u (2 * ct_c H b + 1) * ((p' : Int) - (ly_l f b : Int)) = 0 := a2
      have a3 : u (2 * ct_c H b + 1) * ((p' : Int) - (p : Int)) = 0 := by grind
      have a4 : u (2 * ct_c H b + 1) = 0 := by
        rcases Int.mul_eq_zero.mp a3 with z | z
        · exact z
        · omega
      rw [a4] at a1
      exact ⟨by omega, a4⟩
  intro q hq
  have hj : q / 2 < ct_c H n := by omega
  obtain ⟨s1, s2, s3⟩ := sl_ok hj
  obtain ⟨z1, z2⟩ := blk _ s1 s2
  rw [s3] at z1 z2
  have : q = 2 * (q / 2) ∨ q = 2 * (q / 2) + 1 := by omega
  rcases this with e | e
  · rw [e]; exact z1
  · rw [e]; exact z2
theorem eqA_ok (V : pl_V n f) {B : Nat → Nat → Int} (hB : ∀ b, b < n → 0 ≤ B b 0 ∧ 0 ≤ B b 1 ∧ 6 * B b 0 + B b 1 ≤ 321) : lp_ok (2 * ct_c H n) (ct_al f n).length (eqA f n H) (rowv H n B) := by
  have h12 := ct_al12 f V.1
  have hc := ct_c_le H n
  have hn := V.1
  refine ⟨by omega, by omega, ?_, ⟨fun x hx => eqA_nm V hx, rowv_nmB hn hB⟩, fun x q _ hq => rowv_out _ hq, fun q hq => rowv_out _ hq, fun q hq => ?_, eqA_fr V⟩
  · unfold lp_ev; omega
  · have hj : q / 2 < ct_c H n := by omega
    obtain ⟨s1, s2, s3⟩ := sl_ok hj
    obtain ⟨b1, b2, _⟩ := hB _ s1
    unfold rowv
    rw [if_pos hq]
    have : q % 2 = 0 ∨ q % 2 = 1 := by omega
    rcases this with e | e
    · rw [e]; exact b1
    · rw [e]; exact b2
theorem eqL_lo {e spot x : Nat} (hx : x < (ct_al f n).length) : eqL f n H e spot x = eqA f n H x := if_pos hx
theorem eqL_hi (e spot : Nat) : eqL f n H e spot (ct_al f n).length = rowv H n (fun b p => - eq_d e spot b p) := if_neg (by omega)
theorem eqL_ok (V : pl_V n f) {e spot : Nat} (hs : spot ≤ 6) {B : Nat → Nat → Int} (hB : ∀ b, b < n → 0 ≤ B b 0 ∧ 0 ≤ B b 1 ∧ 6 * B b 0 + B b 1 ≤ 321) : lp_ok (2 * ct_c H n) ((ct_al f n).length + 1) (eqL f n H e spot) (rowv H n B) := by
  obtain ⟨k1, k2, k3, k4, k5, k6, k7, k8⟩ := eqA_ok (H := H) V hB
  have h12 := ct_al12 f V.1
  have cs : ∀ x, x < (ct_al f n).length + 1 → x < (ct_al f n).length ∨ x = (ct_al f n).length := fun x h => by omega
  refine ⟨by omega, k2, k3, ⟨fun x hx => ?_, k4.2⟩, fun x q hx hq => ?_, k6, k7, fun u hu => k8 u fun x hx => ?_⟩
  · rcases cs x hx with z | z
    · rw [eqL_lo z]; exact k4.1 x z
    · rw [z, eqL_hi]
      have key := rowv_nm (H := H) (n := n) (fun b p => - eq_d e spot b p) (fun b => if b = e then 12 else 0) (fun b _ => by (try dsimp only); split <;> omega) (fun b hb => by
        try dsimp only
        rw [eq_d_0, eq_d_1]
        by_cases q : b = e
        · rw [if_pos q, if_pos q, if_pos q]
          have e1 : ((-1 : Int).natAbs : Int) = 1 := rfl
          omega
        · rw [if_neg q, if_neg q, if_neg q]
          decide)
      have b1 := sm_pick e 12 (by decide) n
      unfold lp_nm at *
      omega
  · rcases cs x hx with z | z
    · rw [eqL_lo z]; exact k5 x q z hq
    · rw [z, eqL_hi]; exact rowv_out _ hq
  · have := hu x (by omega)
    rw [eqL_lo hx] at this
    exact this
theorem eq_w_ok (V : pl_V n f) : ∀ b, b < n → 0 ≤ eq_w f b 0 ∧ 0 ≤ eq_w f b 1 ∧ 6 * eq_w f b 0 + eq_w f b 1 ≤ 321 := fun b hb => by
  obtain ⟨h1, h2, h3, h4, h5, h6, h7⟩ := V.2 b hb
  have e0 : eq_w f b 0 = ((f (5 * b + 2) + f (5 * b + 3) : Nat) : Int) := rfl
  have e1 : eq_w f b 1 = ((f (5 * b + 2) * f (5 * b + 1) + f (5 * b + 3) * f (5 * b + 4) : Nat) : Int) := rfl
  have m1 : f (5 * b + 2) * f (5 * b + 1) ≤ 9 * 3 := Nat.mul_le_mul h5 h3
  have m2 : f (5 * b + 3) * f (5 * b + 4) ≤ 20 * 6 := Nat.mul_le_mul h6 (by omega)
  rw [e0, e1]
  omega
theorem eq_d_ok {e spot : Nat} (hs : spot ≤ 6) : ∀ b, b < n → 0 ≤ eq_d e spot b 0 ∧ 0 ≤ eq_d e spot b 1 ∧ 6 * eq_d e spot b 0 + eq_d e spot b 1 ≤ 321 := fun b _ => by
  rw [eq_d_0, eq_d_1]
  by_cases q : b = e
  · rw [if_pos q, if_pos q]; omega
  · rw [if_neg q, if_neg q]; decide
/-- pushes without weights: none -/
theorem eq_rec (V : pl_V n f) (hH : ∀ b, b < n → H b = true) {y : Nat → Int} (h0 : ∀ x, x < (ct_al f n).length → 0 ≤ y x) (hy : ∀ q, sm (ct_al f n).length (fun x => y x * eqA f n H x q) = 0) : ∀ x, x < (ct_al f n).length → y x = 0 := by
  have dn : ∀ d b, b + d = n → ∀ x, x < (ct_al f n).length → b ≤ (ctc (ct_al f n) x).1 → y x = 0 := by
    intro d
    induction d with
    | zero =>
      intro b hb x hx hc
      have := (ct_x_ok V hx).1
      omega
    | succ d ih =>
      intro b hb x hx hc
      have hi := ih (b + 1) (by omega)
      by_cases e : b < (ctc (ct_al f n) x).1
      · exact hi x hx (by omega)
      · have e : (ctc (ct_al f n) x).1 = b := by omega
        have hbn : b < n := by omega
        have row := hy (2 * ct_c H b + 0)
        have tm : ∀ x, x < (ct_al f n).length → y x * eqA f n H x (2 * ct_c H b + 0) = if (ctc (ct_al f n) x).1 = b then y x else 0 := fun x hx => by
          unfold eqA
          rw [rowv_at _ hbn (hH b hbn) (by decide)]
          show y x * ct_sg (ctc (ct_al f n) x) b = _
          unfold ct_sg
          by_cases q1 : (ctc (ct_al f n) x).1 = b
          · rw [if_pos q1, if_pos q1, Int.mul_one]
          · rw [if_neg q1, if_neg q1]
            by_cases q2 : (ctc (ct_al f n) x).2.1 = some b
            · have := ((ct_x_ok V hx).2.2 b q2).1
              rw [hi x hx (by omega)]; simp
            · rw [if_neg q2, Int.mul_zero]
        rw [sm_congr tm] at row
        have := sm_each (fun k hk => by
          try dsimp only
          split
          · exact h0 k hk
          · exact Int.le_refl _) row x hx
        rw [if_pos e] at this
        exact this
  exact fun x hx => dn n 0 (by omega) x hx (Nat.zero_le _)
end EQ
