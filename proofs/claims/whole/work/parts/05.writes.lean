/-! ===== THE ROWS THAT WRITE ===== -/
section MW
variable {Mt : mc_M} {d : Nat} {scr : Option (Nat × (Nat → Int32))} {pc : Nat} {loc stk : List Value} {h : mc_H} {r : Option Value} {h' : mc_H} {nc ns : Nat}
/-- a cell is written over -/
theorem mc_P.put {G : mc_G} {h : mc_H} {H H1 : Heap} {a : Nat} {x0 x : mc_Cell} (P : mc_P G h H) (ha : h[a]? = some x0) (he : va_at G.1 mc_cl (mc_ad G (a + 1), mc_E G x) H1) (z : H1.size = H.size) (oq : ∀ q : Nat, q ≠ mc_ad G (a + 1) → H1[q]? = H[q]?) : mc_P G (h.set a x) H1 := by
  refine ⟨?_, by rw [z, P.2, List.length_set]⟩
  rw [← mc_W_set]
  exact P.1.set (mc_D G h) (mc_W_get ha) he oq
theorem mc_S.put {G : mc_G} {s : State} {H H1 : Heap} {locs : List Loc} {a k : Nat} (S : mc_S G s H locs) (z : H1.size = H.size) (oq : ∀ q : Nat, q ≠ mc_ad G (a + 1) → H1[q]? = H[q]?) : mc_S G s H1 (locs ++ [⟨mc_ad G (a + 1), k⟩]) :=
  ⟨S.1.put z oq (show G.2.2.2 ≤ G.2.2.2 + a by omega), S.2⟩
theorem mr_iast {a n : Nat} {f : Nat → Int32} {i x : Int32} (hd : decode Mt.2.1 pc = .ok (.iastore, 1)) (ha : h[a]? = some (.inr (.inl (.int, n, f)))) (hi : vp_in i n) (k : mc_V Mt d scr (pc + 1) loc (stk) (h.set a (.inr (.inl (.int, n, upd f i.toNatClampNeg x)))) r h' nc ns) : mc_V Mt d scr pc loc (.int x :: .int i :: .ref (a + 1) :: stk) h r h' nc ns := by
  intro p l e R s m args below meth c H locs cells slots Q ls G C K X P S L hR E
  refine W.iast C.1 C.2.1 (P.1 a _ (mc_W_get ha)) ((K.2 0 _ rfl).1 n (fun j => .int (f j))) (fun q => by cases q) (by show ¬ (i < 0 ∨ (arrV _ _ _).slots.size ≤ _); rw [arrV_size]; exact hi) rfl rfl hd fun H1 e1 z oq => ?_
  refine k p l e R s m args below meth c H1 _ cells slots Q ls G C K X (P.put ha ?_ z oq) (S.put z oq) L hR E
  show H1[mc_ad G (a + 1)]? = some (vp_cell _ _)
  rw [e1]
  rw [vp_cell_i, vp_cell_i, arrV_store]
  congr 2
  funext q
  by_cases hq : q = i.toNatClampNeg
  · subst hq
    simp [updV, upd]
    try rfl
  · simp [updV, upd, hq]
theorem mr_sast {a n : Nat} {f : Nat → Int32} {i x : Int32} (hd : decode Mt.2.1 pc = .ok (.sastore, 1)) (ha : h[a]? = some (.inr (.inl (.short, n, f)))) (hi : vp_in i n) (k : mc_V Mt d scr (pc + 1) loc (stk) (h.set a (.inr (.inl (.short, n, upd f i.toNatClampNeg (vp_nar .short x))))) r h' nc ns) : mc_V Mt d scr pc loc (.int x :: .int i :: .ref (a + 1) :: stk) h r h' nc ns := by
  intro p l e R s m args below meth c H locs cells slots Q ls G C K X P S L hR E
  refine W.sast C.1 C.2.1 (P.1 a _ (mc_W_get ha)) ((K.2 2 _ rfl).1 n (fun j => .int (f j))) (fun q => by cases q) (by show ¬ (i < 0 ∨ (arrV _ _ _).slots.size ≤ _); rw [arrV_size]; exact hi) rfl rfl hd fun H1 e1 z oq => ?_
  refine k p l e R s m args below meth c H1 _ cells slots Q ls G C K X (P.put ha ?_ z oq) (S.put z oq) L hR E
  show H1[mc_ad G (a + 1)]? = some (vp_cell _ _)
  rw [e1]
  rw [vp_cell_i, vp_cell_i, arrV_store]
  congr 2
  funext q
  by_cases hq : q = i.toNatClampNeg
  · subst hq
    simp [updV, upd, vp_nar]
    try rfl
  · simp [updV, upd, hq]
theorem mr_zast {a n : Nat} {f : Nat → Int32} {i x : Int32} (hd : decode Mt.2.1 pc = .ok (.bastore, 1)) (ha : h[a]? = some (.inr (.inl (.boolean, n, f)))) (hi : vp_in i n) (k : mc_V Mt d scr (pc + 1) loc (stk) (h.set a (.inr (.inl (.boolean, n, upd f i.toNatClampNeg (vp_nar .boolean x))))) r h' nc ns) : mc_V Mt d scr pc loc (.int x :: .int i :: .ref (a + 1) :: stk) h r h' nc ns := by
  intro p l e R s m args below meth c H locs cells slots Q ls G C K X P S L hR E
  refine W.zast C.1 C.2.1 (P.1 a _ (mc_W_get ha)) ((K.2 3 _ rfl).1 n (fun j => .int (f j))) (fun q => by cases q) (by show ¬ (i < 0 ∨ (arrV _ _ _).slots.size ≤ _); rw [arrV_size]; exact hi) rfl rfl hd fun H1 e1 z oq => ?_
  refine k p l e R s m args below meth c H1 _ cells slots Q ls G C K X (P.put ha ?_ z oq) (S.put z oq) L hR E
  show H1[mc_ad G (a + 1)]? = some (vp_cell _ _)
  rw [e1]
  rw [vp_cell_i, vp_cell_i, arrV_store]
  congr 2
  funext q
  by_cases hq : q = i.toNatClampNeg
  · subst hq
    simp [updV, upd, vp_nar]
    try rfl
  · simp [updV, upd, hq]
theorem mr_last {a n : Nat} {f : Nat → Int64} {i : Int32} {x : Int64} (hd : decode Mt.2.1 pc = .ok (.lastore, 1)) (ha : h[a]? = some (.inr (.inr (.inl (n, f))))) (hi : vp_in i n) (k : mc_V Mt d scr (pc + 1) loc (stk) (h.set a (.inr (.inr (.inl (n, vp_updL f i.toNatClampNeg x))))) r h' nc ns) : mc_V Mt d scr pc loc (.long x :: .int i :: .ref (a + 1) :: stk) h r h' nc ns := by
  intro p l e R s m args below meth c H locs cells slots Q ls G C K X P S L hR E
  refine W.last C.1 C.2.1 (P.1 a _ (mc_W_get ha)) ((K.2 1 _ rfl).1 n (fun j => .long (f j))) (fun q => by cases q) (by show ¬ (i < 0 ∨ (arrV _ _ _).slots.size ≤ _); rw [arrV_size]; exact hi) rfl rfl hd fun H1 e1 z oq => ?_
  refine k p l e R s m args below meth c H1 _ cells slots Q ls G C K X (P.put ha ?_ z oq) (S.put z oq) L hR E
  show H1[mc_ad G (a + 1)]? = some (vp_cell _ _)
  rw [e1]
  rw [vp_cell_l, vp_cell_l, arrV_store]
  congr 2
  funext q
  by_cases hq : q = i.toNatClampNeg
  · subst hq
    simp [updV, vp_updL]
  · simp [updV, vp_updL, hq]
/-- what a field of a type may hold -/
def mc_fit : FieldType → Value → Bool
  | .int, .int _ => true
  | .long, .long _ => true
  | .boolean, .int x => x == 0 || x == 1
  | .array _, .ref _ => true
  | .object _, .ref _ => true
  | _, _ => false
theorem mc_fit_ok {G : mc_G} {ty : FieldType} {v : Value} (hf : mc_fit ty v = true) : narrow ty (mc_cv G v) = mc_cv G v ∧ fits ty (mc_cv G v) = true := by
  cases ty <;> cases v <;> first | (simp [mc_fit] at hf; done) | exact ⟨rfl, rfl⟩ | skip
  rename_i x
  have hx : x = 0 ∨ x = 1 := by simpa [mc_fit] using hf
  rcases hx with rfl | rfl <;> exact ⟨by rfl, by rfl⟩
theorem mc_setmap {G : mc_G} (fs : List Value) (f : Nat) (v : Value) : (fs.map (mc_cv G)).set f (mc_cv G v) = (fs.set f v).map (mc_cv G) := by
  rw [List.map_set]
theorem mr_putf {a ci : Nat} {C0 : String} {T : u_T} {N idx : Nat} {fs : List Value} {v : Value} (hin : ∀ w ∈ u_ws C0 T N, w ∈ mc_tbl) (ty0 : Nat → FieldType) (hty : ∀ k, k < N → parseFieldDescriptor (T k).2.2.1 = some (ty0 k)) (hnm : ∀ a, a < N → ∀ b, b < N → a ≠ b → (T a).2.1 ≠ (T b).2.1) (hc : mc_cl[ci]? = some (C0, T, N)) (f : Nat) (hf : f < N) (hw : Cond.fieldLink Mt.1.cls idx (T f).1 (T f).2.1 (T f).2.2.1 ∈ mc_tbl) (hfin : (T f).2.2.2 = false) (hd : decode Mt.2.1 pc = .ok (.putfield idx, 3)) (ha : h[a]? = some (.inl (ci, fs))) (hl : f < fs.length) (hft : mc_fit (ty0 f) v = true) (k : mc_V Mt d scr (pc + 3) loc (stk) (h.set a (.inl (ci, fs.set f v))) r h' nc ns) : mc_V Mt d scr pc loc (v :: .ref (a + 1) :: stk) h r h' nc ns := by
  intro p l e R s m args below meth c H locs cells slots Q ls G C K X P S L hR E
  have hts : ∀ w ∈ mc_tbl, w.before args s = true := fun w h => C.2.2.2.2.2.2.1 _ w h
  have hap := va_apart (own := Mt.1.cls) hts hin ty0 hty hnm K hc
  obtain ⟨hn, hfit⟩ := mc_fit_ok (G := G) hft
  obtain ⟨r0, h1, cell, q1, q2, q3, q4⟩ := P.1 a _ (mc_W_get ha)
  have hr : r0 = (C0, T, N) := Option.some.inj (h1.symm.trans hc)
  subst hr
  obtain ⟨hS, hfc, kC, hkC, hkind⟩ := K.1 ci _ hc
  obtain ⟨cf, kf, fi, fd, hi, hsl⟩ := hS f hf
  have hlay := hts _ (hin _ (u_in_lay hf))
  unfold u_lay at hlay
  rw [if_neg (by rw [hfin]; decide)] at hlay
  have hst := (u_facts hfc hkC (u_lays hts hin hf) hi).1
  have h6 := u_store hfc hkC hkind hlay hi (hty f hf) hn hfit
  refine W.putK C.1 C.2.1 (f := fd) ⟨C.2.2.2.2.2.1, hts _ hw, ⟨_, _, _, hi⟩, hst⟩ (by rw [q2]; exact h6) q1 q3 (by rw [hsl]; exact k2_hasslot (q4 f hf)) rfl rfl hd fun H' e1 e2 e3 => ?_
  rw [hsl] at e1 ⊢
  refine k p l e R s m args below meth c H' _ cells slots Q ls G C K X (P.put ha ?_ e2 e3) (S.put e2 e3) L hR E
  refine ⟨_, hc, t_OB.to (V := updV (vp_V (fs.map (mc_cv G))) f (mc_cv G v)) ⟨_, e1, q2, q3, t_set q4 hap hf _⟩ (fun j _ => ?_)⟩
  rw [vp_updV_set (by rw [List.length_map]; exact hl), mc_setmap]
theorem mr_putF {a ci : Nat} {C0 : String} {T : u_T} {N idx : Nat} {fs : List Value} {v : Value} (hin : ∀ w ∈ u_ws C0 T N, w ∈ mc_tbl) (ty0 : Nat → FieldType) (hty : ∀ k, k < N → parseFieldDescriptor (T k).2.2.1 = some (ty0 k)) (hnm : ∀ a, a < N → ∀ b, b < N → a ≠ b → (T a).2.1 ≠ (T b).2.1) (hc : mc_cl[ci]? = some (C0, T, N)) (f : Nat) (hf : f < N) (hw : Cond.fieldLink Mt.1.cls idx (T f).1 (T f).2.1 (T f).2.2.1 ∈ mc_tbl) (hfin : (T f).2.2.2 = true) (hin2 : Mt.1.name = "<init>") (hdecl : (T f).1 = Mt.1.cls) (hd : decode Mt.2.1 pc = .ok (.putfield idx, 3)) (ha : h[a]? = some (.inl (ci, fs))) (hl : f < fs.length) (hft : mc_fit (ty0 f) v = true) (k : mc_V Mt d scr (pc + 3) loc (stk) (h.set a (.inl (ci, fs.set f v))) r h' nc ns) : mc_V Mt d scr pc loc (v :: .ref (a + 1) :: stk) h r h' nc ns := by
  intro p l e R s m args below meth c H locs cells slots Q ls G C K X P S L hR E
  have hts : ∀ w ∈ mc_tbl, w.before args s = true := fun w h => C.2.2.2.2.2.2.1 _ w h
  have hap := va_apart (own := Mt.1.cls) hts hin ty0 hty hnm K hc
  obtain ⟨hn, hfit⟩ := mc_fit_ok (G := G) hft
  obtain ⟨r0, h1, cell, q1, q2, q3, q4⟩ := P.1 a _ (mc_W_get ha)
  have hr : r0 = (C0, T, N) := Option.some.inj (h1.symm.trans hc)
  subst hr
  obtain ⟨hS, hfc, kC, hkC, hkind⟩ := K.1 ci _ hc
  obtain ⟨cf, kf, fi, fd, hi, hsl⟩ := hS f hf
  have hlay := hts _ (hin _ (u_in_lay hf))
  unfold u_lay at hlay
  rw [if_pos hfin] at hlay
  have hst := (u_facts hfc hkC (u_lays hts hin hf) hi).1
  have hcf : m.cls = cf := by
    obtain ⟨_, _, c', _, _, _, -, -, hf', -, -, -, hown2, -⟩ := Cond.laysFinal_spec hlay
    have e1 : c' = cf := by have := hi.symm.trans hf'; simp at this; exact this.1.symm
    rw [hdecl] at hown2
    rw [← e1]; exact Option.some.inj (C.2.2.2.2.2.1.symm.trans hown2)
  have h6 := u_fits hfc hkC hkind (Or.inr hlay) hi (hty f hf) hn hfit
  refine W.putFinK C.1 C.2.1 C.2.2.2.2.2.1 (hts _ hw) hi hst hcf (C.2.2.2.2.2.2.2 hin2) (by rw [q2]; exact h6) q1 q3 (by rw [hsl]; exact k2_hasslot (q4 f hf)) rfl rfl hd fun H' e1 e2 e3 => ?_
  rw [hsl] at e1 ⊢
  refine k p l e R s m args below meth c H' _ cells slots Q ls G C K X (P.put ha ?_ e2 e3) (S.put e2 e3) L hR E
  refine ⟨_, hc, t_OB.to (V := updV (vp_V (fs.map (mc_cv G))) f (mc_cv G v)) ⟨_, e1, q2, q3, t_set q4 hap hf _⟩ (fun j _ => ?_)⟩
  rw [vp_updV_set (by rw [List.length_map]; exact hl), mc_setmap]
end MW
