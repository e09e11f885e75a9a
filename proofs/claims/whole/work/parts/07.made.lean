/-! ===== THE ROWS THAT MAKE CELLS, AND arraycopy ===== -/
section MK
variable {Mt : mc_M} {d : Nat} {scr : Option (Nat × (Nat → Int32))} {pc : Nat} {loc stk : List Value} {h : mc_H} {r : Option Value} {h' : mc_H} {nc ns : Nat}
theorem mc_W_app {G : mc_G} (h : mc_H) (x : mc_Cell) : mc_W G (h ++ [x]) = mc_W G h ++ [(mc_ad G (h.length + 1), mc_E G x)] := by
  unfold mc_W
  rw [List.mapIdx_append]
  simp
theorem mc_P.push {G : mc_G} {h : mc_H} {H H1 : Heap} {x : mc_Cell} (P : mc_P G h H) (z : H1.size = H.size + 1) (oq : ∀ q, q < H.size → H1[q]? = H[q]?) (he : va_at G.1 mc_cl (mc_ad G (h.length + 1), mc_E G x) H1) : mc_P G (h ++ [x]) H1 := by
  refine ⟨?_, by rw [z, P.2, List.length_append]; rfl⟩
  rw [mc_W_app]
  refine va_P.app (P.1.kept fun k q hq => oq q.1 ((P.1 k q hq).lt)) (fun k q hq => ?_)
  have hz : k < 1 := (List.getElem?_eq_some_iff.mp hq).1
  rw [show k = 0 by omega] at hq
  cases hq
  exact he
theorem mc_S.push {G : mc_G} {s : State} {H H1 : Heap} {locs : List Loc} (S : mc_S G s H locs) (z : H.size ≤ H1.size) (oq : ∀ q, q < H.size → H1[q]? = H[q]?) : mc_S G s H1 locs :=
  ⟨⟨Nat.le_trans S.1.1 z, fun q g1 g2 => (oq q (Nat.lt_of_lt_of_le g1 S.1.1)).trans (S.1.2.1 q g1 g2), S.1.2.2⟩, S.2⟩
theorem mr_new {ci : Nat} {C0 : String} {T : u_T} {N idx : Nat} (fs : List Value) (hin : ∀ w ∈ u_ws C0 T N, w ∈ mc_tbl) (ty : Nat → FieldType) (hty : ∀ k, k < N → parseFieldDescriptor (T k).2.2.1 = some (ty k)) (hc : mc_cl[ci]? = some (C0, T, N)) (hw : Cond.classLink Mt.1.cls idx C0 ∈ mc_tbl) (hi : Cond.instantiable C0 N ∈ mc_tbl) (hini : Cond.initialized C0 ∈ mc_tbl) (hfs : ∀ (G : mc_G) (j : Nat), j < N → defaultValue (ty j) = vp_V (fs.map (mc_cv G)) j) (hd : decode Mt.2.1 pc = .ok (.new idx, 3)) (b : Nat) (hb : b = h.length + 1)
    (k : mc_V Mt d scr (pc + 3) loc (.ref b :: stk) (h ++ [.inl (ci, fs)]) r h' nc ns) : mc_V Mt d scr pc loc stk h r h' (1 + nc) (N + ns) := by
  intro p l e R s m args below meth c H locs cells slots Q ls G C K X P S L hR E
  subst hb
  have hts : ∀ w ∈ mc_tbl, w.before args s = true := fun w h => C.2.2.2.2.2.2.1 _ w h
  have hKn := K.1 ci _ hc
  refine W.newcK C.1 C.2.1 C.2.2.2.2.2.1 (hts _ hw) (hts _ hi) (hts _ hini) rfl hd (by have := hR.2.2.1; omega) (by have := hR.2.2.2; omega) hKn.2.1 rfl fun H1 kC hkC e1 z1 o1 => ?_
  have ea : mc_ad G (h.length + 1) = H.size := P.2.symm
  have := k p l e R s m args below meth c H1 locs (cells + 1) (slots + N) Q ls G C K X (P.push z1 o1 ⟨_, hc, by rw [ea]; exact (u_born ty hts hin hKn hkC e1 hty).to (hfs G)⟩) (S.push (by omega) o1) L ⟨hR.1, hR.2.1, by have := hR.2.2.1; omega, by have := hR.2.2.2; omega⟩ (fun H' locs' pc' ls' P' S' hr => by rw [Nat.add_assoc, Nat.add_assoc]; exact E H' locs' pc' ls' P' S' hr)
  rw [List.map_cons, show mc_cv G (.ref (h.length + 1)) = .ref H.size from congrArg Value.ref ea] at this
  exact this
theorem mc_arr {G : mc_G} {s : State} (K : mc_K G s) (j : Nat) {ty : FieldType} (hj : (mc_tys G)[j]? = some (G.2.1 ty, ty)) (hno : ∀ C, ty ≠ .object C) {cA : ClassId} (hf : s.vm.findClass ("[" ++ ty.toString) = some cA) : cA = G.2.1 ty := by
  have h1 := (K.2 j _ hj).2
  have h2 : s.vm.findClass ("[" ++ ty.toString) = some (G.2.1 ty) := by
    cases ty <;> first | exact h1 | exact absurd rfl (hno _)
  exact Option.some.inj (hf.symm.trans h2)
theorem mr_newI {ty : FieldType} {atype : ArrayType} (j : Nat) (x : mc_Cell) {n : Int32} {N : Nat} (hty : newarray.typeOf atype = ty) (hj : ∀ G : mc_G, (mc_tys G)[j]? = some (G.2.1 ty, ty)) (hno : ∀ C, ty ≠ .object C) (hx : ∀ (G : mc_G), ∃ a0 : vp_A, mc_E G x = .inl (G.2.1 ty, a0) ∧ vp_cell (G.2.1 ty) a0 = arrV (G.2.1 ty) N (fun _ => defaultValue ty)) (hw : Cond.arrayClass ty ∈ mc_tbl) (hd : decode Mt.2.1 pc = .ok (.newarray atype, 2)) (hn : ¬ n < 0) (hN : n.toNatClampNeg = N) (hbytes : N * componentBytes ty ≤ 536870912) (b : Nat) (hb : b = h.length + 1)
    (k : mc_V Mt d scr (pc + 2) loc (.ref b :: stk) (h ++ [x]) r h' nc ns) : mc_V Mt d scr pc loc (.int n :: stk) h r h' (1 + nc) (N + ns) := by
  intro p l e R s m args below meth c H locs cells slots Q ls G C K X P S L hR E
  subst hb
  subst hty
  have hts : ∀ w ∈ mc_tbl, w.before args s = true := fun w h => C.2.2.2.2.2.2.1 _ w h
  refine va_newaK C.1 C.2.1 (hts _ hw) rfl hd rfl hn hN hbytes (by have := hR.2.2.1; omega) (by have := hR.2.2.2; omega) rfl fun H1 cA e1 z1 o1 _ hNm => ?_
  have hcA := mc_arr K j (hj G) hno hNm
  subst hcA
  obtain ⟨a0, g1, g2⟩ := hx G
  have ea : mc_ad G (h.length + 1) = H.size := P.2.symm
  have := k p l e R s m args below meth c H1 locs (cells + 1) (slots + N) Q ls G C K X (P.push z1 o1 (by rw [g1, ea]; show H1[H.size]? = some (vp_cell _ _); rw [g2]; exact e1)) (S.push (by omega) o1) L ⟨hR.1, hR.2.1, by have := hR.2.2.1; omega, by have := hR.2.2.2; omega⟩ (fun H' locs' pc' ls' P' S' hr => by rw [Nat.add_assoc, Nat.add_assoc]; exact E H' locs' pc' ls' P' S' hr)
  rw [List.map_cons, show mc_cv G (.ref (h.length + 1)) = .ref H.size from congrArg Value.ref ea] at this
  exact this
theorem mr_copy {a0 a1 n0 n1 idx : Nat} {f g : Nat → Int32} {sp dp n : Int32} (hw : Cond.methodLink Mt.1.cls idx arraycopyName ∈ mc_tbl) (hnat : Cond.native arraycopyName ∈ mc_tbl) (hstat : Cond.static arraycopyName ∈ mc_tbl) (hini : Cond.initialized "java/lang/System" ∈ mc_tbl) (hd : decode Mt.2.1 pc = .ok (.invokestatic idx, 3)) (ha0 : h[a0]? = some (.inr (.inl (.int, n0, f)))) (ha1 : h[a1]? = some (.inr (.inl (.int, n1, g)))) (h1 : ¬ sp < 0) (h2 : ¬ dp < 0) (h3 : ¬ n < 0) (h4 : sp.toNatClampNeg + n.toNatClampNeg ≤ n0) (h5 : dp.toNatClampNeg + n.toNatClampNeg ≤ n1) (hm : (stk.map fun v => v.category).sum ≤ 8)
    (k : mc_V Mt (d + 1) scr (pc + 3) loc stk (h.set a1 (.inr (.inl (.int, n1, va_cpy f g sp.toNatClampNeg dp.toNatClampNeg n.toNatClampNeg)))) r h' nc ns) : mc_V Mt (d + 1) scr pc loc (.int n :: .int dp :: .ref (a1 + 1) :: .int sp :: .ref (a0 + 1) :: stk) h r h' nc ns := by
  intro p l e R s m args below meth c H locs cells slots Q ls G C K X P S L hR E
  have hts : ∀ w ∈ mc_tbl, w.before args s = true := fun w h => C.2.2.2.2.2.2.1 _ w h
  have hrm := mc_roomW (G := G) hm
  have nn : ∀ z : Int32, ¬ z < 0 → z.toInt = (z.toNatClampNeg : Int) := by
    intro z hz
    have hz0 : (0 : Int) ≤ z.toInt := by
      have := Int32.not_lt.mp hz
      simpa using Int32.le_iff_toInt_le.mp this
    show z.toInt = ((z.toInt.toNat : Nat) : Int)
    omega
  intro T hT X1
  have hc0 : H[mc_ad G (a0 + 1)]? = some (vp_cell (G.2.1 .int) (n0, .inl f)) := P.1 a0 _ (mc_W_get ha0)
  have hc1 : H[mc_ad G (a1 + 1)]? = some (vp_cell (G.2.1 .int) (n1, .inl g)) := P.1 a1 _ (mc_W_get ha1)
  obtain ⟨-, k0, hk0, cm0, hkk0⟩ := (K.2 0 _ rfl).1 n0 (fun j => .int (f j))
  obtain ⟨-, k1, hk1, cm1, hkk1⟩ := (K.2 0 _ rfl).1 n1 (fun j => .int (g j))
  obtain ⟨vm', X', step⟩ := X1.arraycopy C.1 C.2.2.2.2.2.1 (hts _ hw) (hts _ hnat) (hts _ hstat) (hts _ hini) (src := mc_ad G (a0 + 1)) (dst := mc_ad G (a1 + 1)) (cs := vp_cell (G.2.1 .int) (n0, .inl f)) (cd := vp_cell (G.2.1 .int) (n1, .inl g)) (srcPos := sp) (destPos := dp) (n := n) (by rw [hT]; exact hc0) (by rw [hT]; exact hc1)
    (fun _ h => by cases h) (fun _ h => by cases h) (fun h => by cases h) (fun h => by cases h) hk0 hk1 hkk0 hkk1 (by simp [show refKind .int = false from rfl]) h1 h2 h3
    (by rw [nn sp h1, nn n h3]; show ¬ _ > ((arrV (G.2.1 .int) n0 (fun j => .int (f j))).slots.size : Int); rw [arrV_size]; omega)
    (by rw [nn dp h2, nn n h3]; show ¬ _ > ((arrV (G.2.1 .int) n1 (fun j => .int (g j))).slots.size : Int); rw [arrV_size]; omega)
    (fun vm₁ _ i hi => by
      have e : (vp_cell (G.2.1 .int) (n0, .inl f)).slots.getD (sp.toNatClampNeg + i) .null = .int (f (sp.toNatClampNeg + i)) := by
        show (arrV (G.2.1 .int) n0 (fun j => .int (f j))).slots.getD _ _ = _
        rw [Array.getD_eq_getD_getElem?, arrV_read _ _ (by omega)]
        rfl
      refine ⟨?_, ?_⟩
      · rw [e]
        rfl
      · rw [e]
        exact trivial)
    (g := F0 m pc ls (.int n :: .int dp :: .ref (mc_ad G (a1 + 1)) :: .int sp :: .ref (mc_ad G (a0 + 1)) :: stk.map (mc_cv G))) rfl (L.1.1.trans C.2.2.1.symm) (rest := stk.map (mc_cv G)) rfl (by rw [C.2.1]; exact hd) (by have := hR.1; omega) (by show 2 * 0 + _ + (7 + 11) ≤ _; have := hR.2.1; omega)
  have e1 : copied (vp_cell (G.2.1 .int) (n0, .inl f)) (vp_cell (G.2.1 .int) (n1, .inl g)) sp dp n = vp_cell (G.2.1 .int) (n1, .inl (va_cpy f g sp.toNatClampNeg dp.toNatClampNeg n.toNatClampNeg)) := va_copied (fun z => .int z) (G.2.1 .int) (G.2.1 .int) f g h4
  rw [e1] at X' step
  have hl : mc_ad G (a1 + 1) < H.size := (Array.getElem?_eq_some_iff.mp hc1).1
  have hheap : ((T.setVm vm').setCell (mc_ad G (a1 + 1)) (vp_cell (G.2.1 .int) (n1, .inl (va_cpy f g sp.toNatClampNeg dp.toNatClampNeg n.toNatClampNeg)))).heap = H.setIfInBounds (mc_ad G (a1 + 1)) (vp_cell (G.2.1 .int) (n1, .inl (va_cpy f g sp.toNatClampNeg dp.toNatClampNeg n.toNatClampNeg))) := by rw [← hT]; rfl
  have oq : ∀ q : Nat, q ≠ mc_ad G (a1 + 1) → (H.setIfInBounds (mc_ad G (a1 + 1)) (vp_cell (G.2.1 .int) (n1, .inl (va_cpy f g sp.toNatClampNeg dp.toNatClampNeg n.toNatClampNeg))))[q]? = H[q]? := fun q hq => by simp [Array.getElem?_setIfInBounds, Ne.symm hq]
  obtain ⟨t, a2, b2⟩ := k p l e R s m args below meth c _ _ cells slots Q ls G C K X (P.put ha1 (show (H.setIfInBounds (mc_ad G (a1 + 1)) _)[mc_ad G (a1 + 1)]? = some _ by simp [Array.getElem?_setIfInBounds, hl]) (by simp) oq) ⟨⟨by simp; exact S.1.1, fun q g1 g2 => by
      rw [oq q (fun e => g2 (by rw [e]; exact (show G.2.2.2 ≤ G.2.2.2 + a1 by omega)))]
      exact S.1.2.1 q g1 g2, fun q hq => by
      rcases List.mem_append.mp hq with h | h
      · exact S.1.2.2 q h
      · obtain ⟨z, -, hz⟩ := List.mem_map.mp h
        rw [← hz]
        exact (show G.2.2.2 ≤ G.2.2.2 + a1 by omega)⟩, S.2⟩ L hR E _ hheap X'
  exact ⟨t, step t a2, b2⟩
end MK
