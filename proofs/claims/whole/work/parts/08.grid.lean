/-! ===== new long[n][k]: the outer array, then its rows ===== -/
section MG
variable {Mt : mc_M} {d : Nat} {scr : Option (Nat × (Nat → Int32))} {pc : Nat} {loc stk : List Value} {h : mc_H} {r : Option Value} {h' : mc_H} {nc ns : Nat}
theorem mg_outer (c : ClassId) (N h0 : Nat) : ∀ i : Nat, Jvm.Free.Multi.outerC c N h0 i = arrV c N (fun j => va_rf (if j < i then some (h0 + 1 + j) else none))
  | 0 => by
    show ({ cls := c, slots := Array.replicate N .null, vm := .none } : Cell) = _
    rw [arrV_new]
    refine congrArg (arrV c N) (funext fun j => ?_)
    simp [va_rf]
  | i + 1 => by
    show (Jvm.Free.Multi.outerC c N h0 i).setSlot i (.ref (h0 + 1 + i)) = _
    rw [mg_outer c N h0 i, arrV_store]
    refine congrArg (arrV c N) (funext fun j => ?_)
    by_cases e : j = i
    · subst e
      simp [updV, va_rf]
    · by_cases h : j < i
      · simp [updV, e, h, Nat.lt_succ_of_lt h]
      · simp [updV, e, h, show ¬ j < i + 1 by omega]
theorem mc_W_appL {G : mc_G} (h x : mc_H) (k : Nat) : (mc_W G (h ++ x))[k]? = if k < h.length then (mc_W G h)[k]? else (x[k - h.length]?).map (fun c => (mc_ad G (k + 1), mc_E G c)) := by
  unfold mc_W
  rw [List.getElem?_mapIdx, List.getElem?_mapIdx]
  split
  · rename_i hk; rw [List.getElem?_append_left hk]
  · rename_i hk; rw [List.getElem?_append_right (by omega)]
theorem mr_mna {idx : Nat} {n k : Int32} {N K' : Nat} (hw : Cond.classLink Mt.1.cls idx ("[" ++ (FieldType.array .long).toString) ∈ mc_tbl) (hov : Cond.arrayOver (.array .long) ∈ mc_tbl) (hac : Cond.arrayClass .long ∈ mc_tbl) (hd : decode Mt.2.1 pc = .ok (.multianewarray idx 2, 4)) (hn : ¬ n < 0) (hk : ¬ k < 0) (hN : n.toNatClampNeg = N) (hK : k.toNatClampNeg = K') (hb1 : N * 4 ≤ 536870912) (hb2 : K' * componentBytes .long ≤ 536870912) (b : Nat) (hb : b = h.length + 1)
    (kk : mc_V Mt d scr (pc + 4) loc (.ref b :: stk) (h ++ (.inr (.inr (.inr (N, fun i => if i < N then some (b + 1 + i) else none))) :: List.replicate N (.inr (.inr (.inl (K', fun _ => 0)))))) r h' nc ns) : mc_V Mt d scr pc loc (.int k :: .int n :: stk) h r h' (1 + N + nc) (N + N * K' + ns) := by
  intro p l e R s m args below meth c H locs cells slots Q ls G C K X P S L hR E
  subst hb
  subst hN
  subst hK
  have hts : ∀ w ∈ mc_tbl, w.before args s = true := fun w h => C.2.2.2.2.2.2.1 _ w h
  intro T hT Xs
  obtain ⟨vm₁, cA, comp, -, fA, fC, hO, -, X', step⟩ := Xs.multianewarray2F C.1 C.2.2.2.2.2.1 (hts _ hw) (hts _ hov) (hts _ hac) (g := F0 m pc ls (.int k :: .int n :: stk.map (mc_cv G))) rfl (by rw [C.2.1]; exact hd) rfl hn hk hb1 hb2 (by have h8 : componentBytes .long = 8 := rfl; rw [h8] at hb2; omega) rfl rfl (by have := hR.2.2.1; omega) (by have := hR.2.2.2; omega)
  have ecA : cA = G.2.1 (.array .long) := mc_arr K 4 rfl (by simp) fA
  have ecp : comp = G.2.1 .long := mc_arr K 1 rfl (by simp) fC
  subst ecA
  subst ecp
  generalize hF : Jvm.Free.Multi.fill (T.setVm vm₁) (G.2.1 (.array .long)) (G.2.1 .long) n.toNatClampNeg k.toNatClampNeg (defaultValue .long) n.toNatClampNeg = F at X' step
  have hTh : (T.setVm vm₁).heap = H := hT
  obtain ⟨f1, f2, -, -⟩ := Jvm.Free.Multi.fill_facts (T.setVm vm₁) (G.2.1 (.array .long)) (G.2.1 .long) n.toNatClampNeg k.toNatClampNeg (defaultValue .long) n.toNatClampNeg
  rw [hF, hTh] at f1 f2
  have hold : ∀ x : Nat, x < H.size → F.heap[x]? = H[x]? := fun x hx => by
    have := Jvm.Free.Multi.fill_old (T.setVm vm₁) (G.2.1 (.array .long)) (G.2.1 .long) n.toNatClampNeg k.toNatClampNeg (defaultValue .long) (a := x) (by rw [hTh]; exact hx) n.toNatClampNeg
    rw [hF, hTh] at this
    exact this
  have hrow : ∀ j : Nat, j < n.toNatClampNeg → F.heap[H.size + 1 + j]? = some (vp_cell (G.2.1 .long) (k.toNatClampNeg, .inr (.inl (fun _ => 0)))) := fun j hj => by
    have := Jvm.Free.Multi.fill_inner (T.setVm vm₁) (G.2.1 (.array .long)) (G.2.1 .long) n.toNatClampNeg k.toNatClampNeg (defaultValue .long) n.toNatClampNeg j hj
    rw [hF, hTh] at this
    rw [this, vp_cell_l]
    exact congrArg some (arrV_new _ _ _)
  have ea : ∀ j, mc_ad G (h.length + 1 + j) = H.size + j := fun j => by
    rw [P.2]
    show mc_ad G (h.length + 1 + j) = _
    rw [show h.length + 1 + j = (h.length + j) + 1 by omega]
    show G.2.2.2 + (h.length + j) = _
    omega
  have P' : mc_P G (h ++ (.inr (.inr (.inr (n.toNatClampNeg, fun i => if i < n.toNatClampNeg then some (h.length + 1 + 1 + i) else none))) :: List.replicate n.toNatClampNeg (.inr (.inr (.inl (k.toNatClampNeg, fun _ => 0)))))) F.heap := by
    refine ⟨fun q x hx => ?_, by rw [f1, P.2, List.length_append, List.length_cons, List.length_replicate]; omega⟩
    rw [mc_W_appL] at hx
    split at hx
    · exact (P.1 q x hx).kept (hold _ ((P.1 q x hx).lt))
    · rename_i hq
      obtain ⟨j, rfl⟩ : ∃ j, q = h.length + j := ⟨q - h.length, by omega⟩
      rw [show h.length + j - h.length = j by omega] at hx
      match j, hx with
      | 0, hx =>
        cases hx
        show F.heap[mc_ad G (h.length + 1 + 0)]? = some (vp_cell _ _)
        rw [ea 0]
        show F.heap[H.size]? = _
        rw [f2, mg_outer, vp_cell_q]
        refine congrArg (fun z => some (arrV _ _ z)) (funext fun j => ?_)
        by_cases hj : j < n.toNatClampNeg
        · simp only [hj, if_true, Option.map_some]
          rw [show h.length + 1 + 1 + j = h.length + 1 + (1 + j) by omega, ea (1 + j)]
          rw [Nat.add_assoc]
        · simp [hj]
      | j + 1, hx =>
        have hj : j < n.toNatClampNeg := by
          have : (List.replicate n.toNatClampNeg (.inr (.inr (.inl (k.toNatClampNeg, fun _ => 0))) : mc_Cell))[j]? ≠ none := by
            intro h0
            rw [List.getElem?_cons_succ, h0] at hx
            cases hx
          by_cases hl : j < n.toNatClampNeg
          · exact hl
          · exact absurd (List.getElem?_eq_none (by rw [List.length_replicate]; omega)) this
        rw [List.getElem?_cons_succ, List.getElem?_replicate, if_pos hj] at hx
        cases hx
        show F.heap[mc_ad G (h.length + (j + 1) + 1)]? = some (vp_cell _ _)
        rw [show h.length + (j + 1) + 1 = h.length + 1 + (1 + j) by omega, ea (1 + j), ← Nat.add_assoc]
        exact hrow j hj
  obtain ⟨t, a1, b1⟩ := kk p l e R s m args below meth c F.heap locs (cells + 1 + n.toNatClampNeg) (slots + n.toNatClampNeg + n.toNatClampNeg * k.toNatClampNeg) Q ls G C K X P' (S.push (by rw [f1]; omega) hold) L ⟨hR.1, hR.2.1, by have := hR.2.2.1; omega, by have := hR.2.2.2; omega⟩
    (fun H' locs' pc' ls' P' S' hr => by
      have := E H' locs' pc' ls' P' S' hr
      rw [show cells + 1 + n.toNatClampNeg + nc = cells + (1 + n.toNatClampNeg + nc) by omega, show slots + n.toNatClampNeg + n.toNatClampNeg * k.toNatClampNeg + ns = slots + (n.toNatClampNeg + n.toNatClampNeg * k.toNatClampNeg + ns) by omega]
      exact this) F rfl X'
  refine ⟨t, step t ?_, b1⟩
  have e : T.heap.size = H.size := by rw [hT]
  rw [e]
  rw [List.map_cons, show mc_cv G (.ref (h.length + 1)) = .ref H.size from congrArg Value.ref (ea 0)] at a1
  exact a1
end MG
