/-! ===== FROM THE LAW's RUN IN THE PICTURE TO THE CLAIM ===== -/
theorem mc_Wd.of {A : Array Value} {s : State} (h : ∀ w ∈ mc_tbl, w.before A s = true) : mc_Wd s := by
  intro a w hw
  have h1 := (List.mem_filter.mp hw).2
  have h2 := h w hw
  have hW : s.WarmedH s.vm := State.WarmedH.refl s
  rcases (Bool.or_eq_true _ _).mp h1 with g | g
  · exact word_at hW (good_of_word g) h2
  · cases w <;> first | (simp [mc_nest] at g; done) | skip
    · exact va_Nw.use rfl (va_Nw.warmM hW (va_Nw.of rfl h2))
    · exact va_Nw.use rfl (va_Nw.warmF hW (va_Nw.of rfl h2))
    · rename_i t
      cases t <;> first | (simp [mc_nest] at g; done) | exact over_moved hW.alike h2
theorem mc_prim {s : State} (h : mc_Wd s) {ty : FieldType} (hw : Cond.arrayClass ty ∈ mc_tbl) (hno : ∀ C, ty ≠ .object C) : ∃ cA, ArrOfT s cA ty ∧ va_RA s cA ty := by
  obtain ⟨c, k, comp, h1, h2, h3⟩ := Cond.arrayClass_spec (h #[] _ hw)
  refine ⟨c, fun n z => ⟨fun k h => (by cases h), k, h2, comp, h3⟩, ?_⟩
  cases ty <;> first | exact h1 | exact absurd rfl (hno _)
theorem mc_over {s : State} (h : mc_Wd s) (hw : Cond.arrayOver (.array .long) ∈ mc_tbl) : ∃ cA, ArrOfT s cA (.array .long) ∧ va_RA s cA (.array .long) := by
  obtain ⟨comp, c, k, hc, hi, hk, hkind, hn⟩ := arrayOverA_spec (h #[] _ hw)
  exact ⟨c, fun n z => ⟨fun k h => (by cases h), k, hk, comp, hkind⟩, hn⟩
theorem arr_boolean : Cond.arrayClass .boolean ∈ mc_tbl := mc_in 231 (by decide +kernel) (by decide +kernel)
theorem arr_int : Cond.arrayClass .int ∈ mc_tbl := mc_in 104 (by decide +kernel) (by decide +kernel)
theorem arr_long : Cond.arrayClass .long ∈ mc_tbl := mc_in 169 (by decide +kernel) (by decide +kernel)
theorem arr_short : Cond.arrayClass .short ∈ mc_tbl := mc_in 186 (by decide +kernel) (by decide +kernel)
theorem arr_over : Cond.arrayOver (.array .long) ∈ mc_tbl := mc_in 149 (by decide +kernel) (by decide +kernel)
def M_law : mc_M := (⟨RL, "law", "([I)Z"⟩, code, 4, some .boolean)
theorem mc_close {p : Program} {e : Env} {s : State} {m : MethodId} {below : List Frame} {meth : Method} {c : Code} (l : Launch) {b L : Nat} {xs : Nat → Int32} (hx : p.tables.exec = Jvm.exec) (hb : c.code = code) (hr : meth.sig.returnType = some .boolean) (hml : c.maxLocals = 4) (hown : s.vm.findClass "RestingBlocksLaw" = some m.cls) (hts : ∀ w ∈ lw_tbl, w.before #[Value.ref b] s = true) (hX : va_X b L xs s s.heap) (hbl : b < s.heap.size) (hlocks : meth.locks = false)
    {Q : State → Prop} {nc ns : Nat} {h' : mc_H} (hnc : nc ≤ 600000) (hns : ns ≤ 7302250) (hV : mc_V M_law 12 (some (L, xs)) 0 (mc_entry [.ref 0] 4) [] [] (some (.int 1)) h' nc ns)
    (hend : ∀ (H : Heap) (pc : Nat) (ls : Array Slot), decode code pc = .ok (.ireturn, 1) → W p l e room_1 s m #[Value.ref b] below meth c H [] 600000 7302250 Q (F0 m pc ls [.int 1])) :
    W p l e room_1 s m #[Value.ref b] below meth c s.heap [] 0 0 Q (entryFrame m ([Value.ref b] : List Value).toArray 4) := by
  have hWd : mc_Wd s := mc_Wd.of (A := #[Value.ref b]) fun w h => hts w (List.mem_filter.mp h).1
  have hts2 : ∀ w ∈ mc_tbl, w.before #[Value.ref b] s = true := fun w h => hWd _ w h
  obtain ⟨c0, iS0, hKn0⟩ := u_known (C := RX0) (T := TX0) (N := 6) (n := 6) hts2 inX0 (hts2 _ insX0)
  obtain ⟨c1, iS1, hKn1⟩ := u_known (C := RX1) (T := TX1) (N := 10) (n := 10) hts2 inX1 (hts2 _ insX1)
  obtain ⟨c2, iS2, hKn2⟩ := u_known (C := RX2) (T := TX2) (N := 1) (n := 1) hts2 inX2 (hts2 _ insX2)
  obtain ⟨c3, iS3, hKn3⟩ := u_known (C := RX3) (T := TX3) (N := 2) (n := 2) hts2 inX3 (hts2 _ insX3)
  obtain ⟨c4, iS4, hKn4⟩ := u_known (C := RX4) (T := TX4) (N := 3) (n := 3) hts2 inX4 (hts2 _ insX4)
  obtain ⟨c5, iS5, hKn5⟩ := u_known (C := RX5) (T := TX5) (N := 9) (n := 9) hts2 inX5 (hts2 _ insX5)
  obtain ⟨c6, iS6, hKn6⟩ := u_known (C := RX6) (T := TX6) (N := 27) (n := 27) hts2 inX6 (hts2 _ insX6)
  obtain ⟨dC, dI, hKc⟩ : ∃ (dC : Nat → ClassId) (dI : Nat → Nat → Nat), ∀ (k : Nat) (q : vw_C), mc_cl[k]? = some q → u_Kn s q.1 q.2.1 q.2.2 (dC k) (dI k) := by
    refine ⟨fun k => if k = 0 then c0 else (if k = 1 then c1 else (if k = 2 then c2 else (if k = 3 then c3 else (if k = 4 then c4 else (if k = 5 then c5 else (c6)))))), fun k => if k = 0 then iS0 else (if k = 1 then iS1 else (if k = 2 then iS2 else (if k = 3 then iS3 else (if k = 4 then iS4 else (if k = 5 then iS5 else (iS6)))))), ?_⟩
    intro k q hq
    match k, hq with
    | 0, hq => cases hq; exact hKn0
    | 1, hq => cases hq; exact hKn1
    | 2, hq => cases hq; exact hKn2
    | 3, hq => cases hq; exact hKn3
    | 4, hq => cases hq; exact hKn4
    | 5, hq => cases hq; exact hKn5
    | 6, hq => cases hq; exact hKn6
    | k + 7, hq => simp [mc_cl] at hq
  obtain ⟨cI, aI, rI⟩ := mc_prim hWd arr_int (by simp)
  obtain ⟨cJ, aJ, rJ⟩ := mc_prim hWd arr_long (by simp)
  obtain ⟨cS, aS, rS⟩ := mc_prim hWd arr_short (by simp)
  obtain ⟨cZ, aZ, rZ⟩ := mc_prim hWd arr_boolean (by simp)
  obtain ⟨cG, aG, rG⟩ := mc_over hWd arr_over
  let G : mc_G := ((dC, dI), (fun t => match t with
    | .int => cI
    | .long => cJ
    | .short => cS
    | .boolean => cZ
    | _ => cG), b, s.heap.size)
  have hK : mc_K G s := by
    refine ⟨hKc, fun k q hq => ?_⟩
    match k, hq with
    | 0, hq => cases hq; exact ⟨aI, rI⟩
    | 1, hq => cases hq; exact ⟨aJ, rJ⟩
    | 2, hq => cases hq; exact ⟨aS, rS⟩
    | 3, hq => cases hq; exact ⟨aZ, rZ⟩
    | 4, hq => cases hq; exact ⟨aG, rG⟩
    | k + 5, hq => simp [mc_tys] at hq
  have hP : mc_P G [] s.heap := ⟨fun k q h => by simp [mc_W] at h, rfl⟩
  have hS : mc_S G s s.heap [] := ⟨va_S.rf, Nat.le_refl _⟩
  rw [lg_entry_eq]
  refine hV p l e room_1 s m #[Value.ref b] below meth c s.heap [] 0 0 Q _ G ⟨hx, hb, hml, hr, hlocks, hown, hWd, fun h => absurd h (by decide)⟩ hK ⟨hX, hbl⟩ hP hS (mc_LO.entry (G := G) (vs := [.ref 0]) (n := 4) (by decide)) ⟨Nat.le_of_ble_eq_true rfl, Nat.le_of_ble_eq_true rfl, by show 0 + nc ≤ 600000; omega, by show 0 + ns ≤ 7302250; omega⟩ ?_
  intro H' locs' pc' ls' P' S' hret
  obtain ⟨ty, -, -, hd⟩ := hret
  refine va_forget (fun q hq => S'.1.2.2 q hq) ?_
  refine W.widen (k := 600000) (n := 7302250) (by omega) (by omega) ?_
  exact hend H' pc' ls' hd
