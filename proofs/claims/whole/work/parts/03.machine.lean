/-! ===== THE PICTURE OF A RUN: abstract cells by number (1, 2 ..; 0 is the script), what they hold, and how they lie in the heap ===== -/
/-- a cell: an object (number of its class, its fields), an array of ints (or shorts, booleans), of longs, of rows of longs -/
abbrev mc_Cell : Type := (Nat × List Value) ⊕ ((FieldType × Nat × (Nat → Int32)) ⊕ ((Nat × (Nat → Int64)) ⊕ (Nat × (Nat → Option Nat))))
abbrev mc_H : Type := List mc_Cell
/-- a method: its name, its bytes, how many locals, what it returns -/
abbrev mc_M : Type := MethodName × ByteArray × Nat × Option FieldType
/-- what is fixed in a run: classes and slots, array classes, the script's address, the first new address -/
abbrev mc_G : Type := va_G × (FieldType → ClassId) × Nat × Nat
def mc_ad (G : mc_G) : Nat → Nat
  | 0 => G.2.2.1
  | k + 1 => G.2.2.2 + k
def mc_cv (G : mc_G) : Value → Value
  | .ref k => .ref (mc_ad G k)
  | v => v
def mc_E (G : mc_G) : mc_Cell → va_E
  | .inl (ci, fs) => .inr (ci, fs.map (mc_cv G))
  | .inr (.inl (ty, n, f)) => .inl (G.2.1 ty, n, .inl f)
  | .inr (.inr (.inl (n, f))) => .inl (G.2.1 .long, n, .inr (.inl f))
  | .inr (.inr (.inr (n, f))) => .inl (G.2.1 (.array .long), n, .inr (.inr (.inr (.inr (fun j => (f j).map (mc_ad G))))))
def mc_W (G : mc_G) (h : mc_H) : va_W := h.mapIdx (fun k c => (mc_ad G (k + 1), mc_E G c))
def mc_tys (G : mc_G) : List (ClassId × FieldType) := [(G.2.1 .int, .int), (G.2.1 .long, .long), (G.2.1 .short, .short), (G.2.1 .boolean, .boolean), (G.2.1 (.array .long), .array .long)]
def mc_A (G : mc_G) : Nat → Prop := fun q => G.2.2.2 ≤ q
def mc_K (G : mc_G) (s : State) : Prop := va_K G.1 mc_cl (mc_tys G) s
def mc_P (G : mc_G) (h : mc_H) (H : Heap) : Prop := va_P G.1 mc_cl (mc_W G h) H ∧ H.size = G.2.2.2 + h.length
def mc_S (G : mc_G) (s : State) (H : Heap) (locs : List Loc) : Prop := va_S (mc_A G) s.heap H locs ∧ G.2.2.2 ≤ s.heap.size
/-- all words of the tables, for whatever arguments -/
def mc_Wd (U : State) : Prop := ∀ (a : Array Value) (w : Cond), w ∈ mc_tbl → w.before a U = true
/-- locals: what the list says of them ('.retAddr 0': nothing) -/
def mc_lv (G : mc_G) (loc : List Value) : List (Nat × Value) := (List.range loc.length).filterMap (fun i => match loc[i]? with
  | some v => if v = .retAddr 0 then none else some (i, mc_cv G v)
  | none => none)
def mc_LO (G : mc_G) (ls : Array Slot) (nL : Nat) (loc : List Value) : Prop := lv_has ls nL (mc_lv G loc) ∧ loc.length = nL
def mc_C (Mt : mc_M) (p : Program) (s : State) (m : MethodId) (meth : Method) (c : Code) : Prop :=
  p.tables.exec = Jvm.exec ∧ c.code = Mt.2.1 ∧ c.maxLocals = Mt.2.2.1 ∧ meth.sig.returnType = Mt.2.2.2 ∧ meth.locks = false ∧ s.vm.findClass Mt.1.cls = some m.cls ∧ mc_Wd s ∧ (Mt.1.name = "<init>" → meth.name = "<init>")
/-- the script, where the frame is the law's -/
def mc_X (G : mc_G) (s : State) : Option (Nat × (Nat → Int32)) → Prop
  | none => True
  | some (L, xs) => va_X G.2.2.1 L xs s s.heap ∧ G.2.2.1 < G.2.2.2
def mc_ret (Mt : mc_M) (pc : Nat) : Option Value → Prop
  | none => Mt.2.2.2 = none ∧ decode Mt.2.1 pc = .ok (.return_, 1)
  | some (.int v) => ∃ ty, Mt.2.2.2 = some ty ∧ narrow ty (.int v) = .int v ∧ decode Mt.2.1 pc = .ok (.ireturn, 1)
  | some (.long _) => Mt.2.2.2 = some .long ∧ decode Mt.2.1 pc = .ok (.lreturn, 1)
  | some _ => False
/-- FROM HERE THE METHOD RETURNS: at pc, with these locals, stack, cells, it returns r with the cells h', at most d frames deep, having made nc cells of ns slots -/
def mc_V (Mt : mc_M) (d : Nat) (scr : Option (Nat × (Nat → Int32))) (pc : Nat) (loc stk : List Value) (h : mc_H) (r : Option Value) (h' : mc_H) (nc ns : Nat) : Prop :=
  ∀ (p : Program) (l : Launch) (e : Env) (R : Room) (s : State) (m : MethodId) (args : Array Value) (below : List Frame) (meth : Method) (c : Code) (H : Heap) (locs : List Loc) (cells slots : Nat) (Q : State → Prop) (ls : Array Slot) (G : mc_G),
    mc_C Mt p s m meth c → mc_K G s → mc_X G s scr → mc_P G h H → mc_S G s H locs → mc_LO G ls Mt.2.2.1 loc → (d ≤ R.frames ∧ 35 * d ≤ R.locals ∧ cells + nc ≤ R.cells ∧ slots + ns ≤ R.slots) →
    (∀ (H' : Heap) (locs' : List Loc) (pc' : Nat) (ls' : Array Slot), mc_P G h' H' → mc_S G s H' locs' → mc_ret Mt pc' r → W p l e R s m args below meth c H' locs' (cells + nc) (slots + ns) Q (F0 m pc' ls' (r.toList.map (mc_cv G)))) →
    W p l e R s m args below meth c H locs cells slots Q (F0 m pc ls (stk.map (mc_cv G)))
/-! plain facts of the picture -/
theorem mc_W_get {G : mc_G} {h : mc_H} {a : Nat} {x : mc_Cell} (hx : h[a]? = some x) : (mc_W G h)[a]? = some (mc_ad G (a + 1), mc_E G x) := by
  unfold mc_W
  rw [List.getElem?_mapIdx, hx]
  rfl
theorem mc_W_set {G : mc_G} {h : mc_H} {a : Nat} (x : mc_Cell) : (mc_W G h).set a (mc_ad G (a + 1), mc_E G x) = mc_W G (h.set a x) := by
  unfold mc_W
  apply List.ext_getElem?
  intro i
  rw [List.getElem?_set, List.getElem?_mapIdx, List.getElem?_mapIdx, List.getElem?_set, List.length_mapIdx]
  by_cases hi : a = i
  · subst hi
    by_cases hl : a < h.length <;> simp [hl]
  · simp [hi]
theorem mc_D (G : mc_G) (h : mc_H) : va_D (mc_A G) (mc_W G h) := by
  have at' : ∀ (k : Nat) (q : Nat × va_E), (mc_W G h)[k]? = some q → q.1 = G.2.2.2 + k := by
    intro k q hq
    unfold mc_W at hq
    rw [List.getElem?_mapIdx] at hq
    cases hk : h[k]? with
    | none => rw [hk] at hq; cases hq
    | some x => rw [hk] at hq; cases hq; rfl
  refine ⟨fun i j p q hi hj e => ?_, fun k q hq => ?_⟩
  · have h1 := at' i p hi
    have h2 := at' j q hj
    omega
  · have h1 := at' k q hq
    show G.2.2.2 ≤ q.1
    omega
theorem mc_lv_mem {G : mc_G} {loc : List Value} {q : Nat × Value} : q ∈ mc_lv G loc ↔ ∃ v, loc[q.1]? = some v ∧ v ≠ .retAddr 0 ∧ q.2 = mc_cv G v := by
  unfold mc_lv
  rw [List.mem_filterMap]
  constructor
  · rintro ⟨i, -, hi⟩
    cases hv : loc[i]? with
    | none => rw [hv] at hi; cases hi
    | some v =>
      rw [hv] at hi
      by_cases hr : v = .retAddr 0
      · simp [hr] at hi
      · simp only [hr, if_false] at hi
        cases hi
        exact ⟨v, hv, hr, rfl⟩
  · rintro ⟨v, h1, h2, h3⟩
    refine ⟨q.1, List.mem_range.mpr (List.getElem?_eq_some_iff.mp h1).1, ?_⟩
    rw [h1]
    simp only [h2, if_false]
    rw [← h3]
theorem mc_LO.at {G : mc_G} {ls : Array Slot} {nL : Nat} {loc : List Value} (h : mc_LO G ls nL loc) {i : Nat} {v : Value} (hv : loc[i]? = some v) (hn : v ≠ .retAddr 0) : ls[i]? = some (.val (mc_cv G v)) :=
  h.1.2.2 (i, mc_cv G v) (mc_lv_mem.mpr ⟨v, hv, hn, rfl⟩)
theorem mc_has_mono {ls : Array Slot} {nL : Nat} {l l' : List (Nat × Value)} (h : lv_has ls nL l) (hs : ∀ q ∈ l', q ∈ l) : lv_has ls nL l' := ⟨h.1, h.2.1, fun q hq => h.2.2 q (hs q hq)⟩
theorem mc_cat (G : mc_G) (v : Value) : (mc_cv G v).category = v.category := by cases v <;> rfl
/-- a store of one word: a long that it cuts is gone -/
def mc_two (v : Option Value) : Bool := match v with
  | some v => v.category == 2
  | none => false
def mc_kill (loc : List Value) (i : Nat) : List Value := if i ≠ 0 ∧ mc_two loc[i - 1]? = true then loc.set (i - 1) (.retAddr 0) else loc
def mc_set1 (loc : List Value) (i : Nat) (v : Value) : List Value := (mc_kill loc i).set i v
def mc_set2 (loc : List Value) (i : Nat) (v : Value) : List Value := ((mc_kill loc i).set i v).set (i + 1) (.retAddr 0)
theorem mc_kill_len (loc : List Value) (i : Nat) : (mc_kill loc i).length = loc.length := by
  unfold mc_kill
  split <;> simp
theorem mc_kill_at {loc : List Value} {i j : Nat} {v : Value} (h : (mc_kill loc i)[j]? = some v) (hn : v ≠ .retAddr 0) : loc[j]? = some v ∧ (j + 1 = i → v.category ≠ 2) := by
  unfold mc_kill at h
  split at h
  · rename_i hc
    rw [List.getElem?_set] at h
    by_cases hij : i - 1 = j
    · rw [if_pos hij] at h
      split at h
      · cases h; exact absurd rfl hn
      · cases h
    · rw [if_neg hij] at h
      exact ⟨h, fun e => by omega⟩
  · rename_i hc
    refine ⟨h, fun e hv => hc ⟨by omega, ?_⟩⟩
    have : i - 1 = j := by omega
    rw [this, h]
    simp [mc_two, hv]
theorem mc_store1 {G : mc_G} {ls' : Array Slot} {nL : Nat} {loc : List Value} {i : Nat} {v : Value} (hl : loc.length = nL) (h : lv_has ls' nL ((i, mc_cv G v) :: (mc_lv G loc).filter (fun q => !(q.1 == i) && !(q.1 + 1 == i && q.2.category == 2)))) : mc_LO G ls' nL (mc_set1 loc i v) := by
  refine ⟨mc_has_mono h fun q hq => ?_, by unfold mc_set1; rw [List.length_set, mc_kill_len, hl]⟩
  obtain ⟨w, h1, h2, h3⟩ := mc_lv_mem.mp hq
  unfold mc_set1 at h1
  rw [List.getElem?_set] at h1
  by_cases hi : i = q.1
  · rw [if_pos hi] at h1
    split at h1
    · cases h1
      refine List.mem_cons.mpr (Or.inl (Prod.ext hi.symm h3))
    · cases h1
  · rw [if_neg hi] at h1
    obtain ⟨g1, g2⟩ := mc_kill_at h1 h2
    refine List.mem_cons.mpr (Or.inr (List.mem_filter.mpr ⟨mc_lv_mem.mpr ⟨w, g1, h2, h3⟩, ?_⟩))
    have e1 : (q.1 == i) = false := by simpa using fun e => hi e.symm
    rw [e1]
    by_cases e2 : q.1 + 1 = i
    · have hw := g2 e2
      rw [h3, mc_cat]
      simp [hw]
    · simp [e2]
theorem mc_store2 {G : mc_G} {ls' : Array Slot} {nL : Nat} {loc : List Value} {i : Nat} {v : Value} (hl : loc.length = nL) (h : lv_has ls' nL ((i, mc_cv G v) :: (mc_lv G loc).filter (fun q => !(q.1 == i) && (!(q.1 == i + 1) && !(q.1 + 1 == i && q.2.category == 2))))) : mc_LO G ls' nL (mc_set2 loc i v) := by
  refine ⟨mc_has_mono h fun q hq => ?_, by unfold mc_set2; rw [List.length_set, List.length_set, mc_kill_len, hl]⟩
  obtain ⟨w, h1, h2, h3⟩ := mc_lv_mem.mp hq
  unfold mc_set2 at h1
  rw [List.getElem?_set] at h1
  by_cases hi1 : i + 1 = q.1
  · rw [if_pos hi1] at h1
    split at h1
    · cases h1; exact absurd rfl h2
    · cases h1
  · rw [if_neg hi1, List.getElem?_set] at h1
    by_cases hi : i = q.1
    · rw [if_pos hi] at h1
      split at h1
      · cases h1
        refine List.mem_cons.mpr (Or.inl (Prod.ext hi.symm h3))
      · cases h1
    · rw [if_neg hi] at h1
      obtain ⟨g1, g2⟩ := mc_kill_at h1 h2
      refine List.mem_cons.mpr (Or.inr (List.mem_filter.mpr ⟨mc_lv_mem.mpr ⟨w, g1, h2, h3⟩, ?_⟩))
      have e1 : (q.1 == i) = false := by simpa using fun e => hi e.symm
      have e3 : (q.1 == i + 1) = false := by simpa using fun e => hi1 e.symm
      rw [e1, e3]
      by_cases e2 : q.1 + 1 = i
      · have hw := g2 e2
        rw [h3, mc_cat]
        simp [hw]
      · simp [e2]
