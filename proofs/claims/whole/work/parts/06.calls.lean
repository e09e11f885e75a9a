/-! ===== THE WORDS, FROM A STATE TO A WARMER ONE ===== -/
theorem mc_Wd.warm {s U : State} (h : mc_Wd s) (hW : s.WarmedH U.vm) : mc_Wd U := by
  intro a w hw
  have h1 := (List.mem_filter.mp hw).2
  have h2 := h a w hw
  rcases (Bool.or_eq_true _ _).mp h1 with g | g
  · exact word_at hW (good_of_word g) h2
  · cases w <;> first | (simp [mc_nest] at g; done) | skip
    · exact va_Nw.use rfl (va_Nw.warmM hW (va_Nw.of rfl h2))
    · exact va_Nw.use rfl (va_Nw.warmF hW (va_Nw.of rfl h2))
    · rename_i t
      cases t <;> first | (simp [mc_nest] at g; done) | exact over_moved hW.alike h2
/-! ===== A METHOD's START ===== -/
def mc_flat (vs : List Value) : List Value := vs.flatMap fun v => if v.category = 2 then [v, .retAddr 0] else [v]
def mc_entry (vs : List Value) (n : Nat) : List Value := mc_flat vs ++ List.replicate (n - (mc_flat vs).length) (.retAddr 0)
theorem mc_flat_len (G : mc_G) (vs : List Value) : (lg_sl (vs.map (mc_cv G))).length = (mc_flat vs).length := by
  induction vs with
  | nil => rfl
  | cons v vs ih =>
    unfold lg_sl mc_flat at *
    rw [List.map_cons, List.flatMap_cons, List.flatMap_cons, List.length_append, List.length_append, ih, mc_cat]
    split <;> rfl
theorem mc_flat_at (G : mc_G) : ∀ (vs : List Value) (k i : Nat) (v : Value), (mc_flat vs)[i]? = some v → v ≠ .retAddr 0 → (k + i, mc_cv G v) ∈ lv_args k (vs.map (mc_cv G)) := by
  intro vs
  induction vs with
  | nil => intro k i v h; simp [mc_flat] at h
  | cons x vs ih =>
    intro k i v h hn
    have e : mc_flat (x :: vs) = (if x.category = 2 then [x, .retAddr 0] else [x]) ++ mc_flat vs := by unfold mc_flat; rw [List.flatMap_cons]
    rw [e] at h
    rw [List.map_cons]
    unfold lv_args
    rw [mc_cat]
    by_cases hx : x.category = 2
    · rw [if_pos hx] at h ⊢
      match i with
      | 0 => cases h; exact List.mem_cons_self
      | 1 => cases h; exact absurd rfl hn
      | i + 2 =>
        have h' : (mc_flat vs)[i]? = some v := by simpa using h
        have := ih (k + 2) i v h' hn
        rw [show k + (i + 2) = k + 2 + i by omega]
        exact List.mem_cons_of_mem _ this
    · rw [if_neg hx] at h ⊢
      match i with
      | 0 => cases h; exact List.mem_cons_self
      | i + 1 =>
        have h' : (mc_flat vs)[i]? = some v := by simpa using h
        have := ih (k + 1) i v h' hn
        rw [show k + (i + 1) = k + 1 + i by omega]
        exact List.mem_cons_of_mem _ this
theorem mc_LO.entry {G : mc_G} {vs : List Value} {n : Nat} (h : (mc_flat vs).length ≤ n) : mc_LO G ((lg_sl (vs.map (mc_cv G)) ++ List.replicate (n - (lg_sl (vs.map (mc_cv G))).length) Slot.unset).toArray) n (mc_entry vs n) := by
  have h1 := lv_entry (vs.map (mc_cv G)) (n := n) (by rw [mc_flat_len]; exact h)
  refine ⟨mc_has_mono h1 fun q hq => ?_, by unfold mc_entry; simp; omega⟩
  obtain ⟨v, g1, g2, g3⟩ := mc_lv_mem.mp hq
  unfold mc_entry at g1
  by_cases hl : q.1 < (mc_flat vs).length
  · rw [List.getElem?_append_left hl] at g1
    have := mc_flat_at G vs 0 q.1 v g1 g2
    rw [Nat.zero_add, ← g3] at this
    exact this
  · rw [List.getElem?_append_right (by omega), List.getElem?_replicate] at g1
    split at g1
    · cases g1; exact absurd rfl g2
    · cases g1
/-! ===== A CONTRACT ===== -/
def mc_Pc (G : mc_G) (vs : List Value) (h : mc_H) : Array Value → State → Prop := fun v U => v = (vs.map (mc_cv G)).toArray ∧ mc_Wd U ∧ mc_K G U ∧ mc_P G h U.heap
def mc_Qc (G : mc_G) (r : Option Value) (h' : mc_H) : Array Value → State → Outcome → State → Prop := fun _ st o t => o = .returned (r.map (mc_cv G)) ∧ mc_P G h' t.heap ∧ va_F (mc_A G) st t
abbrev mc_rm (d nc ns : Nat) : Room := { frames := d, cells := nc, slots := ns, locals := 35 * d }
abbrev mc_ws (Mk : mc_M) : List Cond := [Cond.code Mk.1 Mk.2.1 Mk.2.2.1 Mk.2.2.2]
theorem mc_blind (G : mc_G) (vs : List Value) (h : mc_H) : FrameBlind (mc_Pc G vs h) := by
  intro a U g mk q
  obtain ⟨q1, q2, q3, q4⟩ := q
  exact ⟨q1, q2.warm (U := U.calling g mk a) (State.WarmedH.refl U), va_K.moved (u := U) (U := U.calling g mk a) (Vm.Alike.refl U.vm) q3, q4⟩
theorem mc_Met {Mk : mc_M} {d : Nat} {vs : List Value} {h : mc_H} {r : Option Value} {h' : mc_H} {nc ns : Nat} (k : mc_V Mk d none 0 (mc_entry vs Mk.2.2.1) [] h r h' nc ns) (hpl : plainName Mk.1.cls = true) (hvs : (mc_flat vs).length ≤ Mk.2.2.1) (l : Launch) (G : mc_G) :
    Met l Mk.1 (mc_ws Mk) (mc_rm d nc ns) (mc_Pc G vs h) (mc_Qc G r h') nc ns (mc_A G) := by
  refine Met.ofW (cc := Mk.2.1) (maxL := Mk.2.2.1) (ret := Mk.2.2.2) hpl rfl ?_
  intro p e s m args below meth c s₁ B hml hv
  obtain ⟨rfl, hWd, hK, hP⟩ := hv
  rw [lg_entry_eq]
  have hS : mc_S G s s.heap [] := ⟨va_S.rf, by rw [hP.2]; omega⟩
  have hlocks := B.notSynchronized
  refine k p l e (mc_rm d nc ns) s m _ below meth c s.heap [] 0 0 _ _ G ⟨B.exec, B.bytes, hml, B.returns, hlocks, findClass_of_methodNamed B.named, hWd, fun hn => (name_of_methodNamed B.named B.method).1.trans hn⟩ hK trivial hP hS (mc_LO.entry hvs) ⟨Nat.le_refl _, Nat.le_refl _, by show 0 + nc ≤ nc; omega, by show 0 + ns ≤ ns; omega⟩ ?_
  intro H' locs' pc' ls' P' S' hr
  rw [Nat.zero_add, Nat.zero_add]
  match r, hr with
  | none, hr => exact W.vret B.exec B.bytes (B.returns.trans hr.1) (fun t ht hW => ⟨rfl, by rw [ht]; exact P', S'.1.F ht⟩) S'.1.2.2 hr.2
  | some (.int v), hr =>
    obtain ⟨ty, h1, h2, h3⟩ := hr
    exact W.zret (v := v) B.exec B.bytes (B.returns.trans h1) h2 (fun t ht hW => ⟨rfl, by rw [ht]; exact P', S'.1.F ht⟩) S'.1.2.2 h3
  | some (.long v), hr => exact W.lret (v := v) B.exec B.bytes (B.returns.trans hr.1) (fun t ht hW => ⟨rfl, by rw [ht]; exact P', S'.1.F ht⟩) S'.1.2.2 hr.2
  | some (.float _), hr => exact absurd hr id
  | some (.double _), hr => exact absurd hr id
  | some .null, hr => exact absurd hr id
  | some (.ref _), hr => exact absurd hr id
  | some (.retAddr _), hr => exact absurd hr id
/-! ===== THE ROWS THAT CALL ===== -/
section MC
variable {Mt : mc_M} {d : Nat} {scr : Option (Nat × (Nat → Int32))} {pc : Nat} {loc stk : List Value} {h : mc_H} {r : Option Value} {h' : mc_H} {nc ns : Nat}
/-- behind a call -/
theorem mc_back {Mk : mc_M} {vs : List Value} {rc : Option Value} {hc : mc_H} {nc1 ns1 nc2 ns2 : Nat} (k : mc_V Mt (d + 1) scr (pc + 3) loc (rc.toList ++ stk) hc r h' nc2 ns2)
    {p : Program} {l : Launch} {e : Env} {R : Room} {s : State} {m : MethodId} {args : Array Value} {below : List Frame} {meth : Method} {c : Code} {H : Heap} {locs : List Loc} {cells slots : Nat} {Q : State → Prop} {ls : Array Slot} {G : mc_G} {st0 : List Value}
    (C : mc_C Mt p s m meth c) (K : mc_K G s) (X : mc_X G s scr) (S : mc_S G s H locs) (L : mc_LO G ls Mt.2.2.1 loc) (hR : d + 1 ≤ R.frames ∧ 35 * (d + 1) ≤ R.locals ∧ cells + (nc1 + nc2) ≤ R.cells ∧ slots + (ns1 + ns2) ≤ R.slots)
    (E : ∀ (H' : Heap) (locs' : List Loc) (pc' : Nat) (ls' : Array Slot), mc_P G h' H' → mc_S G s H' locs' → mc_ret Mt pc' r → W p l e R s m args below meth c H' locs' (cells + (nc1 + nc2)) (slots + (ns1 + ns2)) Q (F0 m pc' ls' (r.toList.map (mc_cv G))))
    (a : Array Value) (hrun : va_Run p l e R s m args below meth c H locs cells slots nc1 ns1 (F0 m pc ls st0) (stk.map (mc_cv G)) (mc_Qc G rc hc a) (mc_A G)) : W p l e R s m args below meth c H locs cells slots Q (F0 m pc ls st0) := by
  intro T hT Xs
  obtain ⟨v, st₀, t, T', L1, h0, X', hL, e1, e2, hq, st⟩ := hrun T hT Xs
  obtain ⟨hv, hP1, hF⟩ := hq
  cases hv
  have hS' : mc_S G s T'.heap (locs ++ L1) := by
    refine ⟨⟨?_, fun q g1 g2 => ?_, fun q hq => ?_⟩, S.2⟩
    · rw [e1]; have := S.1.1; have := hF.1; rw [h0] at this; omega
    · rw [e1, hF.2 q (by rw [h0]; exact Nat.lt_of_lt_of_le g1 S.1.1) g2, h0]; exact S.1.2.1 q g1 g2
    · rcases List.mem_append.mp hq with g | g
      · exact S.1.2.2 q g
      · exact hL q g
  obtain ⟨t2, a1, b1⟩ := k p l e R s m args below meth c T'.heap (locs ++ L1) (cells + nc1) (slots + ns1) Q ls G C K X (by rw [e1]; exact hP1) hS' L ⟨hR.1, hR.2.1, by have := hR.2.2.1; omega, by have := hR.2.2.2; omega⟩ (fun H' locs' pc' ls' P' S' hr => by rw [Nat.add_assoc, Nat.add_assoc]; exact E H' locs' pc' ls' P' S' hr) T' rfl X'
  refine ⟨t2, st t2 ?_, b1⟩
  have e9 : (rc.toList ++ stk).map (mc_cv G) = (rc.map (mc_cv G)).toList ++ stk.map (mc_cv G) := by
    rw [List.map_append]
    cases rc <;> rfl
  rw [e9] at a1
  exact a1
theorem mc_np {y : MethodName} {n : Nat} (h : (parseMethodDescriptor y.desc).map (fun d => d.parameters.length) = some n) : ∀ sig, parseMethodDescriptor y.desc = some sig → n = sig.parameters.length := by
  intro sig hs
  rw [hs] at h
  exact (Option.some.inj h).symm
/-- the facts of a callee that its caller needs: y.cls, number of parameters -/
def mc_ok (Mk : mc_M) (n : Nat) : Prop := plainName Mk.1.cls = true ∧ (Mk.1.cls ≠ "java/lang/invoke/MethodHandle" ∧ Mk.1.cls ≠ "java/lang/invoke/VarHandle") ∧ (parseMethodDescriptor Mk.1.desc).map (fun d => d.parameters.length) = some n ∧ Mk.2.2.1 ≤ 16 ∧ Cond.code Mk.1 Mk.2.1 Mk.2.2.1 Mk.2.2.2 ∈ mc_tbl ∧ Cond.initialized Mk.1.cls ∈ mc_tbl
theorem mc_callB {Mk : mc_M} {n idx d nc1 ns1 : Nat} {R : Room} {s : State} {args : Array Value} {own : String} (hk : mc_ok Mk n) (hW : mc_Wd s) (hw : Cond.methodLink own idx Mk.1 ∈ mc_tbl) (h1 : d + 1 ≤ R.frames) (h2 : 35 * (d + 1) ≤ R.locals) : CallB R s args own idx Mk.1 Mk.2.1 Mk.2.2.1 Mk.2.2.2 (mc_ws Mk) (mc_rm d nc1 ns1) nc1 ns1 n := by
  obtain ⟨-, k2, k3, k4, k5, k6⟩ := hk
  refine ⟨rfl, rfl, h1, by show 8 + (Mk.2.2.1 + 11) + 35 * d ≤ _; omega, fun w hw a' U hU => ?_, List.mem_cons_self, hW _ _ k5, hW _ _ k6, k2, mc_np k3, hW _ _ hw⟩
  have : w = Cond.code Mk.1 Mk.2.1 Mk.2.2.1 Mk.2.2.2 := by simpa using hw
  subst this
  exact hW.warm hU _ _ k5
theorem mc_callN {Mk : mc_M} {n idx d nc1 ns1 : Nat} {R : Room} {s : State} {args : Array Value} {own host : String} (hk : mc_ok Mk n) (hW : mc_Wd s) (hw : Cond.methodLinkNest own idx Mk.1 host ∈ mc_tbl) (h1 : d + 1 ≤ R.frames) (h2 : 35 * (d + 1) ≤ R.locals) : va_CN R s args own idx Mk.1 host Mk.2.1 Mk.2.2.1 Mk.2.2.2 (mc_ws Mk) (mc_rm d nc1 ns1) nc1 ns1 n := by
  obtain ⟨-, k2, k3, k4, k5, k6⟩ := hk
  refine ⟨⟨rfl, rfl, h1, by show 8 + (Mk.2.2.1 + 11) + 35 * d ≤ _; omega, fun w hw a' U hU => ?_, List.mem_cons_self⟩, hW _ _ k5, hW _ _ k6, k2, mc_np k3, hW _ _ hw⟩
  have : w = Cond.code Mk.1 Mk.2.1 Mk.2.2.1 Mk.2.2.2 := by simpa using hw
  subst this
  exact hW.warm hU _ _ k5
theorem mc_roomW {G : mc_G} {st : List Value} (h : (st.map fun v => v.category).sum ≤ 8) : ((st.map (mc_cv G)).map fun v => v.category).sum ≤ 8 := by
  rw [List.map_map]
  have : ((fun v => v.category) ∘ mc_cv G) = fun v => v.category := funext fun v => mc_cat G v
  rw [this]
  exact h
theorem mc_preS {G : mc_G} {vs : List Value} {s : State} {H : Heap} (C : mc_Wd s) (K : mc_K G s) (P : mc_P G h H) : PreS s H (mc_Pc G vs h) (vs.map (mc_cv G)) :=
  ⟨mc_blind G vs h, fun U hU hW => ⟨rfl, C.warm hW, va_K.moved hW.alike K, by rw [hU]; exact P⟩⟩
theorem mr_callS {Mk : mc_M} {idx n : Nat} {stk0 : List Value} {rc : Option Value} {hc : mc_H} {nc1 ns1 nc2 ns2 : Nat} (vs : List Value) (hok : mc_ok Mk n) (hw : Cond.methodLink Mt.1.cls idx Mk.1 ∈ mc_tbl) (hst : Cond.static Mk.1 ∈ mc_tbl) (hd : decode Mt.2.1 pc = .ok (.invokestatic idx, 3)) (hs : stk0 = vs.reverse ++ stk) (hn : vs.length = n) (hvs : (mc_flat vs).length ≤ Mk.2.2.1) (hm : (stk.map fun v => v.category).sum ≤ 8)
    (kc : mc_V Mk d none 0 (mc_entry vs Mk.2.2.1) [] h rc hc nc1 ns1) (k : mc_V Mt (d + 1) scr (pc + 3) loc (rc.toList ++ stk) hc r h' nc2 ns2) : mc_V Mt (d + 1) scr pc loc stk0 h r h' (nc1 + nc2) (ns1 + ns2) := by
  intro p l e R s m args below meth c H locs cells slots Q ls G C K X P S L hR E
  have hM := mc_Met kc hok.1 hvs l G
  refine mc_back (Mk := Mk) (vs := vs) k C K X S L hR E _ (va_runS (Ts := mc_tbl) ⟨C.1, C.2.1, C.2.2.1, C.2.2.2.2.2.1, fun w h => C.2.2.2.2.2.2.1 _ w h⟩ hM ⟨mc_callB hok C.2.2.2.2.2.2.1 hw hR.1 hR.2.1, C.2.2.2.2.2.2.1 _ _ hst⟩ (mc_preS C.2.2.2.2.2.2.1 K P) rfl (by rw [List.length_map]; exact hn) L.1.1 (by rw [hs, List.map_append, List.map_reverse]) (lv_room (mc_roomW hm)) hd ⟨by have := hR.2.2.1; omega, by have := hR.2.2.2; omega⟩)
theorem mr_callSN {Mk : mc_M} {idx n : Nat} {stk0 : List Value} {rc : Option Value} {hc : mc_H} {nc1 ns1 nc2 ns2 : Nat} {host : String} (vs : List Value) (hok : mc_ok Mk n) (hw : Cond.methodLinkNest Mt.1.cls idx Mk.1 host ∈ mc_tbl) (hst : Cond.static Mk.1 ∈ mc_tbl) (hd : decode Mt.2.1 pc = .ok (.invokestatic idx, 3)) (hs : stk0 = vs.reverse ++ stk) (hn : vs.length = n) (hvs : (mc_flat vs).length ≤ Mk.2.2.1) (hm : (stk.map fun v => v.category).sum ≤ 8)
    (kc : mc_V Mk d none 0 (mc_entry vs Mk.2.2.1) [] h rc hc nc1 ns1) (k : mc_V Mt (d + 1) scr (pc + 3) loc (rc.toList ++ stk) hc r h' nc2 ns2) : mc_V Mt (d + 1) scr pc loc stk0 h r h' (nc1 + nc2) (ns1 + ns2) := by
  intro p l e R s m args below meth c H locs cells slots Q ls G C K X P S L hR E
  have hM := mc_Met kc hok.1 hvs l G
  refine mc_back (Mk := Mk) (vs := vs) k C K X S L hR E _ (va_runSN (Ts := mc_tbl) ⟨C.1, C.2.1, C.2.2.1, C.2.2.2.2.2.1, fun w h => C.2.2.2.2.2.2.1 _ w h⟩ hM ⟨mc_callN hok C.2.2.2.2.2.2.1 hw hR.1 hR.2.1, C.2.2.2.2.2.2.1 _ _ hst, trivial⟩ (mc_preS C.2.2.2.2.2.2.1 K P) rfl (by rw [List.length_map]; exact hn) L.1.1 (by rw [hs, List.map_append, List.map_reverse]) (lv_room (mc_roomW hm)) hd ⟨by have := hR.2.2.1; omega, by have := hR.2.2.2; omega⟩)
theorem mr_callV {Mk : mc_M} {a ci idx n : Nat} {C0 : String} {T : u_T} {N : Nat} {fs : List Value} {stk0 : List Value} {rc : Option Value} {hc : mc_H} {nc1 ns1 nc2 ns2 : Nat} (vs : List Value) (hok : mc_ok Mk n) (hw : Cond.methodLink Mt.1.cls idx Mk.1 ∈ mc_tbl) (hst : Cond.instanceMethod Mk.1 ∈ mc_tbl) (hse : Cond.selects C0 Mk.1 Mk.1 ∈ mc_tbl) (hd : decode Mt.2.1 pc = .ok (.invokevirtual idx, 3)) (hcl : mc_cl[ci]? = some (C0, T, N)) (ha : h[a]? = some (.inl (ci, fs))) (hs : stk0 = vs.reverse ++ .ref (a + 1) :: stk) (hn : vs.length = n) (hvs : (mc_flat (.ref (a + 1) :: vs)).length ≤ Mk.2.2.1) (hm : (stk.map fun v => v.category).sum ≤ 8)
    (kc : mc_V Mk d none 0 (mc_entry (.ref (a + 1) :: vs) Mk.2.2.1) [] h rc hc nc1 ns1) (k : mc_V Mt (d + 1) scr (pc + 3) loc (rc.toList ++ stk) hc r h' nc2 ns2) : mc_V Mt (d + 1) scr pc loc stk0 h r h' (nc1 + nc2) (ns1 + ns2) := by
  intro p l e R s m args below meth c H locs cells slots Q ls G C K X P S L hR E
  have hM := mc_Met kc hok.1 hvs l G
  refine mc_back (Mk := Mk) (vs := .ref (a + 1) :: vs) k C K X S L hR E _ (va_runV (Ts := mc_tbl) (b := mc_ad G (a + 1)) (As := vs.map (mc_cv G)) ⟨C.1, C.2.1, C.2.2.1, C.2.2.2.2.2.1, fun w h => C.2.2.2.2.2.2.1 _ w h⟩ hM ⟨mc_callB hok C.2.2.2.2.2.2.1 hw hR.1 hR.2.1, C.2.2.2.2.2.2.1 _ _ hst, C.2.2.2.2.2.2.1 _ _ hse⟩ ⟨mc_blind G _ h, va_recv K P.1 hcl (mc_W_get ha), (mc_preS (vs := .ref (a + 1) :: vs) C.2.2.2.2.2.2.1 K P).2⟩ rfl (by rw [List.length_map]; exact hn) L.1.1 (by rw [hs, List.map_append, List.map_reverse]; rfl) (lv_room (mc_roomW hm)) hd ⟨by have := hR.2.2.1; omega, by have := hR.2.2.2; omega⟩)
theorem mr_callI {Mk : mc_M} {a idx n : Nat} {stk0 : List Value} {rc : Option Value} {hc : mc_H} {nc1 ns1 nc2 ns2 : Nat} (vs : List Value) (hok : mc_ok Mk n) (hnm : Mk.1.name = "<init>") (hvd : Mk.2.2.2 = none) (hw : Cond.methodLink Mt.1.cls idx Mk.1 ∈ mc_tbl) (hst : Cond.instanceMethod Mk.1 ∈ mc_tbl) (hd : decode Mt.2.1 pc = .ok (.invokespecial idx, 3)) (hs : stk0 = vs.reverse ++ .ref (a + 1) :: stk) (hn : vs.length = n) (hvs : (mc_flat (.ref (a + 1) :: vs)).length ≤ Mk.2.2.1) (hm : (stk.map fun v => v.category).sum ≤ 8)
    (kc : mc_V Mk d none 0 (mc_entry (.ref (a + 1) :: vs) Mk.2.2.1) [] h rc hc nc1 ns1) (k : mc_V Mt (d + 1) scr (pc + 3) loc (rc.toList ++ stk) hc r h' nc2 ns2) : mc_V Mt (d + 1) scr pc loc stk0 h r h' (nc1 + nc2) (ns1 + ns2) := by
  intro p l e R s m args below meth c H locs cells slots Q ls G C K X P S L hR E
  have hM := mc_Met kc hok.1 hvs l G
  refine mc_back (Mk := Mk) (vs := .ref (a + 1) :: vs) k C K X S L hR E _ (va_runI (Ts := mc_tbl) (b := mc_ad G (a + 1)) (As := vs.map (mc_cv G)) ⟨C.1, C.2.1, C.2.2.1, C.2.2.2.2.2.1, fun w h => C.2.2.2.2.2.2.1 _ w h⟩ hM ⟨hvd ▸ mc_callB hok C.2.2.2.2.2.2.1 hw hR.1 hR.2.1, hnm, C.2.2.2.2.2.2.1 _ _ hst⟩ (mc_preS (vs := .ref (a + 1) :: vs) C.2.2.2.2.2.2.1 K P) rfl (by rw [List.length_map]; exact hn) L.1.1 (by rw [hs, List.map_append, List.map_reverse]; rfl) (lv_room (mc_roomW hm)) hd ⟨by have := hR.2.2.1; omega, by have := hR.2.2.2; omega⟩)
theorem mr_callIN {Mk : mc_M} {a idx n : Nat} {stk0 : List Value} {rc : Option Value} {hc : mc_H} {nc1 ns1 nc2 ns2 : Nat} {host : String} (vs : List Value) (hok : mc_ok Mk n) (hnm : Mk.1.name = "<init>") (hvd : Mk.2.2.2 = none) (hw : Cond.methodLinkNest Mt.1.cls idx Mk.1 host ∈ mc_tbl) (hst : Cond.instanceMethod Mk.1 ∈ mc_tbl) (hd : decode Mt.2.1 pc = .ok (.invokespecial idx, 3)) (hs : stk0 = vs.reverse ++ .ref (a + 1) :: stk) (hn : vs.length = n) (hvs : (mc_flat (.ref (a + 1) :: vs)).length ≤ Mk.2.2.1) (hm : (stk.map fun v => v.category).sum ≤ 8)
    (kc : mc_V Mk d none 0 (mc_entry (.ref (a + 1) :: vs) Mk.2.2.1) [] h rc hc nc1 ns1) (k : mc_V Mt (d + 1) scr (pc + 3) loc (rc.toList ++ stk) hc r h' nc2 ns2) : mc_V Mt (d + 1) scr pc loc stk0 h r h' (nc1 + nc2) (ns1 + ns2) := by
  intro p l e R s m args below meth c H locs cells slots Q ls G C K X P S L hR E
  have hM := mc_Met kc hok.1 hvs l G
  refine mc_back (Mk := Mk) (vs := .ref (a + 1) :: vs) k C K X S L hR E _ (va_runIN (Ts := mc_tbl) (b := mc_ad G (a + 1)) (As := vs.map (mc_cv G)) ⟨C.1, C.2.1, C.2.2.1, C.2.2.2.2.2.1, fun w h => C.2.2.2.2.2.2.1 _ w h⟩ hM ⟨hvd ▸ mc_callN hok C.2.2.2.2.2.2.1 hw hR.1 hR.2.1, hnm, C.2.2.2.2.2.2.1 _ _ hst⟩ (mc_preS (vs := .ref (a + 1) :: vs) C.2.2.2.2.2.2.1 K P) rfl (by rw [List.length_map]; exact hn) L.1.1 (by rw [hs, List.map_append, List.map_reverse]; rfl) (lv_room (mc_roomW hm)) hd ⟨by have := hR.2.2.1; omega, by have := hR.2.2.2; omega⟩)
/-! returns -/
theorem mr_ret (hr : Mt.2.2.2 = none) (hd : decode Mt.2.1 pc = .ok (.return_, 1)) : mc_V Mt d scr pc loc [] h none h 0 0 := by
  intro p l e R s m args below meth c H locs cells slots Q ls G C K X P S L hR E
  exact E H locs pc ls P S ⟨hr, hd⟩
theorem mr_iret {ty : FieldType} {v : Int32} (hr : Mt.2.2.2 = some ty) (hn : narrow ty (.int v) = .int v) (hd : decode Mt.2.1 pc = .ok (.ireturn, 1)) : mc_V Mt d scr pc loc [.int v] h (some (.int v)) h 0 0 := by
  intro p l e R s m args below meth c H locs cells slots Q ls G C K X P S L hR E
  exact E H locs pc ls P S ⟨ty, hr, hn, hd⟩
theorem mr_lret {v : Int64} (hr : Mt.2.2.2 = some .long) (hd : decode Mt.2.1 pc = .ok (.lreturn, 1)) : mc_V Mt d scr pc loc [.long v] h (some (.long v)) h 0 0 := by
  intro p l e R s m args below meth c H locs cells slots Q ls G C K X P S L hR E
  exact E H locs pc ls P S ⟨hr, hd⟩
/-! Object's own start -/
theorem mr_objInit {a idx : Nat} (hw : Cond.methodLink Mt.1.cls idx Lib.objectInit ∈ mc_tbl) (hi : Cond.instanceMethod Lib.objectInit ∈ mc_tbl) (hcd : Cond.code Lib.objectInit ⟨#[0xb1]⟩ 1 none ∈ mc_tbl) (hd : decode Mt.2.1 pc = .ok (.invokespecial idx, 3)) (hm : (stk.map fun v => v.category).sum ≤ 8)
    (k : mc_V Mt (d + 1) scr (pc + 3) loc stk h r h' nc ns) : mc_V Mt (d + 1) scr pc loc (.ref a :: stk) h r h' nc ns := by
  intro p l e R s m args below meth c H locs cells slots Q ls G C K X P S L hR E
  have hrm := mc_roomW (G := G) hm
  refine W.objInit C.1 C.2.1 C.2.2.2.2.2.1 (C.2.2.2.2.2.2.1 _ _ hw) (C.2.2.2.2.2.2.1 _ _ hi) (C.2.2.2.2.2.2.1 _ _ hcd) rfl (L.1.1.trans C.2.2.1.symm) rfl hd (by have := hR.1; omega) (by show 2 * 0 + _ + 12 ≤ _; have := hR.2.1; omega) ?_
  exact k p l e R s m args below meth c H locs cells slots Q ls G C K X P S L hR E
end MC
