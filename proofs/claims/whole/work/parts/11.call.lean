section AWR6
variable {E : gE} {y : MethodName} {cc : ByteArray} {ret : Option FieldType} {nL d : Nat} {r : Option Value} {h0 hf h : hp} {pc pc' : Nat} {lv lv' : List (Nat × Value)} {st st' : List Value}
theorem AW.endE (h : hp) {Q : Prop} (k : hN h0 ≤ hN h → hL h0 ≤ hL h → ∀ (p : Program) (l : Launch) (e : Env) (s : State) (m : MethodId) (args : Array Value) (below : List Frame) (meth : Method) (c : Code), g_Cx E y cc ret nL p s m args meth c → ∀ (ls : Array Slot) (H : Heap) (locs : List Loc), lv_has ls nL (lvm E lv) → g_P E h H → va_S (g_A E) s.heap H locs →
    W p l e (g_rm d (hN h - hN h0) (hL h - hL h0)) s m args below meth c H locs (hN h - hN h0) (hL h - hL h0) (MQ below (g_Q E r h) args s (hN h - hN h0) (hL h - hL h0) (g_A E)) (F0 m pc ls (stm E st))) : AW E y cc ret nL d r h0 h pc lv st h := ⟨⟨Nat.le_refl _, Nat.le_refl _⟩, k⟩
theorem g_F {s t : State} {H : Heap} {locs : List Loc} (hS : va_S (g_A E) s.heap H locs) (ht : t.heap = H) : va_F (g_A E) s t := hS.F ht
theorem a_ireturn {x : Int32} (hdg : decode cc pc = .ok (.ireturn, 1)) (hret : ret = some .int) : AW E y cc ret nL d (some (.int x)) h0 h pc lv [.int x] h :=
  AW.endE (Q := True) h fun g1 g2 p l e s m args below meth c C ls H locs hl hP hS => W.iret (v := x) C.1 C.2.1 (C.2.2.1.trans hret) (fun t ht hW => ⟨rfl, by rw [ht]; exact hP, hS.F ht⟩) hS.2.2 hdg C.2.2.2.2.2.2.1
theorem a_zreturn {x : Int32} (hdg : decode cc pc = .ok (.ireturn, 1)) (hret : ret = some .boolean) (hx : x = 0 ∨ x = 1) : AW E y cc ret nL d (some (.int x)) h0 h pc lv [.int x] h :=
  AW.endE (Q := True) h fun g1 g2 p l e s m args below meth c C ls H locs hl hP hS => W.zret (v := x) (ty := .boolean) C.1 C.2.1 (C.2.2.1.trans hret) (by rcases hx with rfl | rfl <;> rfl) (fun t ht hW => ⟨rfl, by rw [ht]; exact hP, hS.F ht⟩) hS.2.2 hdg C.2.2.2.2.2.2.1
theorem a_lreturn {x : Int64} (hdg : decode cc pc = .ok (.lreturn, 1)) (hret : ret = some .long) : AW E y cc ret nL d (some (.long x)) h0 h pc lv [.long x] h :=
  AW.endE (Q := True) h fun g1 g2 p l e s m args below meth c C ls H locs hl hP hS => W.lret (v := x) C.1 C.2.1 (C.2.2.1.trans hret) (fun t ht hW => ⟨rfl, by rw [ht]; exact hP, hS.F ht⟩) hS.2.2 hdg C.2.2.2.2.2.2.1
theorem a_freturn {x : UInt32} (hdg : decode cc pc = .ok (.freturn, 1)) (hret : ret = some .float) : AW E y cc ret nL d (some (.float x)) h0 h pc lv [.float x] h :=
  AW.endE (Q := True) h fun g1 g2 p l e s m args below meth c C ls H locs hl hP hS => W.fret (v := x) C.1 C.2.1 (C.2.2.1.trans hret) (fun t ht hW => ⟨rfl, by rw [ht]; exact hP, hS.F ht⟩) hS.2.2 hdg C.2.2.2.2.2.2.1
theorem a_areturn {x : Nat} (hdg : decode cc pc = .ok (.areturn, 1)) {rt : FieldType} (hret : ret = some rt) (hrt : (∃ n, rt = .object n) ∨ ∃ t, rt = .array t) : AW E y cc ret nL d (some (.ref x)) h0 h pc lv [.ref x] h :=
  AW.endE (Q := True) h fun g1 g2 p l e s m args below meth c C ls H locs hl hP hS => W.aret (v := va_rf (g_on E x)) C.1 C.2.1 (C.2.2.1.trans hret) hrt (by cases g_on E x <;> first | exact Or.inl rfl | exact Or.inr ⟨_, rfl⟩) (fun t ht hW => ⟨rfl, by rw [ht]; exact hP, hS.F ht⟩) hS.2.2 hdg C.2.2.2.2.2.2.1
theorem a_return (hdg : decode cc pc = .ok (.return_, 1)) (hret : ret = none) : AW E y cc ret nL d none h0 h pc lv [] h :=
  AW.endE (Q := True) h fun g1 g2 p l e s m args below meth c C ls H locs hl hP hS => W.vret C.1 C.2.1 (C.2.2.1.trans hret) (fun t ht hW => ⟨rfl, by rw [ht]; exact hP, hS.F ht⟩) hS.2.2 hdg C.2.2.2.2.2.2.1
theorem g_nt {w : Cond} (h : w ∈ g_nest) : w.onTables = true := by
  have h1 := (List.mem_filter.mp h).2
  revert h1
  cases w <;> first | (intro h1; rfl) | (intro h1; cases h1)
theorem g_nw {w : Cond} (h : w ∈ g_nest) {s U : State} (hW : s.WarmedH U.vm) (hz : va_Nw w s) : va_Nw w U := by
  have h1 := (List.mem_filter.mp h).2
  revert h1 hz
  cases w <;> intro hz h1 <;> first | exact va_Nw.warmF hW hz | exact va_Nw.warmM hW hz | (cases h1; done)
theorem g_St.to {s U : State} {H : Heap} {locs : List Loc} (h : g_St E s s.heap) (hW : s.WarmedH U.vm) (hS : va_S (g_A E) s.heap H locs) : g_St E U H :=
  ⟨fun w hw => g_nw hw hW (h.1 w hw), fun C hC => va_AO.moved hW.alike (h.2.1 C hC), vk_R.warm hW h.2.2.1, (g_S2.moved hW.alike h.2.2.2).kept fun a h1 h2 => hS.2.1 a h1 h2⟩
theorem g_blind {as : List Value} : FrameBlind (va_Pc (stm E as) (fun U => g_P E h U.heap ∧ va_K E.2.1 vwCl (g_tys E) U ∧ g_St E U U.heap)) := by
  intro a U g mk q
  obtain ⟨q1, q2, q3, q4⟩ := q
  exact ⟨q1, q2, va_K.moved (u := U) (U := U.calling g mk a) (Vm.Alike.refl U.vm) q3, fun w hw => va_Nw.same (u := U) (g_nt hw) rfl (q4.1 w hw), fun C hC => va_AO.moved (Vm.Alike.refl U.vm) (q4.2.1 C hC), vk_R.same (u := U) rfl q4.2.2.1, g_S2.moved (Vm.Alike.refl U.vm) q4.2.2.2⟩
theorem g_good {w : Cond} (h : w ∈ lw_good) : w ∈ lw_good ∧ ((w.onTables && w.keeps) = true ∨ ∃ ty, w = .arrayClass ty) := ⟨h, good_of_word (List.mem_filter.mp h).2⟩
/-- from the entry -/
theorem MC.of {as : List Value} {r : Option Value} {h' : hp} (hy : plainFor y = true) (hn : (lg_sl as).length ≤ nL) (hd : (as.map Value.category).sum = (lg_sl as).length) (k : AW E y cc ret nL d r h h' 0 (lv_args 0 as) [] h) : MC E y cc ret nL d as h r h' := by
  refine ⟨k.1, fun l => ?_⟩
  refine va_MetF (cc := cc) (maxL := nL) (ret := ret) hy rfl ?_
  intro p e s m args below meth c s₁ B hml hv
  obtain ⟨rfl, hP, hK, hSt⟩ := hv
  have hts := atoms_spec (ws := Cond.code y cc nL ret :: lw_good) B.pre
  have hC : g_Cx E y cc ret nL p s m (stm E as).toArray meth c := ⟨B.exec, B.bytes, B.returns, hml, findClass_of_methodNamed B.named, fun w hw => hts w (List.mem_cons_of_mem _ hw), B.notSynchronized, (name_of_methodNamed B.named B.method).1, hK, hSt, by rw [hP.1]; omega⟩
  have hlen : ∀ as : List Value, (lg_sl (stm E as)).length = (lg_sl as).length := by
    intro as
    induction as with
    | nil => rfl
    | cons v t ih =>
      have e1 : ∀ (v : Value) (t : List Value), (lg_sl (v :: t)).length = v.category + (lg_sl t).length := by
        intro v t
        simp only [lg_sl, List.flatMap_cons, List.length_append]
        congr 1
        cases v <;> rfl
      show (lg_sl (g_v E v :: stm E t)).length = _
      rw [e1, e1, g_cat, ih]
  have harg : ∀ (as : List Value) (i : Nat), lv_args i (stm E as) = lvm E (lv_args i as) := by
    intro as
    induction as with
    | nil => intro i; rfl
    | cons v t ih =>
      intro i
      show (i, g_v E v) :: lv_args (if (g_v E v).category = 2 then i + 2 else i + 1) (stm E t) = (i, g_v E v) :: lvm E (lv_args (if v.category = 2 then i + 2 else i + 1) t)
      rw [g_cat, ih]
  have hl := lv_entry (stm E as) (n := nL) (by rw [hlen]; exact hn)
  rw [harg] at hl
  rw [lg_entry_eq]
  have h2 := k.2 (Nat.le_refl _) (Nat.le_refl _) p l e s m (stm E as).toArray below meth c hC _ s.heap [] hl hP va_S.rf
  rw [Nat.sub_self, Nat.sub_self] at h2
  exact h2
/-- behind a call -/
theorem AW.back {p : Program} {l : Launch} {e : Env} {s : State} {m : MethodId} {args : Array Value} {below : List Frame} {meth : Method} {c : Code} {ls : Array Slot} {H : Heap} {locs : List Loc} {st0 : List Value} {r1 : Option Value} {h1 : hp} {a' : Array Value}
    (hr : va_Run p l e (g_rm d (hN hf - hN h0) (hL hf - hL h0)) s m args below meth c H locs (hN h - hN h0) (hL h - hL h0) (hN h1 - hN h) (hL h1 - hL h) (F0 m pc ls st0) (stm E st) (g_Q E r1 h1 a') (g_A E))
    (hm : hN h ≤ hN h1 ∧ hL h ≤ hL h1) (g1 : hN h0 ≤ hN h) (g2 : hL h0 ≤ hL h) (C : g_Cx E y cc ret nL p s m args meth c) (hl : lv_has ls nL (lvm E lv)) (hS : va_S (g_A E) s.heap H locs) (kk : AW E y cc ret nL d r h0 hf (pc + 3) lv (r1.toList ++ st) h1) :
    W p l e (g_rm d (hN hf - hN h0) (hL hf - hL h0)) s m args below meth c H locs (hN h - hN h0) (hL h - hL h0) (MQ below (g_Q E r hf) args s (hN hf - hN h0) (hL hf - hL h0) (g_A E)) (F0 m pc ls st0) := by
  intro T hT X
  obtain ⟨v, st₀, t, T', L, e0, X', hL1, e1, e2, ⟨hv, hP1, hz, hk⟩, stp⟩ := hr T hT X
  cases hv
  rw [e0] at hz hk
  rw [show hN h - hN h0 + (hN h1 - hN h) = hN h1 - hN h0 by omega, show hL h - hL h0 + (hL h1 - hL h) = hL h1 - hL h0 by omega] at X'
  have hSn : va_S (g_A E) s.heap T'.heap (locs ++ L) := ⟨Nat.le_trans hS.1 (by rw [e1]; exact hz), fun q h1 h2 => by rw [e1, hk q (Nat.lt_of_lt_of_le h1 hS.1) h2]; exact hS.2.1 q h1 h2, fun q hq => by
      rcases List.mem_append.mp hq with h | h
      · exact hS.2.2 q h
      · exact hL1 q h⟩
  obtain ⟨t2, a1, b1⟩ := kk.2 (by omega) (by omega) p l e s m args below meth c C ls T'.heap (locs ++ L) hl (by rw [e1]; exact hP1) hSn T' rfl X'
  refine ⟨t2, stp t2 ?_, b1⟩
  have es : stm E (r1.toList ++ st) = (r1.map (g_v E)).toList ++ stm E st := by
    cases r1 <;> rfl
  rw [es] at a1
  exact a1
/-- the words of a call: the link, the method, its code -/
def g_cw (own : String) (ix : Nat) (z : MethodName) (cz : ByteArray) (nz : Nat) (rz : Option FieldType) (np : Nat) : Prop :=
  (Cond.methodLink own ix z ∈ lw_good ∨ ∃ host, Cond.methodLinkNest own ix z host ∈ g_nest) ∧ Cond.code z cz nz rz ∈ lw_good ∧ Cond.initialized z.cls ∈ lw_good ∧ (z.cls ≠ "java/lang/invoke/MethodHandle" ∧ z.cls ≠ "java/lang/invoke/VarHandle" ∧ (parseMethodDescriptor z.desc).map (fun d => d.parameters.length) = some np)
theorem g_cB {ix np d1 : Nat} {z : MethodName} {cz : ByteArray} {nz mc ms : Nat} {rz : Option FieldType} {p : Program} {s : State} {m : MethodId} {args : Array Value} {meth : Method} {c : Code} {n k : Nat} (C : g_Cx E y cc ret nL p s m args meth c) (hd : d1 + 1 ≤ d) (hnz : nz ≤ 40) (hl : Cond.methodLink y.cls ix z ∈ lw_good) (hcode : Cond.code z cz nz rz ∈ lw_good) (hini : Cond.initialized z.cls ∈ lw_good) (hdd : z.cls ≠ "java/lang/invoke/MethodHandle" ∧ z.cls ≠ "java/lang/invoke/VarHandle" ∧ (parseMethodDescriptor z.desc).map (fun d => d.parameters.length) = some np) :
    CallB (g_rm d n k) s args y.cls ix z cz nz rz (Cond.code z cz nz rz :: lw_good) (g_rm d1 mc ms) mc ms np :=
  callB_of np C.2.2.2.2.2.1 (fun w hw => by rcases List.mem_cons.mp hw with rfl | hw; · exact g_good hcode
                                            · exact g_good hw) rfl rfl rfl (C.2.2.2.2.2.1 _ hini) (C.2.2.2.2.2.1 _ hl) hdd ⟨hd, by show 8 + (nz + 11) + 64 * d1 ≤ 64 * d; omega⟩
theorem g_cN {ix np d1 : Nat} {z : MethodName} {cz : ByteArray} {nz mc ms : Nat} {rz : Option FieldType} {p : Program} {s : State} {m : MethodId} {args : Array Value} {meth : Method} {c : Code} {n k : Nat} {host : String} (C : g_Cx E y cc ret nL p s m args meth c) (hd : d1 + 1 ≤ d) (hnz : nz ≤ 40) (hl : Cond.methodLinkNest y.cls ix z host ∈ g_nest) (hcode : Cond.code z cz nz rz ∈ lw_good) (hini : Cond.initialized z.cls ∈ lw_good) (hdd : z.cls ≠ "java/lang/invoke/MethodHandle" ∧ z.cls ≠ "java/lang/invoke/VarHandle" ∧ (parseMethodDescriptor z.desc).map (fun d => d.parameters.length) = some np) :
    va_CN (g_rm d n k) s args y.cls ix z host cz nz rz (Cond.code z cz nz rz :: lw_good) (g_rm d1 mc ms) mc ms np :=
  va_cnB np C.2.2.2.2.2.1 (fun w hw => by rcases List.mem_cons.mp hw with rfl | hw; · exact g_good hcode
                                          · exact g_good hw) rfl rfl rfl (C.2.2.2.2.2.2.2.2.2.1.1 _ hl) (C.2.2.2.2.2.1 _ hini) hdd ⟨hd, by show 8 + (nz + 11) + 64 * d1 ≤ 64 * d; omega⟩
theorem g_pc {as : List Value} {p : Program} {s : State} {m : MethodId} {args : Array Value} {meth : Method} {c : Code} {H : Heap} {locs : List Loc} (C : g_Cx E y cc ret nL p s m args meth c) (hP : g_P E h H) (hS : va_S (g_A E) s.heap H locs) : ∀ U : State, U.heap = H → s.WarmedH U.vm → va_Pc (stm E as) (fun U => g_P E h U.heap ∧ va_K E.2.1 vwCl (g_tys E) U ∧ g_St E U U.heap) (stm E as).toArray U :=
  fun U hU hW => ⟨rfl, by rw [hU]; exact hP, va_K.moved hW.alike C.2.2.2.2.2.2.2.2.1, by rw [hU]; exact g_St.to C.2.2.2.2.2.2.2.2.2.1 hW hS⟩
theorem g_rs (E : gE) (as st : List Value) : stm E (as.reverse ++ st) = (stm E as).reverse ++ stm E st := by
  simp [stm]
theorem g_room {st0 : List Value} (h : (st.map fun v => v.category).sum ≤ 8) : ((stm E st).map fun v => v.category).sum ≤ 8 := by
  have e : (stm E st).map (fun v => v.category) = st.map (fun v => v.category) := by
    simp only [stm, List.map_map]
    congr 1
    funext v
    exact g_cat E v
  rw [e]; exact h
/-- a static method -/
theorem a_callS {ix np d1 : Nat} {z : MethodName} {cz : ByteArray} {nz : Nat} {rz : Option FieldType} {as : List Value} {r1 : Option Value} {h1 : hp} {st0 : List Value} (hM : MC E z cz rz nz d1 as h r1 h1) (hdg : decode cc pc = .ok (.invokestatic ix, 3)) (hst : st0 = as.reverse ++ st) (hd : d1 + 1 ≤ d) (hnz : nz ≤ 40) (cw : g_cw y.cls ix z cz nz rz np) (hs : Cond.static z ∈ lw_good) (hnp : as.length = np) (hroom : (st.map fun v => v.category).sum ≤ 8)
    (kk : AW E y cc ret nL d r h0 hf (pc + 3) lv (r1.toList ++ st) h1) : AW E y cc ret nL d r h0 hf pc lv st0 h := by
  subst hst
  refine ⟨⟨Nat.le_trans hM.1.1 kk.1.1, Nat.le_trans hM.1.2 kk.1.2⟩, fun g1 g2 p l e s m args below meth c C ls H locs hl hP hS => ?_⟩
  have hk1 := hM.1
  have hk2 := kk.1
  obtain ⟨hlink, hcode, hini, hdd⟩ := cw
  have hf2 : hN h - hN h0 + (hN h1 - hN h) ≤ (g_rm d (hN hf - hN h0) (hL hf - hL h0)).cells ∧ hL h - hL h0 + (hL h1 - hL h) ≤ (g_rm d (hN hf - hN h0) (hL hf - hL h0)).slots := by
    constructor
    · show _ ≤ hN hf - hN h0; omega
    · show _ ≤ hL hf - hL h0; omega
  rcases hlink with hlink | ⟨host, hlink⟩
  · exact AW.back (va_runS ⟨C.1, C.2.1, C.2.2.2.1, C.2.2.2.2.1, C.2.2.2.2.2.1⟩ (hM.2 l) ⟨g_cB C hd hnz hlink hcode hini hdd, C.2.2.2.2.2.1 _ hs⟩ ⟨g_blind, g_pc C hP hS⟩ rfl (by simp [stm, hnp]) hl.1 (g_rs E as st) (lv_room (g_room (st0 := []) hroom)) hdg hf2) hk1 g1 g2 C hl hS kk
  · exact AW.back (va_runSN ⟨C.1, C.2.1, C.2.2.2.1, C.2.2.2.2.1, C.2.2.2.2.2.1⟩ (hM.2 l) ⟨g_cN C hd hnz hlink hcode hini hdd, C.2.2.2.2.2.1 _ hs, trivial⟩ ⟨g_blind, g_pc C hP hS⟩ rfl (by simp [stm, hnp]) hl.1 (g_rs E as st) (lv_room (g_room (st0 := []) hroom)) hdg hf2) hk1 g1 g2 C hl hS kk
theorem g_recv {ci a : Nat} {q : vw_C} {s : State} {H : Heap} (hK : va_K E.2.1 vwCl (g_tys E) s) (hP : g_P E h H) (hc : vwCl[ci]? = some q) (ht : (hT h a).1 = ci) : ∃ cell : Cell, ∃ i, g_on E a = some i ∧ H[i]? = some cell ∧ cell.vm.isStatics = false ∧ s.vm.findClass q.1 = some cell.cls := by
  have hci := g_ci hc
  obtain ⟨i, -, hi, hat, hon⟩ := g_cell hP (a := a) (by omega)
  rw [g_ob_o ht hci] at hat
  obtain ⟨cell, z1, z2, z3⟩ := va_recv hK (g_P1 hat) hc (q0 := 0) rfl
  exact ⟨cell, _, hon, z1, z2, z3⟩
/-- a method of an object, whatever is known of it -/
theorem a_callVg {ix np d1 a : Nat} {C0 : String} {z : MethodName} {cz : ByteArray} {nz : Nat} {rz : Option FieldType} {as : List Value} {r1 : Option Value} {h1 : hp} {st0 : List Value} (hM : MC E z cz rz nz d1 (.ref a :: as) h r1 h1) (hdg : decode cc pc = .ok (.invokevirtual ix, 3)) (hst : st0 = as.reverse ++ .ref a :: st) (hd : d1 + 1 ≤ d) (hnz : nz ≤ 40) (cw : g_cw y.cls ix z cz nz rz np) (hs : Cond.instanceMethod z ∈ lw_good ∧ Cond.selects C0 z z ∈ lw_good) (hrv : ∀ (s : State) (H : Heap) (locs : List Loc), va_K E.2.1 vwCl (g_tys E) s → g_P E h H → g_St E s s.heap → va_S (g_A E) s.heap H locs → ∃ cell : Cell, ∃ i, g_on E a = some i ∧ H[i]? = some cell ∧ cell.vm.isStatics = false ∧ s.vm.findClass C0 = some cell.cls) (hnp : as.length = np) (hroom : (st.map fun v => v.category).sum ≤ 8)
    (kk : AW E y cc ret nL d r h0 hf (pc + 3) lv (r1.toList ++ st) h1) : AW E y cc ret nL d r h0 hf pc lv st0 h := by
  subst hst
  refine ⟨⟨Nat.le_trans hM.1.1 kk.1.1, Nat.le_trans hM.1.2 kk.1.2⟩, fun g1 g2 p l e s m args below meth c C ls H locs hl hP hS => ?_⟩
  have hk1 := hM.1
  have hk2 := kk.1
  obtain ⟨hlink, hcode, hini, hdd⟩ := cw
  obtain ⟨cell, i, hon, rv⟩ := hrv s H locs C.2.2.2.2.2.2.2.2.1 hP C.2.2.2.2.2.2.2.2.2.1 hS
  have hPc := g_pc (as := .ref a :: as) C hP hS
  have est : stm E (as.reverse ++ .ref a :: st) = (stm E as).reverse ++ .ref i :: stm E st := by
    rw [g_rs]
    show _ ++ va_rf (g_on E a) :: stm E st = _
    rw [hon]; rfl
  have eas : stm E (.ref a :: as) = .ref i :: stm E as := by
    show va_rf (g_on E a) :: stm E as = _
    rw [hon]; rfl
  rw [eas] at hPc
  have hM2 := hM.2 l
  rw [eas] at hM2
  have hbl := g_blind (E := E) (h := h) (as := .ref a :: as)
  rw [eas] at hbl
  have hf2 : hN h - hN h0 + (hN h1 - hN h) ≤ (g_rm d (hN hf - hN h0) (hL hf - hL h0)).cells ∧ hL h - hL h0 + (hL h1 - hL h) ≤ (g_rm d (hN hf - hN h0) (hL hf - hL h0)).slots := by
    constructor
    · show _ ≤ hN hf - hN h0; omega
    · show _ ≤ hL hf - hL h0; omega
  rcases hlink with hlink | ⟨host, hlink⟩
  · exact AW.back (va_runV ⟨C.1, C.2.1, C.2.2.2.1, C.2.2.2.2.1, C.2.2.2.2.2.1⟩ hM2 ⟨g_cB C hd hnz hlink hcode hini hdd, C.2.2.2.2.2.1 _ hs.1, C.2.2.2.2.2.1 _ hs.2⟩ ⟨hbl, ⟨cell, rv⟩, hPc⟩ rfl (by simp [stm, hnp]) hl.1 est (lv_room (g_room (st0 := []) hroom)) hdg hf2) hk1 g1 g2 C hl hS kk
  · exact AW.back (va_runVN ⟨C.1, C.2.1, C.2.2.2.1, C.2.2.2.2.1, C.2.2.2.2.2.1⟩ hM2 ⟨g_cN C hd hnz hlink hcode hini hdd, C.2.2.2.2.2.1 _ hs.1, C.2.2.2.2.2.1 _ hs.2⟩ ⟨hbl, ⟨cell, rv⟩, hPc⟩ rfl (by simp [stm, hnp]) hl.1 est (lv_room (g_room (st0 := []) hroom)) hdg hf2) hk1 g1 g2 C hl hS kk
/-- a method of an object -/
theorem a_callV {ix np d1 ci a : Nat} {q : vw_C} {z : MethodName} {cz : ByteArray} {nz : Nat} {rz : Option FieldType} {as : List Value} {r1 : Option Value} {h1 : hp} {st0 : List Value} (hM : MC E z cz rz nz d1 (.ref a :: as) h r1 h1) (hdg : decode cc pc = .ok (.invokevirtual ix, 3)) (hst : st0 = as.reverse ++ .ref a :: st) (hd : d1 + 1 ≤ d) (hnz : nz ≤ 40) (cw : g_cw y.cls ix z cz nz rz np) (hs : Cond.instanceMethod z ∈ lw_good ∧ Cond.selects q.1 z z ∈ lw_good) (hc : vwCl[ci]? = some q) (ht : (hT h a).1 = ci) (hnp : as.length = np) (hroom : (st.map fun v => v.category).sum ≤ 8)
    (kk : AW E y cc ret nL d r h0 hf (pc + 3) lv (r1.toList ++ st) h1) : AW E y cc ret nL d r h0 hf pc lv st0 h :=
  a_callVg hM hdg hst hd hnz cw hs (fun s H locs hK hP _ _ => g_recv hK hP hc ht) hnp hroom kk
/-- an object is begun -/
theorem a_callI {ix np d1 ci a : Nat} {q : vw_C} {z : MethodName} {cz : ByteArray} {nz : Nat} {as : List Value} {h1 : hp} {st0 : List Value} (hM : MC E z cz none nz d1 (.ref a :: as) h none h1) (hdg : decode cc pc = .ok (.invokespecial ix, 3)) (hst : st0 = as.reverse ++ .ref a :: st) (hd : d1 + 1 ≤ d) (hnz : nz ≤ 40) (cw : g_cw y.cls ix z cz nz none np) (hs : Cond.instanceMethod z ∈ lw_good ∧ z.name = "<init>") (hc : vwCl[ci]? = some q) (ht : (hT h a).1 = ci) (hnp : as.length = np) (hroom : (st.map fun v => v.category).sum ≤ 8)
    (kk : AW E y cc ret nL d r h0 hf (pc + 3) lv st h1) : AW E y cc ret nL d r h0 hf pc lv st0 h := by
  subst hst
  refine ⟨⟨Nat.le_trans hM.1.1 kk.1.1, Nat.le_trans hM.1.2 kk.1.2⟩, fun g1 g2 p l e s m args below meth c C ls H locs hl hP hS => ?_⟩
  have hk1 := hM.1
  have hk2 := kk.1
  obtain ⟨hlink, hcode, hini, hdd⟩ := cw
  obtain ⟨cell, i, hon, rv⟩ := g_recv C.2.2.2.2.2.2.2.2.1 hP hc ht
  have hPc := g_pc (as := .ref a :: as) C hP hS
  have est : stm E (as.reverse ++ .ref a :: st) = (stm E as).reverse ++ .ref i :: stm E st := by
    rw [g_rs]
    show _ ++ va_rf (g_on E a) :: stm E st = _
    rw [hon]; rfl
  have eas : stm E (.ref a :: as) = .ref i :: stm E as := by
    show va_rf (g_on E a) :: stm E as = _
    rw [hon]; rfl
  rw [eas] at hPc
  have hM2 := hM.2 l
  rw [eas] at hM2
  have hbl := g_blind (E := E) (h := h) (as := .ref a :: as)
  rw [eas] at hbl
  have hf2 : hN h - hN h0 + (hN h1 - hN h) ≤ (g_rm d (hN hf - hN h0) (hL hf - hL h0)).cells ∧ hL h - hL h0 + (hL h1 - hL h) ≤ (g_rm d (hN hf - hN h0) (hL hf - hL h0)).slots := by
    constructor
    · show _ ≤ hN hf - hN h0; omega
    · show _ ≤ hL hf - hL h0; omega
  rcases hlink with hlink | ⟨host, hlink⟩
  · exact AW.back (r1 := none) (va_runI ⟨C.1, C.2.1, C.2.2.2.1, C.2.2.2.2.1, C.2.2.2.2.2.1⟩ hM2 ⟨g_cB C hd hnz hlink hcode hini hdd, hs.2, C.2.2.2.2.2.1 _ hs.1⟩ ⟨hbl, hPc⟩ rfl (by simp [stm, hnp]) hl.1 est (lv_room (g_room (st0 := []) hroom)) hdg hf2) hk1 g1 g2 C hl hS kk
  · exact AW.back (r1 := none) (va_runIN ⟨C.1, C.2.1, C.2.2.2.1, C.2.2.2.2.1, C.2.2.2.2.2.1⟩ hM2 ⟨g_cN C hd hnz hlink hcode hini hdd, hs.2, C.2.2.2.2.2.1 _ hs.1⟩ ⟨hbl, hPc⟩ rfl (by simp [stm, hnp]) hl.1 est (lv_room (g_room (st0 := []) hroom)) hdg hf2) hk1 g1 g2 C hl hS kk
end AWR6
