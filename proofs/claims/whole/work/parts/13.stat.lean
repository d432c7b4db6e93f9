/-! constants: rows, and the steps of the pure functions -/
def scA (xs : Nat → Int32) (L : Nat) (i : Int32) : Option Int32 := if 0 ≤ i.toInt ∧ i.toInt < (L : Int) then some (xs i.toNatClampNeg) else none
def gsW (a : Nat) : Option Nat := if 1 ≤ a ∧ a ≤ 18 then some (a + 20) else none
def gsC (a : Nat) : Option Int32 := if 1 ≤ a ∧ a ≤ 18 then some (cntL.getD (a - 1) 0) else none
def gsO (a : Nat) : Option Int32 := if 1 ≤ a ∧ a ≤ 18 then some (Int32.ofNat (a - 1)) else none
def gsV (a : Nat) : Option Nat := if 21 ≤ a ∧ a ≤ 39 then some (a + 19) else none
def gsK (a : Nat) : Option Int32 := if 21 ≤ a ∧ a ≤ 39 then some 0 else none
def blB (a : Nat) (i : Int32) : Option Int32 := if (40 ≤ a ∧ a ≤ 58) ∧ 0 ≤ i.toInt ∧ i.toInt < ((sWl.getD (a - 40) []).length : Int) then some ((sWl.getD (a - 40) []).getD i.toNatClampNeg 0) else none
def lnB (a : Nat) : Option Int32 := if 40 ≤ a ∧ a ≤ 58 then some (Int32.ofNat (sWl.getD (a - 40) []).length) else none
def alS (a : Nat) (i : Int32) : Option Int32 := if a = 20 ∧ 0 ≤ i.toInt ∧ i.toInt < 18 then some (swL.getD i.toNatClampNeg 0) else none
def alA (a : Nat) (i : Int32) : Option Nat := if a = 19 ∧ 0 ≤ i.toInt ∧ i.toInt < 18 then some (1 + i.toNatClampNeg) else none
def lnA (a : Nat) : Option Int32 := if a = 19 then some 18 else none
def ckE (a : Nat) : Option Unit := if 1 ≤ a ∧ a ≤ 18 then some () else none
def ckS (a : Nat) : Option Unit := if 21 ≤ a ∧ a ≤ 39 then some () else none
def acm (x z : Nat) : Option Unit := if (1 ≤ x ∧ x ≤ 18) ∧ 1 ≤ z ∧ z ≤ 18 then some () else none
section STT
variable {E : gE} {y : MethodName} {cc : ByteArray} {ret : Option FieldType} {nL d : Nat} {r : Option Value} {h0 hf h h1 : hp} {pc pc' : Nat} {lv lv' : List (Nat × Value)} {st st' : List Value}
theorem g_st {i : Nat} (h0 : i ≠ 0) (h1 : i < 64) : g_on E i = some (g_c E i) := by
  unfold g_on g_ad g_c
  rw [if_neg h0, if_pos h1]
theorem AW.lift3 {pc2 : Nat} {st2 : List Value} (row : ∀ (p : Program) (l : Launch) (e : Env) (R : Room) (s : State) (m : MethodId) (args : Array Value) (below : List Frame) (meth : Method) (c : Code) (H : Heap) (locs : List Loc) (cells slots : Nat) (Q : State → Prop), g_Cx E y cc ret nL p s m args meth c → va_S (g_A E) s.heap H locs → ∀ ls : Array Slot, W p l e R s m args below meth c H locs cells slots Q (F0 m pc2 ls (stm E st2)) → W p l e R s m args below meth c H locs cells slots Q (F0 m pc ls (stm E st)))
    (k : AW E y cc ret nL d r h0 hf pc2 lv st2 h) : AW E y cc ret nL d r h0 hf pc lv st h :=
  ⟨k.1, fun g1 g2 p l e s m args below meth c C ls H locs hl hP hS => row p l e _ s m args below meth c H locs _ _ _ C hS ls (k.2 g1 g2 p l e s m args below meth c C ls H locs hl hP hS)⟩
theorem o_gz {ix id : Nat} {C0 n0 d0 : String} (hdg : decode cc pc = .ok (.getstatic ix, 3)) (hw : Cond.fieldLink y.cls ix C0 n0 d0 ∈ lw_good) (h0' : id ≠ 0) (h1' : id < 64) (hz : ∀ (U : State) (H : Heap), g_S2 E U H → va_Z C0 n0 d0 (.ref (g_c E id)) (fun q => E.1 ≤ q) U H) (k : AW E y cc ret nL d r h0 hf (pc + 3) lv (.ref id :: st) h) : AW E y cc ret nL d r h0 hf pc lv st h := by
  refine AW.lift3 (fun p l e R s m args below meth c H locs cells slots Q C hS ls kk => ?_) k
  have k2 : W p l e R s m args below meth c H locs cells slots Q (F0 m (pc + 3) ls (va_rf (g_on E id) :: stm E st)) := kk
  rw [g_st h0' h1'] at k2
  exact va_gets C.1 C.2.1 (hz _ _ C.2.2.2.2.2.2.2.2.2.1.2.2.2) hS C.2.2.2.2.1 (C.2.2.2.2.2.1 _ hw) (fun _ h9 => h9) hdg k2
theorem o_gzI {ix : Nat} {v : Int32} {C0 n0 d0 : String} (hdg : decode cc pc = .ok (.getstatic ix, 3)) (hw : Cond.fieldLink y.cls ix C0 n0 d0 ∈ lw_good) (hz : ∀ (U : State) (H : Heap), g_S2 E U H → va_Z C0 n0 d0 (.int v) (fun q => E.1 ≤ q) U H) (k : AW E y cc ret nL d r h0 hf (pc + 3) lv (.int v :: st) h) : AW E y cc ret nL d r h0 hf pc lv st h :=
  AW.lift3 (fun p l e R s m args below meth c H locs cells slots Q C hS ls kk => va_gets C.1 C.2.1 (hz _ _ C.2.2.2.2.2.2.2.2.2.1.2.2.2) hS C.2.2.2.2.1 (C.2.2.2.2.2.1 _ hw) (fun _ h9 => h9) hdg kk) k
theorem o_of {ix a : Nat} {C0 n0 d0 : String} {v : Value} (hdg : decode cc pc = .ok (.getfield ix, 3)) (hw : Cond.fieldLink y.cls ix C0 n0 d0 ∈ lw_good ∨ ∃ host, Cond.fieldLinkNest y.cls ix C0 n0 d0 host ∈ g_nest) (h0' : a ≠ 0) (h1' : a < 64) (hz : ∀ (U : State) (H : Heap), g_S2 E U H → va_OF C0 n0 d0 (g_v E v) (g_c E a) (fun q => E.1 ≤ q) U H) (k : AW E y cc ret nL d r h0 hf (pc + 3) lv (v :: st) h) : AW E y cc ret nL d r h0 hf pc lv (.ref a :: st) h := by
  refine AW.lift3 (fun p l e R s m args below meth c H locs cells slots Q C hS ls kk => ?_) k
  show W p l e R s m args below meth c H locs cells slots Q (F0 m pc ls (va_rf (g_on E a) :: stm E st))
  rw [g_st h0' h1']
  obtain ⟨cf, k0, fi, f, cell, z1, z2, z3, z4, z5, z6⟩ := (hz _ _ C.2.2.2.2.2.2.2.2.2.1.2.2.2).kept hS.2.1
  rcases hw with hw | ⟨host, hw⟩
  · exact W.getf C.1 C.2.1 C.2.2.2.2.1 (C.2.2.2.2.2.1 _ hw) z1 z2 z3 z4 (v := g_v E v) z5 rfl rfl hdg kk
  · have h3 : Cond.before (Cond.fieldLinkNest y.cls ix C0 n0 d0 host) args s = true := va_Nw.use rfl (C.2.2.2.2.2.2.2.2.2.1.1 _ hw)
    exact va_Wgetf C.1 C.2.1 C.2.2.2.2.1 h3 z1 z2 z3 z4 (v := g_v E v) z5 rfl rfl hdg kk
theorem g_1a {a : Nat} (t : 1 ≤ a ∧ a ≤ 18) : 1 + (a - 1) = a := by omega
theorem g_21a {a : Nat} (t : 21 ≤ a ∧ a ≤ 39) : 21 + (a - 21) = a := by omega
theorem g_40a {a : Nat} (t : 40 ≤ a ∧ a ≤ 58) : 40 + (a - 40) = a := by omega
theorem o_gsW {ix a v : Nat} (hdg : decode cc pc = .ok (.getfield ix, 3)) (hw : Cond.fieldLink y.cls ix "TemplatePress$Filter" "word" "Ljava/lang/String;" ∈ lw_good ∨ ∃ host, Cond.fieldLinkNest y.cls ix "TemplatePress$Filter" "word" "Ljava/lang/String;" host ∈ g_nest) (e : gsW a = some v) (k : AW E y cc ret nL d r h0 hf (pc + 3) lv (.ref v :: st) h) : AW E y cc ret nL d r h0 hf pc lv (.ref a :: st) h := by
  obtain ⟨t, rfl⟩ := opq_s e
  refine o_of hdg hw (by omega) (by omega) (fun U H hS2 => ?_) k
  have h1 := (hS2.1 (a - 1) (by omega)).2.2.2
  rw [g_1a t, show 21 + (a - 1) = a + 20 by omega] at h1
  show va_OF _ _ _ (va_rf (g_on E (a + 20))) _ _ _ _
  rw [g_st (by omega) (by omega)]
  exact h1
theorem o_gsC {ix a : Nat} {v : Int32} (hdg : decode cc pc = .ok (.getfield ix, 3)) (hw : Cond.fieldLink y.cls ix "TemplatePress$Filter" "counted" "Z" ∈ lw_good ∨ ∃ host, Cond.fieldLinkNest y.cls ix "TemplatePress$Filter" "counted" "Z" host ∈ g_nest) (e : gsC a = some v) (k : AW E y cc ret nL d r h0 hf (pc + 3) lv (.int v :: st) h) : AW E y cc ret nL d r h0 hf pc lv (.ref a :: st) h := by
  obtain ⟨t, rfl⟩ := opq_s e
  refine o_of hdg hw (by omega) (by omega) (fun U H hS2 => ?_) k
  have h1 := (hS2.1 (a - 1) (by omega)).2.2.1
  rw [g_1a t] at h1
  exact h1
theorem o_gsO {ix a : Nat} {v : Int32} (hdg : decode cc pc = .ok (.getfield ix, 3)) (hw : Cond.fieldLink y.cls ix "java/lang/Enum" "ordinal" "I" ∈ lw_good ∨ ∃ host, Cond.fieldLinkNest y.cls ix "java/lang/Enum" "ordinal" "I" host ∈ g_nest) (e : gsO a = some v) (k : AW E y cc ret nL d r h0 hf (pc + 3) lv (.int v :: st) h) : AW E y cc ret nL d r h0 hf pc lv (.ref a :: st) h := by
  obtain ⟨t, rfl⟩ := opq_s e
  refine o_of hdg hw (by omega) (by omega) (fun U H hS2 => ?_) k
  have h1 := (hS2.1 (a - 1) (by omega)).2.1
  rw [g_1a t] at h1
  exact h1
theorem o_gsV {ix a v : Nat} (hdg : decode cc pc = .ok (.getfield ix, 3)) (hw : Cond.fieldLink y.cls ix "java/lang/String" "value" "[B" ∈ lw_good ∨ ∃ host, Cond.fieldLinkNest y.cls ix "java/lang/String" "value" "[B" host ∈ g_nest) (e : gsV a = some v) (k : AW E y cc ret nL d r h0 hf (pc + 3) lv (.ref v :: st) h) : AW E y cc ret nL d r h0 hf pc lv (.ref a :: st) h := by
  obtain ⟨t, rfl⟩ := opq_s e
  refine o_of hdg hw (by omega) (by omega) (fun U H hS2 => ?_) k
  have h1 := (hS2.2.1 (a - 21) (by omega)).2.2.1
  rw [g_21a t, show 40 + (a - 21) = a + 19 by omega] at h1
  show va_OF _ _ _ (va_rf (g_on E (a + 19))) _ _ _ _
  rw [g_st (by omega) (by omega)]
  exact h1
theorem o_gsK {ix a : Nat} {v : Int32} (hdg : decode cc pc = .ok (.getfield ix, 3)) (hw : Cond.fieldLink y.cls ix "java/lang/String" "coder" "B" ∈ lw_good ∨ ∃ host, Cond.fieldLinkNest y.cls ix "java/lang/String" "coder" "B" host ∈ g_nest) (e : gsK a = some v) (k : AW E y cc ret nL d r h0 hf (pc + 3) lv (.int v :: st) h) : AW E y cc ret nL d r h0 hf pc lv (.ref a :: st) h := by
  obtain ⟨t, rfl⟩ := opq_s e
  refine o_of hdg hw (by omega) (by omega) (fun U H hS2 => ?_) k
  have h1 := (hS2.2.1 (a - 21) (by omega)).2.1
  rw [g_21a t] at h1
  exact h1
theorem o_alS {a : Nat} {i v : Int32} (hdg : decode cc pc = .ok (.iaload, 1)) (e : alS a i = some v) (k : AW E y cc ret nL d r h0 hf (pc + 1) lv (.int v :: st) h) : AW E y cc ret nL d r h0 hf pc lv (.int i :: .ref a :: st) h := by
  obtain ⟨⟨rfl, t⟩, rfl⟩ := opq_s e
  refine AW.lift3 (fun p l e R s m args below meth c H locs cells slots Q C hS ls kk => ?_) k
  show W p l e R s m args below meth c H locs cells slots Q (F0 m pc ls (.int i :: va_rf (g_on E 20) :: stm E st))
  rw [g_st (by decide) (by decide)]
  exact va_ti C.1 C.2.1 C.2.2.2.2.2.2.2.2.2.1.2.2.2.2.2.2.2.2.2.1 hS (vp_in_iff.mpr t) rfl hdg kk
theorem o_blB {a : Nat} {i v : Int32} (hdg : decode cc pc = .ok (.baload, 1)) (e : blB a i = some v) (k : AW E y cc ret nL d r h0 hf (pc + 1) lv (.int v :: st) h) : AW E y cc ret nL d r h0 hf pc lv (.int i :: .ref a :: st) h := by
  obtain ⟨⟨ta, t⟩, rfl⟩ := opq_s e
  refine AW.lift3 (fun p l e R s m args below meth c H locs cells slots Q C hS ls kk => ?_) k
  show W p l e R s m args below meth c H locs cells slots Q (F0 m pc ls (.int i :: va_rf (g_on E a) :: stm E st))
  rw [g_st (by omega) (by omega)]
  have hT := (C.2.2.2.2.2.2.2.2.2.1.2.2.2.2.1 (a - 40) (by omega)).2.2.2
  rw [g_40a ta] at hT
  exact va_tb C.1 C.2.1 hT hS (vp_in_iff.mpr t) rfl hdg kk
theorem o_lnB {a : Nat} {v : Int32} (hdg : decode cc pc = .ok (.arraylength, 1)) (e : lnB a = some v) (k : AW E y cc ret nL d r h0 hf (pc + 1) lv (.int v :: st) h) : AW E y cc ret nL d r h0 hf pc lv (.ref a :: st) h := by
  obtain ⟨ta, rfl⟩ := opq_s e
  refine AW.lift3 (fun p l e R s m args below meth c H locs cells slots Q C hS ls kk => ?_) k
  show W p l e R s m args below meth c H locs cells slots Q (F0 m pc ls (va_rf (g_on E a) :: stm E st))
  rw [g_st (by omega) (by omega)]
  have hT := (C.2.2.2.2.2.2.2.2.2.1.2.2.2.2.1 (a - 40) (by omega)).2.2.2
  rw [g_40a ta] at hT
  exact va_tlen C.1 C.2.1 hT hS rfl hdg kk
theorem o_lnA {a : Nat} {v : Int32} (hdg : decode cc pc = .ok (.arraylength, 1)) (e : lnA a = some v) (k : AW E y cc ret nL d r h0 hf (pc + 1) lv (.int v :: st) h) : AW E y cc ret nL d r h0 hf pc lv (.ref a :: st) h := by
  obtain ⟨rfl, rfl⟩ := opq_s e
  refine AW.lift3 (fun p l e R s m args below meth c H locs cells slots Q C hS ls kk => ?_) k
  show W p l e R s m args below meth c H locs cells slots Q (F0 m pc ls (va_rf (g_on E 19) :: stm E st))
  rw [g_st (by decide) (by decide)]
  exact va_tlen C.1 C.2.1 C.2.2.2.2.2.2.2.2.2.1.2.2.2.2.2.2.1 hS (by decide) hdg kk
theorem o_alA {a v : Nat} {i : Int32} (hdg : decode cc pc = .ok (.aaload, 1)) (e : alA a i = some v) (k : AW E y cc ret nL d r h0 hf (pc + 1) lv (.ref v :: st) h) : AW E y cc ret nL d r h0 hf pc lv (.int i :: .ref a :: st) h := by
  obtain ⟨⟨rfl, t⟩, rfl⟩ := opq_s e
  refine AW.lift3 (fun p l e R s m args below meth c H locs cells slots Q C hS ls kk => ?_) k
  have hin : vp_in i 18 := vp_in_iff.mpr t
  have e1 := g_i2 (n := 0) t.1
  have k2 : W p l e R s m args below meth c H locs cells slots Q (F0 m (pc + 1) ls (va_rf (g_on E (1 + i.toNatClampNeg)) :: stm E st)) := kk
  rw [g_st (by omega) (by omega)] at k2
  show W p l e R s m args below meth c H locs cells slots Q (F0 m pc ls (.int i :: va_rf (g_on E 19) :: stm E st))
  rw [g_st (by decide) (by decide)]
  obtain ⟨cell, z1, z2, z3, z4, z5, z6, z7⟩ := C.2.2.2.2.2.2.2.2.2.1.2.2.2.2.2.2.1.kept hS.2.1
  have hlt : i.toNatClampNeg < 18 := Nat.not_le.mp fun q => hin (Or.inr q)
  have h0' : ¬ i < 0 := fun q => hin (Or.inl q)
  exact W.aald (v := .ref (g_c E (1 + i.toNatClampNeg))) (ty := .object "TemplatePress$Filter") C.1 C.2.1 z1 z2 rfl z3 (fun q => q.elim h0' (fun q => by omega)) (z6 _ hlt) rfl rfl hdg k2
theorem g_dist {U : State} {H : Heap} (hS2 : g_S2 E U H) {i j : Nat} (hi : i < 18) (hj : j < 18) (h : g_c E (1 + i) = g_c E (1 + j)) : i = j := by
  obtain ⟨cf, k, fi, f, cell, z1, z2, z3, z4, z5, z6⟩ := (hS2.1 i hi).2.1
  obtain ⟨cf', k', fi', f', cell', w1, w2, w3, w4, w5, w6⟩ := (hS2.1 j hj).2.1
  rw [z1] at w1
  cases w1
  rw [h, w3] at z3
  cases z3
  rw [w5] at z5
  have e := Value.int.inj (Option.some.inj z5)
  have e2 := congrArg Int32.toInt e
  rw [Int32.toInt_ofNat_of_lt (by omega), Int32.toInt_ofNat_of_lt (by omega)] at e2
  omega
theorem o_acm {x z : Nat} {off : Int} {tgt : Nat} {u : Unit} (hdg : decode cc pc = .ok (.if_acmp .ne off, 3)) (ht : (pc : Int) + off = (tgt : Int)) (e : acm x z = some u) (k : ¬ x = z → AW E y cc ret nL d r h0 hf tgt lv st h) (k2 : x = z → AW E y cc ret nL d r h0 hf (pc + 3) lv st h) : AW E y cc ret nL d r h0 hf pc lv (.ref z :: .ref x :: st) h := by
  obtain ⟨⟨tx, tz⟩, -⟩ := opq_s e
  refine AW.lift2 (fun p l e R s m args below meth c H locs cells slots Q C ls hl kt kf => ?_) k (fun q => k2 (Classical.byContradiction q))
  show W p l e R s m args below meth c H locs cells slots Q (F0 m pc ls (va_rf (g_on E z) :: va_rf (g_on E x) :: stm E st))
  refine lv_acmp_ne C.1 C.2.1 hdg ht (fun q => kt fun q2 => q (by rw [q2])) (fun q => kf fun q2 => q2 ?_)
  rw [g_st (by omega) (by omega), g_st (by omega) (by omega)] at q
  have h1 := Option.some.inj q
  rw [← g_1a tx, ← g_1a tz] at h1
  have := g_dist C.2.2.2.2.2.2.2.2.2.1.2.2.2 (by omega) (by omega) h1
  omega
theorem o_ldcS {ix : Nat} (hdg : decode cc pc = .ok (.ldc ix, 2)) (hy : y.cls = "TemplatePressModel") (hix : ix = 255) (k : AW E y cc ret nL d r h0 hf (pc + 2) lv (.ref 39 :: st) h) : AW E y cc ret nL d r h0 hf pc lv st h := by
  refine AW.lift3 (fun p l e R s m args below meth c H locs cells slots Q C hS ls kk => ?_) k
  have k2 : W p l e R s m args below meth c H locs cells slots Q (F0 m (pc + 2) ls (va_rf (g_on E 39) :: stm E st)) := kk
  rw [g_st (by decide) (by decide)] at k2
  subst hix
  exact va_ldcS C.1 C.2.1 (by rw [← hy]; exact C.2.2.2.2.1) C.2.2.2.2.2.2.2.2.2.1.2.2.1 hdg k2
theorem g_rvE {a : Nat} {u : Unit} (e : ckE a = some u) : ∀ (s : State) (H : Heap) (locs : List Loc), va_K E.2.1 vwCl (g_tys E) s → g_P E h H → g_St E s s.heap → va_S (g_A E) s.heap H locs → ∃ cell : Cell, ∃ i, g_on E a = some i ∧ H[i]? = some cell ∧ cell.vm.isStatics = false ∧ s.vm.findClass "TemplatePress$Filter" = some cell.cls := by
  obtain ⟨t, -⟩ := opq_s e
  intro s H locs _ _ hSt hS
  have h1 := (hSt.2.2.2.1 (a - 1) (by omega)).1.kept hS.2.1
  rw [g_1a t] at h1
  obtain ⟨cell, z1, z2, z3, -⟩ := h1
  exact ⟨cell, _, g_st (by omega) (by omega), z1, z2, z3⟩
theorem g_rvS {a : Nat} {u : Unit} (e : ckS a = some u) : ∀ (s : State) (H : Heap) (locs : List Loc), va_K E.2.1 vwCl (g_tys E) s → g_P E h H → g_St E s s.heap → va_S (g_A E) s.heap H locs → ∃ cell : Cell, ∃ i, g_on E a = some i ∧ H[i]? = some cell ∧ cell.vm.isStatics = false ∧ s.vm.findClass "java/lang/String" = some cell.cls := by
  obtain ⟨t, -⟩ := opq_s e
  intro s H locs _ _ hSt hS
  have h1 := (hSt.2.2.2.2.1 (a - 21) (by omega)).1.kept hS.2.1
  rw [g_21a t] at h1
  obtain ⟨cell, z1, z2, z3, -⟩ := h1
  exact ⟨cell, _, g_st (by omega) (by omega), z1, z2, z3⟩
theorem o_f2r {ix : Nat} {x : UInt32} (hdg : decode cc pc = .ok (.invokestatic ix, 3)) (hd : 1 ≤ d) (hl : Cond.methodLink y.cls ix ⟨"java/lang/Float", "floatToRawIntBits", "(F)I"⟩ ∈ lw_good) (hn : Cond.native ⟨"java/lang/Float", "floatToRawIntBits", "(F)I"⟩ ∈ lw_good) (hs : Cond.static ⟨"java/lang/Float", "floatToRawIntBits", "(F)I"⟩ ∈ lw_good) (hi : Cond.initialized "java/lang/Float" ∈ lw_good) (hroom : (st.map fun v => v.category).sum ≤ 8) (k : AW E y cc ret nL d r h0 hf (pc + 3) lv (.int x.toInt32 :: st) h) : AW E y cc ret nL d r h0 hf pc lv (.float x :: st) h := by
  refine ⟨k.1, fun g1 g2 p l e s m args below meth c C ls H locs hl0 hP hS => ?_⟩
  refine vn_f2i C.1 C.2.1 (by rw [C.2.2.2.1]; exact hl0.1.symm) C.2.2.2.2.1 (C.2.2.2.2.2.1 _ hl) (C.2.2.2.2.2.1 _ hn) (C.2.2.2.2.2.1 _ hs) (C.2.2.2.2.2.1 _ hi) hd ?_ hdg (k.2 g1 g2 p l e s m args below meth c C ls H locs hl0 hP hS)
  have h9 := g_room (E := E) (st := st) (st0 := []) hroom
  show _ + 15 ≤ 64 * d
  simp only [stm] at h9 ⊢
  omega
theorem o_d2r {ix : Nat} {x : UInt64} (hdg : decode cc pc = .ok (.invokestatic ix, 3)) (hd : 1 ≤ d) (hl : Cond.methodLink y.cls ix ⟨"java/lang/Double", "doubleToRawLongBits", "(D)J"⟩ ∈ lw_good) (hn : Cond.native ⟨"java/lang/Double", "doubleToRawLongBits", "(D)J"⟩ ∈ lw_good) (hs : Cond.static ⟨"java/lang/Double", "doubleToRawLongBits", "(D)J"⟩ ∈ lw_good) (hi : Cond.initialized "java/lang/Double" ∈ lw_good) (hroom : (st.map fun v => v.category).sum ≤ 8) (k : AW E y cc ret nL d r h0 hf (pc + 3) lv (.long x.toInt64 :: st) h) : AW E y cc ret nL d r h0 hf pc lv (.double x :: st) h := by
  refine ⟨k.1, fun g1 g2 p l e s m args below meth c C ls H locs hl0 hP hS => ?_⟩
  refine vn_d2l C.1 C.2.1 (by rw [C.2.2.2.1]; exact hl0.1.symm) C.2.2.2.2.1 (C.2.2.2.2.2.1 _ hl) (C.2.2.2.2.2.1 _ hn) (C.2.2.2.2.2.1 _ hs) (C.2.2.2.2.2.1 _ hi) hd ?_ hdg (k.2 g1 g2 p l e s m args below meth c C ls H locs hl0 hP hS)
  have h9 := g_room (E := E) (st := st) (st0 := []) hroom
  show _ + 15 ≤ 64 * d
  simp only [stm] at h9 ⊢
  omega
theorem a_i2c {x v : Int32} (hdg : decode cc pc = .ok (.i2c, 1)) (hv : (x.toUInt32 % 65536).toInt32 = v) (k : AW E y cc ret nL d r h0 hf (pc + 1) lv (.int v :: st) h) : AW E y cc ret nL d r h0 hf pc lv (.int x :: st) h :=
  AW.lift (fun p l e R s m args below meth c H locs cells slots Q C ls hl0 kk0 => lv_i2c C.1 C.2.1 hdg hv (kk0 ls hl0)) k
theorem a_breturn {x : Int32} (hdg : decode cc pc = .ok (.ireturn, 1)) (hret : ret = some .byte) (hx : x = 0 ∨ x = 1) : AW E y cc ret nL d (some (.int x)) h0 h pc lv [.int x] h :=
  AW.endE (Q := True) h fun g1 g2 p l e s m args below meth c C ls H locs hl hP hS => W.zret (v := x) (ty := .byte) C.1 C.2.1 (C.2.2.1.trans hret) (by rcases hx with rfl | rfl <;> rfl) (fun t ht hW => ⟨rfl, by rw [ht]; exact hP, hS.F ht⟩) hS.2.2 hdg C.2.2.2.2.2.2.1
theorem a_creturn {x : Int32} (hdg : decode cc pc = .ok (.ireturn, 1)) (hret : ret = some .char) (hx : 0 ≤ x.toInt ∧ x.toInt < 65536) : AW E y cc ret nL d (some (.int x)) h0 h pc lv [.int x] h := by
  refine AW.endE (Q := True) h fun g1 g2 p l e s m args below meth c C ls H locs hl hP hS => W.zret (v := x) (ty := .char) C.1 C.2.1 (C.2.2.1.trans hret) ?_ (fun t ht hW => ⟨rfl, by rw [ht]; exact hP, hS.F ht⟩) hS.2.2 hdg C.2.2.2.2.2.2.1
  obtain ⟨j, hj, rfl⟩ := nI_of (g_n0 hx.1)
  have h2 := nI_toInt hj
  exact (pk_charN (by omega)).1
theorem o_gq {ix : Nat} (hdg : decode cc pc = .ok (.getstatic ix, 3)) (hw : Cond.fieldLink y.cls ix "jdk/internal/util/Preconditions" "SIOOBE_FORMATTER" "Ljava/util/function/BiFunction;" ∈ lw_good) (k : ∀ z : Nat, AW E y cc ret nL d r h0 hf (pc + 3) lv (.ref z :: st) h) : AW E y cc ret nL d r h0 hf pc lv st h := by
  refine ⟨(k 0).1, fun g1 g2 p l e s m args below meth c C ls H locs hl hP hS => ?_⟩
  rcases C.2.2.2.2.2.2.2.2.2.1.2.2.2.2.2.2.2.2.2.2.2.2 with hz | hz
  · exact va_gets C.1 C.2.1 hz hS C.2.2.2.2.1 (C.2.2.2.2.2.1 _ hw) (fun _ h9 => h9) hdg ((k 0).2 g1 g2 p l e s m args below meth c C ls H locs hl hP hS)
  · have k2 : W p l e (g_rm d (hN hf - hN h0) (hL hf - hL h0)) s m args below meth c H locs (hN h - hN h0) (hL h - hL h0) (MQ below (g_Q E r hf) args s (hN hf - hN h0) (hL hf - hL h0) (g_A E)) (F0 m (pc + 3) ls (va_rf (g_on E 62) :: stm E st)) := (k 62).2 g1 g2 p l e s m args below meth c C ls H locs hl hP hS
    rw [g_st (by decide) (by decide)] at k2
    exact va_gets C.1 C.2.1 hz hS C.2.2.2.2.1 (C.2.2.2.2.2.1 _ hw) (fun _ h9 => h9) hdg k2
/-- a method that is the class's above it: nothing is made -/
theorem o_ord {ix d1 a : Nat} {x z : MethodName} {cz : ByteArray} {nz : Nat} {v : Int32} (hM : MC E z cz (some .int) nz d1 [.ref a] h (some (.int v)) h) (hdg : decode cc pc = .ok (.invokevirtual ix, 3)) (hd : d1 + 1 ≤ d) (hnz : nz ≤ 40) (hx : x = ⟨"TemplatePress$Filter", "ordinal", "()I"⟩) (hz : z = ⟨"java/lang/Enum", "ordinal", "()I"⟩) (w1 : Cond.methodLink y.cls ix x ∈ lw_good) (w2 : Cond.sameMethod "TemplatePress$Filter" "java/lang/Enum" "ordinal" "()I" ∈ lw_good) (w3 : Cond.selects "TemplatePress$Filter" x z ∈ lw_good) (w4 : Cond.instanceMethod z ∈ lw_good) (w5 : Cond.initialized "java/lang/Enum" ∈ lw_good) (w6 : Cond.code z cz nz (some .int) ∈ lw_good) {u : Unit} (e : ckE a = some u) (hroom : (st.map fun v => v.category).sum ≤ 8)
    (kk : AW E y cc ret nL d r h0 hf (pc + 3) lv (.int v :: st) h) : AW E y cc ret nL d r h0 hf pc lv (.ref a :: st) h := by
  subst hx hz
  refine ⟨kk.1, fun g1 g2 p l e2 s m args below meth c C ls H locs hl hP hS => ?_⟩
  obtain ⟨cell, i, hon, rv⟩ := g_rvE (E := E) (h := h) e s H locs C.2.2.2.2.2.2.2.2.1 hP C.2.2.2.2.2.2.2.2.2.1 hS
  have hPc := g_pc (as := [.ref a]) C hP hS
  have est : stm E (.ref a :: st) = (stm E []).reverse ++ .ref i :: stm E st := by
    show va_rf (g_on E a) :: stm E st = _
    rw [hon]; rfl
  have eas : stm E [.ref a] = .ref i :: stm E [] := by
    show va_rf (g_on E a) :: stm E [] = _
    rw [hon]; rfl
  rw [eas] at hPc
  have hM2 := hM.2 l
  rw [eas] at hM2
  have hbl := g_blind (E := E) (h := h) (as := [.ref a])
  rw [eas] at hbl
  have k1 := kk.1
  have hcu : va_CU (g_rm d (hN hf - hN h0) (hL hf - hL h0)) s args y.cls "TemplatePress$Filter" "java/lang/Enum" ix ⟨"TemplatePress$Filter", "ordinal", "()I"⟩ ⟨"java/lang/Enum", "ordinal", "()I"⟩ cz nz (some .int) (Cond.code ⟨"java/lang/Enum", "ordinal", "()I"⟩ cz nz (some .int) :: lw_good) (g_rm d1 (hN h - hN h) (hL h - hL h)) (hN h - hN h) (hL h - hL h) 0 := by
    refine va_cwU 0 C.2.2.2.2.2.1 (fun w hw => ?_) rfl rfl rfl rfl (by decide +kernel) ⟨hd, by show 8 + (nz + 11) + 64 * d1 ≤ 64 * d; omega⟩
    rcases List.mem_append.mp hw with hw | hw
    · simp only [List.mem_cons, List.not_mem_nil, or_false] at hw
      rcases hw with rfl | rfl | rfl | rfl | rfl <;> exact g_good (by assumption)
    · rcases List.mem_cons.mp hw with rfl | hw
      · exact g_good w6
      · exact g_good hw
  exact AW.back (va_runU ⟨C.1, C.2.1, C.2.2.2.1, C.2.2.2.2.1, C.2.2.2.2.2.1⟩ hM2 hcu ⟨hbl, ⟨cell, rv⟩, hPc⟩ rfl rfl hl.1 est (lv_room (g_room (st0 := []) hroom)) hdg ⟨by show hN h - hN h0 + (hN h - hN h) ≤ hN hf - hN h0; omega, by show hL h - hL h0 + (hL h - hL h) ≤ hL hf - hL h0; omega⟩) hM.1 g1 g2 C hl hS kk
theorem o_scA {i v : Int32} (hdg : decode cc pc = .ok (.iaload, 1)) (e : scA E.2.2.2.2.2 E.2.2.2.2.1 i = some v) (k : AW E y cc ret nL d r h0 hf (pc + 1) lv (.int v :: st) h) : AW E y cc ret nL d r h0 hf pc lv (.int i :: .ref 63 :: st) h := by
  obtain ⟨t, rfl⟩ := opq_s e
  refine AW.lift3 (fun p l e R s m args below meth c H locs cells slots Q C hS ls kk => ?_) k
  show W p l e R s m args below meth c H locs cells slots Q (F0 m pc ls (.int i :: va_rf (g_on E 63) :: stm E st))
  rw [g_st (by decide) (by decide)]
  exact va_ti C.1 C.2.1 C.2.2.2.2.2.2.2.2.2.1.2.2.2.2.2.2.2.2.2.2.2.1 hS (vp_in_iff.mpr t) rfl hdg kk
theorem o_scL {v : Int32} (hdg : decode cc pc = .ok (.arraylength, 1)) (e : v = Int32.ofNat E.2.2.2.2.1) (k : AW E y cc ret nL d r h0 hf (pc + 1) lv (.int v :: st) h) : AW E y cc ret nL d r h0 hf pc lv (.ref 63 :: st) h := by
  subst e
  refine AW.lift3 (fun p l e R s m args below meth c H locs cells slots Q C hS ls kk => ?_) k
  show W p l e R s m args below meth c H locs cells slots Q (F0 m pc ls (va_rf (g_on E 63) :: stm E st))
  rw [g_st (by decide) (by decide)]
  exact va_tlen C.1 C.2.1 C.2.2.2.2.2.2.2.2.2.1.2.2.2.2.2.2.2.2.2.2.2.1 hS rfl hdg kk
end STT
def bck (x : Int32) : Option Unit := if 0 ≤ x.toInt ∧ x.toInt < 65536 then some () else none
theorem bck_s {x : Int32} {u : Unit} (e : bck x = some u) : 0 ≤ x.toInt ∧ x.toInt < 65536 := (opq_s e).1
