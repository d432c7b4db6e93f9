/-! the abstract heap: how many objects, how many slots, kind and length of each, int slots, float slots, references (by number; 0: null) -/
abbrev hp : Type := Nat × Nat × (Nat → Nat × Nat) × (Nat → Nat → Int32) × (Nat → Nat → UInt32) × (Nat → Nat → Nat)
def hN (h : hp) : Nat := h.1
def hL (h : hp) : Nat := h.2.1
def hT (h : hp) : Nat → Nat × Nat := h.2.2.1
def hI (h : hp) : Nat → Nat → Int32 := h.2.2.2.1
def hF (h : hp) : Nat → Nat → UInt32 := h.2.2.2.2.1
def hR (h : hp) : Nat → Nat → Nat := h.2.2.2.2.2
def up2 {α : Type} (f : Nat → Nat → α) (a k : Nat) (v : α) : Nat → Nat → α := fun b j => if b = a ∧ j = k then v else f b j
def pI (h : hp) (a k : Nat) (v : Int32) : hp := (h.1, h.2.1, h.2.2.1, up2 h.2.2.2.1 a k v, h.2.2.2.2.1, h.2.2.2.2.2)
def pF (h : hp) (a k : Nat) (v : UInt32) : hp := (h.1, h.2.1, h.2.2.1, h.2.2.2.1, up2 h.2.2.2.2.1 a k v, h.2.2.2.2.2)
def pR (h : hp) (a k : Nat) (v : Nat) : hp := (h.1, h.2.1, h.2.2.1, h.2.2.2.1, h.2.2.2.2.1, up2 h.2.2.2.2.2 a k v)
/-- a new object or array of a kind, of n slots: its number is 64 + how many there were -/
def nw (h : hp) (t n : Nat) : hp := (h.1 + 1, h.2.1 + n, (fun a => if a = 64 + h.1 then (t, n) else h.2.2.1 a), h.2.2.2.1, h.2.2.2.2.1, h.2.2.2.2.2)
/-- where the heap begins, the classes, the classes of the arrays, the cells of what was there before (below 64) -/
abbrev gE : Type := Nat × va_G × (Nat → ClassId) × (Nat → Nat) × Nat × (Nat → Int32)
def g_ad (E : gE) (i : Nat) : Nat := if i < 64 then E.2.2.2.1 i else E.1 + (i - 64)
def g_on (E : gE) (i : Nat) : Option Nat := if i = 0 then none else some (g_ad E i)
/-- a value with a number in place of a cell -/
def g_v (E : gE) (v : Value) : Value := match v with
  | .ref i => va_rf (g_on E i)
  | w => w
def stm (E : gE) (st : List Value) : List Value := st.map (g_v E)
def lvm (E : gE) (lv : List (Nat × Value)) : List (Nat × Value) := lv.map fun q => (q.1, g_v E q.2)
def g_ty (ci : Nat) : Nat → FieldType := match ci with
  | 0 => tyX1
  | 1 => tyX2
  | 2 => tyX3
  | 3 => tyX4
  | 4 => tyX5
  | 5 => tyX6
  | 6 => tyX7
  | 7 => tyX8
  | 8 => tyX9
  | 9 => tyX10
  | 10 => tyX11
  | 11 => tyX12
  | 12 => tyX13
  | _ => tyX14
/-- what a slot holds by its type: 0 int, 1 float, 2 reference -/
def g_kd (ty : FieldType) : Nat := match ty with
  | .float => 1
  | .object _ => 2
  | .array _ => 2
  | _ => 0
def g_fa (h : hp) (a ci k : Nat) : Value := if g_kd (g_ty ci k) = 0 then .int (hI h a k) else if g_kd (g_ty ci k) = 1 then .float (hF h a k) else .ref (hR h a k)
def g_fs (E : gE) (h : hp) (a ci N : Nat) : List Value := (List.range N).map fun k => g_v E (g_fa h a ci k)
def g_av (E : gE) (h : hp) (a j n : Nat) : vp_A := (n, if j = 0 then .inl (hI h a) else if j = 1 then .inr (.inr (.inl (hF h a))) else .inr (.inr (.inr (.inr (fun k => g_on E (hR h a k))))))
def g_ob (E : gE) (h : hp) (a : Nat) : va_E := if (hT h a).1 < 100 then .inr ((hT h a).1, g_fs E h a (hT h a).1 (hT h a).2) else .inl (E.2.2.1 ((hT h a).1 - 100), g_av E h a ((hT h a).1 - 100) (hT h a).2)
def g_cl : List String := [RX1, RX6, RX8, RX10, RX11]
/-- the types of the arrays by their kinds less 100 -/
def g_at (j : Nat) : FieldType := match j with
  | 0 => .int
  | 1 => .float
  | 2 => .object RX1
  | 3 => .object RX6
  | 4 => .object RX8
  | 5 => .object RX10
  | _ => .object RX11
def g_tys (E : gE) : List (ClassId × FieldType) := (List.range 7).map fun j => (E.2.2.1 j, g_at j)
/-- nothing is where nothing was made -/
def g_cln (h : hp) : Prop := ∀ a, 64 + hN h ≤ a → (∀ k, hI h a k = 0) ∧ (∀ k, hF h a k = 0) ∧ ∀ k, hR h a k = 0
def g_wf (h : hp) : Prop := g_cln h ∧ (∀ a, a < 64 → 200 ≤ (hT h a).1) ∧ (∀ a, 64 + hN h ≤ a → 200 ≤ (hT h a).1) ∧ (∀ a, (hT h a).1 < 100 → ∃ q, vwCl[(hT h a).1]? = some q ∧ q.2.2 = (hT h a).2) ∧ ∀ a, (hT h a).1 < 200 → (hT h a).1 < 107
def g_P (E : gE) (h : hp) (H : Heap) : Prop := H.size = E.1 + hN h ∧ g_wf h ∧ ∀ i, i < hN h → (hT h (64 + i)).1 < 200 → va_at E.2.1 vwCl (E.1 + i, g_ob E h (64 + i)) H
def g_A (E : gE) : Nat → Prop := fun q => E.1 ≤ q
def lw_good : List Cond := lw_tbl.filter goodWord
def g_isN (w : Cond) : Bool := match w with
  | .fieldLinkNest _ _ _ _ _ _ => true
  | .methodLinkNest _ _ _ _ => true
  | _ => false
def g_nest : List Cond := tables_1.filter g_isN
/-- the texts of the constants, by their places (the last: the names in one) -/
def sWl : List (List Int32) := [[117, 112], [108, 111, 119], [114, 101, 118], [108, 101, 110], [99, 117, 116], [112, 97, 100], [105, 110, 99], [109, 117, 108], [104, 97, 108, 102], [116, 104, 105, 114, 100], [105, 110, 116], [114, 101, 97, 108], [98, 105, 116, 115], [102, 105, 114, 115, 116], [108, 97, 115, 116], [115, 117, 109], [115, 111, 114, 116], [111, 114], [32, 117, 112, 32, 108, 111, 119, 32, 114, 101, 118, 32, 108, 101, 110, 32, 104, 97, 108, 102, 32, 116, 104, 105, 114, 100, 32, 105, 110, 116, 32, 114, 101, 97, 108, 32, 98, 105, 116, 115, 32, 102, 105, 114, 115, 116, 32, 108, 97, 115, 116, 32, 115, 117, 109, 32, 115, 111, 114, 116, 32, 99, 117, 116, 32, 112, 97, 100, 32, 105, 110, 99, 32, 109, 117, 108, 32, 111, 114, 32]]
/-- which of the constants take a number -/
def cntL : List Int32 := [0, 0, 0, 0, 1, 1, 1, 1, 0, 0, 0, 0, 0, 0, 0, 0, 0, 1]
/-- the table of the switches over them -/
def swL : List Int32 := [8, 9, 15, 16, 17, 10, 1, 2, 3, 4, 5, 6, 7, 11, 12, 13, 14, 0]
def g_c (E : gE) (i : Nat) : Nat := E.2.2.2.1 i
/-- the constants that were there before: 1 .. 18 the enum's, 19 their row, 20 the switches' table, 21 .. 39 texts, 40 .. 58 their bytes -/
def g_S2 (E : gE) (U : State) (H : Heap) : Prop :=
  (∀ i, i < 18 → va_O "TemplatePress$Filter" (g_c E (1 + i)) (fun q => E.1 ≤ q) U H ∧ va_OF "java/lang/Enum" "ordinal" "I" (.int (Int32.ofNat i)) (g_c E (1 + i)) (fun q => E.1 ≤ q) U H ∧ va_OF "TemplatePress$Filter" "counted" "Z" (.int (cntL.getD i 0)) (g_c E (1 + i)) (fun q => E.1 ≤ q) U H ∧ va_OF "TemplatePress$Filter" "word" "Ljava/lang/String;" (.ref (g_c E (21 + i))) (g_c E (1 + i)) (fun q => E.1 ≤ q) U H) ∧
  (∀ i, i < 19 → va_O "java/lang/String" (g_c E (21 + i)) (fun q => E.1 ≤ q) U H ∧ va_OF "java/lang/String" "coder" "B" (.int 0) (g_c E (21 + i)) (fun q => E.1 ≤ q) U H ∧ va_OF "java/lang/String" "value" "[B" (.ref (g_c E (40 + i))) (g_c E (21 + i)) (fun q => E.1 ≤ q) U H ∧ va_T .byte (g_c E (40 + i)) (sWl.getD i []).length (fun j => .int ((sWl.getD i []).getD j 0)) (fun q => E.1 ≤ q) U H) ∧
  va_Z "TemplatePress$Filter" "ALL" "[LTemplatePress$Filter;" (.ref (g_c E 19)) (fun q => E.1 ≤ q) U H ∧ va_T (.object "TemplatePress$Filter") (g_c E 19) 18 (fun j => .ref (g_c E (1 + j))) (fun q => E.1 ≤ q) U H ∧
  va_Z "TemplatePress$Filter" "OR" "LTemplatePress$Filter;" (.ref (g_c E 18)) (fun q => E.1 ≤ q) U H ∧
  va_Z "TemplatePress$1" "$SwitchMap$TemplatePress$Filter" "[I" (.ref (g_c E 20)) (fun q => E.1 ≤ q) U H ∧ va_T .int (g_c E 20) 18 (fun j => .int (swL.getD j 0)) (fun q => E.1 ≤ q) U H ∧
  va_Z "java/lang/String" "COMPACT_STRINGS" "Z" (.int 1) (fun q => E.1 ≤ q) U H ∧
  va_T .int (g_c E 63) E.2.2.2.2.1 (fun j => .int (E.2.2.2.2.2 j)) (fun q => E.1 ≤ q) U H ∧
  (va_Z "jdk/internal/util/Preconditions" "SIOOBE_FORMATTER" "Ljava/util/function/BiFunction;" .null (fun q => E.1 ≤ q) U H ∨ va_Z "jdk/internal/util/Preconditions" "SIOOBE_FORMATTER" "Ljava/util/function/BiFunction;" (.ref (g_c E 62)) (fun q => E.1 ≤ q) U H)
theorem g_S2.moved {E : gE} {u U : State} {H : Heap} (hvm : u.vm.Alike U.vm) (h : g_S2 E u H) : g_S2 E U H := by
  obtain ⟨h1, h2, h3, h4, h5, h6, h7, h8, h8b, h9⟩ := h
  exact ⟨fun i hi => ⟨va_O.moved hvm (h1 i hi).1, va_OF.moved hvm (h1 i hi).2.1, va_OF.moved hvm (h1 i hi).2.2.1, va_OF.moved hvm (h1 i hi).2.2.2⟩, fun i hi => ⟨va_O.moved hvm (h2 i hi).1, va_OF.moved hvm (h2 i hi).2.1, va_OF.moved hvm (h2 i hi).2.2.1, va_T.moved hvm (h2 i hi).2.2.2⟩, va_Z.moved hvm h3, va_T.moved hvm h4, va_Z.moved hvm h5, va_Z.moved hvm h6, va_T.moved hvm h7, va_Z.moved hvm h8, va_T.moved hvm h8b, h9.imp (va_Z.moved hvm) (va_Z.moved hvm)⟩
theorem g_S2.kept {E : gE} {U : State} {H H1 : Heap} (h : g_S2 E U H) (hq : ∀ a : Nat, a < H.size → ¬ E.1 ≤ a → H1[a]? = H[a]?) : g_S2 E U H1 := by
  obtain ⟨h1, h2, h3, h4, h5, h6, h7, h8, h8b, h9⟩ := h
  exact ⟨fun i hi => ⟨(h1 i hi).1.kept hq, (h1 i hi).2.1.kept hq, (h1 i hi).2.2.1.kept hq, (h1 i hi).2.2.2.kept hq⟩, fun i hi => ⟨(h2 i hi).1.kept hq, (h2 i hi).2.1.kept hq, (h2 i hi).2.2.1.kept hq, (h2 i hi).2.2.2.kept hq⟩, h3.kept hq, h4.kept hq, h5.kept hq, h6.kept hq, h7.kept hq, h8.kept hq, h8b.kept hq, h9.imp (fun z => z.kept hq) (fun z => z.kept hq)⟩
/-- what is known of what was there before: words on nest mates, arrays that can be made -/
def g_St (E : gE) (U : State) (H : Heap) : Prop := (∀ w ∈ g_nest, va_Nw w U) ∧ (∀ C ∈ g_cl, va_AO C U) ∧ vk_R "TemplatePressModel" 255 " up low rev len half third int real bits first last sum sort cut pad inc mul or " (g_c E 39) U ∧ g_S2 E U H
def g_Q (E : gE) (r : Option Value) (hf : hp) : Array Value → State → Outcome → State → Prop := fun _ st oc t => oc = .returned (r.map (g_v E)) ∧ g_P E hf t.heap ∧ va_F (g_A E) st t
def g_Cx (E : gE) (y : MethodName) (cc : ByteArray) (ret : Option FieldType) (nL : Nat) (p : Program) (s : State) (m : MethodId) (args : Array Value) (meth : Method) (c : Code) : Prop :=
  p.tables.exec = Jvm.exec ∧ c.code = cc ∧ meth.sig.returnType = ret ∧ c.maxLocals = nL ∧ s.vm.findClass y.cls = some m.cls ∧ (∀ w ∈ lw_good, w.before args s = true) ∧ meth.locks = false ∧ meth.name = y.name ∧ va_K E.2.1 vwCl (g_tys E) s ∧ g_St E s s.heap ∧ E.1 ≤ s.heap.size
def g_rm (d n k : Nat) : Room := { frames := d, cells := n, slots := k, locals := 64 * d }
/-- from here on the method comes to its end with r, the heap being hf then -/
def AW (E : gE) (y : MethodName) (cc : ByteArray) (ret : Option FieldType) (nL d : Nat) (r : Option Value) (h0 hf : hp) (pc : Nat) (lv : List (Nat × Value)) (st : List Value) (h : hp) : Prop :=
  (hN h ≤ hN hf ∧ hL h ≤ hL hf) ∧ (hN h0 ≤ hN h → hL h0 ≤ hL h → ∀ (p : Program) (l : Launch) (e : Env) (s : State) (m : MethodId) (args : Array Value) (below : List Frame) (meth : Method) (c : Code), g_Cx E y cc ret nL p s m args meth c → ∀ (ls : Array Slot) (H : Heap) (locs : List Loc), lv_has ls nL (lvm E lv) → g_P E h H → va_S (g_A E) s.heap H locs →
    W p l e (g_rm d (hN hf - hN h0) (hL hf - hL h0)) s m args below meth c H locs (hN h - hN h0) (hL h - hL h0) (MQ below (g_Q E r hf) args s (hN hf - hN h0) (hL hf - hL h0) (g_A E)) (F0 m pc ls (stm E st)))
def MC (E : gE) (y : MethodName) (cc : ByteArray) (ret : Option FieldType) (nL d : Nat) (as : List Value) (h : hp) (r : Option Value) (h' : hp) : Prop :=
  (hN h ≤ hN h' ∧ hL h ≤ hL h') ∧ ∀ l : Launch, Met l y (Cond.code y cc nL ret :: lw_good) (g_rm d (hN h' - hN h) (hL h' - hL h)) (va_Pc (stm E as) (fun U => g_P E h U.heap ∧ va_K E.2.1 vwCl (g_tys E) U ∧ g_St E U U.heap)) (g_Q E r h') (hN h' - hN h) (hL h' - hL h) (g_A E)
theorem g_cat (E : gE) (v : Value) : (g_v E v).category = v.category := by
  cases v with
  | ref i =>
    show (va_rf (g_on E i)).category = 1
    cases g_on E i <;> rfl
  | _ => rfl
theorem lva {E : gE} {ls : Array Slot} {nL : Nat} {lv : List (Nat × Value)} {i q : Nat} {v : Value} (h : lv_has ls nL (lvm E lv)) (hl : lv[q]? = some (i, v)) : ls[i]? = some (.val (g_v E v)) :=
  lv_at h q (by simp [lvm, hl])
theorem lvs {E : gE} {lv lv1 : List (Nat × Value)} {i : Nat} {v : Value} (hl : (i, v) :: lv.filter (fun q => !(q.1 == i) && !(q.1 + 1 == i && q.2.category == 2)) = lv1) : (i, g_v E v) :: (lvm E lv).filter (fun q => !(q.1 == i) && !(q.1 + 1 == i && q.2.category == 2)) = lvm E lv1 := by
  subst hl
  simp only [lvm, List.map_cons, List.filter_map]
  congr 3
  funext q
  simp [g_cat]
theorem lvs2 {E : gE} {lv lv1 : List (Nat × Value)} {i : Nat} {v : Value} (hl : (i, v) :: lv.filter (fun q => !(q.1 == i) && (!(q.1 == i + 1) && !(q.1 + 1 == i && q.2.category == 2))) = lv1) : (i, g_v E v) :: (lvm E lv).filter (fun q => !(q.1 == i) && (!(q.1 == i + 1) && !(q.1 + 1 == i && q.2.category == 2))) = lvm E lv1 := by
  subst hl
  simp only [lvm, List.map_cons, List.filter_map]
  congr 3
  funext q
  simp [g_cat]
section AWR
variable {E : gE} {y : MethodName} {cc : ByteArray} {ret : Option FieldType} {nL d : Nat} {r : Option Value} {h0 hf h : hp} {pc pc' : Nat} {lv lv' : List (Nat × Value)} {st st' : List Value}
theorem AW.lift (row : ∀ (p : Program) (l : Launch) (e : Env) (R : Room) (s : State) (m : MethodId) (args : Array Value) (below : List Frame) (meth : Method) (c : Code) (H : Heap) (locs : List Loc) (cells slots : Nat) (Q : State → Prop), g_Cx E y cc ret nL p s m args meth c → ∀ ls : Array Slot, lv_has ls nL (lvm E lv) → (∀ ls' : Array Slot, lv_has ls' nL (lvm E lv') → W p l e R s m args below meth c H locs cells slots Q (F0 m pc' ls' (stm E st'))) → W p l e R s m args below meth c H locs cells slots Q (F0 m pc ls (stm E st)))
    (k : AW E y cc ret nL d r h0 hf pc' lv' st' h) : AW E y cc ret nL d r h0 hf pc lv st h :=
  ⟨k.1, fun g1 g2 p l e s m args below meth c C ls H locs hl hP hS => row p l e _ s m args below meth c H locs _ _ _ C ls hl fun ls' hl' => k.2 g1 g2 p l e s m args below meth c C ls' H locs hl' hP hS⟩
theorem AW.lift2 {pc2 : Nat} {st2 : List Value} {cnd : Prop} (row : ∀ (p : Program) (l : Launch) (e : Env) (R : Room) (s : State) (m : MethodId) (args : Array Value) (below : List Frame) (meth : Method) (c : Code) (H : Heap) (locs : List Loc) (cells slots : Nat) (Q : State → Prop), g_Cx E y cc ret nL p s m args meth c → ∀ ls : Array Slot, lv_has ls nL (lvm E lv) → (cnd → W p l e R s m args below meth c H locs cells slots Q (F0 m pc' ls (stm E st'))) → (¬ cnd → W p l e R s m args below meth c H locs cells slots Q (F0 m pc2 ls (stm E st2))) → W p l e R s m args below meth c H locs cells slots Q (F0 m pc ls (stm E st)))
    (k : cnd → AW E y cc ret nL d r h0 hf pc' lv st' h) (k2 : ¬ cnd → AW E y cc ret nL d r h0 hf pc2 lv st2 h) : AW E y cc ret nL d r h0 hf pc lv st h := by
  refine ⟨?_, fun g1 g2 p l e s m args below meth c C ls H locs hl hP hS => row p l e _ s m args below meth c H locs _ _ _ C ls hl (fun z => (k z).2 g1 g2 p l e s m args below meth c C ls H locs hl hP hS) (fun z => (k2 z).2 g1 g2 p l e s m args below meth c C ls H locs hl hP hS)⟩
  by_cases z : cnd
  · exact (k z).1
  · exact (k2 z).1
end AWR
