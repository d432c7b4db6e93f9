/-! the steps of the pure functions, and the rows that they stand for -/
def FU : Nat := 1000000
def gfI (h : hp) (a ci k : Nat) : Option Int32 := if (hT h a).1 = ci then some (hI h a k) else none
def gfF (h : hp) (a ci k : Nat) : Option UInt32 := if (hT h a).1 = ci then some (hF h a k) else none
def gfR (h : hp) (a ci k : Nat) : Option Nat := if (hT h a).1 = ci then some (hR h a k) else none
def pfI (h : hp) (a ci k : Nat) (x : Int32) : Option hp := if (hT h a).1 = ci then some (pI h a k x) else none
def pfZ (h : hp) (a ci k : Nat) (x : Int32) : Option hp := if (hT h a).1 = ci ∧ (x = 0 ∨ x = 1) then some (pI h a k x) else none
def pfF (h : hp) (a ci k : Nat) (x : UInt32) : Option hp := if (hT h a).1 = ci then some (pF h a k x) else none
def pfR (h : hp) (a ci k x : Nat) : Option hp := if (hT h a).1 = ci then some (pR h a k x) else none
def alI (h : hp) (a : Nat) (i : Int32) : Option Int32 := if (hT h a).1 = 100 ∧ 0 ≤ i.toInt ∧ i.toInt < (hT h a).2 then some (hI h a i.toNatClampNeg) else none
def alF (h : hp) (a : Nat) (i : Int32) : Option UInt32 := if (hT h a).1 = 101 ∧ 0 ≤ i.toInt ∧ i.toInt < (hT h a).2 then some (hF h a i.toNatClampNeg) else none
def alR (j : Nat) (h : hp) (a : Nat) (i : Int32) : Option Nat := if (hT h a).1 = 100 + j ∧ 0 ≤ i.toInt ∧ i.toInt < (hT h a).2 then some (hR h a i.toNatClampNeg) else none
def asI (h : hp) (a : Nat) (i x : Int32) : Option hp := if (hT h a).1 = 100 ∧ 0 ≤ i.toInt ∧ i.toInt < (hT h a).2 then some (pI h a i.toNatClampNeg x) else none
def asF (h : hp) (a : Nat) (i : Int32) (x : UInt32) : Option hp := if (hT h a).1 = 101 ∧ 0 ≤ i.toInt ∧ i.toInt < (hT h a).2 then some (pF h a i.toNatClampNeg x) else none
def asR (j : Nat) (h : hp) (a : Nat) (i : Int32) (x : Nat) : Option hp := if (hT h a).1 = 100 + j ∧ 0 ≤ i.toInt ∧ i.toInt < (hT h a).2 ∧ (x = 0 ∨ (hT h x).1 = g_cp j) then some (pR h a i.toNatClampNeg x) else none
def aln (j : Nat) (h : hp) (a : Nat) : Option Int32 := if (hT h a).1 = 100 + j then some (Int32.ofNat (hT h a).2) else none
def nwO (h : hp) (ci n : Nat) : Option (Nat × hp) := some (64 + hN h, nw h ci n)
def nwA (h : hp) (j : Nat) (n : Int32) : Option (Nat × hp) := if 0 ≤ n.toInt ∧ n.toInt ≤ 20000 then some (64 + hN h, nw h (100 + j) n.toNatClampNeg) else none
def ckT (h : hp) (a ci : Nat) : Option Unit := if (hT h a).1 = ci then some () else none
def zck (x : Int32) : Option Unit := if x = 0 ∨ x = 1 then some () else none
def dvI (x z : Int32) : Option Int32 := if z = 0 then none else some (x / z)
def rmI (x z : Int32) : Option Int32 := if z = 0 then none else some (x - x / z * z)
def fnn (r : UInt32) : Option UInt32 := if r &&& 0x7fffffff ≤ 0x7f800000 then some r else none
def dnn (r : UInt64) : Option UInt64 := if r &&& 0x7fffffffffffffff ≤ 0x7ff0000000000000 then some r else none
def cpI (h : hp) (a0 : Nat) (sp : Int32) (a : Nat) (dp n : Int32) : Option hp := if ((hT h a0).1 = 100 ∧ (hT h a).1 = 100) ∧ (0 ≤ sp.toInt ∧ 0 ≤ dp.toInt ∧ 0 ≤ n.toInt) ∧ sp.toInt + n.toInt ≤ (hT h a0).2 ∧ dp.toInt + n.toInt ≤ (hT h a).2 then some (pCI h a0 sp.toNatClampNeg a dp.toNatClampNeg n.toNatClampNeg) else none
def cpF (h : hp) (a0 : Nat) (sp : Int32) (a : Nat) (dp n : Int32) : Option hp := if ((hT h a0).1 = 101 ∧ (hT h a).1 = 101) ∧ (0 ≤ sp.toInt ∧ 0 ≤ dp.toInt ∧ 0 ≤ n.toInt) ∧ sp.toInt + n.toInt ≤ (hT h a0).2 ∧ dp.toInt + n.toInt ≤ (hT h a).2 then some (pCF h a0 sp.toNatClampNeg a dp.toNatClampNeg n.toNatClampNeg) else none
/-- a place where ways meet -/
def jn {α β : Type} (k : α) (b : α → β) : β := b k
theorem jn_s {α β : Type} {k : α} {b : α → β} {v : β} (h : jn k b = v) : ∃ k', k' = k ∧ b k' = v := ⟨k, rfl, h⟩
theorem obd {α β : Type} {x : Option α} {f : α → Option β} {b : β} (h : x.bind f = some b) : ∃ a, x = some a ∧ f a = some b := Option.bind_eq_some_iff.mp h
theorem opq_s {α : Type} {c : Prop} [Decidable c] {v w : α} (h : (if c then some v else none) = some w) : c ∧ v = w := by
  by_cases hc : c
  · rw [if_pos hc] at h; exact ⟨hc, Option.some.inj h⟩
  · rw [if_neg hc] at h; cases h
theorem opq_n {α : Type} {c : Prop} [Decidable c] {v w : α} (h : (if c then none else some v) = some w) : ¬ c ∧ v = w := by
  by_cases hc : c
  · rw [if_pos hc] at h; cases h
  · rw [if_neg hc] at h; exact ⟨hc, Option.some.inj h⟩
theorem lw_in {w : Cond} (h : w ∈ tables_1) (g : goodWord w = true) : w ∈ lw_good := List.mem_filter.mpr ⟨List.mem_append_right _ h, g⟩
theorem lw_inp {w : Cond} (h : w ∈ k2_sels lw_privs) (g : goodWord w = true) : w ∈ lw_good := List.mem_filter.mpr ⟨List.mem_append_left _ h, g⟩
section OPS
variable {E : gE} {y : MethodName} {cc : ByteArray} {ret : Option FieldType} {nL d : Nat} {r : Option Value} {h0 hf h h1 : hp} {pc pc' : Nat} {lv lv' : List (Nat × Value)} {st st' : List Value}
theorem o_gfI {ix ci k a : Nat} {v : Int32} (hdg : decode cc pc = .ok (.getfield ix, 3)) (hlk : g_lk y.cls ix ci k) (hk : g_kd (g_ty ci k) = 0) (e : gfI h a ci k = some v) (kk : AW E y cc ret nL d r h0 hf (pc + 3) lv (.int v :: st) h) : AW E y cc ret nL d r h0 hf pc lv (.ref a :: st) h := by
  obtain ⟨t, rfl⟩ := opq_s e
  exact a_getI hdg hlk hk t kk
theorem o_gfF {ix ci k a : Nat} {v : UInt32} (hdg : decode cc pc = .ok (.getfield ix, 3)) (hlk : g_lk y.cls ix ci k) (hk : g_kd (g_ty ci k) = 1) (e : gfF h a ci k = some v) (kk : AW E y cc ret nL d r h0 hf (pc + 3) lv (.float v :: st) h) : AW E y cc ret nL d r h0 hf pc lv (.ref a :: st) h := by
  obtain ⟨t, rfl⟩ := opq_s e
  exact a_getF hdg hlk hk t kk
theorem o_gfR {ix ci k a : Nat} {v : Nat} (hdg : decode cc pc = .ok (.getfield ix, 3)) (hlk : g_lk y.cls ix ci k) (hk : g_kd (g_ty ci k) = 2) (e : gfR h a ci k = some v) (kk : AW E y cc ret nL d r h0 hf (pc + 3) lv (.ref v :: st) h) : AW E y cc ret nL d r h0 hf pc lv (.ref a :: st) h := by
  obtain ⟨t, rfl⟩ := opq_s e
  exact a_getR hdg hlk hk t kk
theorem o_pfI {ix ci k a : Nat} {x : Int32} (hdg : decode cc pc = .ok (.putfield ix, 3)) (hlk : g_lk y.cls ix ci k) (hfin : g_fin y ix ci k) (hty : g_ty ci k = .int) (e : pfI h a ci k x = some h1) (kk : AW E y cc ret nL d r h0 hf (pc + 3) lv st h1) : AW E y cc ret nL d r h0 hf pc lv (.int x :: .ref a :: st) h := by
  obtain ⟨t, rfl⟩ := opq_s e
  exact a_putI hdg hlk hfin hty t kk
theorem o_pfZ {ix ci k a : Nat} {x : Int32} (hdg : decode cc pc = .ok (.putfield ix, 3)) (hlk : g_lk y.cls ix ci k) (hfin : g_fin y ix ci k) (hty : g_ty ci k = .boolean) (e : pfZ h a ci k x = some h1) (kk : AW E y cc ret nL d r h0 hf (pc + 3) lv st h1) : AW E y cc ret nL d r h0 hf pc lv (.int x :: .ref a :: st) h := by
  obtain ⟨⟨t, t2⟩, rfl⟩ := opq_s e
  exact a_putZ hdg hlk hfin hty t t2 kk
theorem o_pfF {ix ci k a : Nat} {x : UInt32} (hdg : decode cc pc = .ok (.putfield ix, 3)) (hlk : g_lk y.cls ix ci k) (hfin : g_fin y ix ci k) (hty : g_ty ci k = .float) (e : pfF h a ci k x = some h1) (kk : AW E y cc ret nL d r h0 hf (pc + 3) lv st h1) : AW E y cc ret nL d r h0 hf pc lv (.float x :: .ref a :: st) h := by
  obtain ⟨t, rfl⟩ := opq_s e
  exact a_putF hdg hlk hfin hty t kk
theorem o_pfR {ix ci k a x : Nat} (hdg : decode cc pc = .ok (.putfield ix, 3)) (hlk : g_lk y.cls ix ci k) (hfin : g_fin y ix ci k) (hk : g_kd (g_ty ci k) = 2) (e : pfR h a ci k x = some h1) (kk : AW E y cc ret nL d r h0 hf (pc + 3) lv st h1) : AW E y cc ret nL d r h0 hf pc lv (.ref x :: .ref a :: st) h := by
  obtain ⟨t, rfl⟩ := opq_s e
  exact a_putR hdg hlk hfin hk t kk
theorem o_alI {a : Nat} {i v : Int32} (hdg : decode cc pc = .ok (.iaload, 1)) (e : alI h a i = some v) (kk : AW E y cc ret nL d r h0 hf (pc + 1) lv (.int v :: st) h) : AW E y cc ret nL d r h0 hf pc lv (.int i :: .ref a :: st) h := by
  obtain ⟨⟨t, t2⟩, rfl⟩ := opq_s e
  exact a_iald hdg t (vp_in_iff.mpr t2) kk
theorem o_alF {a : Nat} {i : Int32} {v : UInt32} (hdg : decode cc pc = .ok (.faload, 1)) (e : alF h a i = some v) (kk : AW E y cc ret nL d r h0 hf (pc + 1) lv (.float v :: st) h) : AW E y cc ret nL d r h0 hf pc lv (.int i :: .ref a :: st) h := by
  obtain ⟨⟨t, t2⟩, rfl⟩ := opq_s e
  exact a_fald hdg t (vp_in_iff.mpr t2) kk
theorem o_alR {a j : Nat} {i : Int32} {v : Nat} (hdg : decode cc pc = .ok (.aaload, 1)) (hj : 2 ≤ j ∧ j < 7) (e : alR j h a i = some v) (kk : AW E y cc ret nL d r h0 hf (pc + 1) lv (.ref v :: st) h) : AW E y cc ret nL d r h0 hf pc lv (.int i :: .ref a :: st) h := by
  obtain ⟨⟨t, t2⟩, rfl⟩ := opq_s e
  exact a_aald hdg hj t (vp_in_iff.mpr t2) kk
theorem o_asI {a : Nat} {i x : Int32} (hdg : decode cc pc = .ok (.iastore, 1)) (e : asI h a i x = some h1) (kk : AW E y cc ret nL d r h0 hf (pc + 1) lv st h1) : AW E y cc ret nL d r h0 hf pc lv (.int x :: .int i :: .ref a :: st) h := by
  obtain ⟨⟨t, t2⟩, rfl⟩ := opq_s e
  exact a_iast hdg t (vp_in_iff.mpr t2) kk
theorem o_asF {a : Nat} {i : Int32} {x : UInt32} (hdg : decode cc pc = .ok (.fastore, 1)) (e : asF h a i x = some h1) (kk : AW E y cc ret nL d r h0 hf (pc + 1) lv st h1) : AW E y cc ret nL d r h0 hf pc lv (.float x :: .int i :: .ref a :: st) h := by
  obtain ⟨⟨t, t2⟩, rfl⟩ := opq_s e
  exact a_fast hdg t (vp_in_iff.mpr t2) kk
theorem o_asR {a j x : Nat} {i : Int32} (hdg : decode cc pc = .ok (.aastore, 1)) (hj : 2 ≤ j ∧ j < 7) (e : asR j h a i x = some h1) (kk : AW E y cc ret nL d r h0 hf (pc + 1) lv st h1) : AW E y cc ret nL d r h0 hf pc lv (.ref x :: .int i :: .ref a :: st) h := by
  obtain ⟨⟨t, t2, t3, t4⟩, rfl⟩ := opq_s e
  exact a_aast hdg hj t (vp_in_iff.mpr ⟨t2, t3⟩) t4 kk
theorem o_aln {a j : Nat} {v : Int32} (hdg : decode cc pc = .ok (.arraylength, 1)) (hj : j < 7) (e : aln j h a = some v) (kk : AW E y cc ret nL d r h0 hf (pc + 1) lv (.int v :: st) h) : AW E y cc ret nL d r h0 hf pc lv (.ref a :: st) h := by
  obtain ⟨t, rfl⟩ := opq_s e
  exact a_alen hdg hj t kk
theorem o_nwO {ix ci a N : Nat} {q : vw_C} (hdg : decode cc pc = .ok (.new ix, 3)) (hc : vwCl[ci]? = some q) (hN : q.2.2 = N) (hin : ∀ w ∈ u_ws q.1 q.2.1 q.2.2, w ∈ lw_good) (hty : ∀ k, k < q.2.2 → parseFieldDescriptor (q.2.1 k).2.2.1 = some (g_ty ci k)) (hok : ∀ k, k < q.2.2 → g_okt (g_ty ci k) = true) (hcl : Cond.classLink y.cls ix q.1 ∈ lw_good) (hins : Cond.instantiable q.1 q.2.2 ∈ lw_good) (hini : Cond.initialized q.1 ∈ lw_good) (e : nwO h ci N = some (a, h1))
    (kk : AW E y cc ret nL d r h0 hf (pc + 3) lv (.ref a :: st) h1) : AW E y cc ret nL d r h0 hf pc lv st h := by
  subst hN
  cases e
  exact a_new hdg hc hin hty hok hcl hins hini kk
theorem g_n0 {n : Int32} (h : 0 ≤ n.toInt) : ¬ n < 0 := fun q => by
  have h1 := Int32.lt_iff_toInt_lt.mp q
  have h2 : (0 : Int32).toInt = 0 := rfl
  omega
theorem o_nwI {a : Nat} {n : Int32} (hdg : decode cc pc = .ok (.newarray .int, 2)) (harr : Cond.arrayClass .int ∈ lw_good) (e : nwA h 0 n = some (a, h1)) (kk : AW E y cc ret nL d r h0 hf (pc + 2) lv (.ref a :: st) h1) : AW E y cc ret nL d r h0 hf pc lv (.int n :: st) h := by
  obtain ⟨⟨t, t2⟩, e⟩ := opq_s e
  cases e
  exact a_newI hdg harr (g_n0 t) (by have := g_nn (g_n0 t); omega) kk
theorem o_nwF {a : Nat} {n : Int32} (hdg : decode cc pc = .ok (.newarray .float, 2)) (harr : Cond.arrayClass .float ∈ lw_good) (e : nwA h 1 n = some (a, h1)) (kk : AW E y cc ret nL d r h0 hf (pc + 2) lv (.ref a :: st) h1) : AW E y cc ret nL d r h0 hf pc lv (.int n :: st) h := by
  obtain ⟨⟨t, t2⟩, e⟩ := opq_s e
  cases e
  exact a_newF hdg harr (g_n0 t) (by have := g_nn (g_n0 t); omega) kk
theorem o_nwR {ix j a : Nat} {n : Int32} {C0 : String} (hdg : decode cc pc = .ok (.anewarray ix, 3)) (hj : 2 ≤ j ∧ j < 7) (hC0 : g_at j = .object C0) (hcl : Cond.classLink y.cls ix C0 ∈ lw_good) (hov : C0 ∈ g_cl) (e : nwA h j n = some (a, h1)) (kk : AW E y cc ret nL d r h0 hf (pc + 3) lv (.ref a :: st) h1) : AW E y cc ret nL d r h0 hf pc lv (.int n :: st) h := by
  obtain ⟨⟨t, t2⟩, e⟩ := opq_s e
  cases e
  exact a_newR hdg hj hC0 hcl hov (g_n0 t) (by have := g_nn (g_n0 t); omega) kk
theorem o_dvI {x z v : Int32} (hdg : decode cc pc = .ok (.idiv, 1)) (e : dvI x z = some v) (kk : AW E y cc ret nL d r h0 hf (pc + 1) lv (.int v :: st) h) : AW E y cc ret nL d r h0 hf pc lv (.int z :: .int x :: st) h := by
  obtain ⟨t, rfl⟩ := opq_n e
  exact a_idiv hdg t kk
theorem o_rmI {x z v : Int32} (hdg : decode cc pc = .ok (.irem, 1)) (e : rmI x z = some v) (kk : AW E y cc ret nL d r h0 hf (pc + 1) lv (.int v :: st) h) : AW E y cc ret nL d r h0 hf pc lv (.int z :: .int x :: st) h := by
  obtain ⟨t, rfl⟩ := opq_n e
  exact a_irem hdg t kk
theorem o_fadd {x z v : UInt32} (hdg : decode cc pc = .ok (.fadd, 1)) (e : fnn (FP.fadd x z) = some v) (kk : AW E y cc ret nL d r h0 hf (pc + 1) lv (.float v :: st) h) : AW E y cc ret nL d r h0 hf pc lv (.float z :: .float x :: st) h := by
  obtain ⟨t, rfl⟩ := opq_s e
  exact a_fadd hdg t kk
theorem o_fsub {x z v : UInt32} (hdg : decode cc pc = .ok (.fsub, 1)) (e : fnn (FP.fsub x z) = some v) (kk : AW E y cc ret nL d r h0 hf (pc + 1) lv (.float v :: st) h) : AW E y cc ret nL d r h0 hf pc lv (.float z :: .float x :: st) h := by
  obtain ⟨t, rfl⟩ := opq_s e
  exact a_fsub hdg t kk
theorem o_fmul {x z v : UInt32} (hdg : decode cc pc = .ok (.fmul, 1)) (e : fnn (FP.fmul x z) = some v) (kk : AW E y cc ret nL d r h0 hf (pc + 1) lv (.float v :: st) h) : AW E y cc ret nL d r h0 hf pc lv (.float z :: .float x :: st) h := by
  obtain ⟨t, rfl⟩ := opq_s e
  exact a_fmul hdg t kk
theorem o_fdiv {x z v : UInt32} (hdg : decode cc pc = .ok (.fdiv, 1)) (e : fnn (FP.fdiv x z) = some v) (kk : AW E y cc ret nL d r h0 hf (pc + 1) lv (.float v :: st) h) : AW E y cc ret nL d r h0 hf pc lv (.float z :: .float x :: st) h := by
  obtain ⟨t, rfl⟩ := opq_s e
  exact a_fdiv hdg t kk
theorem o_dmul {x z v : UInt64} (hdg : decode cc pc = .ok (.dmul, 1)) (e : dnn (FP.dmul x z) = some v) (kk : AW E y cc ret nL d r h0 hf (pc + 1) lv (.double v :: st) h) : AW E y cc ret nL d r h0 hf pc lv (.double z :: .double x :: st) h := by
  obtain ⟨t, rfl⟩ := opq_s e
  exact a_dmul hdg t kk
theorem o_f2d {x : UInt32} {v : UInt64} (hdg : decode cc pc = .ok (.f2d, 1)) (e : dnn (FP.f2d x) = some v) (kk : AW E y cc ret nL d r h0 hf (pc + 1) lv (.double v :: st) h) : AW E y cc ret nL d r h0 hf pc lv (.float x :: st) h := by
  obtain ⟨t, rfl⟩ := opq_s e
  exact a_f2d hdg t kk
theorem ckT_s {a ci : Nat} {u : Unit} (e : ckT h a ci = some u) : (hT h a).1 = ci := (opq_s e).1
theorem zck_s {x : Int32} {u : Unit} (e : zck x = some u) : x = 0 ∨ x = 1 := (opq_s e).1
theorem o_objI {ix a ci : Nat} (hdg : decode cc pc = .ok (.invokespecial ix, 3)) (hd : 1 ≤ d) (hl : Cond.methodLink y.cls ix objectInit ∈ lw_good) (hi : Cond.instanceMethod objectInit ∈ lw_good) (hc : Cond.code objectInit ⟨#[0xb1]⟩ 1 none ∈ lw_good) (hci : ci < 200) (ht : (hT h a).1 = ci) (hst : (st.map fun v => v.category).sum ≤ 8) (k : AW E y cc ret nL d r h0 hf (pc + 3) lv st h) : AW E y cc ret nL d r h0 hf pc lv (.ref a :: st) h := by
  refine ⟨k.1, fun g1 g2 p l e s m args below meth c C ls H locs hl0 hP hS => ?_⟩
  obtain ⟨i, ha, -, -, -⟩ := g_cell hP (a := a) (by omega)
  exact (a_objInit hdg hd hl hi hc ha hst k).2 g1 g2 p l e s m args below meth c C ls H locs hl0 hP hS
theorem g_i2 {x : Int32} {n : Nat} (h1 : 0 ≤ x.toInt) : x.toInt = (x.toNatClampNeg : Int) := g_nn (g_n0 h1)
theorem o_cpI {ix a0 a : Nat} {sp dp n : Int32} (hdg : decode cc pc = .ok (.invokestatic ix, 3)) (hd : 1 ≤ d) (hlink : Cond.methodLink y.cls ix arraycopyName ∈ lw_good) (hnat : Cond.native arraycopyName ∈ lw_good) (hstat : Cond.static arraycopyName ∈ lw_good) (hini : Cond.initialized "java/lang/System" ∈ lw_good) (e : cpI h a0 sp a dp n = some h1) (hroom : (st.map fun v => v.category).sum ≤ 8)
    (kk : AW E y cc ret nL d r h0 hf (pc + 3) lv st h1) : AW E y cc ret nL d r h0 hf pc lv (.int n :: .int dp :: .ref a :: .int sp :: .ref a0 :: st) h := by
  obtain ⟨⟨⟨t1, t2⟩, ⟨t3, t4, t5⟩, t6, t7⟩, rfl⟩ := opq_s e
  have e1 := g_nn (g_n0 t3)
  have e2 := g_nn (g_n0 t4)
  have e3 := g_nn (g_n0 t5)
  refine a_copy (j := 0) (h1 := pCI h a0 sp.toNatClampNeg a dp.toNatClampNeg n.toNatClampNeg) hdg hd (by decide) hlink hnat hstat hini t1 t2 (g_n0 t3) (g_n0 t4) (g_n0 t5) (by omega) (by omega) ⟨rfl, rfl, rfl, fun b hb => ⟨funext fun k => if_neg fun q => hb q.1, rfl, rfl⟩⟩ (fun k => ?_) hroom kk
  by_cases hk : dp.toNatClampNeg ≤ k ∧ k < dp.toNatClampNeg + n.toNatClampNeg
  · rw [if_pos hk]; exact congrArg Value.int (if_pos ⟨rfl, hk⟩)
  · rw [if_neg hk]; exact congrArg Value.int (if_neg fun q => hk q.2)
theorem o_cpF {ix a0 a : Nat} {sp dp n : Int32} (hdg : decode cc pc = .ok (.invokestatic ix, 3)) (hd : 1 ≤ d) (hlink : Cond.methodLink y.cls ix arraycopyName ∈ lw_good) (hnat : Cond.native arraycopyName ∈ lw_good) (hstat : Cond.static arraycopyName ∈ lw_good) (hini : Cond.initialized "java/lang/System" ∈ lw_good) (e : cpF h a0 sp a dp n = some h1) (hroom : (st.map fun v => v.category).sum ≤ 8)
    (kk : AW E y cc ret nL d r h0 hf (pc + 3) lv st h1) : AW E y cc ret nL d r h0 hf pc lv (.int n :: .int dp :: .ref a :: .int sp :: .ref a0 :: st) h := by
  obtain ⟨⟨⟨t1, t2⟩, ⟨t3, t4, t5⟩, t6, t7⟩, rfl⟩ := opq_s e
  have e1 := g_nn (g_n0 t3)
  have e2 := g_nn (g_n0 t4)
  have e3 := g_nn (g_n0 t5)
  refine a_copy (j := 1) (h1 := pCF h a0 sp.toNatClampNeg a dp.toNatClampNeg n.toNatClampNeg) hdg hd (by decide) hlink hnat hstat hini t1 t2 (g_n0 t3) (g_n0 t4) (g_n0 t5) (by omega) (by omega) ⟨rfl, rfl, rfl, fun b hb => ⟨rfl, funext fun k => if_neg fun q => hb q.1, rfl⟩⟩ (fun k => ?_) hroom kk
  by_cases hk : dp.toNatClampNeg ≤ k ∧ k < dp.toNatClampNeg + n.toNatClampNeg
  · rw [if_pos hk]; exact congrArg Value.float (if_pos ⟨rfl, hk⟩)
  · rw [if_neg hk]; exact congrArg Value.float (if_neg fun q => hk q.2)
end OPS
theorem ifp {α : Type} {c : Prop} [Decidable c] {a b r : α} (hc : c) (h : (if c then a else b) = r) : a = r := by rw [if_pos hc] at h; exact h
theorem ifn {α : Type} {c : Prop} [Decidable c] {a b r : α} (hc : ¬ c) (h : (if c then a else b) = r) : b = r := by rw [if_neg hc] at h; exact h
theorem lw_in2 {w : Cond} (h : w ∈ lw_tbl) (g : goodWord w = true) : w ∈ lw_good := List.mem_filter.mpr ⟨h, g⟩
def bd2 {A0 A1 C : Type} (x : Option (A0 × A1)) (f : A0 → A1 → Option C) : Option C := x.bind fun q => f q.1 q.2
theorem ob2 {A0 A1 C : Type} {x : Option (A0 × A1)} {f : A0 → A1 → Option C} {b : C} (h : bd2 x f = some b) : ∃ a0 a1, x = some (a0, a1) ∧ f a0 a1 = some b := by
  obtain ⟨⟨a0, a1⟩, e, h⟩ := Option.bind_eq_some_iff.mp h
  exact ⟨a0, a1, e, h⟩
def bd3 {A0 A1 A2 C : Type} (x : Option (A0 × A1 × A2)) (f : A0 → A1 → A2 → Option C) : Option C := x.bind fun q => f q.1 q.2.1 q.2.2
theorem ob3 {A0 A1 A2 C : Type} {x : Option (A0 × A1 × A2)} {f : A0 → A1 → A2 → Option C} {b : C} (h : bd3 x f = some b) : ∃ a0 a1 a2, x = some (a0, a1, a2) ∧ f a0 a1 a2 = some b := by
  obtain ⟨⟨a0, a1, a2⟩, e, h⟩ := Option.bind_eq_some_iff.mp h
  exact ⟨a0, a1, a2, e, h⟩
def bd4 {A0 A1 A2 A3 C : Type} (x : Option (A0 × A1 × A2 × A3)) (f : A0 → A1 → A2 → A3 → Option C) : Option C := x.bind fun q => f q.1 q.2.1 q.2.2.1 q.2.2.2
theorem ob4 {A0 A1 A2 A3 C : Type} {x : Option (A0 × A1 × A2 × A3)} {f : A0 → A1 → A2 → A3 → Option C} {b : C} (h : bd4 x f = some b) : ∃ a0 a1 a2 a3, x = some (a0, a1, a2, a3) ∧ f a0 a1 a2 a3 = some b := by
  obtain ⟨⟨a0, a1, a2, a3⟩, e, h⟩ := Option.bind_eq_some_iff.mp h
  exact ⟨a0, a1, a2, a3, e, h⟩
def bd5 {A0 A1 A2 A3 A4 C : Type} (x : Option (A0 × A1 × A2 × A3 × A4)) (f : A0 → A1 → A2 → A3 → A4 → Option C) : Option C := x.bind fun q => f q.1 q.2.1 q.2.2.1 q.2.2.2.1 q.2.2.2.2
theorem ob5 {A0 A1 A2 A3 A4 C : Type} {x : Option (A0 × A1 × A2 × A3 × A4)} {f : A0 → A1 → A2 → A3 → A4 → Option C} {b : C} (h : bd5 x f = some b) : ∃ a0 a1 a2 a3 a4, x = some (a0, a1, a2, a3, a4) ∧ f a0 a1 a2 a3 a4 = some b := by
  obtain ⟨⟨a0, a1, a2, a3, a4⟩, e, h⟩ := Option.bind_eq_some_iff.mp h
  exact ⟨a0, a1, a2, a3, a4, e, h⟩
def bd6 {A0 A1 A2 A3 A4 A5 C : Type} (x : Option (A0 × A1 × A2 × A3 × A4 × A5)) (f : A0 → A1 → A2 → A3 → A4 → A5 → Option C) : Option C := x.bind fun q => f q.1 q.2.1 q.2.2.1 q.2.2.2.1 q.2.2.2.2.1 q.2.2.2.2.2
theorem ob6 {A0 A1 A2 A3 A4 A5 C : Type} {x : Option (A0 × A1 × A2 × A3 × A4 × A5)} {f : A0 → A1 → A2 → A3 → A4 → A5 → Option C} {b : C} (h : bd6 x f = some b) : ∃ a0 a1 a2 a3 a4 a5, x = some (a0, a1, a2, a3, a4, a5) ∧ f a0 a1 a2 a3 a4 a5 = some b := by
  obtain ⟨⟨a0, a1, a2, a3, a4, a5⟩, e, h⟩ := Option.bind_eq_some_iff.mp h
  exact ⟨a0, a1, a2, a3, a4, a5, e, h⟩
def bd7 {A0 A1 A2 A3 A4 A5 A6 C : Type} (x : Option (A0 × A1 × A2 × A3 × A4 × A5 × A6)) (f : A0 → A1 → A2 → A3 → A4 → A5 → A6 → Option C) : Option C := x.bind fun q => f q.1 q.2.1 q.2.2.1 q.2.2.2.1 q.2.2.2.2.1 q.2.2.2.2.2.1 q.2.2.2.2.2.2
theorem ob7 {A0 A1 A2 A3 A4 A5 A6 C : Type} {x : Option (A0 × A1 × A2 × A3 × A4 × A5 × A6)} {f : A0 → A1 → A2 → A3 → A4 → A5 → A6 → Option C} {b : C} (h : bd7 x f = some b) : ∃ a0 a1 a2 a3 a4 a5 a6, x = some (a0, a1, a2, a3, a4, a5, a6) ∧ f a0 a1 a2 a3 a4 a5 a6 = some b := by
  obtain ⟨⟨a0, a1, a2, a3, a4, a5, a6⟩, e, h⟩ := Option.bind_eq_some_iff.mp h
  exact ⟨a0, a1, a2, a3, a4, a5, a6, e, h⟩
def bd8 {A0 A1 A2 A3 A4 A5 A6 A7 C : Type} (x : Option (A0 × A1 × A2 × A3 × A4 × A5 × A6 × A7)) (f : A0 → A1 → A2 → A3 → A4 → A5 → A6 → A7 → Option C) : Option C := x.bind fun q => f q.1 q.2.1 q.2.2.1 q.2.2.2.1 q.2.2.2.2.1 q.2.2.2.2.2.1 q.2.2.2.2.2.2.1 q.2.2.2.2.2.2.2
theorem ob8 {A0 A1 A2 A3 A4 A5 A6 A7 C : Type} {x : Option (A0 × A1 × A2 × A3 × A4 × A5 × A6 × A7)} {f : A0 → A1 → A2 → A3 → A4 → A5 → A6 → A7 → Option C} {b : C} (h : bd8 x f = some b) : ∃ a0 a1 a2 a3 a4 a5 a6 a7, x = some (a0, a1, a2, a3, a4, a5, a6, a7) ∧ f a0 a1 a2 a3 a4 a5 a6 a7 = some b := by
  obtain ⟨⟨a0, a1, a2, a3, a4, a5, a6, a7⟩, e, h⟩ := Option.bind_eq_some_iff.mp h
  exact ⟨a0, a1, a2, a3, a4, a5, a6, a7, e, h⟩
def bd9 {A0 A1 A2 A3 A4 A5 A6 A7 A8 C : Type} (x : Option (A0 × A1 × A2 × A3 × A4 × A5 × A6 × A7 × A8)) (f : A0 → A1 → A2 → A3 → A4 → A5 → A6 → A7 → A8 → Option C) : Option C := x.bind fun q => f q.1 q.2.1 q.2.2.1 q.2.2.2.1 q.2.2.2.2.1 q.2.2.2.2.2.1 q.2.2.2.2.2.2.1 q.2.2.2.2.2.2.2.1 q.2.2.2.2.2.2.2.2
theorem ob9 {A0 A1 A2 A3 A4 A5 A6 A7 A8 C : Type} {x : Option (A0 × A1 × A2 × A3 × A4 × A5 × A6 × A7 × A8)} {f : A0 → A1 → A2 → A3 → A4 → A5 → A6 → A7 → A8 → Option C} {b : C} (h : bd9 x f = some b) : ∃ a0 a1 a2 a3 a4 a5 a6 a7 a8, x = some (a0, a1, a2, a3, a4, a5, a6, a7, a8) ∧ f a0 a1 a2 a3 a4 a5 a6 a7 a8 = some b := by
  obtain ⟨⟨a0, a1, a2, a3, a4, a5, a6, a7, a8⟩, e, h⟩ := Option.bind_eq_some_iff.mp h
  exact ⟨a0, a1, a2, a3, a4, a5, a6, a7, a8, e, h⟩
def bd10 {A0 A1 A2 A3 A4 A5 A6 A7 A8 A9 C : Type} (x : Option (A0 × A1 × A2 × A3 × A4 × A5 × A6 × A7 × A8 × A9)) (f : A0 → A1 → A2 → A3 → A4 → A5 → A6 → A7 → A8 → A9 → Option C) : Option C := x.bind fun q => f q.1 q.2.1 q.2.2.1 q.2.2.2.1 q.2.2.2.2.1 q.2.2.2.2.2.1 q.2.2.2.2.2.2.1 q.2.2.2.2.2.2.2.1 q.2.2.2.2.2.2.2.2.1 q.2.2.2.2.2.2.2.2.2
theorem ob10 {A0 A1 A2 A3 A4 A5 A6 A7 A8 A9 C : Type} {x : Option (A0 × A1 × A2 × A3 × A4 × A5 × A6 × A7 × A8 × A9)} {f : A0 → A1 → A2 → A3 → A4 → A5 → A6 → A7 → A8 → A9 → Option C} {b : C} (h : bd10 x f = some b) : ∃ a0 a1 a2 a3 a4 a5 a6 a7 a8 a9, x = some (a0, a1, a2, a3, a4, a5, a6, a7, a8, a9) ∧ f a0 a1 a2 a3 a4 a5 a6 a7 a8 a9 = some b := by
  obtain ⟨⟨a0, a1, a2, a3, a4, a5, a6, a7, a8, a9⟩, e, h⟩ := Option.bind_eq_some_iff.mp h
  exact ⟨a0, a1, a2, a3, a4, a5, a6, a7, a8, a9, e, h⟩
def bd11 {A0 A1 A2 A3 A4 A5 A6 A7 A8 A9 A10 C : Type} (x : Option (A0 × A1 × A2 × A3 × A4 × A5 × A6 × A7 × A8 × A9 × A10)) (f : A0 → A1 → A2 → A3 → A4 → A5 → A6 → A7 → A8 → A9 → A10 → Option C) : Option C := x.bind fun q => f q.1 q.2.1 q.2.2.1 q.2.2.2.1 q.2.2.2.2.1 q.2.2.2.2.2.1 q.2.2.2.2.2.2.1 q.2.2.2.2.2.2.2.1 q.2.2.2.2.2.2.2.2.1 q.2.2.2.2.2.2.2.2.2.1 q.2.2.2.2.2.2.2.2.2.2
theorem ob11 {A0 A1 A2 A3 A4 A5 A6 A7 A8 A9 A10 C : Type} {x : Option (A0 × A1 × A2 × A3 × A4 × A5 × A6 × A7 × A8 × A9 × A10)} {f : A0 → A1 → A2 → A3 → A4 → A5 → A6 → A7 → A8 → A9 → A10 → Option C} {b : C} (h : bd11 x f = some b) : ∃ a0 a1 a2 a3 a4 a5 a6 a7 a8 a9 a10, x = some (a0, a1, a2, a3, a4, a5, a6, a7, a8, a9, a10) ∧ f a0 a1 a2 a3 a4 a5 a6 a7 a8 a9 a10 = some b := by
  obtain ⟨⟨a0, a1, a2, a3, a4, a5, a6, a7, a8, a9, a10⟩, e, h⟩ := Option.bind_eq_some_iff.mp h
  exact ⟨a0, a1, a2, a3, a4, a5, a6, a7, a8, a9, a10, e, h⟩
def bd12 {A0 A1 A2 A3 A4 A5 A6 A7 A8 A9 A10 A11 C : Type} (x : Option (A0 × A1 × A2 × A3 × A4 × A5 × A6 × A7 × A8 × A9 × A10 × A11)) (f : A0 → A1 → A2 → A3 → A4 → A5 → A6 → A7 → A8 → A9 → A10 → A11 → Option C) : Option C := x.bind fun q => f q.1 q.2.1 q.2.2.1 q.2.2.2.1 q.2.2.2.2.1 q.2.2.2.2.2.1 q.2.2.2.2.2.2.1 q.2.2.2.2.2.2.2.1 q.2.2.2.2.2.2.2.2.1 q.2.2.2.2.2.2.2.2.2.1 q.2.2.2.2.2.2.2.2.2.2.1 q.2.2.2.2.2.2.2.2.2.2.2
theorem ob12 {A0 A1 A2 A3 A4 A5 A6 A7 A8 A9 A10 A11 C : Type} {x : Option (A0 × A1 × A2 × A3 × A4 × A5 × A6 × A7 × A8 × A9 × A10 × A11)} {f : A0 → A1 → A2 → A3 → A4 → A5 → A6 → A7 → A8 → A9 → A10 → A11 → Option C} {b : C} (h : bd12 x f = some b) : ∃ a0 a1 a2 a3 a4 a5 a6 a7 a8 a9 a10 a11, x = some (a0, a1, a2, a3, a4, a5, a6, a7, a8, a9, a10, a11) ∧ f a0 a1 a2 a3 a4 a5 a6 a7 a8 a9 a10 a11 = some b := by
  obtain ⟨⟨a0, a1, a2, a3, a4, a5, a6, a7, a8, a9, a10, a11⟩, e, h⟩ := Option.bind_eq_some_iff.mp h
  exact ⟨a0, a1, a2, a3, a4, a5, a6, a7, a8, a9, a10, a11, e, h⟩
theorem oc2 {A0 A1 : Type} {a0 b0 : A0} {a1 b1 : A1} (h : some (a0, a1) = some (b0, b1)) : a0 = b0 ∧ a1 = b1 := by
  cases h
  exact ⟨rfl, rfl⟩
theorem oc3 {A0 A1 A2 : Type} {a0 b0 : A0} {a1 b1 : A1} {a2 b2 : A2} (h : some (a0, a1, a2) = some (b0, b1, b2)) : a0 = b0 ∧ a1 = b1 ∧ a2 = b2 := by
  cases h
  exact ⟨rfl, rfl, rfl⟩
theorem oc4 {A0 A1 A2 A3 : Type} {a0 b0 : A0} {a1 b1 : A1} {a2 b2 : A2} {a3 b3 : A3} (h : some (a0, a1, a2, a3) = some (b0, b1, b2, b3)) : a0 = b0 ∧ a1 = b1 ∧ a2 = b2 ∧ a3 = b3 := by
  cases h
  exact ⟨rfl, rfl, rfl, rfl⟩
theorem oc5 {A0 A1 A2 A3 A4 : Type} {a0 b0 : A0} {a1 b1 : A1} {a2 b2 : A2} {a3 b3 : A3} {a4 b4 : A4} (h : some (a0, a1, a2, a3, a4) = some (b0, b1, b2, b3, b4)) : a0 = b0 ∧ a1 = b1 ∧ a2 = b2 ∧ a3 = b3 ∧ a4 = b4 := by
  cases h
  exact ⟨rfl, rfl, rfl, rfl, rfl⟩
theorem oc6 {A0 A1 A2 A3 A4 A5 : Type} {a0 b0 : A0} {a1 b1 : A1} {a2 b2 : A2} {a3 b3 : A3} {a4 b4 : A4} {a5 b5 : A5} (h : some (a0, a1, a2, a3, a4, a5) = some (b0, b1, b2, b3, b4, b5)) : a0 = b0 ∧ a1 = b1 ∧ a2 = b2 ∧ a3 = b3 ∧ a4 = b4 ∧ a5 = b5 := by
  cases h
  exact ⟨rfl, rfl, rfl, rfl, rfl, rfl⟩
theorem oc7 {A0 A1 A2 A3 A4 A5 A6 : Type} {a0 b0 : A0} {a1 b1 : A1} {a2 b2 : A2} {a3 b3 : A3} {a4 b4 : A4} {a5 b5 : A5} {a6 b6 : A6} (h : some (a0, a1, a2, a3, a4, a5, a6) = some (b0, b1, b2, b3, b4, b5, b6)) : a0 = b0 ∧ a1 = b1 ∧ a2 = b2 ∧ a3 = b3 ∧ a4 = b4 ∧ a5 = b5 ∧ a6 = b6 := by
  cases h
  exact ⟨rfl, rfl, rfl, rfl, rfl, rfl, rfl⟩
theorem oc8 {A0 A1 A2 A3 A4 A5 A6 A7 : Type} {a0 b0 : A0} {a1 b1 : A1} {a2 b2 : A2} {a3 b3 : A3} {a4 b4 : A4} {a5 b5 : A5} {a6 b6 : A6} {a7 b7 : A7} (h : some (a0, a1, a2, a3, a4, a5, a6, a7) = some (b0, b1, b2, b3, b4, b5, b6, b7)) : a0 = b0 ∧ a1 = b1 ∧ a2 = b2 ∧ a3 = b3 ∧ a4 = b4 ∧ a5 = b5 ∧ a6 = b6 ∧ a7 = b7 := by
  cases h
  exact ⟨rfl, rfl, rfl, rfl, rfl, rfl, rfl, rfl⟩
theorem oc9 {A0 A1 A2 A3 A4 A5 A6 A7 A8 : Type} {a0 b0 : A0} {a1 b1 : A1} {a2 b2 : A2} {a3 b3 : A3} {a4 b4 : A4} {a5 b5 : A5} {a6 b6 : A6} {a7 b7 : A7} {a8 b8 : A8} (h : some (a0, a1, a2, a3, a4, a5, a6, a7, a8) = some (b0, b1, b2, b3, b4, b5, b6, b7, b8)) : a0 = b0 ∧ a1 = b1 ∧ a2 = b2 ∧ a3 = b3 ∧ a4 = b4 ∧ a5 = b5 ∧ a6 = b6 ∧ a7 = b7 ∧ a8 = b8 := by
  cases h
  exact ⟨rfl, rfl, rfl, rfl, rfl, rfl, rfl, rfl, rfl⟩
theorem oc10 {A0 A1 A2 A3 A4 A5 A6 A7 A8 A9 : Type} {a0 b0 : A0} {a1 b1 : A1} {a2 b2 : A2} {a3 b3 : A3} {a4 b4 : A4} {a5 b5 : A5} {a6 b6 : A6} {a7 b7 : A7} {a8 b8 : A8} {a9 b9 : A9} (h : some (a0, a1, a2, a3, a4, a5, a6, a7, a8, a9) = some (b0, b1, b2, b3, b4, b5, b6, b7, b8, b9)) : a0 = b0 ∧ a1 = b1 ∧ a2 = b2 ∧ a3 = b3 ∧ a4 = b4 ∧ a5 = b5 ∧ a6 = b6 ∧ a7 = b7 ∧ a8 = b8 ∧ a9 = b9 := by
  cases h
  exact ⟨rfl, rfl, rfl, rfl, rfl, rfl, rfl, rfl, rfl, rfl⟩
theorem oc11 {A0 A1 A2 A3 A4 A5 A6 A7 A8 A9 A10 : Type} {a0 b0 : A0} {a1 b1 : A1} {a2 b2 : A2} {a3 b3 : A3} {a4 b4 : A4} {a5 b5 : A5} {a6 b6 : A6} {a7 b7 : A7} {a8 b8 : A8} {a9 b9 : A9} {a10 b10 : A10} (h : some (a0, a1, a2, a3, a4, a5, a6, a7, a8, a9, a10) = some (b0, b1, b2, b3, b4, b5, b6, b7, b8, b9, b10)) : a0 = b0 ∧ a1 = b1 ∧ a2 = b2 ∧ a3 = b3 ∧ a4 = b4 ∧ a5 = b5 ∧ a6 = b6 ∧ a7 = b7 ∧ a8 = b8 ∧ a9 = b9 ∧ a10 = b10 := by
  cases h
  exact ⟨rfl, rfl, rfl, rfl, rfl, rfl, rfl, rfl, rfl, rfl, rfl⟩
theorem oc12 {A0 A1 A2 A3 A4 A5 A6 A7 A8 A9 A10 A11 : Type} {a0 b0 : A0} {a1 b1 : A1} {a2 b2 : A2} {a3 b3 : A3} {a4 b4 : A4} {a5 b5 : A5} {a6 b6 : A6} {a7 b7 : A7} {a8 b8 : A8} {a9 b9 : A9} {a10 b10 : A10} {a11 b11 : A11} (h : some (a0, a1, a2, a3, a4, a5, a6, a7, a8, a9, a10, a11) = some (b0, b1, b2, b3, b4, b5, b6, b7, b8, b9, b10, b11)) : a0 = b0 ∧ a1 = b1 ∧ a2 = b2 ∧ a3 = b3 ∧ a4 = b4 ∧ a5 = b5 ∧ a6 = b6 ∧ a7 = b7 ∧ a8 = b8 ∧ a9 = b9 ∧ a10 = b10 ∧ a11 = b11 := by
  cases h
  exact ⟨rfl, rfl, rfl, rfl, rfl, rfl, rfl, rfl, rfl, rfl, rfl, rfl⟩
