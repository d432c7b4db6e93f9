section AWR2
variable {E : gE} {y : MethodName} {cc : ByteArray} {ret : Option FieldType} {nL d : Nat} {r : Option Value} {h0 hf h : hp} {pc pc' : Nat} {lv lv' : List (Nat × Value)} {st st' : List Value}
theorem a_aload_n {kf : Fin 4} {i x : Nat} (hdg : decode cc pc = .ok (.aload_n kf, 1)) (hi : (kf : Nat) = i) {q : Nat} (hl : lv[q]? = some (i, .ref x)) (k : AW E y cc ret nL d r h0 hf (pc + 1) lv (.ref x :: st) h) : AW E y cc ret nL d r h0 hf pc lv st h := by
  refine AW.lift (fun p l e R s m args below meth c H locs cells slots Q C ls hl0 kk0 => ?_) k
  have h1 : ls[i]? = some (.val (va_rf (g_on E x))) := lva hl0 hl
  have h2 : W p l e R s m args below meth c H locs cells slots Q (F0 m (pc + 1) ls (va_rf (g_on E x) :: stm E st)) := kk0 ls hl0
  cases ho : g_on E x with
  | none => rw [ho] at h1 h2; exact lv_aload_nN C.1 C.2.1 hdg hi h1 h2
  | some z => rw [ho] at h1 h2; exact lv_aload_n C.1 C.2.1 hdg hi h1 h2
theorem a_aload {i x : Nat} (hdg : decode cc pc = .ok (.aload i, 2)) {q : Nat} (hl : lv[q]? = some (i, .ref x)) (k : AW E y cc ret nL d r h0 hf (pc + 2) lv (.ref x :: st) h) : AW E y cc ret nL d r h0 hf pc lv st h := by
  refine AW.lift (fun p l e R s m args below meth c H locs cells slots Q C ls hl0 kk0 => ?_) k
  have h1 : ls[i]? = some (.val (va_rf (g_on E x))) := lva hl0 hl
  have h2 : W p l e R s m args below meth c H locs cells slots Q (F0 m (pc + 2) ls (va_rf (g_on E x) :: stm E st)) := kk0 ls hl0
  cases ho : g_on E x with
  | none => rw [ho] at h1 h2; exact lv_aloadN C.1 C.2.1 hdg h1 h2
  | some z => rw [ho] at h1 h2; exact lv_aload C.1 C.2.1 hdg h1 h2
theorem a_astore_n {kf : Fin 4} {i x : Nat} (hdg : decode cc pc = .ok (.astore_n kf, 1)) (hi : (kf : Nat) = i) (hn : i < nL) {lv1 : List (Nat × Value)} (hl : (i, Value.ref x) :: lv.filter (fun q => !(q.1 == i) && !(q.1 + 1 == i && q.2.category == 2)) = lv1) (k : AW E y cc ret nL d r h0 hf (pc + 1) lv1 st h) : AW E y cc ret nL d r h0 hf pc lv (.ref x :: st) h := by
  refine AW.lift (fun p l e R s m args below meth c H locs cells slots Q C ls hl0 kk0 => ?_) k
  have h1 := lvs (E := E) hl
  show W p l e R s m args below meth c H locs cells slots Q (F0 m pc ls (va_rf (g_on E x) :: stm E st))
  have h2 : (i, va_rf (g_on E x)) :: (lvm E lv).filter (fun q => !(q.1 == i) && !(q.1 + 1 == i && q.2.category == 2)) = lvm E lv1 := h1
  cases ho : g_on E x with
  | none => rw [ho] at h2; exact lv_astore_nN C.1 C.2.1 hdg hi hl0 hn h2 kk0
  | some z => rw [ho] at h2; exact lv_astore_n C.1 C.2.1 hdg hi hl0 hn h2 kk0
theorem a_astore {i x : Nat} (hdg : decode cc pc = .ok (.astore i, 2)) (hn : i < nL) {lv1 : List (Nat × Value)} (hl : (i, Value.ref x) :: lv.filter (fun q => !(q.1 == i) && !(q.1 + 1 == i && q.2.category == 2)) = lv1) (k : AW E y cc ret nL d r h0 hf (pc + 2) lv1 st h) : AW E y cc ret nL d r h0 hf pc lv (.ref x :: st) h := by
  refine AW.lift (fun p l e R s m args below meth c H locs cells slots Q C ls hl0 kk0 => ?_) k
  have h1 := lvs (E := E) hl
  show W p l e R s m args below meth c H locs cells slots Q (F0 m pc ls (va_rf (g_on E x) :: stm E st))
  have h2 : (i, va_rf (g_on E x)) :: (lvm E lv).filter (fun q => !(q.1 == i) && !(q.1 + 1 == i && q.2.category == 2)) = lvm E lv1 := h1
  cases ho : g_on E x with
  | none => rw [ho] at h2; exact lv_astoreN C.1 C.2.1 hdg hl0 hn h2 kk0
  | some z => rw [ho] at h2; exact lv_astore C.1 C.2.1 hdg hl0 hn h2 kk0
theorem a_null (hdg : decode cc pc = .ok (.aconst_null, 1)) (k : AW E y cc ret nL d r h0 hf (pc + 1) lv (.ref 0 :: st) h) : AW E y cc ret nL d r h0 hf pc lv st h :=
  AW.lift (fun p l e R s m args below meth c H locs cells slots Q C ls hl0 kk0 => lv_null C.1 C.2.1 hdg (kk0 ls hl0)) k
theorem g_on_ne {x : Nat} (h : ¬ x = 0) : g_on E x = some (g_ad E x) := if_neg h
theorem g_on_0 : g_on E 0 = none := rfl
theorem a_ifnull {x : Nat} {off : Int} {tgt : Nat} (hdg : decode cc pc = .ok (.ifnull off, 3)) (ht : (pc : Int) + off = (tgt : Int)) (k : x = 0 → AW E y cc ret nL d r h0 hf tgt lv st h) (k2 : ¬ x = 0 → AW E y cc ret nL d r h0 hf (pc + 3) lv st h) : AW E y cc ret nL d r h0 hf pc lv (.ref x :: st) h := by
  refine AW.lift2 (fun p l e R s m args below meth c H locs cells slots Q C ls hl0 kt kf => ?_) k k2
  show W p l e R s m args below meth c H locs cells slots Q (F0 m pc ls (va_rf (g_on E x) :: stm E st))
  by_cases hx : x = 0
  · subst hx; exact lv_ifnullN C.1 C.2.1 hdg ht (kt rfl)
  · rw [g_on_ne hx]; exact lv_ifnull C.1 C.2.1 hdg (kf hx)
theorem a_ifnonnull {x : Nat} {off : Int} {tgt : Nat} (hdg : decode cc pc = .ok (.ifnonnull off, 3)) (ht : (pc : Int) + off = (tgt : Int)) (k : ¬ x = 0 → AW E y cc ret nL d r h0 hf tgt lv st h) (k2 : x = 0 → AW E y cc ret nL d r h0 hf (pc + 3) lv st h) : AW E y cc ret nL d r h0 hf pc lv (.ref x :: st) h := by
  refine AW.lift2 (fun p l e R s m args below meth c H locs cells slots Q C ls hl0 kt kf => ?_) k (fun z => k2 (Classical.byContradiction z))
  show W p l e R s m args below meth c H locs cells slots Q (F0 m pc ls (va_rf (g_on E x) :: stm E st))
  by_cases hx : x = 0
  · subst hx; exact lv_ifnonnullN C.1 C.2.1 hdg (kf fun q => q rfl)
  · rw [g_on_ne hx]; exact lv_ifnonnull C.1 C.2.1 hdg ht (kt hx)
theorem a_dup {v : Value} (hdg : decode cc pc = .ok (.dup, 1)) (hv : v.category = 1) (k : AW E y cc ret nL d r h0 hf (pc + 1) lv (v :: v :: st) h) : AW E y cc ret nL d r h0 hf pc lv (v :: st) h :=
  AW.lift (fun p l e R s m args below meth c H locs cells slots Q C ls hl0 kk0 => lv_dup C.1 C.2.1 hdg ((g_cat E v).trans hv) (kk0 ls hl0)) k
theorem a_dup2 {v w : Value} (hdg : decode cc pc = .ok (.dup2, 1)) (hv : v.category = 1) (hw : w.category = 1) (k : AW E y cc ret nL d r h0 hf (pc + 1) lv (v :: w :: v :: w :: st) h) : AW E y cc ret nL d r h0 hf pc lv (v :: w :: st) h :=
  AW.lift (fun p l e R s m args below meth c H locs cells slots Q C ls hl0 kk0 => lv_dup2_11 C.1 C.2.1 hdg ((g_cat E v).trans hv) ((g_cat E w).trans hw) (kk0 ls hl0)) k
theorem a_pop {v : Value} (hdg : decode cc pc = .ok (.pop, 1)) (hv : v.category = 1) (k : AW E y cc ret nL d r h0 hf (pc + 1) lv st h) : AW E y cc ret nL d r h0 hf pc lv (v :: st) h :=
  AW.lift (fun p l e R s m args below meth c H locs cells slots Q C ls hl0 kk0 => lv_pop C.1 C.2.1 hdg ((g_cat E v).trans hv) (kk0 ls hl0)) k
theorem a_iinc {i q : Nat} {n : Int} {x v : Int32} {lv1 : List (Nat × Value)} (hdg : decode cc pc = .ok (.iinc i n, 3)) (hk : lv[q]? = some (i, .int x)) (hv : x + Int32.ofInt n = v) (hn : i < nL) (hl : (i, Value.int v) :: lv.filter (fun q => !(q.1 == i) && !(q.1 + 1 == i && q.2.category == 2)) = lv1) (k : AW E y cc ret nL d r h0 hf (pc + 3) lv1 st h) : AW E y cc ret nL d r h0 hf pc lv st h :=
  AW.lift (fun p l e R s m args below meth c H locs cells slots Q C ls hl0 kk0 => lv_iinc (k := q) C.1 C.2.1 hdg hl0 (by simp [lvm, hk, g_v]) hv hn (lvs (E := E) hl) kk0) k
theorem a_ldc {ix : Nat} {v : Int32} (hdg : decode cc pc = .ok (.ldc ix, 2)) (hw : Cond.constant y.cls ix v ∈ lw_good) (k : AW E y cc ret nL d r h0 hf (pc + 2) lv (.int v :: st) h) : AW E y cc ret nL d r h0 hf pc lv st h :=
  AW.lift (fun p l e R s m args below meth c H locs cells slots Q C ls hl0 kk0 => lv_ldc C.1 C.2.1 C.2.2.2.2.1 (C.2.2.2.2.2.1 _ hw) hdg (kk0 ls hl0)) k
theorem a_ldcf {ix : Nat} {v : UInt32} (hdg : decode cc pc = .ok (.ldc ix, 2)) (hw : Cond.constantFloat y.cls ix v ∈ lw_good) (k : AW E y cc ret nL d r h0 hf (pc + 2) lv (.float v :: st) h) : AW E y cc ret nL d r h0 hf pc lv st h :=
  AW.lift (fun p l e R s m args below meth c H locs cells slots Q C ls hl0 kk0 => lv_ldcf C.1 C.2.1 C.2.2.2.2.1 (C.2.2.2.2.2.1 _ hw) hdg (kk0 ls hl0)) k
theorem a_ldc2 {ix : Nat} {v : Int64} (hdg : decode cc pc = .ok (.ldc2_w ix, 3)) (hw : Cond.constantLong y.cls ix v ∈ lw_good) (k : AW E y cc ret nL d r h0 hf (pc + 3) lv (.long v :: st) h) : AW E y cc ret nL d r h0 hf pc lv st h :=
  AW.lift (fun p l e R s m args below meth c H locs cells slots Q C ls hl0 kk0 => lv_ldc2 C.1 C.2.1 C.2.2.2.2.1 (C.2.2.2.2.2.1 _ hw) hdg (kk0 ls hl0)) k
theorem a_ldc2d {ix : Nat} {v : UInt64} (hdg : decode cc pc = .ok (.ldc2_w ix, 3)) (hw : Cond.constantDouble y.cls ix v ∈ lw_good) (k : AW E y cc ret nL d r h0 hf (pc + 3) lv (.double v :: st) h) : AW E y cc ret nL d r h0 hf pc lv st h :=
  AW.lift (fun p l e R s m args below meth c H locs cells slots Q C ls hl0 kk0 => lv_ldc2d C.1 C.2.1 C.2.2.2.2.1 (C.2.2.2.2.2.1 _ hw) hdg (kk0 ls hl0)) k
theorem g_cell {H : Heap} {a : Nat} (hP : g_P E h H) (ht : (hT h a).1 < 200) : ∃ i, a = 64 + i ∧ i < hN h ∧ va_at E.2.1 vwCl (E.1 + i, g_ob E h a) H ∧ g_on E a = some (E.1 + i) := by
  have ha : ¬ a < 64 := fun q => absurd (hP.2.1.2.1 a q) (by omega)
  have hb : ¬ 64 + hN h ≤ a := fun q => absurd (hP.2.1.2.2.1 a q) (by omega)
  refine ⟨a - 64, by omega, by omega, ?_, ?_⟩
  · have h1 := hP.2.2 (a - 64) (by omega)
    rw [show 64 + (a - 64) = a by omega] at h1
    exact h1 ht
  · unfold g_on g_ad
    rw [if_neg (by omega), if_neg ha]
theorem g_ob_o {a ci : Nat} (ht : (hT h a).1 = ci) (hc : ci < 100) : g_ob E h a = .inr (ci, g_fs E h a ci (hT h a).2) := by
  unfold g_ob
  rw [ht, if_pos hc]
theorem g_ob_a {a j : Nat} (ht : (hT h a).1 = 100 + j) : g_ob E h a = .inl (E.2.2.1 j, g_av E h a j (hT h a).2) := by
  unfold g_ob
  rw [ht, if_neg (by omega), show 100 + j - 100 = j by omega]
theorem g_P1 {H : Heap} {q : Nat × va_E} (h1 : va_at E.2.1 vwCl q H) : va_P E.2.1 vwCl [q] H := by
  intro k x hk
  match k, hk with
  | 0, hk => cases hk; exact h1
  | k + 1, hk => simp at hk
/-- what the tables say of a field: the class, the place, the link (or that of a nest mate) -/
def g_lk (own : String) (ix ci k : Nat) : Prop := ∃ q : vw_C, vwCl[ci]? = some q ∧ k < q.2.2 ∧ (∀ w ∈ u_ws q.1 q.2.1 q.2.2, w ∈ lw_good) ∧ (Cond.fieldLink own ix (q.2.1 k).1 (q.2.1 k).2.1 (q.2.1 k).2.2.1 ∈ lw_good ∨ ∃ host, Cond.fieldLinkNest own ix (q.2.1 k).1 (q.2.1 k).2.1 (q.2.1 k).2.2.1 host ∈ g_nest) ∧ (∀ a, a < q.2.2 → ∀ b, b < q.2.2 → a ≠ b → (q.2.1 a).2.1 ≠ (q.2.1 b).2.1) ∧ ∀ k, k < q.2.2 → parseFieldDescriptor (q.2.1 k).2.2.1 = some (g_ty ci k)
theorem g_ci {ci : Nat} {q : vw_C} (h : vwCl[ci]? = some q) : ci < 100 := by
  have h1 : ci < vwCl.length := (List.getElem?_eq_some_iff.mp h).1
  have h2 : vwCl.length = 14 := rfl
  omega
theorem a_get {ix ci k a : Nat} {v : Value} (hdg : decode cc pc = .ok (.getfield ix, 3)) (hlk : g_lk y.cls ix ci k) (ht : (hT h a).1 = ci) (hv : g_fa h a ci k = v) (kk : AW E y cc ret nL d r h0 hf (pc + 3) lv (v :: st) h) : AW E y cc ret nL d r h0 hf pc lv (.ref a :: st) h := by
  refine ⟨kk.1, fun g1 g2 p l e s m args below meth c C ls H locs hl hP hS => ?_⟩
  obtain ⟨⟨C1, T, N⟩, hc, hk, hin, hlink, -, -⟩ := hlk
  have hci := g_ci hc
  obtain ⟨i, -, hi, hat, hon⟩ := g_cell hP (a := a) (by omega)
  rw [g_ob_o ht hci] at hat
  have hN2 : (hT h a).2 = N := by
    obtain ⟨q, e1, e2⟩ := hP.2.1.2.2.2.1 a (by omega)
    rw [ht, hc] at e1
    cases e1
    exact e2.symm
  have h2 := kk.2 g1 g2 p l e s m args below meth c C ls H locs hl hP hS
  obtain ⟨hx, hb, hr, hml, hown, hts, hlo, hnm, hK, hSt, hle⟩ := C
  show W p l e _ s m args below meth c H locs _ _ _ (F0 m pc ls (va_rf (g_on E a) :: stm E st))
  rw [hon]
  have hfs : (g_fs E h a ci (hT h a).2)[k]? = some (g_v E v) := by
    rw [hN2]
    simp [g_fs, hk, hv]
  rcases hlink with hlink | ⟨host, hlink⟩
  · exact va_get hx hb hts hin hown hK (g_P1 hat) 0 rfl hc k hk (hts _ hlink) (fun _ h9 => h9) hfs hdg h2
  · have h3 : Cond.before (Cond.fieldLinkNest y.cls ix (T k).1 (T k).2.1 (T k).2.2.1 host) args s = true := va_Nw.use rfl (hSt.1 _ hlink)
    exact va_getN hx hb hts hin hown hK (g_P1 hat) 0 rfl hc k hk h3 (fun _ h9 => h9) hfs hdg h2
end AWR2
