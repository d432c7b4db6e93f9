section AWR7
variable {E : gE} {y : MethodName} {cc : ByteArray} {ret : Option FieldType} {nL d : Nat} {r : Option Value} {h0 hf h : hp} {pc pc' : Nat} {lv lv' : List (Nat × Value)} {st st' : List Value}
theorem a_lcmp {x y0 : Int64} (hdg : decode cc pc = .ok (.lcmp, 1)) (k : AW E y cc ret nL d r h0 hf (pc + 1) lv (.int (lg_cmp x y0) :: st) h) : AW E y cc ret nL d r h0 hf pc lv (.long y0 :: .long x :: st) h :=
  AW.lift (fun p l e R s m args below meth c H locs cells slots Q C ls hl kk => W.lcmp C.1 C.2.1 hdg (kk ls hl)) k
theorem AW.sub (ks : List Nat) (hl : lv_pick lv ks = lv') (k : AW E y cc ret nL d r h0 hf pc lv' st h) : AW E y cc ret nL d r h0 hf pc lv st h :=
  ⟨k.1, fun g1 g2 p l e s m args below meth c C ls H locs hl0 hP hS => k.2 g1 g2 p l e s m args below meth c C ls H locs (lv_sub hl0 ks (by rw [← hl]; simp only [lv_pick, lvm, List.map_filterMap, List.getElem?_map])) hP hS⟩
theorem a_objInit {ix a i : Nat} (hdg : decode cc pc = .ok (.invokespecial ix, 3)) (hd : 1 ≤ d) (hl : Cond.methodLink y.cls ix objectInit ∈ lw_good) (hi : Cond.instanceMethod objectInit ∈ lw_good) (hc : Cond.code objectInit ⟨#[0xb1]⟩ 1 none ∈ lw_good) (ha : a = 64 + i) (hst : (st.map fun v => v.category).sum ≤ 8) (k : AW E y cc ret nL d r h0 hf (pc + 3) lv st h) : AW E y cc ret nL d r h0 hf pc lv (.ref a :: st) h := by
  refine ⟨k.1, fun g1 g2 p l e s m args below meth c C ls H locs hl0 hP hS => ?_⟩
  have hon : g_on E a = some (E.1 + i) := by
    subst ha
    unfold g_on g_ad
    rw [if_neg (by omega), if_neg (by omega), show 64 + i - 64 = i by omega]
  show W p l e _ s m args below meth c H locs _ _ _ (F0 m pc ls (va_rf (g_on E a) :: stm E st))
  rw [hon]
  refine W.objInit C.1 C.2.1 C.2.2.2.2.1 (C.2.2.2.2.2.1 _ hl) (C.2.2.2.2.2.1 _ hi) (C.2.2.2.2.2.1 _ hc) rfl (by rw [C.2.2.2.1]; exact hl0.1) rfl hdg hd ?_ (k.2 g1 g2 p l e s m args below meth c C ls H locs hl0 hP hS)
  have h1 := g_room (E := E) (st := st) (st0 := []) hst
  show 2 * 0 + _ + 12 ≤ 64 * d
  omega
/-- a stretch of an array is written over another one's, as it all was before -/
def pCI (h : hp) (a0 sp a dp n : Nat) : hp := (h.1, h.2.1, h.2.2.1, (fun b k => if b = a ∧ dp ≤ k ∧ k < dp + n then h.2.2.2.1 a0 (sp + (k - dp)) else h.2.2.2.1 b k), h.2.2.2.2.1, h.2.2.2.2.2)
def pCF (h : hp) (a0 sp a dp n : Nat) : hp := (h.1, h.2.1, h.2.2.1, h.2.2.2.1, (fun b k => if b = a ∧ dp ≤ k ∧ k < dp + n then h.2.2.2.2.1 a0 (sp + (k - dp)) else h.2.2.2.2.1 b k), h.2.2.2.2.2)
theorem g_nn {z : Int32} (hz : ¬ z < 0) : z.toInt = (z.toNatClampNeg : Int) := by
  have hz0 : (0 : Int) ≤ z.toInt := by
    have := Int32.not_lt.mp hz
    simpa using Int32.le_iff_toInt_le.mp this
  show z.toInt = ((z.toInt.toNat : Nat) : Int)
  omega
theorem a_copy {ix j a0 a : Nat} {h1 : hp} {sp dp n : Int32} (hdg : decode cc pc = .ok (.invokestatic ix, 3)) (hd : 1 ≤ d) (hj : j < 2) (hlink : Cond.methodLink y.cls ix arraycopyName ∈ lw_good) (hnat : Cond.native arraycopyName ∈ lw_good) (hstat : Cond.static arraycopyName ∈ lw_good) (hini : Cond.initialized "java/lang/System" ∈ lw_good) (ht0 : (hT h a0).1 = 100 + j) (ht1 : (hT h a).1 = 100 + j) (s1 : ¬ sp < 0) (s2 : ¬ dp < 0) (s3 : ¬ n < 0) (s4 : sp.toNatClampNeg + n.toNatClampNeg ≤ (hT h a0).2) (s5 : dp.toNatClampNeg + n.toNatClampNeg ≤ (hT h a).2) (hu : g_up h h1 a) (hel : ∀ k, g_el h1 a j k = if dp.toNatClampNeg ≤ k ∧ k < dp.toNatClampNeg + n.toNatClampNeg then g_el h a0 j (sp.toNatClampNeg + (k - dp.toNatClampNeg)) else g_el h a j k) (hroom : (st.map fun v => v.category).sum ≤ 8)
    (kk : AW E y cc ret nL d r h0 hf (pc + 3) lv st h1) : AW E y cc ret nL d r h0 hf pc lv (.int n :: .int dp :: .ref a :: .int sp :: .ref a0 :: st) h := by
  obtain ⟨u1, u2, u3, -⟩ := id hu
  refine ⟨by rw [← u1, ← u2]; exact kk.1, fun g1 g2 p l e s m args below meth c C ls H locs hl hP hS => ?_⟩
  obtain ⟨q0, ha0, hq0, hc0, hon0⟩ := g_arr hP (by omega) ht0
  obtain ⟨q1, ha1, hq1, hc1, hon1⟩ := g_arr hP (by omega) ht1
  have h2 := kk.2 (by rw [u1]; exact g1) (by rw [u2]; exact g2) p l e s m args below meth c C ls
  rw [u1, u2] at h2
  obtain ⟨hx, hb, hr, hml, hown, hts, hlo, hnm, hK, hSt, hle⟩ := C
  show W p l e _ s m args below meth c H locs _ _ _ (F0 m pc ls (.int n :: .int dp :: va_rf (g_on E a) :: .int sp :: va_rf (g_on E a0) :: stm E st))
  rw [hon0, hon1]
  have hK2 := (hK.2 j _ (g_tyk (by omega))).1
  have hprim : refKind (g_at j) = false := by
    have : j = 0 ∨ j = 1 := by omega
    rcases this with rfl | rfl <;> rfl
  obtain ⟨-, k0, hk0, cm0, hkk0⟩ := hK2 (hT h a0).2 (fun k => g_v E (g_el h a0 j k))
  obtain ⟨-, k1, hk1, cm1, hkk1⟩ := hK2 (hT h a).2 (fun k => g_v E (g_el h a j k))
  intro T hTT X
  have hfw : nativeFrameWords "java/lang/System" "arraycopy" 5 + 11 ≤ 40 := by decide
  obtain ⟨vm', X', step⟩ := X.arraycopy hx hown (hts _ hlink) (hts _ hnat) (hts _ hstat) (hts _ hini) (src := E.1 + q0) (dst := E.1 + q1) (cs := arrV (E.2.2.1 j) (hT h a0).2 (fun k => g_v E (g_el h a0 j k))) (cd := arrV (E.2.2.1 j) (hT h a).2 (fun k => g_v E (g_el h a j k))) (srcPos := sp) (destPos := dp) (n := n) (by rw [hTT]; exact hc0) (by rw [hTT]; exact hc1)
    (fun _ h => by cases h) (fun _ h => by cases h) (fun h => by cases h) (fun h => by cases h) hk0 hk1 hkk0 hkk1 (by simp [hprim]) s1 s2 s3
    (by rw [g_nn s1, g_nn s3, arrV_size]; omega)
    (by rw [g_nn s2, g_nn s3, arrV_size]; omega)
    (fun vm₁ _ i hi => by
      have e : (arrV (E.2.2.1 j) (hT h a0).2 (fun k => g_v E (g_el h a0 j k))).slots.getD (sp.toNatClampNeg + i) .null = g_v E (g_el h a0 j (sp.toNatClampNeg + i)) := by
        rw [Array.getD_eq_getD_getElem?, arrV_read _ _ (by omega)]
        rfl
      refine ⟨?_, ?_⟩
      · rw [e]
        have : j = 0 ∨ j = 1 := by omega
        rcases this with rfl | rfl <;> rfl
      · rw [e]
        have : j = 0 ∨ j = 1 := by omega
        rcases this with rfl | rfl <;> exact trivial)
    (g := F0 m pc ls (.int n :: .int dp :: .ref (E.1 + q1) :: .int sp :: .ref (E.1 + q0) :: stm E st)) rfl (by rw [hml]; exact hl.1) (rest := stm E st) rfl (by rw [hb]; exact hdg) hd (by
      have h9 := g_room (E := E) (st := st) (st0 := []) hroom
      show 2 * 0 + _ + _ ≤ 64 * d; omega)
  have hl2 : E.1 + q1 < H.size := (Array.getElem?_eq_some_iff.mp hc1).1
  generalize hcp : copied _ _ sp dp n = cpd at X' step
  have hcp2 : cpd = arrV (E.2.2.1 j) (hT h a).2 (fun k => g_v E (g_el h1 a j k)) := by
    rw [← hcp]
    refine (va_copied (g_v E) (E.2.2.1 j) (E.2.2.1 j) (fun k => g_el h a0 j k) (fun k => g_el h a j k) s4).trans ?_
    congr 1
    funext k
    rw [hel k]
    rfl
  have hheap : ((T.setVm vm').setCell (E.1 + q1) cpd).heap = H.setIfInBounds (E.1 + q1) cpd := by rw [← hTT]; rfl
  have oq : ∀ q : Nat, q ≠ E.1 + q1 → (H.setIfInBounds (E.1 + q1) cpd)[q]? = H[q]? := fun q hq => by simp [Array.getElem?_setIfInBounds, Ne.symm hq]
  have e1 : (H.setIfInBounds (E.1 + q1) cpd)[E.1 + q1]? = some cpd := by simp [Array.getElem?_setIfInBounds, hl2]
  have e2 : (H.setIfInBounds (E.1 + q1) cpd).size = H.size := by simp
  obtain ⟨t, a1, b1⟩ := h2 _ _ hl (g_P_upd hP ha1 hq1 e2 oq hu (by
      rw [g_ob_a (j := j) (by rw [u3]; exact ht1), u3]
      show _ = some (vp_cell _ _)
      rw [g_avc, e1, hcp2])) ⟨by rw [e2]; exact hS.1, fun q g1 g2 => by
      rw [oq q (fun e => g2 (by rw [e]; exact Nat.le_add_right _ _))]
      exact hS.2.1 q g1 g2, fun q hq => by
      rcases List.mem_append.mp hq with h | h
      · exact hS.2.2 q h
      · obtain ⟨z, -, hz⟩ := List.mem_map.mp h
        rw [← hz]
        exact Nat.le_add_right _ _⟩ _ hheap X'
  exact ⟨t, step t a1, b1⟩
theorem a_tblIn {dflt lo hi : Int} {offs : Array Int} {len : Nat} {x k : Int32} {off : Int} {tgt : Nat} (hdg : decode cc pc = .ok (.tableswitch dflt lo hi offs, len)) (hx : x = k) (h1 : ¬ k.toInt < lo) (h2 : ¬ hi < k.toInt) (ho : offs[(k.toInt - lo).toNat]? = some off) (ht : (pc : Int) + off = (tgt : Int)) (kk : AW E y cc ret nL d r h0 hf tgt lv st h) : AW E y cc ret nL d r h0 hf pc lv (.int x :: st) h :=
  AW.lift (fun p l e R s m args below meth c H locs cells slots Q C ls hl k0 => by subst hx; exact lv_tableIn C.1 C.2.1 hdg h1 h2 ho ht (k0 ls hl)) kk
theorem a_tblOut {dflt lo hi : Int} {offs : Array Int} {len : Nat} {x : Int32} {tgt : Nat} (hdg : decode cc pc = .ok (.tableswitch dflt lo hi offs, len)) (hx : x.toInt < lo ∨ hi < x.toInt) (ht : (pc : Int) + dflt = (tgt : Int)) (kk : AW E y cc ret nL d r h0 hf tgt lv st h) : AW E y cc ret nL d r h0 hf pc lv (.int x :: st) h :=
  AW.lift (fun p l e R s m args below meth c H locs cells slots Q C ls hl k0 => lv_tableOut C.1 C.2.1 hdg hx ht (k0 ls hl)) kk
theorem a_lookIn {dflt : Int} {ps : Array (Int × Int)} {len : Nat} {x k : Int32} {off : Int} {tgt : Nat} (hdg : decode cc pc = .ok (.lookupswitch dflt ps, len)) (hx : x = k) (hp : (ps.toList.zip (ps.toList.drop 1)).all (fun (a, next) => a.1 < next.1) = true) (ho : Op.lookupswitch.offset ps.toList dflt k.toInt = off) (ht : (pc : Int) + off = (tgt : Int)) (kk : AW E y cc ret nL d r h0 hf tgt lv st h) : AW E y cc ret nL d r h0 hf pc lv (.int x :: st) h :=
  AW.lift (fun p l e R s m args below meth c H locs cells slots Q C ls hl k0 => by subst hx; exact lv_lookup C.1 C.2.1 hdg hp ho ht (k0 ls hl)) kk
theorem a_look {dflt : Int} {ps : Array (Int × Int)} {len : Nat} {x : Int32} {off : Int} {tgt : Nat} (hdg : decode cc pc = .ok (.lookupswitch dflt ps, len)) (hp : (ps.toList.zip (ps.toList.drop 1)).all (fun (a, next) => a.1 < next.1) = true) (ho : Op.lookupswitch.offset ps.toList dflt x.toInt = off) (ht : (pc : Int) + off = (tgt : Int)) (kk : AW E y cc ret nL d r h0 hf tgt lv st h) : AW E y cc ret nL d r h0 hf pc lv (.int x :: st) h :=
  AW.lift (fun p l e R s m args below meth c H locs cells slots Q C ls hl k0 => lv_lookup C.1 C.2.1 hdg hp ho ht (k0 ls hl)) kk
end AWR7
