section AWR4
variable {E : gE} {y : MethodName} {cc : ByteArray} {ret : Option FieldType} {nL d : Nat} {r : Option Value} {h0 hf h : hp} {pc pc' : Nat} {lv lv' : List (Nat × Value)} {st st' : List Value}
theorem g_ofT {s : State} {j n : Nat} {F : Nat → Value} (hK : va_K E.2.1 vwCl (g_tys E) s) (hj : j < 7) : s.isArrayOf (arrV (E.2.2.1 j) n F) (g_at j) := (hK.2 j _ (g_tyk hj)).1 n F
theorem g_inA {i : Int32} {n : Nat} {cA : ClassId} {F : Nat → Value} (hin : vp_in i n) : ¬ (i < 0 ∨ (arrV cA n F).slots.size ≤ i.toNatClampNeg) := by
  rw [arrV_size]; exact hin
theorem g_rdA {i : Int32} {n : Nat} {cA : ClassId} {F : Nat → Value} (hin : vp_in i n) : (arrV cA n F).slots[i.toNatClampNeg]? = some (F i.toNatClampNeg) :=
  arrV_read _ _ (Nat.not_le.mp fun q => hin (Or.inr q))
theorem a_iald {a : Nat} {i : Int32} (hdg : decode cc pc = .ok (.iaload, 1)) (ht : (hT h a).1 = 100) (hin : vp_in i (hT h a).2) (kk : AW E y cc ret nL d r h0 hf (pc + 1) lv (.int (hI h a i.toNatClampNeg) :: st) h) : AW E y cc ret nL d r h0 hf pc lv (.int i :: .ref a :: st) h := by
  refine ⟨kk.1, fun g1 g2 p l e s m args below meth c C ls H locs hl hP hS => ?_⟩
  obtain ⟨q, -, hq, hc, hon⟩ := g_arr (j := 0) hP (by decide) ht
  have h2 := kk.2 g1 g2 p l e s m args below meth c C ls H locs hl hP hS
  obtain ⟨hx, hb, hr, hml, hown, hts, hlo, hnm, hK, hSt, hle⟩ := C
  show W p l e _ s m args below meth c H locs _ _ _ (F0 m pc ls (.int i :: va_rf (g_on E a) :: stm E st))
  rw [hon]
  exact W.iald (v := .int (hI h a i.toNatClampNeg)) hx hb hc (g_ofT (j := 0) hK (by decide)) (fun q => by cases q) (g_inA hin) (g_rdA hin) rfl rfl hdg h2
theorem a_fald {a : Nat} {i : Int32} (hdg : decode cc pc = .ok (.faload, 1)) (ht : (hT h a).1 = 101) (hin : vp_in i (hT h a).2) (kk : AW E y cc ret nL d r h0 hf (pc + 1) lv (.float (hF h a i.toNatClampNeg) :: st) h) : AW E y cc ret nL d r h0 hf pc lv (.int i :: .ref a :: st) h := by
  refine ⟨kk.1, fun g1 g2 p l e s m args below meth c C ls H locs hl hP hS => ?_⟩
  obtain ⟨q, -, hq, hc, hon⟩ := g_arr (j := 1) hP (by decide) ht
  have h2 := kk.2 g1 g2 p l e s m args below meth c C ls H locs hl hP hS
  obtain ⟨hx, hb, hr, hml, hown, hts, hlo, hnm, hK, hSt, hle⟩ := C
  show W p l e _ s m args below meth c H locs _ _ _ (F0 m pc ls (.int i :: va_rf (g_on E a) :: stm E st))
  rw [hon]
  exact W.fald (v := .float (hF h a i.toNatClampNeg)) hx hb hc (g_ofT (j := 1) hK (by decide)) (fun q => by cases q) (g_inA hin) (g_rdA hin) rfl rfl hdg h2
theorem g_el2 {h1 : hp} {a j k : Nat} (hj : 2 ≤ j) : g_el h1 a j k = .ref (hR h1 a k) := by
  unfold g_el; rw [if_neg (by omega), if_neg (by omega)]
theorem a_aald {a j : Nat} {i : Int32} (hdg : decode cc pc = .ok (.aaload, 1)) (hj : 2 ≤ j ∧ j < 7) (ht : (hT h a).1 = 100 + j) (hin : vp_in i (hT h a).2) (kk : AW E y cc ret nL d r h0 hf (pc + 1) lv (.ref (hR h a i.toNatClampNeg) :: st) h) : AW E y cc ret nL d r h0 hf pc lv (.int i :: .ref a :: st) h := by
  refine ⟨kk.1, fun g1 g2 p l e s m args below meth c C ls H locs hl hP hS => ?_⟩
  obtain ⟨q, -, hq, hc, hon⟩ := g_arr hP hj.2 ht
  have h2 := kk.2 g1 g2 p l e s m args below meth c C ls H locs hl hP hS
  obtain ⟨hx, hb, hr, hml, hown, hts, hlo, hnm, hK, hSt, hle⟩ := C
  show W p l e _ s m args below meth c H locs _ _ _ (F0 m pc ls (.int i :: va_rf (g_on E a) :: stm E st))
  rw [hon]
  have hrf : (g_at j).isReference = true := by
    have : j = 2 ∨ j = 3 ∨ j = 4 ∨ j = 5 ∨ j = 6 := by omega
    rcases this with rfl | rfl | rfl | rfl | rfl <;> rfl
  refine W.aald (v := g_v E (.ref (hR h a i.toNatClampNeg))) (ty := g_at j) hx hb hc (g_ofT hK hj.2) hrf (fun q => by cases q) (g_inA hin) ?_ rfl rfl hdg h2
  rw [g_rdA hin, g_el2 hj.1]
theorem a_alen {a j : Nat} (hdg : decode cc pc = .ok (.arraylength, 1)) (hj : j < 7) (ht : (hT h a).1 = 100 + j) (kk : AW E y cc ret nL d r h0 hf (pc + 1) lv (.int (Int32.ofNat (hT h a).2) :: st) h) : AW E y cc ret nL d r h0 hf pc lv (.ref a :: st) h := by
  refine ⟨kk.1, fun g1 g2 p l e s m args below meth c C ls H locs hl hP hS => ?_⟩
  obtain ⟨q, -, hq, hc, hon⟩ := g_arr hP hj ht
  have h2 := kk.2 g1 g2 p l e s m args below meth c C ls H locs hl hP hS
  obtain ⟨hx, hb, hr, hml, hown, hts, hlo, hnm, hK, hSt, hle⟩ := C
  show W p l e _ s m args below meth c H locs _ _ _ (F0 m pc ls (va_rf (g_on E a) :: stm E st))
  rw [hon]
  exact W.alen (n := Int32.ofNat (hT h a).2) hx hb hc (g_ofT hK hj) (by rw [arrV_size]) rfl rfl hdg h2
theorem g_P_ast {h1 : hp} {H H1 : Heap} {a j i n : Nat} {v : Value} (hP : g_P E h H) (hj : j < 7) (ht : (hT h a).1 = 100 + j) (ha : a = 64 + i) (hi : i < hN h) (hu : g_up h h1 a) (hel : ∀ k, g_el h1 a j k = if k = n then v else g_el h a j k)
    (e1 : H1[E.1 + i]? = some ((arrV (E.2.2.1 j) (hT h a).2 (fun k => g_v E (g_el h a j k))).setSlot n (g_v E v))) (e2 : H1.size = H.size) (e3 : ∀ q, q ≠ E.1 + i → H1[q]? = H[q]?) : g_P E h1 H1 := by
  refine g_P_upd hP ha hi e2 e3 hu ?_
  have ht1 : (hT h1 a).1 = 100 + j := by rw [hu.2.2.1]; exact ht
  rw [g_ob_a ht1, hu.2.2.1]
  show H1[E.1 + i]? = some (vp_cell _ _)
  rw [g_avc, e1, arrV_store]
  congr 2
  funext k
  unfold updV
  rw [hel k]
  by_cases hk : k = n
  · rw [if_pos hk, if_pos hk]
  · rw [if_neg hk, if_neg hk]
theorem a_iast {a : Nat} {i x : Int32} (hdg : decode cc pc = .ok (.iastore, 1)) (ht : (hT h a).1 = 100) (hin : vp_in i (hT h a).2) (kk : AW E y cc ret nL d r h0 hf (pc + 1) lv st (pI h a i.toNatClampNeg x)) : AW E y cc ret nL d r h0 hf pc lv (.int x :: .int i :: .ref a :: st) h := by
  refine ⟨kk.1, fun g1 g2 p l e s m args below meth c C ls H locs hl hP hS => ?_⟩
  obtain ⟨q, ha, hq, hc, hon⟩ := g_arr (j := 0) hP (by decide) ht
  have h2 := kk.2 g1 g2 p l e s m args below meth c C ls
  obtain ⟨hx, hb, hr, hml, hown, hts, hlo, hnm, hK, hSt, hle⟩ := C
  show W p l e _ s m args below meth c H locs _ _ _ (F0 m pc ls (.int x :: .int i :: va_rf (g_on E a) :: stm E st))
  rw [hon]
  refine W.iast hx hb hc (g_ofT (j := 0) hK (by decide)) (fun q => by cases q) (g_inA hin) rfl rfl hdg fun H1 e1 e2 e3 => ?_
  refine h2 H1 _ hl (g_P_ast (j := 0) (v := .int x) hP (by decide) ht ha hq (g_upI h a i.toNatClampNeg x) (fun k => ?_) e1 e2 e3) (hS.put e2 e3 (Nat.le_add_right _ _))
  by_cases hk : k = i.toNatClampNeg
  · rw [if_pos hk, hk]; exact congrArg Value.int (up2_s _ _ _ _)
  · rw [if_neg hk]; exact congrArg Value.int (up2_k _ _ _ _ _ hk)
theorem a_fast {a : Nat} {i : Int32} {x : UInt32} (hdg : decode cc pc = .ok (.fastore, 1)) (ht : (hT h a).1 = 101) (hin : vp_in i (hT h a).2) (kk : AW E y cc ret nL d r h0 hf (pc + 1) lv st (pF h a i.toNatClampNeg x)) : AW E y cc ret nL d r h0 hf pc lv (.float x :: .int i :: .ref a :: st) h := by
  refine ⟨kk.1, fun g1 g2 p l e s m args below meth c C ls H locs hl hP hS => ?_⟩
  obtain ⟨q, ha, hq, hc, hon⟩ := g_arr (j := 1) hP (by decide) ht
  have h2 := kk.2 g1 g2 p l e s m args below meth c C ls
  obtain ⟨hx, hb, hr, hml, hown, hts, hlo, hnm, hK, hSt, hle⟩ := C
  show W p l e _ s m args below meth c H locs _ _ _ (F0 m pc ls (.float x :: .int i :: va_rf (g_on E a) :: stm E st))
  rw [hon]
  refine W.fast hx hb hc (g_ofT (j := 1) hK (by decide)) (fun q => by cases q) (g_inA hin) rfl rfl hdg fun H1 e1 e2 e3 => ?_
  refine h2 H1 _ hl (g_P_ast (j := 1) (v := .float x) hP (by decide) ht ha hq (g_upF h a i.toNatClampNeg x) (fun k => ?_) e1 e2 e3) (hS.put e2 e3 (Nat.le_add_right _ _))
  by_cases hk : k = i.toNatClampNeg
  · rw [if_pos hk, hk]; exact congrArg Value.float (up2_s _ _ _ _)
  · rw [if_neg hk]; exact congrArg Value.float (up2_k _ _ _ _ _ hk)
/-- the class whose objects an array of a kind takes -/
def g_cp (j : Nat) : Nat := match j with
  | 2 => 0
  | 3 => 5
  | 4 => 7
  | 5 => 9
  | _ => 10
theorem a_aast {a j x : Nat} {i : Int32} (hdg : decode cc pc = .ok (.aastore, 1)) (hj : 2 ≤ j ∧ j < 7) (ht : (hT h a).1 = 100 + j) (hin : vp_in i (hT h a).2) (hx0 : x = 0 ∨ (hT h x).1 = g_cp j) (kk : AW E y cc ret nL d r h0 hf (pc + 1) lv st (pR h a i.toNatClampNeg x)) : AW E y cc ret nL d r h0 hf pc lv (.ref x :: .int i :: .ref a :: st) h := by
  refine ⟨kk.1, fun g1 g2 p l e s m args below meth c C ls H locs hl hP hS => ?_⟩
  obtain ⟨q, ha, hq, hc, hon⟩ := g_arr hP hj.2 ht
  have h2 := kk.2 g1 g2 p l e s m args below meth c C ls
  obtain ⟨hx, hb, hr, hml, hown, hts, hlo, hnm, hK, hSt, hle⟩ := C
  show W p l e _ s m args below meth c H locs _ _ _ (F0 m pc ls (va_rf (g_on E x) :: .int i :: va_rf (g_on E a) :: stm E st))
  rw [hon]
  have fin : ∀ H1 : Heap, H1[E.1 + q]? = some ((arrV (E.2.2.1 j) (hT h a).2 (fun k => g_v E (g_el h a j k))).setSlot i.toNatClampNeg (g_v E (.ref x))) → H1.size = H.size → (∀ q', q' ≠ E.1 + q → H1[q']? = H[q']?) → g_P E (pR h a i.toNatClampNeg x) H1 := fun H1 e1 e2 e3 => by
    refine g_P_ast (v := .ref x) hP hj.2 ht ha hq (g_upR h a i.toNatClampNeg x) (fun k => ?_) e1 e2 e3
    rw [g_el2 hj.1, g_el2 hj.1]
    by_cases hk : k = i.toNatClampNeg
    · rw [if_pos hk, hk]; exact congrArg Value.ref (up2_s _ _ _ _)
    · rw [if_neg hk]; exact congrArg Value.ref (up2_k _ _ _ _ _ hk)
  have hlt : i.toNatClampNeg < (hT h a).2 := Nat.not_le.mp fun q => hin (Or.inr q)
  have h0' : ¬ i < 0 := fun q => hin (Or.inl q)
  obtain ⟨C0, hC0, cp, hcp, hCn⟩ : ∃ C0 : String, g_at j = .object C0 ∧ ∃ cp : vw_C, vwCl[g_cp j]? = some cp ∧ cp.1 = C0 := by
    have : j = 2 ∨ j = 3 ∨ j = 4 ∨ j = 5 ∨ j = 6 := by omega
    rcases this with rfl | rfl | rfl | rfl | rfl <;> exact ⟨_, rfl, _, rfl, rfl⟩
  rcases hx0 with rfl | hx0
  · have hK2 := (hK.2 j _ (g_tyk hj.2)).1
    rw [show ((E.2.2.1 j, g_at j) : ClassId × FieldType).2 = .object C0 from hC0] at hK2
    exact va_WaastN hx hb hc (hK2 _ _) (fun q => by cases q) (g_inA hin) rfl rfl hdg fun H1 e1 e2 e3 => h2 H1 _ hl (fin H1 e1 e2 e3) (hS.put e2 e3 (Nat.le_add_right _ _))
  · have hcl := g_ci hcp
    obtain ⟨i2, -, hi2, hat2, hon2⟩ := g_cell hP (a := x) (by omega)
    rw [g_ob_o hx0 hcl] at hat2
    rw [hon2]
    obtain ⟨rr, hrr, cellV, q1, q2, q3, -⟩ := hat2
    have hcls := (hK.1 _ cp hcp).2
    have hRA := (hK.2 j _ (g_tyk hj.2)).2
    rw [show ((E.2.2.1 j, g_at j) : ClassId × FieldType).2 = .object C0 from hC0] at hRA
    obtain ⟨kA, comp, k1, k2, k3, -⟩ := hRA
    have hcomp : comp = (E.2.1).1 (g_cp j) := Option.some.inj (k3.symm.trans (by rw [← hCn]; exact hcls.1))
    subst hcomp
    obtain ⟨kC, hkC, -⟩ := hcls.2
    have hfin2 := fun H1 (e1 : H1[E.1 + q]? = some ((arrV (E.2.2.1 j) (hT h a).2 (fun k => g_v E (g_el h a j k))).setSlot i.toNatClampNeg (.ref (E.1 + i2)))) => fin H1 (by rw [e1]; show _ = some (Cell.setSlot _ _ (va_rf (g_on E x))); rw [hon2]; rfl)
    exact W.aast hx hb hc (fun q h => by cases h) (fun h => by cases h) k1 k2 rfl hkC ⟨h0', by rw [arrV_size]; exact hlt⟩ q1 (fun q h => by rw [q3] at h; cases h) (by rw [q2]; exact hkC) (by rw [q2]; exact va_assign hcls) rfl rfl hdg fun H1 e1 e2 e3 => h2 H1 _ hl (hfin2 H1 e1 e2 e3) (hS.put e2 e3 (Nat.le_add_right _ _))
end AWR4
