section AWR3
variable {E : gE} {y : MethodName} {cc : ByteArray} {ret : Option FieldType} {nL d : Nat} {r : Option Value} {h0 hf h : hp} {pc pc' : Nat} {lv lv' : List (Nat × Value)} {st st' : List Value}
def g_el (h : hp) (a j k : Nat) : Value := if j = 0 then .int (hI h a k) else if j = 1 then .float (hF h a k) else .ref (hR h a k)
theorem g_avc (h : hp) (cA : ClassId) (a j n : Nat) : vp_cell cA (g_av E h a j n) = arrV cA n (fun k => g_v E (g_el h a j k)) := by
  unfold g_av g_el
  by_cases h0 : j = 0
  · subst h0; rfl
  · by_cases h1 : j = 1
    · subst h1; rfl
    · simp only [if_neg h0, if_neg h1]; rfl
/-- only what lies at one number has changed -/
def g_up (h h1 : hp) (a : Nat) : Prop := hN h1 = hN h ∧ hL h1 = hL h ∧ hT h1 = hT h ∧ ∀ b, b ≠ a → hI h1 b = hI h b ∧ hF h1 b = hF h b ∧ hR h1 b = hR h b
theorem g_up_ob {h h1 : hp} {a b : Nat} (u : g_up h h1 a) (hb : b ≠ a) : g_ob E h1 b = g_ob E h b := by
  obtain ⟨-, -, e1, e2⟩ := u
  obtain ⟨e3, e4, e5⟩ := e2 b hb
  unfold g_ob g_fs g_fa g_av
  rw [e1, e3, e4, e5]
theorem g_P_upd {h1 : hp} {H H1 : Heap} {a i : Nat} (hP : g_P E h H) (ha : a = 64 + i) (hi : i < hN h) (hs : H1.size = H.size) (ho : ∀ q, q ≠ E.1 + i → H1[q]? = H[q]?) (u : g_up h h1 a) (hat : va_at E.2.1 vwCl (E.1 + i, g_ob E h1 a) H1) : g_P E h1 H1 := by
  obtain ⟨e0, e9, e1, e2⟩ := id u
  refine ⟨by rw [hs, hP.1, e0], ⟨fun b hb => ?_, ?_, ?_, ?_, ?_⟩, fun j hj ht => ?_⟩
  · rw [e0] at hb
    obtain ⟨e3, e4, e5⟩ := e2 b (by omega)
    rw [e3, e4, e5]
    exact hP.2.1.1 b hb
  · rw [e1]; exact hP.2.1.2.1
  · rw [e1, e0]; exact hP.2.1.2.2.1
  · rw [e1]; exact hP.2.1.2.2.2.1
  · rw [e1]; exact hP.2.1.2.2.2.2
  · rw [e0] at hj
    rw [e1] at ht
    by_cases hji : j = i
    · subst hji; rw [← ha]; exact hat
    · rw [g_up_ob u (by omega)]
      exact (hP.2.2 j hj ht).kept (ho _ (by show E.1 + j ≠ E.1 + i; omega))
theorem g_upI (h : hp) (a k : Nat) (v : Int32) : g_up h (pI h a k v) a :=
  ⟨rfl, rfl, rfl, fun b hb => ⟨funext fun j => if_neg fun q => hb q.1, rfl, rfl⟩⟩
theorem g_upF (h : hp) (a k : Nat) (v : UInt32) : g_up h (pF h a k v) a :=
  ⟨rfl, rfl, rfl, fun b hb => ⟨rfl, funext fun j => if_neg fun q => hb q.1, rfl⟩⟩
theorem g_upR (h : hp) (a k : Nat) (v : Nat) : g_up h (pR h a k v) a :=
  ⟨rfl, rfl, rfl, fun b hb => ⟨rfl, rfl, funext fun j => if_neg fun q => hb q.1⟩⟩
theorem g_N2 {a ci : Nat} {q : vw_C} {H : Heap} (hP : g_P E h H) (ht : (hT h a).1 = ci) (hc : vwCl[ci]? = some q) : (hT h a).2 = q.2.2 := by
  have hci := g_ci hc
  obtain ⟨q', e1, e2⟩ := hP.2.1.2.2.2.1 a (by omega)
  rw [ht, hc] at e1
  cases e1
  exact e2.symm
theorem g_vpV {k a ci N : Nat} (hk : k < N) : vp_V (g_fs E h a ci N) k = g_v E (g_fa h a ci k) := by
  simp [vp_V, g_fs, hk]
/-- a field is written: plain, or final in its own class's <init> -/
def g_fin (y : MethodName) (ix ci k : Nat) : Prop := ∃ q : vw_C, vwCl[ci]? = some q ∧ ((q.2.1 k).2.2.2 = false ∨ ((q.2.1 k).2.2.2 = true ∧ y.name = "<init>" ∧ (q.2.1 k).1 = y.cls ∧ Cond.fieldLink y.cls ix (q.2.1 k).1 (q.2.1 k).2.1 (q.2.1 k).2.2.1 ∈ lw_good))
theorem a_put {ix ci k a : Nat} {v : Value} {h1 : hp} (hdg : decode cc pc = .ok (.putfield ix, 3)) (hlk : g_lk y.cls ix ci k) (hfin : g_fin y ix ci k) (ht : (hT h a).1 = ci) (hu : g_up h h1 a) (hv : g_fa h1 a ci k = v) (hoth : ∀ j, j ≠ k → g_fa h1 a ci j = g_fa h a ci j) (hn : narrow (g_ty ci k) (g_v E v) = g_v E v) (hfit : fits (g_ty ci k) (g_v E v) = true)
    (kk : AW E y cc ret nL d r h0 hf (pc + 3) lv st h1) : AW E y cc ret nL d r h0 hf pc lv (v :: .ref a :: st) h := by
  obtain ⟨u1, u2, u3, -⟩ := id hu
  refine ⟨by rw [← u1, ← u2]; exact kk.1, fun g1 g2 p l e s m args below meth c C ls H locs hl hP hS => ?_⟩
  obtain ⟨⟨C1, T, N⟩, hc, hk, hin, hlink, hnm0, hty⟩ := hlk
  obtain ⟨q', hc', hfin⟩ := hfin
  rw [hc] at hc'
  cases hc'
  have hci := g_ci hc
  obtain ⟨i, ha, hi, hat, hon⟩ := g_cell hP (a := a) (by omega)
  have hN2 := g_N2 hP ht hc
  have hN3 : (hT h1 a).2 = N := by rw [u3]; exact hN2
  rw [g_ob_o ht hci, hN2] at hat
  have h2 := kk.2 (by rw [u1]; exact g1) (by rw [u2]; exact g2) p l e s m args below meth c C ls
  rw [u1, u2] at h2
  obtain ⟨hx, hb, hr, hml, hown, hts, hlo, hnm, hK, hSt, hle⟩ := C
  show W p l e _ s m args below meth c H locs _ _ _ (F0 m pc ls (g_v E v :: va_rf (g_on E a) :: stm E st))
  rw [hon]
  have hap := va_apart (own := y.cls) hts hin (g_ty ci) hty hnm0 hK hc
  obtain ⟨rr, hrr, cell, q1, q2, q3, q4⟩ := hat
  have hr2 : rr = (C1, T, N) := Option.some.inj (hrr.symm.trans hc)
  subst hr2
  obtain ⟨hS1, hfc, kC, hkC, hkind⟩ := hK.1 ci _ hc
  obtain ⟨cf, kf, fi, f, hi2, hsl⟩ := hS1 k hk
  have hst := (u_facts hfc hkC (u_lays hts hin hk) hi2).1
  have hd := hty k hk
  have fin1 : ∀ H' : Heap, H'[E.1 + i]? = some (cell.setSlot ((E.2.1).2 ci k) (g_v E v)) → H'.size = H.size → (∀ q, q ≠ E.1 + i → H'[q]? = H[q]?) → g_P E h1 H' := by
    intro H' e1 e2 e3
    refine g_P_upd hP ha hi e2 e3 hu ?_
    rw [g_ob_o (by rw [u3]; exact ht) hci, hN3]
    refine ⟨_, hc, t_OB.to (V := updV (vp_V (g_fs E h a ci N)) k (g_v E v)) ⟨_, e1, q2, q3, t_set q4 hap hk _⟩ fun j hj => ?_⟩
    show updV (vp_V (g_fs E h a ci N)) k (g_v E v) j = vp_V (g_fs E h1 a ci N) j
    unfold updV
    rw [g_vpV hj, g_vpV hj]
    by_cases hjk : j = k
    · subst hjk; rw [if_pos rfl, hv]
    · rw [if_neg hjk, hoth j hjk]
  have finS : ∀ H' : Heap, H'.size = H.size → (∀ q, q ≠ E.1 + i → H'[q]? = H[q]?) → va_S (g_A E) s.heap H' (locs ++ [⟨E.1 + i, (E.2.1).2 ci k⟩]) := fun H' e2 e3 => hS.put e2 e3 (Nat.le_add_right _ _)
  rcases hfin with hfin | ⟨hfin, hin2, hdecl, hlink⟩
  · have hlay := hts _ (hin _ (u_in_lay hk))
    unfold u_lay at hlay
    rw [if_neg (by rw [hfin]; decide)] at hlay
    have h6 := u_store hfc hkC hkind hlay hi2 hd hn hfit
    rcases hlink with hlink | ⟨host, hlink⟩
    · refine W.putK hx hb (f := f) ⟨hown, hts _ hlink, ⟨_, _, _, hi2⟩, hst⟩ (by rw [q2]; exact h6) q1 q3 (by rw [hsl]; exact k2_hasslot (q4 k hk)) rfl rfl hdg fun H' e1 e2 e3 => ?_
      rw [hsl] at e1 ⊢
      exact h2 H' _ hl (fin1 H' e1 e2 e3) (finS H' e2 e3)
    · have h3 : Cond.before (Cond.fieldLinkNest y.cls ix (T k).1 (T k).2.1 (T k).2.2.1 host) args s = true := va_Nw.use rfl (hSt.1 _ hlink)
      refine va_WputK hx hb (f := f) hown h3 hi2 hst (by rw [q2]; exact h6) q1 q3 (by rw [hsl]; exact k2_hasslot (q4 k hk)) rfl rfl hdg fun H' e1 e2 e3 => ?_
      rw [hsl] at e1 ⊢
      exact h2 H' _ hl (fin1 H' e1 e2 e3) (finS H' e2 e3)
  · have hlay := hts _ (hin _ (u_in_lay hk))
    unfold u_lay at hlay
    rw [if_pos hfin] at hlay
    have hcf : m.cls = cf := by
      obtain ⟨_, _, c', _, _, _, -, -, hf', -, -, -, hown2, -⟩ := Cond.laysFinal_spec hlay
      have e1 : c' = cf := by have := hi2.symm.trans hf'; simp at this; exact this.1.symm
      rw [hdecl] at hown2
      rw [← e1]; exact Option.some.inj (hown.symm.trans hown2)
    have h6 := u_fits hfc hkC hkind (Or.inr hlay) hi2 hd hn hfit
    refine W.putFinK hx hb hown (hts _ hlink) hi2 hst hcf (hnm.trans hin2) (by rw [q2]; exact h6) q1 q3 (by rw [hsl]; exact k2_hasslot (q4 k hk)) rfl rfl hdg fun H' e1 e2 e3 => ?_
    rw [hsl] at e1 ⊢
    exact h2 H' _ hl (fin1 H' e1 e2 e3) (finS H' e2 e3)
theorem g_faI {h1 : hp} {a ci k : Nat} (hk : g_kd (g_ty ci k) = 0) : g_fa h1 a ci k = .int (hI h1 a k) := if_pos hk
theorem g_faF {h1 : hp} {a ci k : Nat} (hk : g_kd (g_ty ci k) = 1) : g_fa h1 a ci k = .float (hF h1 a k) := by
  unfold g_fa; rw [hk]; rfl
theorem g_faR {h1 : hp} {a ci k : Nat} (hk : g_kd (g_ty ci k) = 2) : g_fa h1 a ci k = .ref (hR h1 a k) := by
  unfold g_fa; rw [hk]; rfl
theorem up2_s {α : Type} (f : Nat → Nat → α) (a k : Nat) (v : α) : up2 f a k v a k = v := if_pos ⟨rfl, rfl⟩
theorem up2_k {α : Type} (f : Nat → Nat → α) (a b k : Nat) (v : α) {j : Nat} (h : j ≠ k) : up2 f a k v b j = f b j := if_neg fun q => h q.2
theorem a_getI {ix ci k a : Nat} (hdg : decode cc pc = .ok (.getfield ix, 3)) (hlk : g_lk y.cls ix ci k) (hk : g_kd (g_ty ci k) = 0) (ht : (hT h a).1 = ci) (kk : AW E y cc ret nL d r h0 hf (pc + 3) lv (.int (hI h a k) :: st) h) : AW E y cc ret nL d r h0 hf pc lv (.ref a :: st) h := a_get hdg hlk ht (g_faI hk) kk
theorem a_getF {ix ci k a : Nat} (hdg : decode cc pc = .ok (.getfield ix, 3)) (hlk : g_lk y.cls ix ci k) (hk : g_kd (g_ty ci k) = 1) (ht : (hT h a).1 = ci) (kk : AW E y cc ret nL d r h0 hf (pc + 3) lv (.float (hF h a k) :: st) h) : AW E y cc ret nL d r h0 hf pc lv (.ref a :: st) h := a_get hdg hlk ht (g_faF hk) kk
theorem a_getR {ix ci k a : Nat} (hdg : decode cc pc = .ok (.getfield ix, 3)) (hlk : g_lk y.cls ix ci k) (hk : g_kd (g_ty ci k) = 2) (ht : (hT h a).1 = ci) (kk : AW E y cc ret nL d r h0 hf (pc + 3) lv (.ref (hR h a k) :: st) h) : AW E y cc ret nL d r h0 hf pc lv (.ref a :: st) h := a_get hdg hlk ht (g_faR hk) kk
theorem a_putI {ix ci k a : Nat} {x : Int32} (hdg : decode cc pc = .ok (.putfield ix, 3)) (hlk : g_lk y.cls ix ci k) (hfin : g_fin y ix ci k) (hty : g_ty ci k = .int) (ht : (hT h a).1 = ci) (kk : AW E y cc ret nL d r h0 hf (pc + 3) lv st (pI h a k x)) : AW E y cc ret nL d r h0 hf pc lv (.int x :: .ref a :: st) h := by
  refine a_put hdg hlk hfin ht (g_upI h a k x) ?_ (fun j hj => ?_) ?_ ?_ kk
  · rw [g_faI (by rw [hty]; rfl)]; exact congrArg Value.int (up2_s _ _ _ _)
  · unfold g_fa; rw [show hI (pI h a k x) a j = hI h a j from up2_k _ _ _ _ _ hj]; rfl
  · rw [hty]; rfl
  · rw [hty]; rfl
theorem a_putZ {ix ci k a : Nat} {x : Int32} (hdg : decode cc pc = .ok (.putfield ix, 3)) (hlk : g_lk y.cls ix ci k) (hfin : g_fin y ix ci k) (hty : g_ty ci k = .boolean) (ht : (hT h a).1 = ci) (hx : x = 0 ∨ x = 1) (kk : AW E y cc ret nL d r h0 hf (pc + 3) lv st (pI h a k x)) : AW E y cc ret nL d r h0 hf pc lv (.int x :: .ref a :: st) h := by
  refine a_put hdg hlk hfin ht (g_upI h a k x) ?_ (fun j hj => ?_) ?_ ?_ kk
  · rw [g_faI (by rw [hty]; rfl)]; exact congrArg Value.int (up2_s _ _ _ _)
  · unfold g_fa; rw [show hI (pI h a k x) a j = hI h a j from up2_k _ _ _ _ _ hj]; rfl
  · rw [hty]; rcases hx with rfl | rfl <;> rfl
  · rw [hty]; rcases hx with rfl | rfl <;> rfl
theorem a_putF {ix ci k a : Nat} {x : UInt32} (hdg : decode cc pc = .ok (.putfield ix, 3)) (hlk : g_lk y.cls ix ci k) (hfin : g_fin y ix ci k) (hty : g_ty ci k = .float) (ht : (hT h a).1 = ci) (kk : AW E y cc ret nL d r h0 hf (pc + 3) lv st (pF h a k x)) : AW E y cc ret nL d r h0 hf pc lv (.float x :: .ref a :: st) h := by
  refine a_put hdg hlk hfin ht (g_upF h a k x) ?_ (fun j hj => ?_) ?_ ?_ kk
  · rw [g_faF (by rw [hty]; rfl)]; exact congrArg Value.float (up2_s _ _ _ _)
  · unfold g_fa; rw [show hF (pF h a k x) a j = hF h a j from up2_k _ _ _ _ _ hj]; rfl
  · rw [hty]; rfl
  · rw [hty]; rfl
theorem g_nr {ty : FieldType} (hk : g_kd ty = 2) (o : Option Nat) : narrow ty (va_rf o) = va_rf o ∧ fits ty (va_rf o) = true := by
  cases ty <;> first | (exfalso; revert hk; decide) | (cases o <;> exact ⟨rfl, rfl⟩)
theorem a_putR {ix ci k a x : Nat} (hdg : decode cc pc = .ok (.putfield ix, 3)) (hlk : g_lk y.cls ix ci k) (hfin : g_fin y ix ci k) (hk : g_kd (g_ty ci k) = 2) (ht : (hT h a).1 = ci) (kk : AW E y cc ret nL d r h0 hf (pc + 3) lv st (pR h a k x)) : AW E y cc ret nL d r h0 hf pc lv (.ref x :: .ref a :: st) h := by
  refine a_put hdg hlk hfin ht (g_upR h a k x) ?_ (fun j hj => ?_) (g_nr hk _).1 (g_nr hk _).2 kk
  · rw [g_faR hk]; exact congrArg Value.ref (up2_s _ _ _ _)
  · unfold g_fa; rw [show hR (pR h a k x) a j = hR h a j from up2_k _ _ _ _ _ hj]; rfl
/-! arrays -/
theorem g_tyk {j : Nat} (hj : j < 7) : (g_tys E)[j]? = some (E.2.2.1 j, g_at j) := by
  simp [g_tys, hj]
theorem g_arr {H : Heap} {a j : Nat} (hP : g_P E h H) (hj : j < 7) (ht : (hT h a).1 = 100 + j) : ∃ i, a = 64 + i ∧ i < hN h ∧ H[E.1 + i]? = some (arrV (E.2.2.1 j) (hT h a).2 (fun k => g_v E (g_el h a j k))) ∧ g_on E a = some (E.1 + i) := by
  obtain ⟨i, ha, hi, hat, hon⟩ := g_cell hP (a := a) (by omega)
  rw [g_ob_a ht] at hat
  refine ⟨i, ha, hi, ?_, hon⟩
  rw [← g_avc]
  exact hat
end AWR3
