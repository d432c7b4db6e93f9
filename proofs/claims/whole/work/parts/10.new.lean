section AWR5
variable {E : gE} {y : MethodName} {cc : ByteArray} {ret : Option FieldType} {nL d : Nat} {r : Option Value} {h0 hf h : hp} {pc pc' : Nat} {lv lv' : List (Nat × Value)} {st st' : List Value}
theorem g_nw_ob {t n b : Nat} (hb : b ≠ 64 + hN h) : g_ob E (nw h t n) b = g_ob E h b := by
  have e : hT (nw h t n) b = hT h b := if_neg hb
  unfold g_ob g_fs g_fa g_av
  rw [e]
  rfl
theorem g_nwT (h : hp) (t n : Nat) : hT (nw h t n) (64 + hN h) = (t, n) := if_pos rfl
theorem g_P_nw {t n : Nat} {H H1 : Heap} (hP : g_P E h H) (ht : t < 107) (hc : t < 100 → ∃ q, vwCl[t]? = some q ∧ q.2.2 = n) (e2 : H1.size = H.size + 1) (e3 : ∀ q, q < H.size → H1[q]? = H[q]?) (hat : va_at E.2.1 vwCl (E.1 + hN h, g_ob E (nw h t n) (64 + hN h)) H1) : g_P E (nw h t n) H1 := by
  have eN : hN (nw h t n) = hN h + 1 := rfl
  have eT : ∀ b, b ≠ 64 + hN h → hT (nw h t n) b = hT h b := fun b hb => if_neg hb
  refine ⟨by rw [e2, hP.1, eN]; omega, ⟨fun b hb => ?_, fun b hb => ?_, fun b hb => ?_, fun b hb => ?_, fun b hb => ?_⟩, fun j hj ht2 => ?_⟩
  · rw [eN] at hb
    exact hP.2.1.1 b (by omega)
  · rw [eT b (by omega)]; exact hP.2.1.2.1 b hb
  · rw [eN] at hb
    rw [eT b (by omega)]; exact hP.2.1.2.2.1 b (by omega)
  · by_cases hbn : b = 64 + hN h
    · subst hbn
      rw [g_nwT] at hb ⊢
      exact hc hb
    · rw [eT b hbn] at hb ⊢
      exact hP.2.1.2.2.2.1 b hb
  · by_cases hbn : b = 64 + hN h
    · subst hbn
      rw [g_nwT]
      exact ht
    · rw [eT b hbn] at hb ⊢
      exact hP.2.1.2.2.2.2 b hb
  · rw [eN] at hj
    by_cases hjn : j = hN h
    · subst hjn; exact hat
    · have hjb : 64 + j ≠ 64 + hN h := by omega
      rw [eT _ hjb] at ht2
      rw [g_nw_ob hjb]
      exact (hP.2.2 j (by omega) ht2).kept (e3 _ (by show E.1 + j < H.size; rw [hP.1]; omega))
theorem g_onw {H : Heap} (hP : g_P E h H) : va_rf (g_on E (64 + hN h)) = .ref H.size := by
  unfold g_on g_ad
  rw [if_neg (by omega), if_neg (by omega), hP.1, show 64 + hN h - 64 = hN h by omega]
  rfl
theorem va_S.grow {A : Nat → Prop} {H0 H H1 : Heap} {locs : List Loc} (hS : va_S A H0 H locs) (e2 : H1.size = H.size + 1) (e3 : ∀ q, q < H.size → H1[q]? = H[q]?) : va_S A H0 H1 locs :=
  ⟨Nat.le_trans hS.1 (by omega), fun x h1 h2 => (e3 x (Nat.lt_of_lt_of_le h1 hS.1)).trans (hS.2.1 x h1 h2), hS.2.2⟩
/-- slots that begin with 0 or null -/
def g_okt (ty : FieldType) : Bool := match ty with
  | .long => false
  | .double => false
  | _ => true
theorem a_new {ix ci : Nat} {q : vw_C} (hdg : decode cc pc = .ok (.new ix, 3)) (hc : vwCl[ci]? = some q) (hin : ∀ w ∈ u_ws q.1 q.2.1 q.2.2, w ∈ lw_good) (hty : ∀ k, k < q.2.2 → parseFieldDescriptor (q.2.1 k).2.2.1 = some (g_ty ci k)) (hok : ∀ k, k < q.2.2 → g_okt (g_ty ci k) = true) (hcl : Cond.classLink y.cls ix q.1 ∈ lw_good) (hins : Cond.instantiable q.1 q.2.2 ∈ lw_good) (hini : Cond.initialized q.1 ∈ lw_good)
    (kk : AW E y cc ret nL d r h0 hf (pc + 3) lv (.ref (64 + hN h) :: st) (nw h ci q.2.2)) : AW E y cc ret nL d r h0 hf pc lv st h := by
  have k1 : hN h + 1 ≤ hN hf := kk.1.1
  have k2 : hL h + q.2.2 ≤ hL hf := kk.1.2
  refine ⟨⟨by omega, by omega⟩, fun g1 g2 p l e s m args below meth c C ls H locs hl hP hS => ?_⟩
  have h2 := kk.2 (by show hN h0 ≤ hN h + 1; omega) (by show hL h0 ≤ hL h + q.2.2; omega) p l e s m args below meth c C ls
  obtain ⟨C1, T, N⟩ := q
  obtain ⟨hx, hb, hr, hml, hown, hts, hlo, hnm, hK, hSt, hle⟩ := C
  have hKn := hK.1 ci _ hc
  have hci := g_ci hc
  refine W.newcK hx hb hown (hts _ hcl) (hts _ hins) (hts _ hini) rfl hdg (by show hN h - hN h0 + 1 ≤ hN hf - hN h0; omega) (by show hL h - hL h0 + N ≤ hL hf - hL h0; have : hL h + N ≤ hL hf := k2; omega) hKn.2.1 rfl fun H1 kC hkC e1 e2 e3 => ?_
  have h3 := h2 H1 locs hl ?_ (va_S.grow hS e2 e3)
  · rw [show hN (nw h ci (C1, T, N).2.2) - hN h0 = hN h - hN h0 + 1 from (by show hN h + 1 - hN h0 = _; omega), show hL (nw h ci (C1, T, N).2.2) - hL h0 = hL h - hL h0 + N from (by show hL h + N - hL h0 = _; omega)] at h3
    have h4 : W p l e (g_rm d (hN hf - hN h0) (hL hf - hL h0)) s m args below meth c H1 locs (hN h - hN h0 + 1) (hL h - hL h0 + N) (MQ below (g_Q E r hf) args s (hN hf - hN h0) (hL hf - hL h0) (g_A E)) (F0 m (pc + 3) ls (va_rf (g_on E (64 + hN h)) :: stm E st)) := h3
    rw [g_onw hP] at h4
    exact h4
  · refine g_P_nw hP (by have := (List.getElem?_eq_some_iff.mp hc).1; have h9 : vwCl.length = 14 := rfl; omega) (fun _ => ⟨_, hc, rfl⟩) e2 e3 ?_
    rw [g_ob_o (ci := ci) (by rw [g_nwT]) hci, g_nwT]
    refine ⟨_, hc, (u_born (g_ty ci) hts hin hKn hkC (by rw [← hP.1]; exact e1) hty).to fun k hk => ?_⟩
    rw [g_vpV hk]
    obtain ⟨z1, z2, z3⟩ := hP.2.1.1 (64 + hN h) (Nat.le_refl _)
    have ho := hok k hk
    unfold g_fa
    rw [show hI (nw h ci (C1, T, N).2.2) (64 + hN h) k = 0 from z1 k, show hF (nw h ci (C1, T, N).2.2) (64 + hN h) k = 0 from z2 k, show hR (nw h ci (C1, T, N).2.2) (64 + hN h) k = 0 from z3 k]
    revert ho
    cases g_ty ci k <;> first | (intro ho; cases ho; done) | (intro _; rfl)
theorem a_newI {n : Int32} (hdg : decode cc pc = .ok (.newarray .int, 2)) (harr : Cond.arrayClass .int ∈ lw_good) (hn : ¬ n < 0) (hn2 : n.toNatClampNeg ≤ 20000) (kk : AW E y cc ret nL d r h0 hf (pc + 2) lv (.ref (64 + hN h) :: st) (nw h 100 n.toNatClampNeg)) : AW E y cc ret nL d r h0 hf pc lv (.int n :: st) h := by
  have k1 : hN h + 1 ≤ hN hf := kk.1.1
  have k2 : hL h + n.toNatClampNeg ≤ hL hf := kk.1.2
  refine ⟨⟨by omega, by omega⟩, fun g1 g2 p l e s m args below meth c C ls H locs hl hP hS => ?_⟩
  have h2 := kk.2 (by show hN h0 ≤ hN h + 1; omega) (by show hL h0 ≤ hL h + n.toNatClampNeg; omega) p l e s m args below meth c C ls
  obtain ⟨hx, hb, hr, hml, hown, hts, hlo, hnm, hK, hSt, hle⟩ := C
  refine va_newaK (atype := .int) hx hb (hts _ harr) rfl hdg rfl hn rfl (by show n.toNatClampNeg * 4 ≤ _; omega) (by show hN h - hN h0 + 1 ≤ hN hf - hN h0; omega) (by show hL h - hL h0 + n.toNatClampNeg ≤ hL hf - hL h0; omega) rfl fun H1 cA e1 e2 e3 hAr hNm => ?_
  have h3 := h2 H1 locs hl ?_ (va_S.grow hS e2 e3)
  · rw [show hN (nw h 100 n.toNatClampNeg) - hN h0 = hN h - hN h0 + 1 from (by show hN h + 1 - hN h0 = _; omega), show hL (nw h 100 n.toNatClampNeg) - hL h0 = hL h - hL h0 + n.toNatClampNeg from (by show hL h + n.toNatClampNeg - hL h0 = _; omega)] at h3
    have h4 : W p l e (g_rm d (hN hf - hN h0) (hL hf - hL h0)) s m args below meth c H1 locs (hN h - hN h0 + 1) (hL h - hL h0 + n.toNatClampNeg) (MQ below (g_Q E r hf) args s (hN hf - hN h0) (hL hf - hL h0) (g_A E)) (F0 m (pc + 2) ls (va_rf (g_on E (64 + hN h)) :: stm E st)) := h3
    rw [g_onw hP] at h4
    exact h4
  · refine g_P_nw hP (by omega) (fun q => absurd q (by omega)) e2 e3 ?_
    rw [g_ob_a (j := 0) (by rw [g_nwT]), g_nwT]
    show H1[E.1 + hN h]? = some (vp_cell _ _)
    have hcA : cA = E.2.2.1 0 := Option.some.inj (hNm.symm.trans (hK.2 0 _ (g_tyk (by decide))).2)
    rw [g_avc, ← hP.1, e1, hcA]
    obtain ⟨z1, z2, z3⟩ := hP.2.1.1 (64 + hN h) (Nat.le_refl _)
    congr 2
    funext k
    show _ = Value.int (hI h (64 + hN h) k)
    rw [z1 k]
    rfl
theorem a_newF {n : Int32} (hdg : decode cc pc = .ok (.newarray .float, 2)) (harr : Cond.arrayClass .float ∈ lw_good) (hn : ¬ n < 0) (hn2 : n.toNatClampNeg ≤ 20000) (kk : AW E y cc ret nL d r h0 hf (pc + 2) lv (.ref (64 + hN h) :: st) (nw h 101 n.toNatClampNeg)) : AW E y cc ret nL d r h0 hf pc lv (.int n :: st) h := by
  have k1 : hN h + 1 ≤ hN hf := kk.1.1
  have k2 : hL h + n.toNatClampNeg ≤ hL hf := kk.1.2
  refine ⟨⟨by omega, by omega⟩, fun g1 g2 p l e s m args below meth c C ls H locs hl hP hS => ?_⟩
  have h2 := kk.2 (by show hN h0 ≤ hN h + 1; omega) (by show hL h0 ≤ hL h + n.toNatClampNeg; omega) p l e s m args below meth c C ls
  obtain ⟨hx, hb, hr, hml, hown, hts, hlo, hnm, hK, hSt, hle⟩ := C
  refine va_newaK (atype := .float) hx hb (hts _ harr) rfl hdg rfl hn rfl (by show n.toNatClampNeg * 4 ≤ _; omega) (by show hN h - hN h0 + 1 ≤ hN hf - hN h0; omega) (by show hL h - hL h0 + n.toNatClampNeg ≤ hL hf - hL h0; omega) rfl fun H1 cA e1 e2 e3 hAr hNm => ?_
  have h3 := h2 H1 locs hl ?_ (va_S.grow hS e2 e3)
  · rw [show hN (nw h 101 n.toNatClampNeg) - hN h0 = hN h - hN h0 + 1 from (by show hN h + 1 - hN h0 = _; omega), show hL (nw h 101 n.toNatClampNeg) - hL h0 = hL h - hL h0 + n.toNatClampNeg from (by show hL h + n.toNatClampNeg - hL h0 = _; omega)] at h3
    have h4 : W p l e (g_rm d (hN hf - hN h0) (hL hf - hL h0)) s m args below meth c H1 locs (hN h - hN h0 + 1) (hL h - hL h0 + n.toNatClampNeg) (MQ below (g_Q E r hf) args s (hN hf - hN h0) (hL hf - hL h0) (g_A E)) (F0 m (pc + 2) ls (va_rf (g_on E (64 + hN h)) :: stm E st)) := h3
    rw [g_onw hP] at h4
    exact h4
  · refine g_P_nw hP (by omega) (fun q => absurd q (by omega)) e2 e3 ?_
    rw [g_ob_a (j := 1) (by rw [g_nwT]), g_nwT]
    show H1[E.1 + hN h]? = some (vp_cell _ _)
    have hcA : cA = E.2.2.1 1 := Option.some.inj (hNm.symm.trans (hK.2 1 _ (g_tyk (by decide))).2)
    rw [g_avc, ← hP.1, e1, hcA]
    obtain ⟨z1, z2, z3⟩ := hP.2.1.1 (64 + hN h) (Nat.le_refl _)
    congr 2
    funext k
    show _ = Value.float (hF h (64 + hN h) k)
    rw [z2 k]
    rfl
theorem a_newR {ix j : Nat} {n : Int32} {C0 : String} (hdg : decode cc pc = .ok (.anewarray ix, 3)) (hj : 2 ≤ j ∧ j < 7) (hC0 : g_at j = .object C0) (hcl : Cond.classLink y.cls ix C0 ∈ lw_good) (hov : C0 ∈ g_cl) (hn : ¬ n < 0) (hn2 : n.toNatClampNeg ≤ 20000) (kk : AW E y cc ret nL d r h0 hf (pc + 3) lv (.ref (64 + hN h) :: st) (nw h (100 + j) n.toNatClampNeg)) : AW E y cc ret nL d r h0 hf pc lv (.int n :: st) h := by
  have k1 : hN h + 1 ≤ hN hf := kk.1.1
  have k2 : hL h + n.toNatClampNeg ≤ hL hf := kk.1.2
  refine ⟨⟨by omega, by omega⟩, fun g1 g2 p l e s m args below meth c C ls H locs hl hP hS => ?_⟩
  have h2 := kk.2 (by show hN h0 ≤ hN h + 1; omega) (by show hL h0 ≤ hL h + n.toNatClampNeg; omega) p l e s m args below meth c C ls
  obtain ⟨hx, hb, hr, hml, hown, hts, hlo, hnm, hK, hSt, hle⟩ := C
  refine W.anew hx hb hown (hts _ hcl) (va_AO.use (hSt.2.1 _ hov)) rfl hdg rfl hn (by omega) (by show hN h - hN h0 + 1 ≤ hN hf - hN h0; omega) (by show hL h - hL h0 + n.toNatClampNeg ≤ hL hf - hL h0; omega) fun cA kA comp f1 f2 f3 f4 => ?_
  generalize hH1 : H.push ({ cls := cA, slots := Array.replicate n.toNatClampNeg .null, vm := .none } : Cell) = H1
  have e2 : H1.size = H.size + 1 := by rw [← hH1, Array.size_push]
  have e1 : H1[H.size]? = some (arrV cA n.toNatClampNeg (fun _ => .null)) := by rw [← hH1, Array.getElem?_push_size, ← arrV_new]
  have e3 : ∀ q : Nat, q < H.size → H1[q]? = H[q]? := fun q hq => by rw [← hH1, Array.getElem?_push, if_neg (Nat.ne_of_lt hq)]
  have h3 := h2 H1 locs hl ?_ (va_S.grow hS e2 e3)
  · rw [show hN (nw h (100 + j) n.toNatClampNeg) - hN h0 = hN h - hN h0 + 1 from (by show hN h + 1 - hN h0 = _; omega), show hL (nw h (100 + j) n.toNatClampNeg) - hL h0 = hL h - hL h0 + n.toNatClampNeg from (by show hL h + n.toNatClampNeg - hL h0 = _; omega)] at h3
    have h4 : W p l e (g_rm d (hN hf - hN h0) (hL hf - hL h0)) s m args below meth c H1 locs (hN h - hN h0 + 1) (hL h - hL h0 + n.toNatClampNeg) (MQ below (g_Q E r hf) args s (hN hf - hN h0) (hL hf - hL h0) (g_A E)) (F0 m (pc + 3) ls (va_rf (g_on E (64 + hN h)) :: stm E st)) := h3
    rw [g_onw hP] at h4
    exact h4
  · refine g_P_nw hP (by omega) (fun q => absurd q (by omega)) e2 e3 ?_
    rw [g_ob_a (j := j) (by rw [g_nwT]), g_nwT]
    show H1[E.1 + hN h]? = some (vp_cell _ _)
    have hRA := (hK.2 j _ (g_tyk hj.2)).2
    rw [show ((E.2.2.1 j, g_at j) : ClassId × FieldType).2 = .object C0 from hC0] at hRA
    obtain ⟨-, -, -, -, -, z4⟩ := hRA
    have hcA : cA = E.2.2.1 j := Option.some.inj (f1.symm.trans z4)
    rw [g_avc, ← hP.1, e1, hcA]
    obtain ⟨z1, z2, z3⟩ := hP.2.1.1 (64 + hN h) (Nat.le_refl _)
    congr 2
    funext k
    rw [g_el2 hj.1, show hR (nw h (100 + j) n.toNatClampNeg) (64 + hN h) k = 0 from z3 k]
    rfl
end AWR5
