/-! a VALUE of the class: what its methods do to it -/
/-- the heap with the ints of one object told anew -/
def sI (h : hp) (b : Nat) (g : Nat → Int32) : hp := (h.1, h.2.1, h.2.2.1, (fun x k => if x = b then g k else h.2.2.2.1 x k), h.2.2.2.2.1, h.2.2.2.2.2)
theorem hI_sI (h : hp) (b : Nat) (g : Nat → Int32) (x k : Nat) : hI (sI h b g) x k = if x = b then g k else hI h x k := rfl
theorem hF_sI (h : hp) (b : Nat) (g : Nat → Int32) : hF (sI h b g) = hF h := rfl
theorem hR_sI (h : hp) (b : Nat) (g : Nat → Int32) : hR (sI h b g) = hR h := rfl
theorem hT_sI (h : hp) (b : Nat) (g : Nat → Int32) : hT (sI h b g) = hT h := rfl
theorem hN_sI (h : hp) (b : Nat) (g : Nat → Int32) : hN (sI h b g) = hN h := rfl
theorem hL_sI (h : hp) (b : Nat) (g : Nat → Int32) : hL (sI h b g) = hL h := rfl
theorem WF_e1 (h : hp) (a k : Nat) (v : Int32) : WF (pI h a k v) = WF h := rfl
theorem WF_e2 (h : hp) (a k : Nat) (v : UInt32) : WF (pF h a k v) = WF h := rfl
theorem WF_e3 (h : hp) (b : Nat) (g : Nat → Int32) : WF (sI h b g) = WF h := rfl
theorem WF_e4 (h : hp) (a0 sp a dp n : Nat) : WF (pCI h a0 sp a dp n) = WF h := rfl
theorem WF_e5 (h : hp) (a0 sp a dp n : Nat) : WF (pCF h a0 sp a dp n) = WF h := rfl
theorem hp_ext {h k : hp} (e1 : hN h = hN k) (e2 : hL h = hL k) (e3 : hT h = hT k) (e4 : ∀ a j, hI h a j = hI k a j) (e5 : ∀ a j, hF h a j = hF k a j) (e6 : ∀ a j, hR h a j = hR k a j) : h = k := by
  obtain ⟨a1, a2, a3, a4, a5, a6⟩ := h
  obtain ⟨b1, b2, b3, b4, b5, b6⟩ := k
  have h1 : a1 = b1 := e1
  have h2 : a2 = b2 := e2
  have h3 : a3 = b3 := e3
  have h4 : a4 = b4 := funext fun a => funext fun j => e4 a j
  have h5 : a5 = b5 := funext fun a => funext fun j => e5 a j
  have h6 : a6 = b6 := funext fun a => funext fun j => e6 a j
  subst h1 h2 h3 h4 h5 h6
  rfl
theorem pI_sI (h : hp) (b k : Nat) (v : Int32) (g : Nat → Int32) : pI (sI h b g) b k v = sI h b (fun j => if j = k then v else g j) := by
  refine hp_ext rfl rfl rfl ?_ (fun _ _ => rfl) (fun _ _ => rfl)
  intro a j
  rw [hI_pI, hI_sI, hI_sI]
  by_cases e : a = b <;> simp [e]
theorem sI_sI (h : hp) (b : Nat) (g g' : Nat → Int32) : sI (sI h b g) b g' = sI h b g' := by
  refine hp_ext rfl rfl rfl ?_ (fun _ _ => rfl) (fun _ _ => rfl)
  intro a j
  rw [hI_sI, hI_sI, hI_sI]
  by_cases e : a = b <;> simp [e]
theorem sI_self (h : hp) (b : Nat) : sI h b (hI h b) = h := by
  refine hp_ext rfl rfl rfl ?_ (fun _ _ => rfl) (fun _ _ => rfl)
  intro a j
  rw [hI_sI]
  by_cases e : a = b
  · subst e; simp
  · simp [e]
theorem sI_congr (h : hp) (b : Nat) {g g' : Nat → Int32} (e : ∀ j, g j = g' j) : sI h b g = sI h b g' := by rw [funext e]
/-- nothing is changed but ints and floats of some objects; nothing is made -/
def FI (S : List Nat) (h h' : hp) : Prop := hN h' = hN h ∧ hL h' = hL h ∧ hT h' = hT h ∧ hR h' = hR h ∧ ∀ x, x ∉ S → hI h' x = hI h x ∧ hF h' x = hF h x
theorem FI.rf (S : List Nat) (h : hp) : FI S h h := ⟨rfl, rfl, rfl, rfl, fun _ _ => ⟨rfl, rfl⟩⟩
theorem FI.tr {S Q P : List Nat} {h h1 h2 : hp} (a : FI S h h1) (b : FI Q h1 h2) (hS : ∀ x ∈ S, x ∈ P) (hQ : ∀ x ∈ Q, x ∈ P) : FI P h h2 :=
  ⟨b.1.trans a.1, b.2.1.trans a.2.1, b.2.2.1.trans a.2.2.1, b.2.2.2.1.trans a.2.2.2.1, fun x hx => ⟨((b.2.2.2.2 x fun q => hx (hQ x q)).1).trans (a.2.2.2.2 x fun q => hx (hS x q)).1, ((b.2.2.2.2 x fun q => hx (hQ x q)).2).trans (a.2.2.2.2 x fun q => hx (hS x q)).2⟩⟩
theorem FI.tr' {S : List Nat} {h h1 h2 : hp} (a : FI S h h1) (b : FI S h1 h2) : FI S h h2 := FI.tr a b (fun _ q => q) (fun _ q => q)
theorem FI.up {S Q : List Nat} {h h1 : hp} (a : FI S h h1) (hS : ∀ x ∈ S, x ∈ Q) : FI Q h h1 := ⟨a.1, a.2.1, a.2.2.1, a.2.2.2.1, fun x hx => a.2.2.2.2 x fun q => hx (hS x q)⟩
theorem FI.pI (h : hp) (a k : Nat) (v : Int32) : FI [a] h (pI h a k v) := ⟨rfl, rfl, rfl, rfl, fun x hx => ⟨funext fun j => by rw [hI_pI, if_neg]; rintro ⟨q, -⟩; exact hx (by simp [q]), rfl⟩⟩
theorem FI.pF (h : hp) (a k : Nat) (v : UInt32) : FI [a] h (pF h a k v) := ⟨rfl, rfl, rfl, rfl, fun x hx => ⟨rfl, funext fun j => by rw [hF_pF, if_neg]; rintro ⟨q, -⟩; exact hx (by simp [q])⟩⟩
theorem FI.sI (h : hp) (b : Nat) (g : Nat → Int32) : FI [b] h (sI h b g) := ⟨rfl, rfl, rfl, rfl, fun x hx => ⟨funext fun j => by rw [hI_sI, if_neg]; rintro rfl; exact hx (by simp), rfl⟩⟩
theorem FI.pCI (h : hp) (a0 sp a dp n : Nat) : FI [a] h (pCI h a0 sp a dp n) := ⟨rfl, rfl, rfl, rfl, fun x hx => ⟨funext fun j => by rw [hI_pCI, if_neg]; rintro ⟨q, -⟩; exact hx (by simp [q]), rfl⟩⟩
theorem FI.pCF (h : hp) (a0 sp a dp n : Nat) : FI [a] h (pCF h a0 sp a dp n) := ⟨rfl, rfl, rfl, rfl, fun x hx => ⟨rfl, funext fun j => by rw [hF_pCF, if_neg]; rintro ⟨q, -⟩; exact hx (by simp [q])⟩⟩
theorem FI.wf {S : List Nat} {h h' : hp} (a : FI S h h') (w : WF h) : WF h' := WF_same w a.2.2.1 a.2.2.2.1 a.1
theorem FI.vo {S : List Nat} {h h' : hp} {x y : Nat} (a : FI S h h') (w : VO h x y) : VO h' x y := by
  unfold VO; rw [a.2.2.1, a.2.2.2.1]; exact w
theorem FI.no {S : List Nat} {h h' : hp} {x y c : Nat} (a : FI S h h') (w : NO h x y c) : NO h' x y c := by
  unfold NO; rw [a.2.2.1, a.2.2.2.1]; exact w
/-- a value: its sort, an int, a float's bits, how many, which -/
abbrev vT : Type := Nat × Int32 × UInt32 × Nat × (Nat → Int32)
def vN : vT := (0, 0, 0, 0, fun _ => 0)
def vI (x : Int32) : vT := (1, x, 0, 0, fun _ => 0)
def vR (r : UInt32) : vT := (2, 0, r, 0, fun _ => 0)
def vL (s n : Nat) (f : Nat → Int32) : vT := (s, 0, 0, n, f)
/-- the class's object holds a value -/
def CV (h : hp) (a b : Nat) (V : vT) : Prop := VO h a b ∧ hI h a 0 = iN V.1 ∧ V.1 ≤ 4 ∧ (V.1 = 1 → hI h a 1 = V.2.1) ∧ (V.1 = 2 → hF h a 2 = V.2.2.1) ∧ (3 ≤ V.1 → hI h a 3 = iN V.2.2.2.1 ∧ V.2.2.2.1 ≤ 16 ∧ ∀ k, k < V.2.2.2.1 → hI h b k = V.2.2.2.2 k)
theorem CV.fr {S : List Nat} {h h' : hp} {a b : Nat} {V : vT} (H : CV h a b V) (f : FI S h h') (ha : a ∉ S) (hb : b ∉ S) : CV h' a b V := by
  obtain ⟨h1, h2, h3, h4, h5, h6⟩ := H
  have ea := f.2.2.2.2 a ha
  have eb := f.2.2.2.2 b hb
  exact ⟨f.vo h1, by rw [ea.1]; exact h2, h3, by rw [ea.1]; exact h4, by rw [ea.2]; exact h5, by rw [ea.1, eb.1]; exact h6⟩
theorem VO.ne {h : hp} {a b a' b' : Nat} (H : VO h a b) (H' : VO h a' b') : a ≠ b' := by
  rintro rfl
  have := H.1.symm.trans H'.2.1
  simp at this
theorem cNothing {h : hp} {a b : Nat} (H : VO h a b) : ∃ h', fX11_becomeNothing a h = some h' ∧ CV h' a b vN ∧ FI [a] h h' := by
  obtain ⟨t1, t2, r1, ne⟩ := id H
  refine ⟨pI (pI h a 0 0) a 3 0, by simp [fX11_becomeNothing, pfI, t1, hT_pI], ⟨H, by simp [hI_pI, vN]; rfl, by simp [vN], by simp [vN], by simp [vN], by simp [vN]⟩, FI.tr' (FI.pI ..) (FI.pI ..)⟩
theorem cInt {h : hp} {a b : Nat} (x : Int32) (H : VO h a b) : ∃ h', fX11_becomeInt a x h = some h' ∧ CV h' a b (vI x) ∧ FI [a] h h' := by
  obtain ⟨t1, t2, r1, ne⟩ := id H
  refine ⟨pI (pI (pI h a 0 1) a 1 x) a 3 0, by simp [fX11_becomeInt, pfI, t1, hT_pI], ⟨H, by simp [hI_pI, vI]; rfl, by simp [vI], by simp [hI_pI, vI], by simp [vI], by simp [vI]⟩, FI.tr' (FI.tr' (FI.pI ..) (FI.pI ..)) (FI.pI ..)⟩
/-- LIMITED -/
def limF (f : UInt32) : UInt32 := if (Op.cmpValue (FP.fcmp f 1232348160) .l) ≤ 0 then (if 0 ≤ (Op.cmpValue (FP.fcmp f 3379831808) .g) then (if (Op.cmpValue (FP.fcmp f FP.fconst0) .l) = 0 then FP.fconst0 else f) else 3379831808) else 1232348160
theorem cReal {h : hp} {a b : Nat} (f : UInt32) (H : VO h a b) : ∃ h', fX11_becomeReal a f h = some h' ∧ CV h' a b (vR (limF f)) ∧ FI [a] h h' := by
  obtain ⟨t1, t2, r1, ne⟩ := id H
  refine ⟨pI (pF (pI h a 0 2) a 2 (limF f)) a 3 0, ?_, ⟨H, by simp [hI_pI, hI_pF, vR]; rfl, by simp [vR], by simp [vR], by simp [hF_pI, hF_pF, vR], by simp [vR]⟩, FI.tr' (FI.tr' (FI.pI ..) (FI.pF ..)) (FI.pI ..)⟩
  unfold fX11_becomeReal limF
  simp only [pfI, pfF, t1, hT_pI, hT_pF, if_true, Option.bind_some, jn]
  split
  · split
    · split <;> rfl
    · rfl
  · rfl
theorem vAt {h : hp} {a b n k : Nat} (H : VO h a b) (hs : hI h a 3 = iN n) (hn : n ≤ 16) (hk : k < n) : fX11_at a (iN k) h = some (hI h b k, h) := by
  obtain ⟨t1, t2, r1, ne⟩ := H
  have e1 : ¬ (iN k < 0) := by rw [i_lt_lit (by omega) (by omega)]; exact Nat.not_lt_zero _
  have e2 : ¬ (iN n ≤ iN k) := by rw [i_le (by omega) (by omega)]; omega
  have e3 : ¬ (Int32.ofNat 16 ≤ iN k) := by show ¬ (iN 16 ≤ iN k); rw [i_le (by omega) (by omega)]; omega
  have e4 : (0 ≤ (iN k).toInt ∧ (iN k).toInt < ((16 : Nat) : Int)) := by rw [i_toInt (by omega)]; omega
  have e5 : (iN k).toNatClampNeg = k := i_clamp (by omega)
  simp only [fX11_at, gfI, gfR, aln, alI, t1, t2, r1, hs, e1, e2, e3, e4, e5, if_true, if_false, Option.bind_some, and_self]
theorem vPut {h : hp} {a b n k : Nat} {v : Int32} (H : VO h a b) (hs : hI h a 3 = iN n) (hn : n ≤ 16) (hk : k < n) : fX11_put a (iN k) v h = some (pI h b k v) := by
  obtain ⟨t1, t2, r1, ne⟩ := H
  have e1 : ¬ (iN k < 0) := by rw [i_lt_lit (by omega) (by omega)]; exact Nat.not_lt_zero _
  have e2 : ¬ (iN n ≤ iN k) := by rw [i_le (by omega) (by omega)]; omega
  have e3 : ¬ (Int32.ofNat 16 ≤ iN k) := by show ¬ (iN 16 ≤ iN k); rw [i_le (by omega) (by omega)]; omega
  have e4 : (0 ≤ (iN k).toInt ∧ (iN k).toInt < ((16 : Nat) : Int)) := by rw [i_toInt (by omega)]; omega
  have e5 : (iN k).toNatClampNeg = k := i_clamp (by omega)
  simp only [fX11_put, gfI, gfR, aln, asI, t1, t2, r1, hs, e1, e2, e3, e4, e5, if_true, if_false, Option.bind_some, and_self]
theorem vResize {h : hp} {a b m : Nat} (H : VO h a b) (hm : m < 2147483648) : fX11_resize a (iN m) h = some (pI h a 3 (iN (min m 16))) := by
  obtain ⟨t1, t2, r1, ne⟩ := H
  have e1 : (0 : Int32) ≤ iN m := by rw [i_lit_le (by omega) hm]; exact Nat.zero_le _
  by_cases e : m ≤ 16
  · have e2 : ¬ (Int32.ofNat 16 < iN m) := by show ¬ (iN 16 < iN m); rw [i_lt (by omega) hm]; omega
    simp only [fX11_resize, fJ9_min_7cf53, gfR, aln, pfI, t1, t2, r1, e1, e2, if_true, if_false, Option.bind_some, jn, bd2, Nat.min_eq_left e]
  · have e2 : Int32.ofNat 16 < iN m := by show iN 16 < iN m; rw [i_lt (by omega) hm]; omega
    simp only [fX11_resize, fJ9_min_7cf53, gfR, aln, pfI, t1, t2, r1, e1, e2, if_true, if_false, Option.bind_some, jn, bd2, Nat.min_eq_right (Nat.le_of_not_le e)]
    rfl
theorem cCopy {h : hp} {a b a' b' : Nat} {V : vT} (H : VO h a b) (H' : CV h a' b' V) : ∃ h', fX11_copy a a' h = some h' ∧ CV h' a b V ∧ FI [a, b] h h' := by
  obtain ⟨t1, t2, r1, ne⟩ := id H
  obtain ⟨g0, g1, g2, g3, g4, g5⟩ := H'
  obtain ⟨u1, u2, v1, ne'⟩ := id g0
  have n1 : a ≠ b' := VO.ne H g0
  have n2 : a' ≠ b := VO.ne g0 H
  refine ⟨pCI (pI (pF (pI (pI h a 0 (hI h a' 0)) a 1 (hI h a' 1)) a 2 (hF h a' 2)) a 3 (hI h a' 3)) b' 0 b 0 16, ?_, ⟨H, ?_, g2, ?_, ?_, ?_⟩, ?_⟩
  · have c1 : hI (pI h a 0 (hI h a' 0)) a' 1 = hI h a' 1 := by rw [hI_pI, if_neg (by simp)]
    have c3 : hI (pF (pI (pI h a 0 (hI h a' 0)) a 1 (hI h a' 1)) a 2 (hF h a' 2)) a' 3 = hI h a' 3 := by rw [hI_pF, hI_pI, if_neg (by simp), hI_pI, if_neg (by simp)]
    have e16 : (Int32.ofNat 16).toInt = 16 := by decide
    have c16 : (Int32.ofNat 16).toNatClampNeg = 16 := by decide
    have z0 : (0 : Int32).toInt = 0 := by decide
    have zc : (0 : Int32).toNatClampNeg = 0 := by decide
    simp [fX11_copy, gfI, gfF, gfR, pfI, pfF, aln, cpI, t1, t2, r1, u1, u2, v1, hT_pI, hT_pF, hR_pI, hR_pF, hF_pI, c1, c3, e16, c16, z0, zc]
  · rw [hI_pCI, if_neg (by rintro ⟨q, -⟩; exact ne q), hI_pI, if_neg (by simp), hI_pF, hI_pI, if_neg (by simp), hI_pI, if_pos ⟨rfl, rfl⟩]; exact g1
  · intro hv; rw [hI_pCI, if_neg (by rintro ⟨q, -⟩; exact ne q), hI_pI, if_neg (by simp), hI_pF, hI_pI, if_pos ⟨rfl, rfl⟩]; exact g3 hv
  · intro hv; rw [hF_pCI, hF_pI, hF_pF, if_pos ⟨rfl, rfl⟩]; exact g4 hv
  · intro hv
    obtain ⟨x1, x2, x3⟩ := g5 hv
    refine ⟨?_, x2, fun k hk => ?_⟩
    · rw [hI_pCI, if_neg (by rintro ⟨q, -⟩; exact ne q), hI_pI, if_pos ⟨rfl, rfl⟩]; exact x1
    · rw [hI_pCI, if_pos ⟨rfl, Nat.zero_le _, by omega⟩, hI_pI, if_neg (by rintro ⟨q, -⟩; exact n1 q.symm), hI_pF, hI_pI, if_neg (by rintro ⟨q, -⟩; exact n1 q.symm), hI_pI, if_neg (by rintro ⟨q, -⟩; exact n1 q.symm)]
      rw [show 0 + (k - 0) = k by omega]; exact x3 k hk
  · have f1 : FI [a, b] h (pI (pF (pI (pI h a 0 (hI h a' 0)) a 1 (hI h a' 1)) a 2 (hF h a' 2)) a 3 (hI h a' 3)) := (FI.tr' (FI.tr' (FI.tr' (FI.pI ..) (FI.pI ..)) (FI.pF ..)) (FI.pI ..)).up (by simp)
    exact f1.tr (FI.pCI ..) (fun _ q => q) (by simp)
