/-! the heap that the law begins with -/
set_option maxHeartbeats 400000
def ZT (h : hp) : Prop := ZH h ∧ ∀ a, 64 + hN h ≤ a → (hT h a).1 = 200
def Zo (o : Option hp) : Prop := ∀ h', o = some h' → ZT h'
theorem ZT.inr {h : hp} (z : ZT h) {a ci : Nat} (e : (hT h a).1 = ci) (c : ci ≠ 200) : a < 64 + hN h := by
  by_cases q : a < 64 + hN h
  · exact q
  · exact absurd (e.symm.trans (z.2 a (by omega))) c
theorem zo_some {h : hp} (z : ZT h) : Zo (some h) := fun h' e => by cases e; exact z
theorem zo_ck {h : hp} {a ci : Nat} {f : Unit → Option hp} (g : Zo (f ())) : Zo ((ckT h a ci).bind f) := by
  intro h' e
  unfold ckT at e
  split at e
  · exact g h' e
  · cases e
theorem zo_pR {h : hp} {a ci k v : Nat} {f : hp → Option hp} (z : ZT h) (c : ci ≠ 200) (g : ∀ h', ZT h' → Zo (f h')) : Zo ((pfR h a ci k v).bind f) := by
  intro h' e
  unfold pfR at e
  split at e
  · rename_i t
    exact g _ ⟨z.1.pR k v (z.inr t c), z.2⟩ h' e
  · cases e
theorem zo_pI {h : hp} {a ci k : Nat} {v : Int32} {f : hp → Option hp} (z : ZT h) (c : ci ≠ 200) (g : ∀ h', ZT h' → Zo (f h')) : Zo ((pfI h a ci k v).bind f) := by
  intro h' e
  unfold pfI at e
  split at e
  · rename_i t
    exact g _ ⟨z.1.pI k v (z.inr t c), z.2⟩ h' e
  · cases e
theorem zo_asI {h : hp} {a : Nat} {i v : Int32} {f : hp → Option hp} (z : ZT h) (g : ∀ h', ZT h' → Zo (f h')) : Zo ((asI h a i v).bind f) := by
  intro h' e
  unfold asI at e
  split at e
  · rename_i t
    exact g _ ⟨z.1.pI _ v (z.inr t.1 (by decide)), z.2⟩ h' e
  · cases e
theorem zo_asR {j : Nat} {h : hp} {a v : Nat} {i : Int32} {f : hp → Option hp} (z : ZT h) (c : 100 + j ≠ 200) (g : ∀ h', ZT h' → Zo (f h')) : Zo ((asR j h a i v).bind f) := by
  intro h' e
  unfold asR at e
  split at e
  · rename_i t
    exact g _ ⟨z.1.pR _ v (z.inr t.1 c), z.2⟩ h' e
  · cases e
theorem zo_any {α : Type} {o : Option α} {f : α → Option hp} (g : ∀ v, Zo (f v)) : Zo (o.bind f) := by
  intro h' e
  cases o with
  | none => cases e
  | some v => exact g v h' e
theorem ZT.nw {h : hp} (z : ZT h) (t n : Nat) : ZT (nw h t n) := by
  refine ⟨z.1.nw t n, fun a ha => ?_⟩
  rw [hN_nw] at ha
  rw [hT_nw]
  show (if a = 64 + hN h then (t, n) else hT h a).1 = 200
  rw [if_neg (by omega)]
  exact z.2 a (by omega)
theorem zo_nO {h : hp} {t n : Nat} {f : Nat → hp → Option hp} (z : ZT h) (g : ∀ v h', ZT h' → Zo (f v h')) : Zo (bd2 (nwO h t n) f) := g _ _ (z.nw t n)
theorem zo_nA {h : hp} {j : Nat} {n : Int32} {f : Nat → hp → Option hp} (z : ZT h) (g : ∀ v h', ZT h' → Zo (f v h')) : Zo (bd2 (nwA h j n) f) := by
  intro h' e
  unfold nwA at e
  split at e
  · exact g _ _ (z.nw (100 + j) n.toNatClampNeg) h' e
  · cases e
theorem zo_go {o : Option hp} {f : hp → Option hp} (a : Zo o) (g : ∀ h', ZT h' → Zo (f h')) : Zo (o.bind f) := by
  intro h' e
  cases o with
  | none => cases e
  | some v => exact g v (a v rfl) h' e
theorem z1 {a : Nat} {h : hp} (z : ZT h) : Zo (fX1_init a h) := by
  unfold fX1_init
  repeat first | exact zo_some ‹_› | refine zo_nO ‹_› fun _ _ _ => ?_ | refine zo_nA ‹_› fun _ _ _ => ?_ | refine zo_ck ?_ | refine zo_pR ‹_› (by decide) fun _ _ => ?_ | refine zo_pI ‹_› (by decide) fun _ _ => ?_ | refine zo_nO ‹_› fun _ _ _ => ?_ | refine zo_nA ‹_› fun _ _ _ => ?_ | refine zo_asI ‹_› fun _ _ => ?_ | refine zo_asR ‹_› (by decide) fun _ _ => ?_
theorem z5 {a : Nat} {n : Int32} {h : hp} (z : ZT h) : Zo (fX5_init a n h) := by
  unfold fX5_init
  simp only [jn_e]
  refine zo_ck ?_
  split <;> (repeat first | exact zo_some ‹_› | refine zo_nO ‹_› fun _ _ _ => ?_ | refine zo_nA ‹_› fun _ _ _ => ?_ | refine zo_ck ?_ | refine zo_pR ‹_› (by decide) fun _ _ => ?_ | refine zo_pI ‹_› (by decide) fun _ _ => ?_ | refine zo_nO ‹_› fun _ _ _ => ?_ | refine zo_nA ‹_› fun _ _ _ => ?_ | refine zo_asI ‹_› fun _ _ => ?_ | refine zo_asR ‹_› (by decide) fun _ _ => ?_)
theorem z11 {a : Nat} {h : hp} (z : ZT h) : Zo (fX11_init a h) := by
  unfold fX11_init
  repeat first | exact zo_some ‹_› | refine zo_nO ‹_› fun _ _ _ => ?_ | refine zo_nA ‹_› fun _ _ _ => ?_ | refine zo_ck ?_ | refine zo_pR ‹_› (by decide) fun _ _ => ?_ | refine zo_pI ‹_› (by decide) fun _ _ => ?_ | refine zo_nO ‹_› fun _ _ _ => ?_ | refine zo_nA ‹_› fun _ _ _ => ?_ | refine zo_asI ‹_› fun _ _ => ?_ | refine zo_asR ‹_› (by decide) fun _ _ => ?_
theorem z8 {a : Nat} {h : hp} (z : ZT h) : Zo (fX8_init a h) := by
  unfold fX8_init
  repeat first | exact zo_some ‹_› | refine zo_nO ‹_› fun _ _ _ => ?_ | refine zo_nA ‹_› fun _ _ _ => ?_ | refine zo_ck ?_ | refine zo_pR ‹_› (by decide) fun _ _ => ?_ | refine zo_pI ‹_› (by decide) fun _ _ => ?_ | refine zo_nO ‹_› fun _ _ _ => ?_ | refine zo_nA ‹_› fun _ _ _ => ?_ | refine zo_asI ‹_› fun _ _ => ?_ | refine zo_asR ‹_› (by decide) fun _ _ => ?_
theorem z9l {a : Nat} : ∀ (n : Nat) (i : Int32) (h : hp), ZT h → Zo (fX9_init_l45 n a i h) := by
  intro n
  induction n with
  | zero => intro i h z h' e; unfold fX9_init_l45 at e; cases e
  | succ n ih =>
    intro i h z
    unfold fX9_init_l45
    split
    · exact zo_some z
    · refine zo_any fun v => zo_nO z fun _ _ z1 => zo_ck (zo_go (z11 z1) fun _ z2 => ?_)
      repeat first | exact zo_some ‹_› | refine zo_nO ‹_› fun _ _ _ => ?_ | refine zo_nA ‹_› fun _ _ _ => ?_ | refine zo_ck ?_ | refine zo_pR ‹_› (by decide) fun _ _ => ?_ | refine zo_pI ‹_› (by decide) fun _ _ => ?_ | refine zo_nO ‹_› fun _ _ _ => ?_ | refine zo_nA ‹_› fun _ _ _ => ?_ | refine zo_asI ‹_› fun _ _ => ?_ | refine zo_asR ‹_› (by decide) fun _ _ => ?_
      exact ih _ _ ‹_›
theorem z9 {a : Nat} {h : hp} (z : ZT h) : Zo (fX9_init a h) := by
  unfold fX9_init
  repeat first | exact zo_some ‹_› | refine zo_nO ‹_› fun _ _ _ => ?_ | refine zo_nA ‹_› fun _ _ _ => ?_ | refine zo_ck ?_ | refine zo_pR ‹_› (by decide) fun _ _ => ?_ | refine zo_pI ‹_› (by decide) fun _ _ => ?_ | refine zo_nO ‹_› fun _ _ _ => ?_ | refine zo_nA ‹_› fun _ _ _ => ?_ | refine zo_asI ‹_› fun _ _ => ?_ | refine zo_asR ‹_› (by decide) fun _ _ => ?_
  refine zo_go (z5 ‹_›) fun _ _ => ?_
  repeat first | exact zo_some ‹_› | refine zo_nO ‹_› fun _ _ _ => ?_ | refine zo_nA ‹_› fun _ _ _ => ?_ | refine zo_ck ?_ | refine zo_pR ‹_› (by decide) fun _ _ => ?_ | refine zo_pI ‹_› (by decide) fun _ _ => ?_ | refine zo_nO ‹_› fun _ _ _ => ?_ | refine zo_nA ‹_› fun _ _ _ => ?_ | refine zo_asI ‹_› fun _ _ => ?_ | refine zo_asR ‹_› (by decide) fun _ _ => ?_
  exact zo_go (z9l _ _ _ ‹_›) fun _ z => zo_some z
theorem z12l {a : Nat} : ∀ (n : Nat) (i : Int32) (h : hp), ZT h → Zo (fX12_init_l102 n a i h) := by
  intro n
  induction n with
  | zero => intro i h z h' e; unfold fX12_init_l102 at e; cases e
  | succ n ih =>
    intro i h z
    unfold fX12_init_l102
    refine zo_any fun v => zo_any fun v => ?_
    split
    · exact zo_some z
    · refine zo_any fun v => zo_nO z fun _ _ z1' => zo_ck (zo_go (z1 z1') fun _ z2 => ?_)
      repeat first | exact zo_some ‹_› | refine zo_nO ‹_› fun _ _ _ => ?_ | refine zo_nA ‹_› fun _ _ _ => ?_ | refine zo_ck ?_ | refine zo_pR ‹_› (by decide) fun _ _ => ?_ | refine zo_pI ‹_› (by decide) fun _ _ => ?_ | refine zo_nO ‹_› fun _ _ _ => ?_ | refine zo_nA ‹_› fun _ _ _ => ?_ | refine zo_asI ‹_› fun _ _ => ?_ | refine zo_asR ‹_› (by decide) fun _ _ => ?_
      exact ih _ _ ‹_›
theorem z12 {a b c : Nat} {h : hp} (z : ZT h) : Zo (fX12_init a b c h) := by
  unfold fX12_init
  repeat first | exact zo_some ‹_› | refine zo_nO ‹_› fun _ _ _ => ?_ | refine zo_nA ‹_› fun _ _ _ => ?_ | refine zo_ck ?_ | refine zo_pR ‹_› (by decide) fun _ _ => ?_ | refine zo_pI ‹_› (by decide) fun _ _ => ?_ | refine zo_nO ‹_› fun _ _ _ => ?_ | refine zo_nA ‹_› fun _ _ _ => ?_ | refine zo_asI ‹_› fun _ _ => ?_ | refine zo_asR ‹_› (by decide) fun _ _ => ?_
  refine zo_go (z11 ‹_›) fun _ _ => ?_
  repeat first | exact zo_some ‹_› | refine zo_nO ‹_› fun _ _ _ => ?_ | refine zo_nA ‹_› fun _ _ _ => ?_ | refine zo_ck ?_ | refine zo_pR ‹_› (by decide) fun _ _ => ?_ | refine zo_pI ‹_› (by decide) fun _ _ => ?_ | refine zo_nO ‹_› fun _ _ _ => ?_ | refine zo_nA ‹_› fun _ _ _ => ?_ | refine zo_asI ‹_› fun _ _ => ?_ | refine zo_asR ‹_› (by decide) fun _ _ => ?_
  refine zo_go (z11 ‹_›) fun _ _ => ?_
  repeat first | exact zo_some ‹_› | refine zo_nO ‹_› fun _ _ _ => ?_ | refine zo_nA ‹_› fun _ _ _ => ?_ | refine zo_ck ?_ | refine zo_pR ‹_› (by decide) fun _ _ => ?_ | refine zo_pI ‹_› (by decide) fun _ _ => ?_ | refine zo_nO ‹_› fun _ _ _ => ?_ | refine zo_nA ‹_› fun _ _ _ => ?_ | refine zo_asI ‹_› fun _ _ => ?_ | refine zo_asR ‹_› (by decide) fun _ _ => ?_
  refine zo_go (z5 ‹_›) fun _ _ => ?_
  repeat first | exact zo_some ‹_› | refine zo_nO ‹_› fun _ _ _ => ?_ | refine zo_nA ‹_› fun _ _ _ => ?_ | refine zo_ck ?_ | refine zo_pR ‹_› (by decide) fun _ _ => ?_ | refine zo_pI ‹_› (by decide) fun _ _ => ?_ | refine zo_nO ‹_› fun _ _ _ => ?_ | refine zo_nA ‹_› fun _ _ _ => ?_ | refine zo_asI ‹_› fun _ _ => ?_ | refine zo_asR ‹_› (by decide) fun _ _ => ?_
  refine zo_go (z5 ‹_›) fun _ _ => ?_
  repeat first | exact zo_some ‹_› | refine zo_nO ‹_› fun _ _ _ => ?_ | refine zo_nA ‹_› fun _ _ _ => ?_ | refine zo_ck ?_ | refine zo_pR ‹_› (by decide) fun _ _ => ?_ | refine zo_pI ‹_› (by decide) fun _ _ => ?_ | refine zo_nO ‹_› fun _ _ _ => ?_ | refine zo_nA ‹_› fun _ _ _ => ?_ | refine zo_asI ‹_› fun _ _ => ?_ | refine zo_asR ‹_› (by decide) fun _ _ => ?_
  exact zo_go (z12l _ _ _ ‹_›) fun _ z => zo_some z
theorem z13l {a b c d : Nat} : ∀ (n : Nat) (i : Int32) (h : hp), ZT h → Zo (fX13_init_l32 n a b c d i h) := by
  intro n
  induction n with
  | zero => intro i h z h' e; unfold fX13_init_l32 at e; cases e
  | succ n ih =>
    intro i h z
    unfold fX13_init_l32
    split
    · exact zo_some z
    · refine zo_nO z fun _ _ z1' => zo_ck (zo_go (z8 z1') fun _ z2 => ?_)
      repeat first | exact zo_some ‹_› | refine zo_nO ‹_› fun _ _ _ => ?_ | refine zo_nA ‹_› fun _ _ _ => ?_ | refine zo_ck ?_ | refine zo_pR ‹_› (by decide) fun _ _ => ?_ | refine zo_pI ‹_› (by decide) fun _ _ => ?_ | refine zo_nO ‹_› fun _ _ _ => ?_ | refine zo_nA ‹_› fun _ _ _ => ?_ | refine zo_asI ‹_› fun _ _ => ?_ | refine zo_asR ‹_› (by decide) fun _ _ => ?_
      exact ih _ _ ‹_›
theorem z13 {a : Nat} {h : hp} (z : ZT h) : Zo (fX13_init a h) := by
  unfold fX13_init
  repeat first | exact zo_some ‹_› | refine zo_nO ‹_› fun _ _ _ => ?_ | refine zo_nA ‹_› fun _ _ _ => ?_ | refine zo_ck ?_ | refine zo_pR ‹_› (by decide) fun _ _ => ?_ | refine zo_pI ‹_› (by decide) fun _ _ => ?_ | refine zo_nO ‹_› fun _ _ _ => ?_ | refine zo_nA ‹_› fun _ _ _ => ?_ | refine zo_asI ‹_› fun _ _ => ?_ | refine zo_asR ‹_› (by decide) fun _ _ => ?_
  refine zo_go (z9 ‹_›) fun _ _ => ?_
  repeat first | exact zo_some ‹_› | refine zo_nO ‹_› fun _ _ _ => ?_ | refine zo_nA ‹_› fun _ _ _ => ?_ | refine zo_ck ?_ | refine zo_pR ‹_› (by decide) fun _ _ => ?_ | refine zo_pI ‹_› (by decide) fun _ _ => ?_ | refine zo_nO ‹_› fun _ _ _ => ?_ | refine zo_nA ‹_› fun _ _ _ => ?_ | refine zo_asI ‹_› fun _ _ => ?_ | refine zo_asR ‹_› (by decide) fun _ _ => ?_
  refine zo_go (z5 ‹_›) fun _ _ => ?_
  repeat first | exact zo_some ‹_› | refine zo_nO ‹_› fun _ _ _ => ?_ | refine zo_nA ‹_› fun _ _ _ => ?_ | refine zo_ck ?_ | refine zo_pR ‹_› (by decide) fun _ _ => ?_ | refine zo_pI ‹_› (by decide) fun _ _ => ?_ | refine zo_nO ‹_› fun _ _ _ => ?_ | refine zo_nA ‹_› fun _ _ _ => ?_ | refine zo_asI ‹_› fun _ _ => ?_ | refine zo_asR ‹_› (by decide) fun _ _ => ?_
  refine zo_go (z13l _ _ _ ‹_›) fun _ _ => ?_
  repeat first | exact zo_some ‹_› | refine zo_nO ‹_› fun _ _ _ => ?_ | refine zo_nA ‹_› fun _ _ _ => ?_ | refine zo_ck ?_ | refine zo_pR ‹_› (by decide) fun _ _ => ?_ | refine zo_pI ‹_› (by decide) fun _ _ => ?_ | refine zo_nO ‹_› fun _ _ _ => ?_ | refine zo_nA ‹_› fun _ _ _ => ?_ | refine zo_asI ‹_› fun _ _ => ?_ | refine zo_asR ‹_› (by decide) fun _ _ => ?_
  refine zo_go (z9 ‹_›) fun _ _ => ?_
  repeat first | exact zo_some ‹_› | refine zo_nO ‹_› fun _ _ _ => ?_ | refine zo_nA ‹_› fun _ _ _ => ?_ | refine zo_ck ?_ | refine zo_pR ‹_› (by decide) fun _ _ => ?_ | refine zo_pI ‹_› (by decide) fun _ _ => ?_ | refine zo_nO ‹_› fun _ _ _ => ?_ | refine zo_nA ‹_› fun _ _ _ => ?_ | refine zo_asI ‹_› fun _ _ => ?_ | refine zo_asR ‹_› (by decide) fun _ _ => ?_
  refine zo_go (z5 ‹_›) fun _ _ => ?_
  repeat first | exact zo_some ‹_› | refine zo_nO ‹_› fun _ _ _ => ?_ | refine zo_nA ‹_› fun _ _ _ => ?_ | refine zo_ck ?_ | refine zo_pR ‹_› (by decide) fun _ _ => ?_ | refine zo_pI ‹_› (by decide) fun _ _ => ?_ | refine zo_nO ‹_› fun _ _ _ => ?_ | refine zo_nA ‹_› fun _ _ _ => ?_ | refine zo_asI ‹_› fun _ _ => ?_ | refine zo_asR ‹_› (by decide) fun _ _ => ?_
  refine zo_go (z5 ‹_›) fun _ _ => ?_
  repeat first | exact zo_some ‹_› | refine zo_nO ‹_› fun _ _ _ => ?_ | refine zo_nA ‹_› fun _ _ _ => ?_ | refine zo_ck ?_ | refine zo_pR ‹_› (by decide) fun _ _ => ?_ | refine zo_pI ‹_› (by decide) fun _ _ => ?_ | refine zo_nO ‹_› fun _ _ _ => ?_ | refine zo_nA ‹_› fun _ _ _ => ?_ | refine zo_asI ‹_› fun _ _ => ?_ | refine zo_asR ‹_› (by decide) fun _ _ => ?_
  refine zo_go (z11 ‹_›) fun _ _ => ?_
  repeat first | exact zo_some ‹_› | refine zo_nO ‹_› fun _ _ _ => ?_ | refine zo_nA ‹_› fun _ _ _ => ?_ | refine zo_ck ?_ | refine zo_pR ‹_› (by decide) fun _ _ => ?_ | refine zo_pI ‹_› (by decide) fun _ _ => ?_ | refine zo_nO ‹_› fun _ _ _ => ?_ | refine zo_nA ‹_› fun _ _ _ => ?_ | refine zo_asI ‹_› fun _ _ => ?_ | refine zo_asR ‹_› (by decide) fun _ _ => ?_
  refine zo_go (z12 ‹_›) fun _ _ => ?_
  repeat first | exact zo_some ‹_› | refine zo_nO ‹_› fun _ _ _ => ?_ | refine zo_nA ‹_› fun _ _ _ => ?_ | refine zo_ck ?_ | refine zo_pR ‹_› (by decide) fun _ _ => ?_ | refine zo_pI ‹_› (by decide) fun _ _ => ?_ | refine zo_nO ‹_› fun _ _ _ => ?_ | refine zo_nA ‹_› fun _ _ _ => ?_ | refine zo_asI ‹_› fun _ _ => ?_ | refine zo_asR ‹_› (by decide) fun _ _ => ?_
theorem z14l {a : Nat} : ∀ (n : Nat) (i : Int32) (h : hp), ZT h → Zo (fX14_init_l344 n a i h) := by
  intro n
  induction n with
  | zero => intro i h z h' e; unfold fX14_init_l344 at e; cases e
  | succ n ih =>
    intro i h z
    unfold fX14_init_l344
    split
    · exact zo_some z
    · refine zo_any fun v => zo_asI z fun _ z => zo_any fun v => zo_asI z fun _ z => zo_any fun v => zo_asI z fun _ z => ih _ _ z
theorem z14 {a : Nat} {h : hp} (z : ZT h) : Zo (fX14_init a h) := by
  unfold fX14_init
  repeat first | exact zo_some ‹_› | refine zo_nO ‹_› fun _ _ _ => ?_ | refine zo_nA ‹_› fun _ _ _ => ?_ | refine zo_ck ?_ | refine zo_pR ‹_› (by decide) fun _ _ => ?_ | refine zo_pI ‹_› (by decide) fun _ _ => ?_ | refine zo_nO ‹_› fun _ _ _ => ?_ | refine zo_nA ‹_› fun _ _ _ => ?_ | refine zo_asI ‹_› fun _ _ => ?_ | refine zo_asR ‹_› (by decide) fun _ _ => ?_
  refine zo_any fun v => ?_
  repeat first | exact zo_some ‹_› | refine zo_nO ‹_› fun _ _ _ => ?_ | refine zo_nA ‹_› fun _ _ _ => ?_ | refine zo_ck ?_ | refine zo_pR ‹_› (by decide) fun _ _ => ?_ | refine zo_pI ‹_› (by decide) fun _ _ => ?_ | refine zo_nO ‹_› fun _ _ _ => ?_ | refine zo_nA ‹_› fun _ _ _ => ?_ | refine zo_asI ‹_› fun _ _ => ?_ | refine zo_asR ‹_› (by decide) fun _ _ => ?_
  exact zo_go (z14l _ _ _ ‹_›) fun _ z => zo_some z
def okS (h : hp) : Prop := (hN h = 140 ∧ hL h ≤ 60000) ∧ (∀ i, i < 140 → hT h (64 + i) = T0l.getD i (0, 0)) ∧ (∀ q ∈ R0l, hR h q.1 q.2.1 = q.2.2) ∧ ((∀ k, k < 348 → hR h 145 k = 0) ∧ ∀ k, k < 48 → hR h 136 k = 0) ∧ (∀ k, k < 6 → hR h 67 k = 0 ∧ hI h 174 k = -1) ∧ (hI h 64 2 = 0 ∧ hI h 165 62 = 0) ∧ (∀ v, v < 8 → hI h (70 + 2 * v) 0 = 0 ∧ hI h 166 v = 0) ∧ (hI h 128 1 = 0 ∧ hI h 165 10 = 0) ∧ (hI h 68 1 = 0 ∧ hI h 165 21 = 0) ∧ (hI h 65 3 = 200 ∧ hI h 165 24 = 200) ∧ (hI h 64 8 = 0 ∧ hI h 165 38 = 0) ∧ (hI h 86 1 = 0 ∧ hI h 165 47 = 0) ∧ (∀ r, r < 6 → hI h (89 + 3 * r) 0 = -1 ∧ hI h (89 + 3 * r) 1 = 0 ∧ hI h 192 r = -1) ∧ hI h 137 0 = 0 ∧ hI h 139 0 = 0 ∧ hI h 141 1 = 0 ∧ hI h 134 10 = 0
def okSd (h : hp) : Decidable (okS h) := by unfold okS; infer_instance
def ckS0 : Bool := match fX13_init 64 (nw hp0 12 10) with
  | some h5 => decide (hN h5 = 101) && match fX14_init (64 + hN h5) (nw h5 13 63) with
    | some h => @decide (okS h) (okSd h)
    | none => false
  | none => false
theorem hS_0 : ckS0 = true := by decide +kernel
theorem hS_1 : ∃ h5 h, fX13_init 64 (nw hp0 12 10) = some h5 ∧ hN h5 = 101 ∧ fX14_init 165 (nw h5 13 63) = some h ∧ okS h := by
  have q := hS_0
  unfold ckS0 at q
  split at q
  · rename_i h5 e5
    obtain ⟨q1, q2⟩ := Bool.and_eq_true_iff.mp q
    have n5 : hN h5 = 101 := of_decide_eq_true q1
    rw [n5] at q2
    split at q2
    · rename_i h e
      exact ⟨h5, h, e5, n5, e, @of_decide_eq_true _ (okSd h) q2⟩
    · cases q2
  · cases q
theorem LI0 {h : hp} (o : okS h) (z : ZH h) : LI h fun _ => 0 := by
  obtain ⟨⟨n, _⟩, t, r, ⟨x1, x2⟩, tm, ⟨k1, k2⟩, vs, ⟨t1, t2⟩, ⟨s1, s2⟩, ⟨b1, b2⟩, ⟨p1, p2⟩, ⟨w1, w2⟩, rw, g1, g2, g3, g4⟩ := o
  have w : WF h := ⟨t, r, by omega⟩
  have c0 : ∀ {a b : Nat}, VO h a b → hI h a 0 = 0 → CV h a b vN := fun v e => ⟨v, e, by show 0 ≤ 4; decide, fun e => absurd e (by show ¬ 0 = 1; decide), fun e => absurd e (by show ¬ 0 = 2; decide), fun e => absurd e (by show ¬ 3 ≤ 0; decide)⟩
  have l0 : ∀ {a b c : Nat}, NO h a b c → hI h a 1 = 0 → NL h a b c [] := fun v e => ⟨v, e, Nat.zero_le _, fun k hk => absurd hk (Nat.not_lt_zero _)⟩
  refine ⟨⟨w, z⟩, ⟨fun k hk => .inl (tm k hk), ⟨⟨fun i hi => .inl (x1 i hi), fun l hl => .inl (x2 l hl)⟩, ⟨⟨vN, c0 (VO_left w) g1, gvN⟩, ⟨vN, c0 (VO_right w) g2, gvN⟩, [], l0 (NO_shown w) g3⟩, g4⟩, ⟨false, k1, k2, fun e => absurd e (by decide)⟩⟩, ⟨fun _ => vN, fun v hv => ⟨c0 (VO_val w hv) (vs v hv).1, ⟨(vs v hv).2, by show 0 ≤ 4; decide, fun e => absurd e (by show ¬ 0 = 1; decide), fun e => absurd e (by show ¬ 0 = 2; decide), fun e => absurd e (by show ¬ 3 ≤ 0; decide)⟩, gvN⟩⟩, ⟨[], l0 (NO_tape w) t1, t2, fun k hk => absurd hk (Nat.not_lt_zero _), fun k hk => absurd hk (Nat.not_lt_zero _)⟩, ⟨[], l0 (NO_sheet w) s1, s2, fun k hk => absurd hk (Nat.not_lt_zero _)⟩, ⟨200, by decide, b1, b2⟩, p1.trans p2.symm, ⟨0, by decide, w1, w2, fun i hi => absurd hi (Nat.not_lt_zero _)⟩, fun r hr => .inl (rw r hr)⟩
theorem zC_le (f : Nat → Nat) : ∀ n, zC f n ≤ n := by
  intro n
  induction n with
  | zero => exact Nat.le_refl _
  | succ n ih => unfold zC; split <;> omega
theorem law_true (xs : Nat → Int32) (L : Nat) (hq : L ≤ 3072) : ∃ hz, fL_law xs L hp0 = some (1, hz) ∧ hN hz ≤ 600000 ∧ hL hz ≤ 7302250 := by
  obtain ⟨h5, h, e5, n5, e, o⟩ := hS_1
  have z0 : ZT hp0 := ⟨fun _ _ _ => ⟨rfl, rfl, rfl⟩, fun _ _ => rfl⟩
  have z5' := z13 (z0.nw 12 10) h5 e5
  have z := z14 (z5'.nw 13 63) h e
  obtain ⟨hz, el, a, b⟩ := law_l xs L hq (L / 6) FU 0 h (fun _ => 0) (by omega) (FU_pos _ (by omega)) (LI0 o z.1)
  have zf : Zf h ≤ 396 := by
    unfold Zf
    have := zC_le (hR h 145) 348
    have := zC_le (hR h 136) 48
    omega
  have o1 := o.1
  refine ⟨hz, ?_, by omega, by omega⟩
  unfold fL_law
  have c1 : ckT (nw hp0 12 10) 64 12 = some () := by unfold ckT; rw [hT_nw]; rfl
  have c2 : ckT (nw h5 13 63) 165 13 = some () := by unfold ckT; rw [hT_nw, n5]; rfl
  have en : nwO h5 13 63 = some (165, nw h5 13 63) := by unfold nwO; rw [n5]
  rw [show nwO hp0 12 10 = some (64, nw hp0 12 10) from rfl, bd2_s, c1, Option.bind_some, e5, Option.bind_some, en, bd2_s, c2, Option.bind_some, e, Option.bind_some]
  rw [show (0 : Int32) = iN (6 * 0) from rfl, el, bd2_s]
  rfl
