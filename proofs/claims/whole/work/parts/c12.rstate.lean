/-! the reference's walk: its state -/
set_option maxHeartbeats 300000
def PRn (n ol lp x k : Nat) : Prop := (x = 165 ∧ (k = 6 ∨ k = 11 ∨ k = 12 ∨ k = 17 ∨ k = 18 ∨ k = 22 ∨ k = 23 ∨ k = 30 ∨ k = 35 ∨ k = 36 ∨ k = 37 ∨ k = 43 ∨ k = 47)) ∨ (166 ≤ x ∧ x ≤ 171) ∨ x = 176 ∨ ((x = 177 ∨ x = 178 ∨ x = 179 ∨ x = 181) ∧ 8 * ol ≤ k) ∨ (x = 180 ∧ 128 * ol ≤ k) ∨ (x = 182 ∧ 6 * n + 6 ≤ k) ∨ (x = 183 ∧ n < k) ∨ ((x = 184 ∨ x = 185) ∧ n ≤ k) ∨ (x = 186 ∧ lp ≤ k) ∨ (x = 187 ∧ 6 * lp ≤ k) ∨ (189 ≤ x ∧ x ≤ 191)
def PRp (n ol lp x k : Nat) : Prop := PRn n ol lp x k ∨ (x = 182 ∧ 6 * n ≤ k) ∨ (x = 183 ∧ n ≤ k)
def Psc (x k : Nat) : Prop := (x = 165 ∧ (k = 6 ∨ k = 11 ∨ k = 12 ∨ k = 17 ∨ k = 18)) ∨ ((x = 166 ∨ x = 167 ∨ x = 168 ∨ x = 170) ∧ 8 ≤ k) ∨ (x = 169 ∧ 128 ≤ k) ∨ x = 171
theorem prn_tx {n ol lp x k : Nat} (q : PRn n ol lp x k) : x ≠ 173 ∧ x ≠ 174 := by unfold PRn at q; omega
theorem prp_tx {n ol lp x k : Nat} (q : PRp n ol lp x k) : x ≠ 173 ∧ x ≠ 174 := by unfold PRp PRn at q; omega
theorem psc_n {n ol lp x k : Nat} (q : Psc x k) : PRn n ol lp x k := by
  unfold Psc at q
  rcases q with q | q | q | q <;> (first | exact .inl (by omega) | exact .inr (.inl (by omega)) | exact .inr (.inr (.inl (by omega))) | exact .inr (.inr (.inr (.inl (by omega)))) | exact .inr (.inr (.inr (.inr (.inl (by omega))))) | exact .inr (.inr (.inr (.inr (.inr (.inl (by omega)))))) | exact .inr (.inr (.inr (.inr (.inr (.inr (.inl (by omega))))))) | exact .inr (.inr (.inr (.inr (.inr (.inr (.inr (.inl (by omega)))))))) | exact .inr (.inr (.inr (.inr (.inr (.inr (.inr (.inr (.inl (by omega))))))))) | exact .inr (.inr (.inr (.inr (.inr (.inr (.inr (.inr (.inr (.inl (by omega)))))))))) | exact .inr (.inr (.inr (.inr (.inr (.inr (.inr (.inr (.inr (.inr (by omega)))))))))))
theorem RN.re {h h' : hp} {lim st dp ol ctx st' dp' ol' ctx' : Nat} {out : List Int32} {lk fl : Bool} (N : RN h lim st dp ol ctx out lk fl) (e : ∀ k, (k = 22 ∨ k = 24 ∨ k = 42 ∨ k = 43) → hI h' 165 k = hI h 165 k) (e2 : ∀ k, hI h' 176 k = hI h 176 k) (a : hI h' 165 35 = iN st' ∧ st' ≤ 300) (b : hI h' 165 36 = iN dp' ∧ dp' ≤ 8) (d : hI h' 165 30 = iN ol') (g : hI h' 165 23 = iN ctx' ∧ ctx' ≤ 3) : RN h' lim st' dp' ol' ctx' out lk fl := by
  obtain ⟨n1, n2, n3, n4, n5, n6, n7, n8, n9, ⟨o1, o2, o3⟩, n11, n12⟩ := N
  exact ⟨by rw [e 24 (by decide)]; exact n1, n2, a.1, a.2, b.1, b.2, d, g.1, g.2, ⟨by rw [e 22 (by decide)]; exact o1, o2, fun k hk => by rw [e2]; exact o3 k hk⟩, by rw [e 42 (by decide)]; exact n11, by rw [e 43 (by decide)]; exact n12⟩
theorem RN.fm {P : Nat → Nat → Prop} {h h' : hp} {lim st dp ol ctx : Nat} {out : List Int32} {lk fl : Bool} (N : RN h lim st dp ol ctx out lk fl) (f : FM P h h') (hP : ∀ x k, P x k → ¬ (x = 176 ∨ (x = 165 ∧ 22 ≤ k ∧ k ≤ 43 ∧ k ≠ 37))) : RN h' lim st dp ol ctx out lk fl := by
  have e : ∀ k, 22 ≤ k → k ≤ 43 → k ≠ 37 → hI h' 165 k = hI h 165 k := fun k a b c => f.i (fun q => hP _ _ q (.inr ⟨rfl, a, b, c⟩))
  have N' := N
  obtain ⟨n1, n2, n3, n4, n5, n6, n7, n8, n9, _⟩ := N'
  exact N.re (fun k q => e k (by omega) (by omega) (by omega)) (fun k => f.i (fun q => hP _ _ q (.inl rfl))) ⟨by rw [e 35 (by decide) (by decide) (by decide)]; exact n3, n4⟩ ⟨by rw [e 36 (by decide) (by decide) (by decide)]; exact n5, n6⟩ (by rw [e 30 (by decide) (by decide) (by decide)]; exact n7) ⟨by rw [e 23 (by decide) (by decide) (by decide)]; exact n8, n9⟩
theorem RVs.fx {P : Nat → Nat → Prop} {h h' : hp} {vs : Nat → vT} {trn : Option Nat} (H : RVs h vs trn) (f : FM P h h') (hv : ∀ v x k, v < 8 → sP v x k → ¬ P x k) (h37 : ¬ P 165 37) (h186 : ∀ l, l < 80 → hI h 165 37 = iN (l + 1) → ¬ P 186 l) : RVs h' vs trn := by
  refine ⟨fun v hv' => ⟨(H.1 v hv').1.fm f fun x k q => hv v x k hv' q, (H.1 v hv').2⟩, fun e => by rw [f.i h37]; exact H.2.1 e, fun i e => ?_⟩
  obtain ⟨a, l, b, c, d⟩ := H.2.2 i e
  exact ⟨a, l, by rw [f.i h37]; exact b, c, by rw [f.i (h186 l c b)]; exact d⟩
/-- the links of before, kept behind the templates' places -/
def WR (h : hp) (W : List Int32) : Prop := ∃ n, W.length = 3 * n ∧ n ≤ 54 ∧ hI h 165 47 = iN n ∧ ∀ i, i < n → hI h 189 i = W.getD (3 * i) 0 ∧ hI h 190 i = W.getD (3 * i + 1) 0 ∧ hI h 191 i = W.getD (3 * i + 2) 0
def WRs (h : hp) (tp : Tp) : Prop := ∀ x, tp 6 = some x → WR h x.1
theorem WRs.fm {P : Nat → Nat → Prop} {h h' : hp} {tp : Tp} (H : WRs h tp) (f : FM P h h') (hP : ∀ x k, P x k → ¬ ((x = 165 ∧ k = 47) ∨ (189 ≤ x ∧ x ≤ 191))) : WRs h' tp := fun x e => by
  obtain ⟨n, a, b, c, d⟩ := H x e
  refine ⟨n, a, b, by rw [f.i (fun q => hP _ _ q (.inl ⟨rfl, rfl⟩))]; exact c, fun i hi => ?_⟩
  rw [f.i (fun q => hP _ _ q (.inr (by omega))), f.i (fun q => hP _ _ q (.inr (by omega))), f.i (fun q => hP _ _ q (.inr (by omega)))]
  exact d i hi
/-- before a chain is laid -/
def RY (h : hp) (tp : Tp) (lim : Nat) (fr : Fr) (ol lp : Nat) (trn : Option Nat) (lk : Bool) (dp : Nat) (σ : St) : Prop := (WF h ∧ RTh h tp) ∧ FRh h fr ∧ (RVs h σ.1 trn ∧ hI h 165 37 = iN lp ∧ lp ≤ 79) ∧ RN h lim σ.2.2.2 dp ol σ.2.1 σ.2.2.1 lk false ∧ fr.length ≤ dp ∧ WRs h tp
def RX (h : hp) (tp : Tp) (lim : Nat) (fr : Fr) (c : List Nat) (ol lp : Nat) (trn : Option Nat) (lk : Bool) (dp : Nat) (σ : St) : Prop := RY h tp lim fr ol lp trn lk dp σ ∧ RCa h fr.length c
theorem RY.gn {P : Nat → Nat → Prop} {h h' : hp} {tp : Tp} {lim : Nat} {fr : Fr} {ol lp : Nat} {trn : Option Nat} {lk : Bool} {dp : Nat} {σ : St} {σ' : St} {ol' lp' dp' : Nat} {trn' : Option Nat} (H : RY h tp lim fr ol lp trn lk dp σ) (f : FM P h h') (hP : ∀ x k, P x k → PRp fr.length ol lp x k) (V : RVs h' σ'.1 trn') (l : hI h' 165 37 = iN lp' ∧ lp' ≤ 79) (N : RN h' lim σ'.2.2.2 dp' ol' σ'.2.1 σ'.2.2.1 lk false) (d' : fr.length ≤ dp') (W' : WRs h' tp) : RY h' tp lim fr ol' lp' trn' lk dp' σ' := by
  obtain ⟨⟨w, t⟩, F, _, _, d, _⟩ := H
  exact ⟨⟨f.wf w, t.fm f fun x k q => prp_tx (hP x k q)⟩, F.fm f (fun x k q => by have := hP x k q; unfold PRp PRn at this; omega), ⟨V, l⟩, N, d', W'⟩
theorem RX.gn {P : Nat → Nat → Prop} {h h' : hp} {tp : Tp} {lim : Nat} {fr : Fr} {c : List Nat} {ol lp : Nat} {trn : Option Nat} {lk : Bool} {dp : Nat} {σ : St} {σ' : St} {ol' lp' dp' : Nat} {trn' : Option Nat} (H : RX h tp lim fr c ol lp trn lk dp σ) (C : okC tp c) (f : FM P h h') (hP : ∀ x k, P x k → PRn fr.length ol lp x k) (V : RVs h' σ'.1 trn') (l : hI h' 165 37 = iN lp' ∧ lp' ≤ 79) (N : RN h' lim σ'.2.2.2 dp' ol' σ'.2.1 σ'.2.2.1 lk false) (d' : fr.length ≤ dp') (W' : WRs h' tp) : RX h' tp lim fr c ol' lp' trn' lk dp' σ' := by
  have c6 := C.2.1
  have c1 := C.1
  refine ⟨H.1.gn f (fun x k q => .inl (hP x k q)) V l N d' W', H.2.1.fm f (fun k hk q => by have := hP _ _ q; unfold PRn at this; omega), ?_⟩
  rw [f.i (fun q => by have := hP _ _ q; unfold PRn at this; omega)]
  exact H.2.2
theorem RY.re {P : Nat → Nat → Prop} {h h' : hp} {tp : Tp} {lim : Nat} {fr : Fr} {ol lp : Nat} {trn : Option Nat} {lk : Bool} {dp : Nat} {σ : St} {σ' : St} (H : RY h tp lim fr ol lp trn lk dp σ) (f : FM P h h') (hP : ∀ x k, P x k → PRp fr.length ol lp x k) (V : RVs h' σ'.1 trn) (l : hI h' 165 37 = iN lp) (N : RN h' lim σ'.2.2.2 dp ol σ'.2.1 σ'.2.2.1 lk false) (W' : WRs h' tp) : RY h' tp lim fr ol lp trn lk dp σ' := H.gn f hP V ⟨l, H.2.2.1.2.2⟩ N H.2.2.2.2.1 W'
theorem RX.re {P : Nat → Nat → Prop} {h h' : hp} {tp : Tp} {lim : Nat} {fr : Fr} {c : List Nat} {ol lp : Nat} {trn : Option Nat} {lk : Bool} {dp : Nat} {σ : St} {σ' : St} (H : RX h tp lim fr c ol lp trn lk dp σ) (C : okC tp c) (f : FM P h h') (hP : ∀ x k, P x k → PRn fr.length ol lp x k) (V : RVs h' σ'.1 trn) (l : hI h' 165 37 = iN lp) (N : RN h' lim σ'.2.2.2 dp ol σ'.2.1 σ'.2.2.1 lk false) (W' : WRs h' tp) : RX h' tp lim fr c ol lp trn lk dp σ' := H.gn C f hP V ⟨l, H.1.2.2.1.2.2⟩ N H.1.2.2.2.2.1 W'
theorem RVs.sc {P : Nat → Nat → Prop} {h h' : hp} {vs : Nat → vT} {trn : Option Nat} (H : RVs h vs trn) (f : FM P h h') (hP : ∀ x k, P x k → Psc x k) : RVs h' vs trn :=
  H.fx f (fun v x k hv q z => by have := hP x k z; unfold Psc at this; unfold sP at q; omega) (fun z => by have := hP _ _ z; unfold Psc at this; omega) (fun l _ _ z => by have := hP _ _ z; unfold Psc at this; omega)
theorem RX.sc {P : Nat → Nat → Prop} {h h' : hp} {tp : Tp} {lim : Nat} {fr : Fr} {c : List Nat} {ol lp : Nat} {trn : Option Nat} {lk : Bool} {dp : Nat} {σ : St} (H : RX h tp lim fr c ol lp trn lk dp σ) (C : okC tp c) (f : FM P h h') (hP : ∀ x k, P x k → Psc x k) : RX h' tp lim fr c ol lp trn lk dp σ :=
  H.re C f (fun x k q => psc_n (hP x k q)) (H.1.2.2.1.1.sc f hP) (by rw [f.i (fun z => by have := hP _ _ z; unfold Psc at this; omega)]; exact H.1.2.2.1.2.1) (H.1.2.2.2.1.fm f (fun x k q => by have := hP x k q; unfold Psc at this; omega)) (H.1.2.2.2.2.2.fm f (fun x k q => by have := hP x k q; unfold Psc at this; omega))
theorem pfr_n {n ol lp x k : Nat} (q : Pfr x k) : PRn n ol lp x k := by
  unfold Pfr at q
  rcases q with q | q | q | q <;> (first | exact .inl (by omega) | exact .inr (.inl (by omega)) | exact .inr (.inr (.inl (by omega))) | exact .inr (.inr (.inr (.inl (by omega)))) | exact .inr (.inr (.inr (.inr (.inl (by omega))))) | exact .inr (.inr (.inr (.inr (.inr (.inl (by omega)))))) | exact .inr (.inr (.inr (.inr (.inr (.inr (.inl (by omega))))))) | exact .inr (.inr (.inr (.inr (.inr (.inr (.inr (.inl (by omega)))))))) | exact .inr (.inr (.inr (.inr (.inr (.inr (.inr (.inr (.inl (by omega))))))))) | exact .inr (.inr (.inr (.inr (.inr (.inr (.inr (.inr (.inr (.inl (by omega)))))))))) | exact .inr (.inr (.inr (.inr (.inr (.inr (.inr (.inr (.inr (.inr (by omega)))))))))))
/-- behind a fault -/
def RFt (h : hp) (ol : Nat) (e : Nat × List Lk) : Prop := hI h 165 43 = 1 ∧ ML3 h e.2 ∧ hI h 165 35 = iN e.1 ∧ hI h 165 30 = iN ol
theorem RX.ft {h : hp} {tp : Tp} {lim : Nat} {fr : Fr} {c : List Nat} {ol lp : Nat} {trn : Option Nat} {lk : Bool} {dp : Nat} {σ : St} {j : Nat} (H : RX h tp lim fr c ol lp trn lk dp σ) (C : okC tp c) (hj : j < c.length) (bb : Option Nat) (ln s : Nat) : ∃ h', fX14_faults 165 (iN fr.length) (iN j) (iN ln) (iN s) h = some h' ∧ FS Pfr h h' ∧ (∀ u, u < 8 → MV h' u (σ.1 u)) ∧ RFt h' ol (σ.2.2.2, lks (preF fr, c, j, bb, trn) ln s) := by
  obtain ⟨⟨⟨w, t⟩, F, ⟨V, _, _⟩, N, d, _⟩, A, _⟩ := H
  obtain ⟨n1, n2, n3, n4, n5, n6, n7, n8, n9, _, n11, n12⟩ := N
  obtain ⟨h', e, z, M, f⟩ := rft_e ln s w F (fun q hq => A q (by omega)) hj C.2.1 (by omega) n12
  have n : ∀ k, k ≠ 43 → k ≠ 47 → hI h' 165 k = hI h 165 k := fun k a b => (f.2.2.2.2 165 k (by unfold Pfr; omega)).1
  exact ⟨h', e, f, fun u hu => (V.1 u hu).1.fr f (fun x k q z => by unfold sP at q; unfold Pfr at z; omega), z, M, by rw [n 35 (by decide) (by decide)]; exact n3, by rw [n 30 (by decide) (by decide)]; exact n7⟩
/-- behind a piece, behind pieces -/
def RoQ (h' : hp) (tp : Tp) (lim : Nat) (fr : Fr) (c : List Nat) (ol lp : Nat) (trn : Option Nat) (lk : Bool) (dp : Nat) (R : Ot) : Prop :=
  match R with
  | .inl σ' => RX h' tp lim fr c ol lp trn lk dp σ'
  | .inr e => RFt h' ol e
def PCr (F : Option (Int32 × hp)) (h : hp) (tp : Tp) (lim : Nat) (fr : Fr) (c : List Nat) (ol lp : Nat) (trn : Option Nat) (lk : Bool) (dp : Nat) (R : Ot) (q : Nat) : Prop := ∃ r h', F = some (r, h') ∧ FM (PRn fr.length ol lp) h h' ∧ RoQ h' tp lim fr c ol lp trn lk dp R ∧ ∀ σ', R = .inl σ' → r = iN q
theorem PCr.pre {F : Option (Int32 × hp)} {h h1 : hp} {tp : Tp} {lim : Nat} {fr : Fr} {c : List Nat} {ol lp : Nat} {trn : Option Nat} {lk : Bool} {dp : Nat} {R : Ot} {q : Nat} (f : FM (PRn fr.length ol lp) h h1) (H : PCr F h1 tp lim fr c ol lp trn lk dp R q) : PCr F h tp lim fr c ol lp trn lk dp R q := by
  obtain ⟨r, h', a, b, c'⟩ := H
  exact ⟨r, h', a, f.tr b, c'⟩
theorem RX.w {h : hp} {tp : Tp} {lim : Nat} {fr : Fr} {c : List Nat} {ol lp : Nat} {trn : Option Nat} {lk : Bool} {dp : Nat} {σ : St} (H : RX h tp lim fr c ol lp trn lk dp σ) : WF h := H.1.1.1
theorem RX.tx {h : hp} {tp : Tp} {lim : Nat} {fr : Fr} {c : List Nat} {ol lp : Nat} {trn : Option Nat} {lk : Bool} {dp : Nat} {σ : St} {j : Nat} {x : List Int32 × Option Nat × TY 5} (H : RX h tp lim fr c ol lp trn lk dp σ) (C : okC tp c) (hj : j < c.length) (hx : tp (c.getD j 0) = some x) : TX h (c.getD j 0) x.1 ∧ pTop x.1 = .inl ((x.2.1, x.2.2), x.1.length) := H.1.1.2.at (C.2.2 j hj).1 hx
/-- the text's number, read at each method's start -/
theorem RX.hd {h : hp} {tp : Tp} {lim : Nat} {fr : Fr} {c : List Nat} {ol lp : Nat} {trn : Option Nat} {lk : Bool} {dp : Nat} {σ : St} {j : Nat} (H : RX h tp lim fr c ol lp trn lk dp σ) (C : okC tp c) (hj : j < c.length) {α : Type} (K : Int32 → Option α) : ((gfR h 165 13 31).bind fun v1 => (alI h v1 ((6 * iN fr.length) + iN j)).bind fun v3 => K v3) = K (iN (c.getD j 0)) := by
  have w := H.w
  have c6 := C.2.1
  obtain ⟨⟨_, _, _, N, d, _⟩, A, _⟩ := H
  have n6 := N.2.2.2.2.2.1
  rw [MR31 w, Option.bind_some, six, ML182 w (by omega), Option.bind_some, A j (by omega)]
theorem RX.rn {h : hp} {tp : Tp} {lim : Nat} {fr : Fr} {c : List Nat} {ol lp : Nat} {trn : Option Nat} {lk : Bool} {dp : Nat} {σ : St} (H : RX h tp lim fr c ol lp trn lk dp σ) : RN h lim σ.2.2.2 dp ol σ.2.1 σ.2.2.1 lk false := H.1.2.2.2.1
theorem RN.o30 {h : hp} {lim st dp ol ctx : Nat} {out : List Int32} {lk fl : Bool} (N : RN h lim st dp ol ctx out lk fl) : hI h 165 30 = iN ol := N.2.2.2.2.2.2.1
theorem RN.dp8 {h : hp} {lim st dp ol ctx : Nat} {out : List Int32} {lk fl : Bool} (N : RN h lim st dp ol ctx out lk fl) : hI h 165 36 = iN dp ∧ dp ≤ 8 := ⟨N.2.2.2.2.1, N.2.2.2.2.2.1⟩
theorem RN.stp {h : hp} {lim st dp ol ctx : Nat} {out : List Int32} {lk fl : Bool} (N : RN h lim st dp ol ctx out lk fl) : hI h 165 35 = iN st ∧ st ≤ 300 := ⟨N.2.2.1, N.2.2.2.1⟩
theorem RN.cx {h : hp} {lim st dp ol ctx : Nat} {out : List Int32} {lk fl : Bool} (N : RN h lim st dp ol ctx out lk fl) : hI h 165 23 = iN ctx ∧ ctx ≤ 3 := ⟨N.2.2.2.2.2.2.2.1, N.2.2.2.2.2.2.2.2.1⟩
theorem RX.lk {h : hp} {tp : Tp} {lim : Nat} {fr : Fr} {c : List Nat} {ol lp : Nat} {trn : Option Nat} {lk : Bool} {dp : Nat} {σ : St} (H : RX h tp lim fr c ol lp trn lk dp σ) : hI h 165 42 = b2 lk := H.1.2.2.2.1.2.2.2.2.2.2.2.2.2.2.1
theorem RX.fl {h : hp} {tp : Tp} {lim : Nat} {fr : Fr} {c : List Nat} {ol lp : Nat} {trn : Option Nat} {lk : Bool} {dp : Nat} {σ : St} (H : RX h tp lim fr c ol lp trn lk dp σ) : hI h 165 43 = 0 := H.1.2.2.2.1.2.2.2.2.2.2.2.2.2.2.2
theorem FM.lk {n ol lp : Nat} {h h' : hp} (f : FM (PRn n ol lp) h h') : hI h' 165 42 = hI h 165 42 := f.i (fun q => by unfold PRn at q; omega)
/-- bytes put -/
theorem RX.pt {h h' : hp} {tp : Tp} {lim : Nat} {fr : Fr} {c : List Nat} {ol lp : Nat} {trn : Option Nat} {lk : Bool} {dp : Nat} {σ : St} {out : List Int32} (H : RX h tp lim fr c ol lp trn lk dp σ) (C : okC tp c) (f : FS Ppt h h') (N : RN h' lim σ.2.2.2 dp ol σ.2.1 out lk false) : RX h' tp lim fr c ol lp trn lk dp (σ.1, σ.2.1, out, σ.2.2.2) ∧ FM (PRn fr.length ol lp) h h' := by
  have u : ∀ x k, Ppt x k → PRn fr.length ol lp x k := fun x k q => by
    unfold Ppt at q
    rcases q with q | q <;> (first | exact .inl (by omega) | exact .inr (.inl (by omega)) | exact .inr (.inr (.inl (by omega))) | exact .inr (.inr (.inr (.inl (by omega)))) | exact .inr (.inr (.inr (.inr (.inl (by omega))))) | exact .inr (.inr (.inr (.inr (.inr (.inl (by omega)))))) | exact .inr (.inr (.inr (.inr (.inr (.inr (.inl (by omega))))))) | exact .inr (.inr (.inr (.inr (.inr (.inr (.inr (.inl (by omega)))))))) | exact .inr (.inr (.inr (.inr (.inr (.inr (.inr (.inr (.inl (by omega))))))))) | exact .inr (.inr (.inr (.inr (.inr (.inr (.inr (.inr (.inr (.inl (by omega)))))))))) | exact .inr (.inr (.inr (.inr (.inr (.inr (.inr (.inr (.inr (.inr (by omega)))))))))))
  exact ⟨H.re C f.fm u (H.1.2.2.1.1.fx f.fm (fun v x k hv q z => by unfold sP at q; unfold Ppt at z; omega) (fun z => by unfold Ppt at z; omega) (fun l _ _ z => by unfold Ppt at z; omega)) (by rw [(f.2.2.2.2 165 37 (by unfold Ppt; omega)).1]; exact H.1.2.2.1.2.1) N (H.1.2.2.2.2.2.fm f.fm (fun x k q => by unfold Ppt at q; omega)), f.fm.up u⟩
theorem RFt.fm {P : Nat → Nat → Prop} {h h' : hp} {ol ol' : Nat} {e : Nat × List Lk} (H : RFt h ol e) (f : FM P h h') (hP : ∀ x k, P x k → ¬ ((x = 165 ∧ (k = 35 ∨ k = 43 ∨ k = 47)) ∨ (189 ≤ x ∧ x ≤ 191))) (a : hI h' 165 30 = iN ol') : RFt h' ol' e := by
  obtain ⟨h1, ⟨m1, m2⟩, h3, h4⟩ := H
  refine ⟨by rw [f.i (fun q => hP _ _ q (by omega))]; exact h1, ⟨by rw [f.i (fun q => hP _ _ q (by omega))]; exact m1, fun q x eq => ?_⟩, by rw [f.i (fun q => hP _ _ q (by omega))]; exact h3, a⟩
  rw [f.i (fun z => hP _ _ z (by omega)), f.i (fun z => hP _ _ z (by omega)), f.i (fun z => hP _ _ z (by omega))]
  exact m2 q x eq
theorem RFt.o {h : hp} {ol : Nat} {e : Nat × List Lk} (H : RFt h ol e) : hI h 165 30 = iN ol := H.2.2.2
theorem OV.fm {P : Nat → Nat → Prop} {h h' : hp} {o : Nat} {V : vT} (H : OV h o V) (f : FM P h h') (hP : ∀ x k, oP o x k → ¬ P x k) : OV h' o V := by
  obtain ⟨h1, h2, h3, h4, h5⟩ := H
  have e : ∀ x, (x = 177 ∨ x = 178 ∨ x = 179 ∨ x = 181) → hI h' x o = hI h x o ∧ hF h' x o = hF h x o := fun x q => f.2.2.2.2 x o (hP x o (.inl ⟨q, rfl⟩))
  refine ⟨by rw [(e 177 (by simp)).1]; exact h1, h2, by rw [(e 178 (by simp)).1]; exact h3, by rw [(e 181 (by simp)).2]; exact h4, fun hv => ?_⟩
  obtain ⟨a, b, c⟩ := h5 hv
  exact ⟨by rw [(e 179 (by simp)).1]; exact a, b, fun k hk => by rw [(f.2.2.2.2 180 (16 * o + k) (hP _ _ (.inr ⟨rfl, by omega, by omega⟩))).1]; exact c k hk⟩
theorem RoQ.ol {h : hp} {tp : Tp} {lim : Nat} {fr : Fr} {c : List Nat} {ol lp : Nat} {trn : Option Nat} {lk : Bool} {dp : Nat} {R : Ot} (H : RoQ h tp lim fr c ol lp trn lk dp R) : hI h 165 30 = iN ol := by
  cases R with
  | inl σ => exact RN.o30 (RX.rn H)
  | inr e => exact H.2.2.2
