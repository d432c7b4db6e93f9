/-! the calls of templates -/
def PT (x k : Nat) : Prop := Pt x k ∨ (x = 165 ∧ 10 ≤ k ∧ k ≤ 16) ∨ x = 67 ∨ x = 173 ∨ x = 174
/-- a place with its template in both, or empty in both -/
def TK (h : hp) (own : Nat → Nat) (T : Nat) (sz : Int32) (tx : Nat → Int32) : Prop := (T = 0 ∧ sz = -1) ∨ ∃ L b t lo hi, T ≠ 0 ∧ sz = iN L.length ∧ L.length ≤ 160 ∧ (∀ i, i < L.length → tx i = L.getD i 0) ∧ (∀ i, i < L.length → 1 ≤ (L.getD i 0).toInt ∧ (L.getD i 0).toInt ≤ 127) ∧ pTop L = .inl ((b, t), L.length) ∧ TO h lo hi T L b t ∧ ∀ x, lo ≤ x → x < hi → own x = 1
def JT (h : hp) (own : Nat → Nat) : Prop := ∀ k, k < 6 → TK h own (hR h 67 k) (hI h 174 k) fun i => hI h 173 (160 * k + i)
theorem TK.fg {P : Nat → Nat → Prop} {h h' : hp} {own own' : Nat → Nat} {T : Nat} {sz sz' : Int32} {tx tx' : Nat → Int32} (H : TK h own T sz tx) (f : FG P h h') (hP : ∀ x k, 204 ≤ x → x < 64 + hN h → own x = 1 → ¬ P x k) (ho : ∀ x, x < 64 + hN h → own' x = own x) (es : sz' = sz) (et : ∀ i, i < 160 → tx' i = tx i) : TK h' own' T sz' tx' := by
  rcases H with ⟨a, b⟩ | ⟨L, b, t, lo, hi, a1, a2, a3, a4, a5, a6, a7, a8⟩
  · exact .inl ⟨a, by rw [es, b]⟩
  · have hh := a7.2.2.2.1
    have h204 := a7.1
    exact .inr ⟨L, b, t, lo, hi, a1, by rw [es, a2], a3, fun i hi' => by rw [et i (by omega)]; exact a4 i hi', a5, a6, a7.fg f (fun x k x1 x2 => hP x k (by omega) (by omega) (a8 x x1 x2)), fun x x1 x2 => by rw [ho x (by omega)]; exact a8 x x1 x2⟩
theorem kIn (v : Int32) (h : hp) : (∃ k, k < 6 ∧ v = iN k ∧ fX13_among v 6 h = some (1, h) ∧ fX14_isIn v.toInt64 0 5 h = some (1, h)) ∨ (fX13_among v 6 h = some (0, h) ∧ fX14_isIn v.toInt64 0 5 h = some (0, h)) := by
  have e1 : fX13_among v 6 h = _ := am_e v 6 (by decide) h
  have e2 : fX14_isIn v.toInt64 0 5 h = _ := isIn_c v 0 5 (by decide) (by decide) 0 5 (by decide) (by decide) h
  by_cases c : 0 ≤ v.toInt ∧ v.toInt < ((6 : Nat) : Int)
  · obtain ⟨k, hk, e⟩ := i_of2 c
    rw [if_pos c] at e1
    rw [if_pos (by omega)] at e2
    exact .inl ⟨k, hk, e, e1, e2⟩
  · rw [if_neg c] at e1
    rw [if_neg (by omega)] at e2
    exact .inr ⟨e1, e2⟩
theorem cp_l {h : hp} (w : WF h) {k m : Nat} (hk : k < 6) (hm : m ≤ 160) : ∀ (d i n : Nat) (g : hp), i + d = m → d < n → WF g → hI g 172 = hI h 172 → ∃ h', fX14_template_l51 n 165 (iN k) (iN m) (iN i) g = some h' ∧ FS (fun x _ => x = 173) g h' ∧ ∀ x, hI h' 173 x = if 160 * k + i ≤ x ∧ x < 160 * k + m then hI h 172 (x - 160 * k) else hI g 173 x := by
  intro d
  induction d with
  | zero =>
    intro i n g hi hn wg _
    obtain ⟨n, rfl⟩ : ∃ q, n = q + 1 := ⟨n - 1, by omega⟩
    rw [fX14_template_l51, if_pos (by rw [i_le (by omega) (by omega)]; omega)]
    exact ⟨g, rfl, FS.rf _ _, fun x => by rw [if_neg (by omega)]⟩
  | succ d ih =>
    intro i n g hi hn wg e
    obtain ⟨n, rfl⟩ : ∃ q, n = q + 1 := ⟨n - 1, by omega⟩
    have w2 : WF (pI g 173 (160 * k + i) (hI g 172 i)) := wg
    obtain ⟨h', a1, a2, a3⟩ := ih (i + 1) n (pI g 173 (160 * k + i) (hI g 172 i)) (by omega) (by omega) w2 (by rw [← e]; funext x; rw [hI_pI, if_neg (by omega)])
    refine ⟨h', ?_, (FS.pI (P := fun x _ => x = 173) rfl).tr a2, fun x => ?_⟩
    · rw [fX14_template_l51, if_neg (by rw [i_le (by omega) (by omega)]; omega), MR8 wg, Option.bind_some, MR7 wg, Option.bind_some, ML172 wg (by omega), Option.bind_some, k160, i_add, MS173 wg (by omega), Option.bind_some, i_succ]
      exact a1
    · rw [a3 x]
      by_cases c : 160 * k + (i + 1) ≤ x ∧ x < 160 * k + m
      · rw [if_pos c, if_pos (by omega)]
      · rw [if_neg c, hI_pI]
        by_cases c2 : x = 160 * k + i
        · subst c2
          rw [if_pos ⟨rfl, rfl⟩, if_pos (by omega), e, Nat.add_sub_cancel_left]
        · rw [if_neg (fun q => c2 q.2), if_neg (by omega)]
theorem WF.r11 {h : hp} (w : WF h) (v : Nat) : WF (pR h 165 11 v) := WF_pR w (by decide +kernel)
/-- the recognizer set on a text -/
def hRd (h : hp) (S : Nat) (off n : Int32) : hp := pI (pI (pI (pI (pI (pR h 165 11 S) 165 12 off) 165 13 n) 165 14 0) 165 15 (-1)) 165 16 0
theorem reads_e {h : hp} (w : WF h) (S : Nat) (off n : Int32) : fX14_reads 165 S off n h = some (hRd h S off n) := by
  have p1 : pfR h 165 13 11 S = some (pR h 165 11 S) := by unfold pfR; rw [T165 w]; rfl
  have w1 := w.r11 S
  have p2 : ∀ (g : hp), WF g → ∀ k x, pfI g 165 13 k x = some (pI g 165 k x) := fun g wg k x => pM wg k x
  unfold fX14_reads
  rw [p1, Option.bind_some, p2 _ w1, Option.bind_some, p2 (pI (pR h 165 11 S) 165 12 off) w1, Option.bind_some, p2 (pI (pI (pR h 165 11 S) 165 12 off) 165 13 n) w1, Option.bind_some, p2 (pI (pI (pI (pR h 165 11 S) 165 12 off) 165 13 n) 165 14 0) w1, Option.bind_some, p2 (pI (pI (pI (pI (pR h 165 11 S) 165 12 off) 165 13 n) 165 14 0) 165 15 (-1)) w1, Option.bind_some]
  rfl
theorem hRd_f {h : hp} (w : WF h) {S off : Nat} {L : List Int32} (hS : ∃ n, hT h S = (100, n) ∧ off + L.length ≤ n ∧ n ≤ 20000) (hS2 : S ≠ 165) (hLn : L.length ≤ 160) (ht : ∀ k, k < L.length → hI h S (off + k) = L.getD k 0) (hb : ∀ k, k < L.length → 1 ≤ (L.getD k 0).toInt ∧ (L.getD k 0).toInt ≤ 127) : MX (hRd h S (iN off) (iN L.length)) S off L ∧ MP (hRd h S (iN off) (iN L.length)) 0 0 ∧ FG (fun x k => x = 165 ∧ 11 ≤ k ∧ k ≤ 16) h (hRd h S (iN off) (iN L.length)) ∧ hN (hRd h S (iN off) (iN L.length)) = hN h ∧ hL (hRd h S (iN off) (iN L.length)) = hL h := by
  have e : ∀ x j, hI (hRd h S (iN off) (iN L.length)) x j = if x = 165 ∧ j = 16 then 0 else if x = 165 ∧ j = 15 then -1 else if x = 165 ∧ j = 14 then 0 else if x = 165 ∧ j = 13 then iN L.length else if x = 165 ∧ j = 12 then iN off else hI h x j := fun x j => by
    unfold hRd
    simp only [hI_pI, hI_pR]
  refine ⟨⟨w.r11 S, ?_, ?_, ?_, hS, hS2, fun k hk => ?_, hb, hLn⟩, ⟨?_, ?_, ?_⟩, ?_, rfl, rfl⟩
  · show hR (pR h 165 11 S) 165 11 = S
    rw [hR_pR, if_pos ⟨rfl, rfl⟩]
  · rw [e]; rfl
  · rw [e]; rfl
  · rw [e, if_neg (fun q => hS2 q.1), if_neg (fun q => hS2 q.1), if_neg (fun q => hS2 q.1), if_neg (fun q => hS2 q.1), if_neg (fun q => hS2 q.1)]; exact ht k hk
  · rw [e]; rfl
  · rw [e]; rfl
  · rw [e]; rfl
  · unfold hRd
    exact (((((fgR1 (by omega)).tr (FG.pI (by omega))).tr (FG.pI (by omega))).tr (FG.pI (by omega))).tr (FG.pI (by omega))).tr (FG.pI (by omega))
theorem hRd_z {h : hp} (z : ZH h) (w : WF h) (S : Nat) (off n : Int32) : ZH (hRd h S off n) := by
  have hn := w.2.2
  have zn : ∀ g : hp, ZH g → hN g = hN h → ∀ j x, ZH (pI g 165 j x) := fun g zg ng j x => zg.pI j x (by omega)
  unfold hRd
  exact zn _ (zn _ (zn _ (zn _ (zn _ (z.pR 11 S (by omega)) rfl _ _) rfl _ _) rfl _ _) rfl _ _) rfl _ _
theorem ref_tmpl {h : hp} {L : List Int32} {k : Nat} (w : WF h) (z : ZH h) (hk : k < 6) (e10 : hI h 165 10 = iN L.length) (hlen : L.length ≤ 160) (ht : ∀ i, i < L.length → hI h 172 i = L.getD i 0) (hb : ∀ i, i < L.length → 1 ≤ (L.getD i 0).toInt ∧ (L.getD i 0).toInt ≤ 127) :
    (∃ b t h2, pTop L = .inl ((b, t), L.length) ∧ fX14_template 165 (iN k) h = some (iN ((if b = none then 0 else 1) + nodesT 5 t), h2) ∧ FG (fun x j => (x = 165 ∧ 10 ≤ j ∧ j ≤ 16) ∨ x = 173 ∨ x = 174) h h2 ∧ hN h2 = hN h ∧ hL h2 = hL h ∧ ZH h2 ∧ WF h2 ∧ hI h2 165 10 = 0 ∧ (∀ x, hI h2 173 x = if 160 * k ≤ x ∧ x < 160 * k + L.length then L.getD (x - 160 * k) 0 else hI h 173 x) ∧ ∀ x, hI h2 174 x = if x = k then iN L.length else hI h 174 x) ∨
    (∃ f h2, pTop L = .inr f ∧ fX14_template 165 (iN k) h = some (-100 - iN f, h2) ∧ FG (fun x j => x = 165 ∧ 10 ≤ j ∧ j ≤ 16) h h2 ∧ hN h2 = hN h ∧ hL h2 = hL h ∧ ZH h2 ∧ WF h2 ∧ hI h2 165 10 = 0) := by
  have hn := w.2.2
  have w2 : WF (pI h 165 10 0) := w
  have z2 : ZH (pI h 165 10 0) := z.pI 10 0 (by omega)
  obtain ⟨x1, x2, x3, x4, x5⟩ := hRd_f (S := 172) (off := 0) (L := L) w2 ⟨160, T172 w2, by omega, by decide⟩ (by decide) hlen (fun i hi => by rw [hI_pI, if_neg (by omega), Nat.zero_add]; exact ht i hi) hb
  have z3 := hRd_z z2 w2 172 (iN 0) (iN L.length)
  have gE : ∀ x j, (x ≠ 165 ∨ j < 10 ∨ 16 < j) → hI (hRd (pI h 165 10 0) 172 (iN 0) (iN L.length)) x j = hI h x j := fun x j q => by
    unfold hRd
    rw [hI_pI, if_neg (by omega), hI_pI, if_neg (by omega), hI_pI, if_neg (by omega), hI_pI, if_neg (by omega), hI_pI, if_neg (by omega), hI_pR, hI_pI, if_neg (by omega)]
  have g10 : hI (hRd (pI h 165 10 0) 172 (iN 0) (iN L.length)) 165 10 = 0 := by
    unfold hRd
    rw [hI_pI, if_neg (by omega), hI_pI, if_neg (by omega), hI_pI, if_neg (by omega), hI_pI, if_neg (by omega), hI_pI, if_neg (by omega), hI_pR, hI_pI, if_pos ⟨rfl, rfl⟩]
  have F0 : FG (fun x j => x = 165 ∧ 10 ≤ j ∧ j ≤ 16) h (hRd (pI h 165 10 0) 172 (iN 0) (iN L.length)) := (FG.pI (P := fun x j => x = 165 ∧ 10 ≤ j ∧ j ≤ 16) (by omega)).tr (x3.up fun x j q => by omega)
  have st : fX14_template 165 (iN k) h = bd2 (fX14_isAllRead 165 (hRd (pI h 165 10 0) 172 (iN 0) (iN L.length))) fun v14 h15 => if v14 = 0 then ((gfI h15 165 13 15).bind fun v25 => some (((-100) - v25), h15)) else ((fX14_template_l51 FU 165 (iN k) (iN L.length) 0 h15).bind fun h18 => (gfR h18 165 13 9).bind fun v19 => (asI h18 v19 (iN k) (iN L.length)).bind fun h21 => (gfI h21 165 13 16).bind fun v23 => some (v23, h21)) := by
    have e2 : fX14_isIn (iN k).toInt64 0 5 h = _ := isIn_c (iN k) 0 5 (by decide) (by decide) 0 5 (by decide) (by decide) h
    rw [if_pos (by rw [i_toInt (by omega)]; omega)] at e2
    have rd : fX14_reads 165 172 0 (iN L.length) (pI h 165 10 0) = some (hRd (pI h 165 10 0) 172 (iN 0) (iN L.length)) := reads_e w2 172 0 (iN L.length)
    unfold fX14_template
    rw [e2, bd2_s, if_neg z10, gM w, Option.bind_some, e10, pM w, Option.bind_some, MR7 w2, Option.bind_some, ckM w2, Option.bind_some, rd, Option.bind_some, ckM x1.1, Option.bind_some]
  rcases allRead_m x1 x2 with ⟨tt, p', h15, a1, a2, a3, a4, a5, a6⟩ | ⟨f, h15, a1, a2, a3, a4, a5⟩
  · have pe := (top_i (b := tt.1) (t := tt.2) a1).1
    have X15 := x1.fs a3
    have n15 : hN h15 = hN h := by rw [a3.1, x4]; rfl
    have l15 : hL h15 = hL h := by rw [a3.2.1, x5]; rfl
    have ht15 : ∀ i, i < L.length → hI h15 172 i = L.getD i 0 := fun i hi => by
      have := X15.2.2.2.2.2.2.1 i hi
      rw [Nat.zero_add] at this
      exact this
    obtain ⟨h18, c1, c2, c3⟩ := cp_l X15.1 hk hlen L.length 0 FU h15 (by omega) (by show _ < 1000000; omega) X15.1 rfl
    have w18 := X15.1.fs c2
    have z15 := FS.zh a3 z3 (fun x j q => by unfold PM at q; rw [x4, hN_pI]; omega)
    have z18 := FS.zh c2 z15 (fun x j q => by omega)
    have e16 : hI (pI h18 174 k (iN L.length)) 165 16 = iN ((if tt.1 = none then 0 else 1) + nodesT 5 tt.2) := by
      rw [hI_pI, if_neg (by omega), (c2.2.2.2.2 165 16 (by omega)).1]; exact a4.2.2
    have fr : ∀ x j, x ≠ 165 → x ≠ 173 → x ≠ 174 → hI (pI h18 174 k (iN L.length)) x j = hI h x j := fun x j q1 q2 q3 => by
      rw [hI_pI, if_neg (by omega), (c2.2.2.2.2 x j q2).1, (a3.2.2.2.2 x j (fun q => q1 q.1)).1, gE x j (.inl q1)]
    refine .inl ⟨tt.1, tt.2, pI h18 174 k (iN L.length), by rw [a1, pe], ?_, ?_, by rw [hN_pI, c2.1]; exact n15, by rw [hL_pI, c2.2.1]; exact l15, z18.pI k _ (by rw [c2.1]; omega), w18, ?_, fun x => ?_, fun x => ?_⟩
    · rw [st, a2, bd2_s, if_neg z10, show (0 : Int32) = iN 0 from rfl, c1, Option.bind_some, MR9 w18, Option.bind_some, MS174 w18 hk, Option.bind_some, gM (h := pI h18 174 k (iN L.length)) w18, Option.bind_some, e16]
    · exact (((F0.up fun x j q => .inl q).tr (a3.fg.up fun x j q => .inl ⟨q.1, by unfold PM at q; omega, by unfold PM at q; omega⟩)).tr (c2.fg.up fun x j q => .inr (.inl q))).tr (FG.pI (.inr (.inr rfl)))
    · rw [hI_pI, if_neg (by omega), (c2.2.2.2.2 165 10 (by omega)).1, (a3.2.2.2.2 165 10 (fun q => by unfold PM at q; omega)).1]; exact g10
    · rw [hI_pI, if_neg (by omega), c3 x, Nat.add_zero]
      by_cases q : 160 * k ≤ x ∧ x < 160 * k + L.length
      · rw [if_pos q, if_pos q]; exact ht15 _ (by omega)
      · rw [if_neg q, if_neg q, (a3.2.2.2.2 173 x (fun q => by unfold PM at q; omega)).1, gE 173 x (.inl (by decide))]
    · rw [hI_pI]
      by_cases q : x = k
      · rw [if_pos ⟨rfl, q⟩, if_pos q]
      · rw [if_neg (fun y => q y.2), if_neg q, (c2.2.2.2.2 174 x (by omega)).1, (a3.2.2.2.2 174 x (fun q => by unfold PM at q; omega)).1, gE 174 x (.inl (by decide))]
  · have X15 := x1.fs a3
    have n15 : hN h15 = hN h := by rw [a3.1, x4]; rfl
    refine .inr ⟨f, h15, a1, ?_, F0.tr (a3.fg.up fun x j q => ⟨q.1, by unfold PM at q; omega, by unfold PM at q; omega⟩), n15, by rw [a3.2.1, x5]; rfl, FS.zh a3 z3 (fun x j q => by unfold PM at q; rw [x4, hN_pI]; omega), X15.1, ?_⟩
    · rw [st, a2, bd2_s, if_pos rfl, gM X15.1, Option.bind_some, a4]
    · rw [(a3.2.2.2.2 165 10 (fun q => by unfold PM at q; omega)).1]; exact g10
def kTm (v : Int32) (v4 : Nat) (h10 : hp) : Option (Int32 × hp) :=
  (ckT h10 v4 6).bind fun _ =>
  bd2 (fX7_readTemplate v4 h10) fun v13 h14 =>
  (gfR h14 64 12 3).bind fun v16 =>
  (ckT h14 v16 4).bind fun _ =>
  (fX5_empty v16 h14).bind fun h19 =>
  if v13 = 0 then ((gfI h19 v4 6 4).bind fun v29 => some (((-100) - v29), h19)) else
  (gfR h19 64 12 0).bind fun v21 =>
  (gfR h19 v21 8 1).bind fun v23 =>
  (asR 5 h19 v23 v v13).bind fun h25 =>
  (gfI h25 v13 9 4).bind fun v27 => some (v27, h25)
theorem cls_tmpl {h : hp} {L : List Int32} {k : Nat} (w : WF h) (z : ZH h) (N : NL h 128 129 160 L) (hb : ∀ i, i < L.length → 1 ≤ (L.getD i 0).toInt ∧ (L.getD i 0).toInt ≤ 127) (hk : k < 6) :
    (∃ b t h1, pTop L = .inl ((b, t), L.length) ∧ fX13_template 64 (iN k) h = some (iN ((if b = none then 0 else 1) + nodesT 5 t), h1) ∧ FG (fun x j => (x = 128 ∧ j = 1) ∨ (x = 67 ∧ j = k)) h h1 ∧ ZH h1 ∧ hN h1 ≤ hN h + 1000 ∧ hL h1 ≤ hL h + 9900 ∧ WF h1 ∧ hI h1 128 1 = 0 ∧ hR h1 67 k = 64 + (hN h + 1) ∧ TO h1 (64 + hN h) (64 + hN h1) (64 + (hN h + 1)) L b t) ∨
    (∃ f h1, pTop L = .inr f ∧ fX13_template 64 (iN k) h = some (-100 - iN f, h1) ∧ FG (fun x j => x = 128 ∧ j = 1) h h1 ∧ ZH h1 ∧ hN h1 ≤ hN h + 1000 ∧ hL h1 ≤ hL h + 9900 ∧ WF h1 ∧ hI h1 128 1 = 0) := by
  have hn := w.2.2
  obtain ⟨hnew, R, r⟩ := rd_new w z N hb (kTm (iN k))
  obtain ⟨f0, z0, n0, l0⟩ := nRd_f z (iN L.length)
  have tpI : ∀ j, hI (nRd h (iN L.length)) (64 + (hN h + 1)) j = if j = 0 then iN L.length else if j = 3 then -1 else 0 := fun j => by
    rw [nRd_I]
    by_cases c0 : j = 0
    · rw [if_pos ⟨rfl, c0⟩, if_pos c0]
    · rw [if_neg (fun q => c0 q.2), if_neg c0]
      by_cases c3 : j = 3
      · rw [if_pos ⟨rfl, c3⟩, if_pos c3]
      · rw [if_neg (fun q => c3 q.2), if_neg c3, if_neg (by omega), if_neg (by omega)]
        exact (z _ _ (by omega)).1
  have bxR : ∀ j, hR (nRd h (iN L.length)) (64 + (hN h + 2)) j = 0 := fun j => by
    rw [nRd_R, if_neg (by omega), if_neg (by omega), if_neg (by omega)]
    exact (z _ _ (by omega)).2.2
  have st : fX13_template 64 (iN k) h = kTm (iN k) (64 + hN h) (nRd h (iN L.length)) := by
    have ea : fX13_among (iN k) 6 h = _ := am_e (iN k) 6 (by decide) h
    rw [if_pos (by rw [i_toInt (by omega)]; omega)] at ea
    unfold fX13_template
    rw [ea, bd2_s, if_neg z10]
    exact hnew
  rw [kTm, ckO R, Option.bind_some] at st
  rcases tmpl_o (lo := 64 + hN h) R z0 r (by rw [tpI]; rfl) (by rw [tpI]; rfl) (by rw [tpI]; rfl) (by rw [tpI]; rfl) (by rw [tpI]; rfl) bxR (by omega) with ⟨b, t, h14, u1, u2, u3, u4, u5, u6, u7⟩ | ⟨f, h14, u1, u2, u3, u4, u5, u6, u7, u8⟩
  · have R14 := KQ.rd R u3
    have w14 := R14.1
    have F14 : FG (fun _ _ => False) h h14 := f0.tr' u3 fun x j hx q => by unfold KQ KP at q; omega
    have n14 := u3.1
    have w19 : WF (pI h14 128 1 0) := w14
    have t25 : hT (pI h14 128 1 0) 67 = (100 + 5, 6) := T67 w19
    have tT : hT h14 (64 + (hN h + 1)) = (9, 8) := u7.2.2.2.2.1
    have as1 : asR 5 (pI h14 128 1 0) 67 (iN k) (64 + (hN h + 1)) = some (pR (pI h14 128 1 0) 67 k (64 + (hN h + 1))) := asR_e t25 hk (by decide) (.inr (by rw [hT_pI, tT]; rfl))
    have g9 : gfI (pR (pI h14 128 1 0) 67 k (64 + (hN h + 1))) (64 + (hN h + 1)) 9 4 = some (iN ((if b = none then 0 else 1) + nodesT 5 t)) := by
      unfold gfI
      rw [hT_pR, hT_pI, tT, if_pos rfl, hI_pR, hI_pI, if_neg (by omega), u7.2.2.2.2.2.2.2.2.1]
    rw [u2, bd2_s, gR64 w14, Option.bind_some, R64_3 w14, ckN R14.2.2.2.2.2.2.2.1.1, Option.bind_some, nEmpty R14.2.2.2.2.2.2.2.1.1, Option.bind_some, if_neg (by omega), gR64 w19, Option.bind_some, R64_0 w19, gR65 w19, Option.bind_some, R65_1 w19, as1, Option.bind_some, g9, Option.bind_some] at st
    refine .inl ⟨b, t, _, u1, st, ((F14.up fun _ _ q => q.elim).tr (FG.pI (.inl ⟨rfl, rfl⟩))).tr (fgR1 (.inr ⟨rfl, rfl⟩)), (u4.pI 1 0 (by omega)).pR k _ (by rw [hN_pI]; omega), by rw [hN_pR, hN_pI]; omega, by rw [hL_pR, hL_pI]; omega, WF_pR w19 (fun q hq => by
      have : ∀ q ∈ R0l, q.1 ≠ 67 := by decide +kernel
      exact fun y => this q hq y.1), by rw [hI_pR, hI_pI, if_pos ⟨rfl, rfl⟩], by rw [hR_pR, if_pos ⟨rfl, rfl⟩], u7.fg (P := fun x _ => x < 204) ((FG.pI (by omega)).tr (fgR1 (by omega))) (fun x j x1 x2 q => by omega)⟩
  · have R14 := KQ.rd R u4
    have w14 := R14.1
    have F14 : FG (fun _ _ => False) h h14 := f0.tr' u4 fun x j hx q => by unfold KQ KP at q; omega
    have n14 := u4.1
    have w19 : WF (pI h14 128 1 0) := w14
    have g6 : gfI (pI h14 128 1 0) (64 + hN h) 6 4 = some (iN f) := by
      unfold gfI
      rw [hT_pI, R14.2.1, if_pos rfl, hI_pI, if_neg (by omega), u8]
    rw [u3, bd2_s, gR64 w14, Option.bind_some, R64_3 w14, ckN R14.2.2.2.2.2.2.2.1.1, Option.bind_some, nEmpty R14.2.2.2.2.2.2.2.1.1, Option.bind_some, if_pos rfl, g6, Option.bind_some] at st
    exact .inr ⟨f, _, u1, st, (F14.up fun _ _ q => q.elim).tr (FG.pI ⟨rfl, rfl⟩), u5.pI 1 0 (by omega), by rw [hN_pI]; omega, by rw [hL_pI]; omega, w19, by rw [hI_pI, if_pos ⟨rfl, rfl⟩]⟩
theorem call_template {h : hp} {own : Nat → Nat} (w : WF h) (z : ZH h) (jt : Jt h) (jT : JT h own) (v : Int32) : ∃ a h1 h2, fX13_template 64 v h = some (a, h1) ∧ fX14_template 165 v h1 = some (a, h2) ∧ FG PT h h2 ∧ ZH h2 ∧ hN h2 ≤ hN h + 1000 ∧ hL h2 ≤ hL h + 9900 ∧ WF h2 ∧ Jt h2 ∧ ∃ own', (∀ x, x < 64 + hN h → own' x = own x) ∧ JT h2 own' := by
  rcases kIn v h with ⟨k, hk, rfl, ea, ei⟩ | ⟨ea, ei⟩
  · obtain ⟨L, N, hm, hml, hb⟩ := jt
    have hn := w.2.2
    have hlen := N.2.2.1
    have jt' : ∀ h1 h2, FG (fun x j => (x = 128 ∧ j = 1) ∨ (x = 67 ∧ j = k)) h h1 → hI h1 128 1 = 0 → FG (fun x j => (x = 165 ∧ 10 ≤ j ∧ j ≤ 16) ∨ x = 173 ∨ x = 174) h1 h2 → hI h2 165 10 = 0 → Jt h2 := by
      intro h1 h2 f1 e1 f2 e2
      have n1 := f1.1
      have N1 : NO h1 128 129 160 := ⟨by rw [f1.2.2.1 128 (by omega)]; exact N.1.1, by rw [f1.2.2.1 129 (by omega)]; exact N.1.2.1, by rw [(f1.2.2.2 128 0 (by omega) (fun q => by omega)).2.2]; exact N.1.2.2.1, N.1.2.2.2⟩
      have N2 : NL h1 128 129 160 [] := ⟨N1, by rw [e1]; rfl, Nat.zero_le _, fun j hj => absurd hj (Nat.not_lt_zero _)⟩
      exact ⟨[], N2.fg f2 (by omega) (by omega) (fun j q => by omega) (fun j q => by omega), by rw [e2]; rfl, fun j hj => absurd hj (Nat.not_lt_zero _), fun j hj => absurd hj (Nat.not_lt_zero _)⟩
    rcases cls_tmpl w z N hb hk with ⟨b, t, h1, u1, u2, u3, u4, u5, u6, u7, u8, u9, u10⟩ | ⟨f, h1, u1, u2, u3, u4, u5, u6, u7, u8⟩
    · have m1 : hI h1 165 10 = iN L.length := by rw [(u3.2.2.2 165 10 (by omega) (fun q => by omega)).1]; exact hm
      rcases ref_tmpl u7 u4 hk m1 hlen (fun i hi => by rw [(u3.2.2.2 172 i (by omega) (fun q => by omega)).1]; exact hml i hi) hb with ⟨b', t', h2, v1, v2, v3, v4, v5, v6, v7, v8, v9, v10⟩ | ⟨f, h2, v1, _⟩
      · rw [u1] at v1
        have e1 : (b, t) = (b', t') := congrArg Prod.fst (Sum.inl.inj v1)
        have eb : b = b' := congrArg Prod.fst e1
        have et : t = t' := congrArg Prod.snd e1
        subst eb et
        have Fa : FG PT h h2 := (u3.up fun x j q => by unfold PT Pt; omega).tr (v3.up fun x j q => by unfold PT; omega)
        have n1 := u3.1
        have x67 : ∀ x, hR h2 67 x = if x = k then 64 + (hN h + 1) else hR h 67 x := fun x => by
          rw [(v3.2.2.2 67 x (by omega) (fun q => by omega)).2.2]
          by_cases q : x = k
          · rw [if_pos q, q]; exact u9
          · rw [if_neg q, (u3.2.2.2 67 x (by omega) (fun y => by omega)).2.2]
        refine ⟨_, h1, h2, u2, v2, Fa, v6, by omega, by omega, v7, jt' h1 h2 u3 u8 v3 v8, fun x => if x < 64 + hN h then own x else 1, fun x hx => if_pos hx, fun i hi => ?_⟩
        by_cases ci : i = k
        · subst ci
          refine .inr ⟨L, b, t, 64 + hN h, 64 + hN h1, ?_, ?_, hlen, fun j hj => ?_, hb, u1, ?_, fun x x1 x2 => if_neg (by omega)⟩
          · rw [x67, if_pos rfl]; omega
          · rw [v10, if_pos rfl]
          · show hI h2 173 (160 * i + j) = _
            rw [v9, if_pos (by omega), Nat.add_sub_cancel_left]
          · rw [x67, if_pos rfl]; exact u10.fg v3 (fun x j x1 x2 q => by omega)
        · have h0 := jT i hi
          rw [x67, if_neg ci]
          refine h0.fg Fa (fun x j hx hx2 hq q => ?_) (fun x hx => if_pos hx) ?_ (fun j hj => ?_)
          · unfold PT Pt at q; omega
          · rw [v10, if_neg ci, (u3.2.2.2 174 i (by omega) (fun q => by omega)).1]
          · show hI h2 173 (160 * i + j) = hI h 173 (160 * i + j)
            rw [v9, if_neg (by omega), (u3.2.2.2 173 _ (by omega) (fun q => by omega)).1]
      · rw [u1] at v1; cases v1
    · have u3' : FG (fun x j => (x = 128 ∧ j = 1) ∨ (x = 67 ∧ j = k)) h h1 := u3.up fun x j q => .inl q
      have m1 : hI h1 165 10 = iN L.length := by rw [(u3.2.2.2 165 10 (by omega) (fun q => by omega)).1]; exact hm
      rcases ref_tmpl u7 u4 hk m1 hlen (fun i hi => by rw [(u3.2.2.2 172 i (by omega) (fun q => by omega)).1]; exact hml i hi) hb with ⟨b', t', h2, v1, _⟩ | ⟨f', h2, v1, v2, v3, v4, v5, v6, v7, v8⟩
      · rw [u1] at v1; cases v1
      · rw [u1] at v1
        have ef : f = f' := Sum.inr.inj v1
        subst ef
        have n1 := u3.1
        have Fa : FG PT h h2 := (u3.up fun x j q => by unfold PT Pt; omega).tr (v3.up fun x j q => by unfold PT; omega)
        refine ⟨_, h1, h2, u2, v2, Fa, v6, by omega, by omega, v7, jt' h1 h2 u3' u8 (v3.up fun x j q => .inl q) v8, own, fun x hx => rfl, fun i hi => ?_⟩
        have h0 := jT i hi
        rw [show hR h2 67 i = hR h 67 i by rw [(v3.2.2.2 67 i (by omega) (fun q => by omega)).2.2, (u3.2.2.2 67 i (by omega) (fun q => by omega)).2.2]]
        refine h0.fg Fa (fun x j hx hx2 hq q => ?_) (fun x hx => rfl) ?_ (fun j hj => ?_)
        · unfold PT Pt at q; omega
        · rw [(v3.2.2.2 174 i (by omega) (fun q => by omega)).1, (u3.2.2.2 174 i (by omega) (fun q => by omega)).1]
        · show hI h2 173 (160 * i + j) = hI h 173 (160 * i + j)
          rw [(v3.2.2.2 173 _ (by omega) (fun q => by omega)).1, (u3.2.2.2 173 _ (by omega) (fun q => by omega)).1]
  · refine ⟨-1, h, h, ?_, ?_, FG.rf _ _, z, by omega, by omega, w, jt, own, fun _ _ => rfl, jT⟩
    · unfold fX13_template
      rw [ea, bd2_s, if_pos rfl]
    · unfold fX14_template
      rw [ei, bd2_s, if_pos rfl]
