/-! the reference's walk: conditions -/
def PC2 (x k : Nat) : Prop := PE 8 x k ∨ PE 9 x k ∨ (x = 165 ∧ k = 18)
theorem pc2_tx {x k : Nat} (q : PC2 x k) : x ≠ 173 ∧ x ≠ 174 := by unfold PC2 PE sP at q; omega
theorem b2z (b : Bool) : (b2 b = 0) ↔ b = false := by cases b <;> decide
theorem pM18 {h : hp} (w : WF h) (b : Bool) : pfZ h 165 13 18 (b2 b) = some (pI h 165 18 (b2 b)) := by
  unfold pfZ
  rw [T165 w, if_pos ⟨rfl, by cases b with
    | true => exact .inr rfl
    | false => exact .inl rfl⟩]
theorem rcond_e {h : hp} {k p q ts : Nat} {L : List Int32} {vs : Nat → vT} {trn : Option Nat} {e1 e2 : EX} (T : TX h k L) (R : RVs h vs trn) (hc : pCond L p = .inl ((ts, e1, e2), q)) (hq : q < L.length) (h125 : L.getD q 0 = 125) (a : hI h 165 17 = iN p) : ∃ h' c, fX14_condition 165 (iN k) h = some (iN c, h') ∧ FM PC2 h h' ∧ (match cvE vs trn ts e1 e2 with | .inl b => c = 0 ∧ hI h' 165 18 = b2 b | .inr s => c = s ∧ c ≠ 0) := by
  have w := T.1
  obtain ⟨n1, n2, n3, cs⟩ := cond_i hc
  have hpl : p < L.length := by omega
  have nfq : ¬ isF (L.getD q 0) = true := by rw [h125]; decide
  have nbq : L.getD q 0 ≠ 124 := by rw [h125]; decide
  have hhere : hereL L p = L.getD p 0 := hereL_in hpl
  -- the first expression, from a place to a place
  have first : ∀ (sg : Bool) (p0 p1 : Nat), p0 = (if sg then p + 1 else p) → pExpr L p0 = .inl (e1, p1) → p1 < L.length → ¬ isF (L.getD p1 0) = true → L.getD p1 0 ≠ 124 → ∃ h1, fX14_worksOut 165 (iN k) 8 (pI h 165 17 (iN p0)) = some (iN (evE vs trn e1).1, h1) ∧ FM (PE 8) h h1 ∧ ((evE vs trn e1).1 = 0 → hI h1 165 17 = iN p1 ∧ MV h1 8 (evE vs trn e1).2 ∧ gV (evE vs trn e1).2) := by
    intro sg p0 p1 ep ee hp1 nf nb
    have f0 : FM (PE 8) h (pI h 165 17 (iN p0)) := (FS.pI (.inr ⟨rfl, .inr rfl⟩)).fm
    obtain ⟨h1, x1, x2, x3⟩ := rwo_e (s := 8) (T.fm f0 fun x k q => pe_tx q) (R.fm (by decide) f0 fun _ _ q => q) (.inl rfl) ee hp1 nf nb (by rw [hI_pI, if_pos ⟨rfl, rfl⟩])
    exact ⟨h1, x1, f0.tr x2, x3⟩
  have up8 : ∀ {g g' : hp}, FM (PE 8) g g' → FM PC2 g g' := fun f => f.up fun _ _ q => .inl q
  have up9 : ∀ {g g' : hp}, FM (PE 9) g g' → FM PC2 g g' := fun f => f.up fun _ _ q => .inr (.inl q)
  have p18 : ∀ (g : hp) (b : Bool), FM PC2 g (pI g 165 18 (b2 b)) := fun g b => (FS.pI (.inr (.inr ⟨rfl, rfl⟩))).fm
  have st : ∀ (sg : Bool), (sg = true ↔ L.getD p 0 = 33) → fX14_condition 165 (iN k) h = bd2 (fX14_worksOut 165 (iN k) 8 (pI h 165 17 (iN (if sg then p + 1 else p)))) fun v12 h13 => if v12 = 0 then (gfI h13 165 13 17).bind fun v15 => (ckT h13 165 13).bind fun _ => bd2 (fX14_byteAt 165 (iN k) v15 h13) fun v18 h19 => (ckT h19 165 13).bind fun _ => bd2 (fX14_isTrue 165 8 h19) fun v22 h23 => jn (fun (s79_0 : Int32) (h79j : hp) => ((pfZ h79j 165 13 18 s79_0).bind fun h25 => jn (fun (h98j : hp) => ((gfI h98j 165 13 17).bind fun v27 => (pfI h98j 165 13 17 (v27 + 1)).bind fun h29 => (ckT h29 165 13).bind fun _ => bd2 (fX14_worksOut 165 (iN k) 9 h29) fun v32 h33 => if v32 = 0 then (ckT h33 165 13).bind fun _ => bd2 (fX14_areComparable 165 8 9 h33) fun v36 h37 => if v36 = 0 then some (2, h37) else (ckT h37 165 13).bind fun _ => bd2 (fX14_compared 165 8 9 h37) fun v40 h41 => jn (fun (s176_0 : Int32) (h176j : hp) => ((pfZ h176j 165 13 18 s176_0).bind fun h43 => some (0, h43) : Option (Int32 × hp))) fun k176 => if v18 = 60 then (if 0 ≤ v40 then k176 0 h41 else k176 1 h41) else (if v40 = 0 then k176 1 h41 else k176 0 h41) else some (v32, h33) : Option (Int32 × hp))) fun k98 => if v18 = 60 then k98 h25 else if v18 = 61 then k98 h25 else some (0, h25) : Option (Int32 × hp))) fun k79 => if v22 = b2 sg then k79 0 h23 else k79 1 h23 else some (v12, h13) := by
    intro sg hs
    have wp : WF (pI h 165 17 (iN (if sg then p + 1 else p))) := w
    unfold fX14_condition
    rw [gM w, Option.bind_some, ckM w, Option.bind_some, a, byte_e T hpl, bd2_s, jn_e]
    cases sg with
    | true =>
      rw [if_pos (hs.mp rfl)]
      dsimp only
      rw [gM w, Option.bind_some, a, jn_e, if_neg (by decide)]
      dsimp only
      rw [i_succ, pM w, Option.bind_some, ckM (h := pI h 165 17 (iN (p + 1))) w, Option.bind_some]
      rfl
    | false =>
      rw [if_neg (fun q => by have := hs.mpr q; cases this)]
      dsimp only
      rw [gM w, Option.bind_some, a, jn_e, if_pos rfl]
      dsimp only
      rw [show iN p + 0 = iN (p + 0) from i_add p 0, Nat.add_zero, pM w, Option.bind_some, ckM (h := pI h 165 17 (iN p)) w, Option.bind_some]
      rfl
  -- true or not, by one expression
  have single : ∀ (sg : Bool) (s' : Nat), (sg = true ↔ L.getD p 0 = 33) → pExpr L (if sg then p + 1 else p) = .inl (e1, q) → ts = s' → s' = (if sg then 1 else 0) → ∃ h' c, fX14_condition 165 (iN k) h = some (iN c, h') ∧ FM PC2 h h' ∧ (match cvE vs trn ts e1 e2 with | .inl b => c = 0 ∧ hI h' 165 18 = b2 b | .inr s => c = s ∧ c ≠ 0) := by
    intro sg s' hs ee et es
    obtain ⟨h1, x1, x2, x3⟩ := first sg _ q rfl ee hq nfq nbq
    have T1 := T.fm x2 fun x k q => pe_tx q
    have w1 := T1.1
    rw [st sg hs, x1, bd2_s]
    by_cases z : (evE vs trn e1).1 = 0
    · obtain ⟨a1, v1, g1⟩ := x3 z
      rw [if_pos (show iN (evE vs trn e1).1 = 0 by rw [z]; rfl), gM w1, Option.bind_some, ckM w1, Option.bind_some, a1, byte_e T1 hq, bd2_s, ckM w1, Option.bind_some, show fX14_isTrue 165 8 h1 = _ from mTrue w1 (t := 8) (by decide) v1, bd2_s, jn_e, h125]
      have fin : ∀ b : Bool, ((pfZ h1 165 13 18 (b2 b)).bind fun h25 => jn (fun (h98j : hp) => ((gfI h98j 165 13 17).bind fun v27 => (pfI h98j 165 13 17 (v27 + 1)).bind fun h29 => (ckT h29 165 13).bind fun _ => bd2 (fX14_worksOut 165 (iN k) 9 h29) fun v32 h33 => if v32 = 0 then (ckT h33 165 13).bind fun _ => bd2 (fX14_areComparable 165 8 9 h33) fun v36 h37 => if v36 = 0 then some (2, h37) else (ckT h37 165 13).bind fun _ => bd2 (fX14_compared 165 8 9 h37) fun v40 h41 => jn (fun (s176_0 : Int32) (h176j : hp) => ((pfZ h176j 165 13 18 s176_0).bind fun h43 => some ((0 : Int32), h43) : Option (Int32 × hp))) fun k176 => if (125 : Int32) = 60 then (if 0 ≤ v40 then k176 0 h41 else k176 1 h41) else (if v40 = 0 then k176 1 h41 else k176 0 h41) else some (v32, h33) : Option (Int32 × hp))) fun k98 => if (125 : Int32) = 60 then k98 h25 else if (125 : Int32) = 61 then k98 h25 else some (0, h25)) = some (0, pI h1 165 18 (b2 b)) := by
        intro b
        rw [pM18 w1, Option.bind_some, jn_e, if_neg (by decide), if_neg (by decide)]
      have ec : cvE vs trn ts e1 e2 = .inl (if sg then decide (trS (evE vs trn e1).2 = 0) else decide (trS (evE vs trn e1).2 ≠ 0)) := by
        unfold cvE
        rw [if_neg (fun q => q z)]
        cases sg with
        | true => rw [if_neg (show ¬ ts = 0 by rw [et, es]; decide), if_pos (show ts = 1 by rw [et, es]; rfl)]; rfl
        | false => rw [if_pos (show ts = 0 by rw [et, es]; rfl)]; rfl
      rw [ec]
      have r18 : ∀ b, hI (pI h1 165 18 (b2 b)) 165 18 = b2 b := fun b => by rw [hI_pI, if_pos ⟨rfl, rfl⟩]
      by_cases y : trS (evE vs trn e1).2 = b2 sg
      · rw [if_pos y]
        refine ⟨_, 0, fin false, (up8 x2).tr (p18 h1 false), rfl, ?_⟩
        rw [r18]
        cases sg with
        | true => show b2 false = b2 (decide (trS (evE vs trn e1).2 = 0)); rw [y]; rfl
        | false => show b2 false = b2 (decide (trS (evE vs trn e1).2 ≠ 0)); rw [y]; rfl
      · rw [if_neg y]
        refine ⟨_, 0, fin true, (up8 x2).tr (p18 h1 true), rfl, ?_⟩
        rw [r18]
        rcases trS_01 (evE vs trn e1).2 with q | q
        · cases sg with
          | true => show b2 true = b2 (decide (trS (evE vs trn e1).2 = 0)); rw [q]; rfl
          | false => exact absurd q y
        · cases sg with
          | true => exact absurd q y
          | false => show b2 true = b2 (decide (trS (evE vs trn e1).2 ≠ 0)); rw [q]; rfl
    · have ec : cvE vs trn ts e1 e2 = .inr (evE vs trn e1).1 := by unfold cvE; rw [if_pos z]
      have le : (evE vs trn e1).1 ≤ 9 := by
        unfold evE
        split
        · exact Nat.le_refl _
        · have := apF_le e1.2.2.2 (bsE vs trn e1); omega
      rw [if_neg (show ¬ iN (evE vs trn e1).1 = 0 from fun q => z ((i_eq (b := 0) (by omega) (by decide)).mp q)), ec]
      exact ⟨h1, _, rfl, up8 x2, rfl, z⟩
  rcases cs with ⟨s1, c33, ee, _⟩ | ⟨s0, c33, ee, _, c60, c61⟩ | ⟨p1, c33, ee, s23, ee2⟩
  · exact single true 1 ⟨fun _ => by rw [← hhere]; exact c33, fun _ => rfl⟩ ee s1 rfl
  · exact single false 0 ⟨(fun q => by cases q), fun q => absurd (by rw [hhere]; exact q) c33⟩ ee s0 rfl
  · -- two expressions
    have hs : ((false : Bool) = true ↔ L.getD p 0 = 33) := ⟨(fun q => by cases q), fun q => absurd (by rw [hhere]; exact q) c33⟩
    have hp1 : p1 < L.length := by have := (expr_i ee2).2.2.1; have := (expr_i ee2).2.1; omega
    have c6 : L.getD p1 0 = 60 ∨ L.getD p1 0 = 61 := by
      rw [← hereL_in hp1]
      rcases s23 with ⟨_, c⟩ | ⟨_, c⟩
      · exact .inl c
      · exact .inr c
    have nf1 : ¬ isF (L.getD p1 0) = true := by rcases c6 with c | c <;> (rw [c]; decide)
    have nb1 : L.getD p1 0 ≠ 124 := by rcases c6 with c | c <;> (rw [c]; decide)
    obtain ⟨h1, x1, x2, x3⟩ := first false p p1 rfl ee hp1 nf1 nb1
    have T1 := T.fm x2 fun x k q => pe_tx q
    have R1 := R.fm (s := 8) (by decide) x2 fun _ _ q => q
    have w1 := T1.1
    have t2 : ts ≠ 0 ∧ ts ≠ 1 := by omega
    rw [st false hs, show (if (false : Bool) = true then p + 1 else p) = p from rfl, x1, bd2_s]
    unfold cvE
    by_cases z : (evE vs trn e1).1 = 0
    · obtain ⟨a1, v1, g1⟩ := x3 z
      rw [if_pos (show iN (evE vs trn e1).1 = 0 by rw [z]; rfl), gM w1, Option.bind_some, ckM w1, Option.bind_some, a1, byte_e T1 hp1, bd2_s, ckM w1, Option.bind_some, show fX14_isTrue 165 8 h1 = _ from mTrue w1 (t := 8) (by decide) v1, bd2_s, jn_e]
      rw [if_neg (show ¬ (evE vs trn e1).1 ≠ 0 from fun q => q z), if_neg t2.1, if_neg t2.2]
      -- the second
      have tail : ∀ b : Bool, ∃ h' c, ((pfZ h1 165 13 18 (b2 b)).bind fun h25 => jn (fun (h98j : hp) => ((gfI h98j 165 13 17).bind fun v27 => (pfI h98j 165 13 17 (v27 + 1)).bind fun h29 => (ckT h29 165 13).bind fun _ => bd2 (fX14_worksOut 165 (iN k) 9 h29) fun v32 h33 => if v32 = 0 then (ckT h33 165 13).bind fun _ => bd2 (fX14_areComparable 165 8 9 h33) fun v36 h37 => if v36 = 0 then some (2, h37) else (ckT h37 165 13).bind fun _ => bd2 (fX14_compared 165 8 9 h37) fun v40 h41 => jn (fun (s176_0 : Int32) (h176j : hp) => ((pfZ h176j 165 13 18 s176_0).bind fun h43 => some ((0 : Int32), h43) : Option (Int32 × hp))) fun k176 => if L.getD p1 0 = 60 then (if 0 ≤ v40 then k176 0 h41 else k176 1 h41) else (if v40 = 0 then k176 1 h41 else k176 0 h41) else some (v32, h33) : Option (Int32 × hp))) fun k98 => if L.getD p1 0 = 60 then k98 h25 else if L.getD p1 0 = 61 then k98 h25 else some (0, h25)) = some (iN c, h') ∧ FM PC2 h h' ∧ (match (if (evE vs trn e2).1 ≠ 0 then (.inr (evE vs trn e2).1 : Sum Bool Nat) else match cmS (evE vs trn e1).2 (evE vs trn e2).2 with | none => .inr 2 | some x => if ts = 2 then .inl (decide (x < 0)) else .inl (decide (x = 0))) with | .inl b => c = 0 ∧ hI h' 165 18 = b2 b | .inr s => c = s ∧ c ≠ 0) := by
        intro b
        have f2 : FM PC2 h1 (pI (pI h1 165 18 (b2 b)) 165 17 (iN (p1 + 1))) := (p18 h1 b).tr (up9 (FS.pI (.inr ⟨rfl, .inr rfl⟩)).fm)
        have f2' : FM (fun x k => x = 165 ∧ (k = 17 ∨ k = 18)) h1 (pI (pI h1 165 18 (b2 b)) 165 17 (iN (p1 + 1))) := ((FS.pI ⟨rfl, .inr rfl⟩).tr (FS.pI ⟨rfl, .inl rfl⟩)).fm
        have T2 := T1.fm f2 fun x k q => pc2_tx q
        have w2 := T2.1
        have R2 : RVs (pI (pI h1 165 18 (b2 b)) 165 17 (iN (p1 + 1))) vs trn := by
          have n37 : hI (pI (pI h1 165 18 (b2 b)) 165 17 (iN (p1 + 1))) 165 37 = hI h1 165 37 := f2'.i (by omega)
          refine ⟨fun v hv => ⟨(R1.1 v hv).1.fm f2' fun x k q z => by unfold sP at q; omega, (R1.1 v hv).2⟩, fun e => by rw [n37]; exact R1.2.1 e, fun i e => ?_⟩
          obtain ⟨y1, l, y2, y3, y4⟩ := R1.2.2 i e
          exact ⟨y1, l, by rw [n37]; exact y2, y3, by rw [f2'.i (by omega)]; exact y4⟩
        obtain ⟨h3, z1, z2, z3⟩ := rwo_e (s := 9) T2 R2 (.inr rfl) ee2 hq nfq nbq (by rw [hI_pI, if_pos ⟨rfl, rfl⟩])
        have T3 := T2.fm z2 fun x k q => pe_tx q
        have w3 := T3.1
        have V8 : MV h3 8 (evE vs trn e1).2 := (v1.fm f2' (fun x k q z => by unfold sP at q; omega)).fm z2 (fun x k q z => by unfold sP at q; unfold PE sP at z; omega)
        have F3 : FM PC2 h h3 := ((up8 x2).tr f2).tr (up9 z2)
        have wb : WF (pI h1 165 18 (b2 b)) := w1
        have ab : hI (pI h1 165 18 (b2 b)) 165 17 = iN p1 := by rw [hI_pI, if_neg (by omega)]; exact a1
        have both : ∀ A : Option (Int32 × hp), (if L.getD p1 0 = 60 then A else if L.getD p1 0 = 61 then A else some (0, pI h1 165 18 (b2 b))) = A := fun A => by
          rcases c6 with c | c
          · rw [if_pos c]
          · rw [if_neg (by rw [c]; decide), if_pos c]
        rw [pM18 w1, Option.bind_some, jn_e, both]
        dsimp only
        rw [gM wb, Option.bind_some, ab, i_succ, pM wb, Option.bind_some, ckM w2, Option.bind_some, show fX14_worksOut 165 (iN k) 9 _ = _ from z1, bd2_s]
        by_cases y : (evE vs trn e2).1 = 0
        · obtain ⟨a3, v3, g3⟩ := z3 y
          obtain ⟨cm1, cm2⟩ := mCmp w3 (t := 8) (t' := 9) (by decide) (by decide) V8 v3
          rw [if_pos (show iN (evE vs trn e2).1 = 0 by rw [y]; rfl), ckM w3, Option.bind_some, show fX14_areComparable 165 8 9 h3 = _ from cm1, bd2_s, if_neg (show ¬ (evE vs trn e2).1 ≠ 0 from fun q => q y)]
          cases hcm : cmS (evE vs trn e1).2 (evE vs trn e2).2 with
          | none =>
            dsimp only
            rw [if_pos rfl]
            exact ⟨h3, 2, rfl, F3, rfl, by decide⟩
          | some x =>
            dsimp only
            rw [if_neg (by decide), ckM w3, Option.bind_some, show fX14_compared 165 8 9 h3 = _ from cm2 x hcm, bd2_s, jn_e]
            have r18 : ∀ b, hI (pI h3 165 18 (b2 b)) 165 18 = b2 b := fun b => by rw [hI_pI, if_pos ⟨rfl, rfl⟩]
            have fin : ∀ b, (pfZ h3 165 13 18 (b2 b)).bind (fun h43 => some ((0 : Int32), h43)) = some (iN 0, pI h3 165 18 (b2 b)) := fun b => by rw [pM18 w3, Option.bind_some]; rfl
            rcases s23 with ⟨e2', c⟩ | ⟨e2', c⟩
            · rw [hereL_in hp1] at c
              rw [if_pos c, if_pos e2']
              by_cases y3 : x < 0
              · rw [if_neg (show ¬ 0 ≤ x from fun q => i_nlt.mpr q y3)]
                exact ⟨_, 0, fin true, F3.tr (p18 h3 true), rfl, by rw [r18, decide_eq_true y3]⟩
              · rw [if_pos (show 0 ≤ x from i_nlt.mp y3)]
                exact ⟨_, 0, fin false, F3.tr (p18 h3 false), rfl, by rw [r18, decide_eq_false y3]⟩
            · rw [hereL_in hp1] at c
              rw [if_neg (show ¬ L.getD p1 0 = 60 by rw [c]; decide), if_neg (show ¬ ts = 2 by omega)]
              by_cases y3 : x = 0
              · rw [if_pos y3]
                exact ⟨_, 0, fin true, F3.tr (p18 h3 true), rfl, by rw [r18, decide_eq_true y3]⟩
              · rw [if_neg y3]
                exact ⟨_, 0, fin false, F3.tr (p18 h3 false), rfl, by rw [r18, decide_eq_false y3]⟩
        · have le : (evE vs trn e2).1 ≤ 9 := by
            unfold evE
            split
            · exact Nat.le_refl _
            · have := apF_le e2.2.2.2 (bsE vs trn e2); omega
          rw [if_neg (show ¬ iN (evE vs trn e2).1 = 0 from fun q => y ((i_eq (b := 0) (by omega) (by decide)).mp q)), if_pos y]
          exact ⟨h3, _, rfl, F3, rfl, y⟩
      by_cases y : trS (evE vs trn e1).2 = b2 false
      · rw [if_pos y]; exact tail false
      · rw [if_neg y]; exact tail true
    · have le : (evE vs trn e1).1 ≤ 9 := by
        unfold evE
        split
        · exact Nat.le_refl _
        · have := apF_le e1.2.2.2 (bsE vs trn e1); omega
      rw [if_neg (show ¬ iN (evE vs trn e1).1 = 0 from fun q => z ((i_eq (b := 0) (by omega) (by decide)).mp q)), if_pos z]
      exact ⟨h1, _, rfl, up8 x2, rfl, z⟩
