/-! the reference's recognizer: pieces, whole texts -/
def k60m (g : gG2) (a1 a2 v12 : Int32) (h60j : hp) : Option (Int32 × hp) :=
  if a1 ≤ 3 then (
    (gfI h60j 165 13 14).bind fun v15 =>
    (pfI h60j 165 13 14 (v15 + 1)).bind fun h17 =>
    if v12 = 63 then (
      (ckT h17 165 13).bind fun _ =>
      bd2 (fX14_isConditionRead 165 h17) fun v44 h45 =>
      if v44 = 0 then (
        some (0, h45)
      ) else (
        (ckT h45 165 13).bind fun _ =>
        bd2 (g.1 165 a1 a2 1 h45) fun v48 h49 =>
        if v48 = 0 then (
          some (0, h49)
        ) else (
          some (1, h49)
        )
      )
    ) else (
      if v12 = 61 then (
        (ckT h17 165 13).bind fun _ =>
        bd2 (fX14_isOneOf 165 65 68 h17) fun v36 h37 =>
        if v36 = 0 then (
          some (0, h37)
        ) else (
          (ckT h37 165 13).bind fun _ =>
          bd2 (g.1 165 a1 1 0 h37) fun v40 h41 =>
          if v40 = 0 then (
            some (0, h41)
          ) else (
            some (1, h41)
          )
        )
      ) else (
        (ckT h17 165 13).bind fun _ =>
        bd2 (fX14_isOneOf 165 97 104 h17) fun v20 h21 =>
        if v20 = 0 then (
          some (0, h21)
        ) else (
          (ckT h21 165 13).bind fun _ =>
          bd2 (fX14_isSign 165 32 h21) fun v24 h25 =>
          if v24 = 0 then (
            some (0, h25)
          ) else (
            (ckT h25 165 13).bind fun _ =>
            bd2 (fX14_isExpressionRead 165 h25) fun v28 h29 =>
            if v28 = 0 then (
              some (0, h29)
            ) else (
              (ckT h29 165 13).bind fun _ =>
              bd2 (g.1 165 a1 a2 1 h29) fun v32 h33 =>
              if v32 = 0 then (
                some (0, h33)
              ) else (
                some (1, h33)
              )
            )
          )
        )
      )
    )
  ) else (
    (gfI h60j 165 13 14).bind fun v51 =>
    (ckT h60j 165 13).bind fun _ =>
    bd2 (fX14_fails 165 v51 h60j) fun v54 h55 =>
    (zck v54).bind fun _ =>
    some (v54, h55)
  )
def k262m (h262j : hp) : Option (Int32 × hp) :=
  (gfI h262j 165 13 14).bind fun v58 =>
  (pfI h262j 165 13 14 (v58 + 1)).bind fun h60 =>
  (ckT h60 165 13).bind fun _ =>
  bd2 (fX14_isOneOf 165 48 53 h60) fun v63 h64 =>
  if v63 = 0 then (
    some (0, h64)
  ) else (
    (ckT h64 165 13).bind fun _ =>
    bd2 (fX14_isSign 165 125 h64) fun v67 h68 =>
    if v67 = 0 then (
      some (0, h68)
    ) else (
      some (1, h68)
    )
  )
def k242m (s12_0 v12 : Int32) (h242j : hp) : Option (Int32 × hp) :=
  if v12 = 60 then (
    if s12_0 = 0 then (
      (gfI h242j 165 13 14).bind fun v70 =>
      (ckT h242j 165 13).bind fun _ =>
      bd2 (fX14_fails 165 v70 h242j) fun v73 h74 =>
      (zck v73).bind fun _ =>
      some (v73, h74)
    ) else (
      k262m h242j
    )
  ) else (
    k262m h242j
  )
def kQm (g : gG2) (a1 a2 s12_0 v12 : Int32) (h13 : hp) : Option (Int32 × hp) :=
  if v12 = 63 then (
    k60m g a1 a2 v12 h13
  ) else (
    if v12 = 42 then (
      k60m g a1 a2 v12 h13
    ) else (
      if v12 = 61 then (
        k60m g a1 a2 v12 h13
      ) else (
        if v12 = 94 then (
          if a2 = 0 then (
            (gfI h13 165 13 14).bind fun v114 =>
            (ckT h13 165 13).bind fun _ =>
            bd2 (fX14_fails 165 v114 h13) fun v117 h118 =>
            (zck v117).bind fun _ =>
            some (v117, h118)
          ) else (
            (gfI h13 165 13 14).bind fun v105 =>
            (pfI h13 165 13 14 (v105 + 1)).bind fun h107 =>
            (ckT h107 165 13).bind fun _ =>
            bd2 (fX14_isSign 165 125 h107) fun v110 h111 =>
            (zck v110).bind fun _ =>
            some (v110, h111)
          )
        ) else (
          if v12 = 62 then (
            k242m s12_0 v12 h13
          ) else (
            if v12 = 60 then (
              k242m s12_0 v12 h13
            ) else (
              if v12 = 64 then (
                (gfI h13 165 13 14).bind fun v85 =>
                (pfI h13 165 13 14 (v85 + 1)).bind fun h87 =>
                (ckT h87 165 13).bind fun _ =>
                bd2 (fX14_isOneOf 165 97 104 h87) fun v90 h91 =>
                if v90 = 0 then (
                  some (0, h91)
                ) else (
                  (ckT h91 165 13).bind fun _ =>
                  bd2 (fX14_isSign 165 61 h91) fun v94 h95 =>
                  if v94 = 0 then (
                    some (0, h95)
                  ) else (
                    (ckT h95 165 13).bind fun _ =>
                    bd2 (fX14_isExpressionRead 165 h95) fun v98 h99 =>
                    if v98 = 0 then (
                      some (0, h99)
                    ) else (
                      (ckT h99 165 13).bind fun _ =>
                      bd2 (fX14_isSign 165 125 h99) fun v102 h103 =>
                      if v102 = 0 then (
                        some (0, h103)
                      ) else (
                        some (1, h103)
                      )
                    )
                  )
                )
              ) else (
                (ckT h13 165 13).bind fun _ =>
                bd2 (fX14_isExpressionRead 165 h13) fun v78 h79 =>
                if v78 = 0 then (
                  some (0, h79)
                ) else (
                  (ckT h79 165 13).bind fun _ =>
                  bd2 (fX14_isSign 165 125 h79) fun v82 h83 =>
                  if v82 = 0 then (
                    some (0, h83)
                  ) else (
                    some (1, h83)
                  )
                )
              )
            )
          )
        )
      )
    )
  )
def kPm (g : gG2) (a1 a2 s12_0 : Int32) (h12j : hp) : Option (Int32 × hp) :=
  (gfI h12j 165 13 14).bind fun v3 =>
  (pfI h12j 165 13 14 (v3 + 1)).bind fun h5 =>
  (gfI h5 165 13 16).bind fun v7 =>
  (pfI h5 165 13 16 (v7 + 1)).bind fun h9 =>
  (ckT h9 165 13).bind fun _ =>
  bd2 (fX14_here 165 h9) fun v12 h13 =>
  kQm g a1 a2 s12_0 v12 h13
theorem kPm_e (g : gG2) (a1 a2 : Int32) (h : hp) : fX14_isPieceRead_b g 165 a1 a2 h = (gfI h 165 13 14).bind fun v1 => if v1 = 0 then kPm g a1 a2 1 h else kPm g a1 a2 0 h := rfl
/-- behind the { -/
theorem q_m {h : hp} {S off p c m n : Nat} {L : List Int32} {G G' : gG2} {blk : Bool} {s : Int32} (hG : G.1 = fX14_isBodyRead_b G') (X : MX h S off L) (mp' : MP h (p + 1) (c + 1)) (hlt : p < L.length) (h123 : hereL L p = 123) (hm : m ≤ 4) (hs : hereL L (p + 1) = 60 → s = 0)
    (ih : ∀ m', m = m' + 1 → ∀ (bl : Bool) (g : hp) (p1 c' : Nat), p + 1 < p1 → p1 ≤ L.length → MX g S off L → MP g p1 c' → MB L g p1 (pPcs L n m' bl p1) (fun t => c' + nodesT (m' + 1) t) (G'.2.2 165 (iN (4 - m) + 1) (b2 bl) g)) :
    MB L h (p + 1) (pPiece L (pAll L n) m blk p) (fun pc => c + nodesP m pc) (kQm G (iN (4 - m)) (b2 blk) s (hereL L (p + 1)) h) := by
  have w := X.1
  have hl := X.2.2.2.2.2.2.2.2
  have X1 := X.fs (MS.at (iN (p + 2)))
  have m1 := mp'.at (p + 2)
  have atp : ∀ {α : Type} (K : hp → Option α), ((gfI h 165 13 14).bind fun v => (pfI h 165 13 14 (v + 1)).bind K) = K (pI h 165 14 (iN (p + 2))) := fun K => by
    rw [gM w, Option.bind_some, mp'.1, i_succ, pM w, Option.bind_some]
  have upp : ∀ {α : Type} {res : PR α} {d : α → Nat} {out}, MB L (pI h 165 14 (iN (p + 2))) (p + 2) res d out → MB L h (p + 1) res d out := fun B => B.up (MS.at _) (Nat.le_succ _)
  have bad : ∀ {α : Type} {d : α → Nat}, MB L h (p + 1) (.inr (p + 1) : PR α) d ((gfI h 165 13 14).bind fun v114 => (ckT h 165 13).bind fun _ => bd2 (fX14_fails 165 v114 h) fun v117 h118 => (zck v117).bind fun _ => some (v117, h118)) := fun {α d} => by
    rw [gM w, Option.bind_some, mp'.1, ckM w, Option.bind_some]
    exact MB.no X mp' d (by omega)
  have hd : iN (4 - m) ≤ 3 ↔ 1 ≤ m := by rw [i_le_lit (by decide) (by omega)]; show 4 - m ≤ 3 ↔ _; omega
  have body : ∀ m', m = m' + 1 → ∀ (bl : Bool) (g : hp) (p1 c' : Nat), p + 1 ≤ p1 → p1 ≤ L.length → MX g S off L → MP g p1 c' → MB L g p1 (pBoth L (pAll L n) m bl p1) (fun io => c' + (nodesT m io.1 + nodesT m io.2)) (G.1 165 (iN (4 - m)) (b2 bl) 1 g) ∧ MB L g p1 (bnd (pSign L 125 p1) fun _ p2 => bnd (pAll L n m bl false p2) fun t p3 => .inl (t.1, p3)) (fun t => c' + nodesT m t) (G.1 165 (iN (4 - m)) (b2 bl) 0 g) := by
    intro m' em bl g p1 c' hp1 hp2 Xg mg
    subst em
    rw [hG]
    exact body_m Xg mg hp2 (by omega) fun bl' g' p2 c2 hq1 hq2 Xg' mg' => ih m' rfl bl' g' p2 c2 (by omega) hq2 Xg' mg'
  unfold kQm pPiece
  rw [if_pos h123]
  have nn : ∀ {a b : Int32}, hereL L (p + 1) = a → a ≠ b → ¬ hereL L (p + 1) = b := fun e n z => n (e.symm.trans z)
  by_cases c63 : hereL L (p + 1) = 63
  · obtain ⟨l3, _⟩ := here_lt c63 (by decide)
    simp only [if_pos c63, if_neg (nn c63 (show (63 : Int32) ≠ 42 by decide)), if_neg (nn c63 (show (63 : Int32) ≠ 61 by decide)), if_neg (nn c63 (show (63 : Int32) ≠ 62 by decide)), k60m]
    by_cases cm : 1 ≤ m
    · obtain ⟨m', em⟩ : ∃ m', m = m' + 1 := ⟨m - 1, by omega⟩
      rw [if_pos (hd.mpr cm), if_pos cm, atp, ckM X1.1, Option.bind_some]
      refine upp (MB.bd X1 (cond_m X1 m1 l3) fun cd p2 h2 X2 m2 hp1 hp2 => ?_)
      rw [ckM X2.1, Option.bind_some]
      refine MB.bd X2 (body m' em blk h2 p2 _ (by omega) hp2 X2 m2).1 fun io p3 h3 X3 m3 hp3 hp4 => MB.yes m3 hp4 _ ?_
      show c + (1 + nodesT m io.1 + nodesT m io.2) = _; omega
    · rw [if_neg (fun q => cm (hd.mp q)), if_neg cm]; exact bad
  by_cases c42 : hereL L (p + 1) = 42
  · obtain ⟨l3, _⟩ := here_lt c42 (by decide)
    simp only [if_neg c63, if_pos c42, if_neg (nn c42 (show (42 : Int32) ≠ 61 by decide)), k60m]
    by_cases cm : 1 ≤ m
    · obtain ⟨m', em⟩ : ∃ m', m = m' + 1 := ⟨m - 1, by omega⟩
      rw [if_pos (hd.mpr cm), if_pos cm, atp, ckM X1.1, Option.bind_some]
      refine upp (MB.bd X1 (one_m (lo := 97) (n := 8) X1 m1 l3 (by decide) (by decide)) fun v p2 h2 X2 m2 hp1 hp2 => ?_)
      rw [ckM X2.1, Option.bind_some]
      refine MB.bd X2 (sign_m X2 m2 hp2 (by decide)) fun _ p3 h3 X3 m3 hp3 hp4 => ?_
      rw [ckM X3.1, Option.bind_some]
      refine MB.bd X3 (expr_m X3 m3 hp4) fun e p4 h4 X4 m4 hp5 hp6 => ?_
      rw [ckM X4.1, Option.bind_some]
      refine MB.bd X4 (body m' em blk h4 p4 _ (by omega) hp6 X4 m4).1 fun io p5 h5 X5 m5 hp7 hp8 => MB.yes m5 hp8 _ ?_
      show c + (1 + nodesT m io.1 + nodesT m io.2) = _; omega
    · rw [if_neg (fun q => cm (hd.mp q)), if_neg cm]; exact bad
  by_cases c61 : hereL L (p + 1) = 61
  · obtain ⟨l3, _⟩ := here_lt c61 (by decide)
    simp only [if_neg c63, if_neg c42, if_pos c61, k60m]
    by_cases cm : 1 ≤ m
    · obtain ⟨m', em⟩ : ∃ m', m = m' + 1 := ⟨m - 1, by omega⟩
      rw [if_pos (hd.mpr cm), if_pos cm, atp, ckM X1.1, Option.bind_some]
      refine upp (MB.bd X1 (one_m (lo := 65) (n := 4) X1 m1 l3 (by decide) (by decide)) fun v p2 h2 X2 m2 hp1 hp2 => ?_)
      rw [ckM X2.1, Option.bind_some]
      have e : (bnd (pSign L 125 p2) fun _ p2 => bnd (pAll L n m true false p2) fun t p3 => .inl ((4, lnAt L p, iN v, 0, eN, eN, t.1, tyN m), p3) : PR (PD (TY m))) = bnd (bnd (pSign L 125 p2) fun _ p2 => bnd (pAll L n m true false p2) fun t p3 => .inl (t.1, p3)) fun t p3 => .inl ((4, lnAt L p, iN v, 0, eN, eN, t, tyN m), p3) := by simp only [bnd_bnd, bnd_l]
      rw [e]
      refine MB.bd X2 (body m' em true h2 p2 _ (by omega) hp2 X2 m2).2 fun t p3 h3 X3 m3 hp3 hp4 => MB.yes m3 hp4 _ ?_
      show c + (1 + nodesT m t + nodesT m (tyN m)) = _; rw [nodes_nil]; omega
    · rw [if_neg (fun q => cm (hd.mp q)), if_neg cm]; exact bad
  by_cases c94 : hereL L (p + 1) = 94
  · obtain ⟨l3, _⟩ := here_lt c94 (by decide)
    simp only [if_neg c63, if_neg c42, if_neg c61, if_pos c94, if_neg (nn c94 (show (94 : Int32) ≠ 62 by decide)), if_neg (nn c94 (show (94 : Int32) ≠ 64 by decide))]
    cases blk with
    | false =>
      rw [if_pos (show b2 false = 0 from rfl), if_neg (show ¬ (false = true) by decide)]; exact bad
    | true =>
      rw [if_neg (show ¬ b2 true = 0 from z10), if_pos rfl, atp, ckM X1.1, Option.bind_some]
      refine upp ?_
      have e : (bnd (pSign L 125 (p + 2)) fun _ p1 => .inl ((5, lnAt L p, 0, 0, eN, eN, tyN m, tyN m), p1) : PR (PD (TY m))) = mp (pSign L 125 (p + 2)) fun _ => (5, lnAt L p, 0, 0, eN, eN, tyN m, tyN m) := rfl
      rw [e]
      refine MB.zc (MB.mp (MB.dn (sign_m X1 m1 l3 (by decide)) fun _ => ?_))
      show c + 1 = c + (1 + nodesT m (tyN m) + nodesT m (tyN m)); rw [nodes_nil]
  by_cases c62 : hereL L (p + 1) = 62
  · obtain ⟨l3, _⟩ := here_lt c62 (by decide)
    simp only [if_neg c63, if_neg c42, if_neg c61, if_neg c94, if_pos c62, k242m, if_neg (nn c62 (show (62 : Int32) ≠ 60 by decide)), k262m]
    rw [atp, ckM X1.1, Option.bind_some]
    refine upp (MB.bd X1 (one_m (lo := 48) (n := 6) X1 m1 l3 (by decide) (by decide)) fun v p2 h2 X2 m2 hp1 hp2 => ?_)
    rw [ckM X2.1, Option.bind_some]
    refine MB.bd X2 (sign_m X2 m2 hp2 (by decide)) fun _ p3 h3 X3 m3 hp3 hp4 => MB.yes m3 hp4 _ ?_
    show c + (1 + nodesT m (tyN m) + nodesT m (tyN m)) = _; rw [nodes_nil]
  by_cases c60 : hereL L (p + 1) = 60
  · have b : pExpr L (p + 1) = .inr (p + 1) := expr_bad c60 (by decide) (by decide) (by decide) (by decide) (by decide)
    simp only [if_neg c63, if_neg c42, if_neg c61, if_neg c94, if_neg c62, if_pos c60, if_neg (nn c60 (show (60 : Int32) ≠ 64 by decide)), k242m, if_pos (hs c60)]
    rw [b, bnd_r]
    exact bad
  by_cases c64 : hereL L (p + 1) = 64
  · obtain ⟨l3, _⟩ := here_lt c64 (by decide)
    simp only [if_neg c63, if_neg c42, if_neg c61, if_neg c94, if_neg c62, if_neg c60, if_pos c64]
    rw [atp, ckM X1.1, Option.bind_some]
    refine upp (MB.bd X1 (one_m (lo := 97) (n := 8) X1 m1 l3 (by decide) (by decide)) fun v p2 h2 X2 m2 hp1 hp2 => ?_)
    rw [ckM X2.1, Option.bind_some]
    refine MB.bd X2 (sign_m X2 m2 hp2 (by decide)) fun _ p3 h3 X3 m3 hp3 hp4 => ?_
    rw [ckM X3.1, Option.bind_some]
    refine MB.bd X3 (expr_m X3 m3 hp4) fun e p4 h4 X4 m4 hp5 hp6 => ?_
    rw [ckM X4.1, Option.bind_some]
    refine MB.bd X4 (sign_m X4 m4 hp6 (by decide)) fun _ p5 h5 X5 m5 hp7 hp8 => MB.yes m5 hp8 _ ?_
    show c + (1 + nodesT m (tyN m) + nodesT m (tyN m)) = _; rw [nodes_nil]
  · simp only [if_neg c63, if_neg c42, if_neg c61, if_neg c94, if_neg c62, if_neg c60, if_neg c64]
    rw [ckM w, Option.bind_some]
    refine MB.bd X (expr_m X mp' hlt) fun e p2 h2 X2 m2 hp1 hp2 => ?_
    rw [ckM X2.1, Option.bind_some]
    refine MB.bd X2 (sign_m X2 m2 hp2 (by decide)) fun _ p3 h3 X3 m3 hp3 hp4 => MB.yes m3 hp4 _ ?_
    show c + (1 + nodesT m (tyN m) + nodesT m (tyN m)) = _; rw [nodes_nil]
theorem MP.no {h : hp} {p c : Nat} (m : MP h p c) (q : Nat) : MP (pI h 165 16 (iN q)) p q := ⟨by rw [hI_pI, if_neg (by omega)]; exact m.1, by rw [hI_pI, if_neg (by omega)]; exact m.2.1, by rw [hI_pI, if_pos ⟨rfl, rfl⟩]⟩
theorem p_m {h : hp} {S off p c m n : Nat} {L : List Int32} {G G' : gG2} {blk : Bool} {s : Int32} (hG : G.1 = fX14_isBodyRead_b G') (X : MX h S off L) (mp' : MP h p c) (hlt : p < L.length) (h123 : hereL L p = 123) (hm : m ≤ 4) (hs : hereL L (p + 1) = 60 → s = 0)
    (ih : ∀ m', m = m' + 1 → ∀ (bl : Bool) (g : hp) (p1 c' : Nat), p + 1 < p1 → p1 ≤ L.length → MX g S off L → MP g p1 c' → MB L g p1 (pPcs L n m' bl p1) (fun t => c' + nodesT (m' + 1) t) (G'.2.2 165 (iN (4 - m) + 1) (b2 bl) g)) :
    MB L h (p + 1) (pPiece L (pAll L n) m blk p) (fun pc => c + nodesP m pc) (kPm G (iN (4 - m)) (b2 blk) s h) := by
  have hl := X.2.2.2.2.2.2.2.2
  have X1 := X.fs (MS.at (iN (p + 1)))
  have m1 := mp'.at (p + 1)
  have X2 := X1.fs (MS.no (iN (c + 1)))
  have m2 := m1.no (c + 1)
  unfold kPm
  rw [gM X.1, Option.bind_some, mp'.1, i_succ, pM X.1, Option.bind_some, gM X1.1, Option.bind_some, m1.2.2, i_succ, pM X1.1, Option.bind_some, ckM X2.1, Option.bind_some, here_m X2 m2 (by omega), bd2_s]
  exact (q_m hG X2 m2 hlt h123 hm hs ih).up ((MS.at _).tr (MS.no _)) (Nat.le_refl _)
theorem piece_m {h : hp} {S off p c m n : Nat} {L : List Int32} {G G' : gG2} {blk : Bool} (hG : G.1 = fX14_isBodyRead_b G') (X : MX h S off L) (mp' : MP h p c) (hlt : p < L.length) (h123 : hereL L p = 123) (hm : m ≤ 4) (hs : hereL L (p + 1) = 60 → p ≠ 0)
    (ih : ∀ m', m = m' + 1 → ∀ (bl : Bool) (g : hp) (p1 c' : Nat), p + 1 < p1 → p1 ≤ L.length → MX g S off L → MP g p1 c' → MB L g p1 (pPcs L n m' bl p1) (fun t => c' + nodesT (m' + 1) t) (G'.2.2 165 (iN (4 - m) + 1) (b2 bl) g)) :
    MB L h (p + 1) (pPiece L (pAll L n) m blk p) (fun pc => c + nodesP m pc) (fX14_isPieceRead_b G 165 (iN (4 - m)) (b2 blk) h) := by
  have hl := X.2.2.2.2.2.2.2.2
  rw [kPm_e, gM X.1, Option.bind_some, mp'.1]
  by_cases c0 : p = 0
  · rw [if_pos (by rw [c0]; rfl)]
    exact p_m hG X mp' hlt h123 hm (fun q => absurd c0 (hs q)) ih
  · rw [if_neg (by rw [i_eq_lit (by decide) (by omega)]; exact c0)]
    exact p_m hG X mp' hlt h123 hm (fun _ => rfl) ih
def wT (G : gG2) (N : Nat) (a1 a2 : Int32) (h : hp) : Option (Int32 × hp) :=
  bd2 (fX14_isTemplateRead_l0 G N 165 a1 a2 h) fun t3 h2 =>
  if t3 = 0 then (
    (gfI h2 165 13 14).bind fun v4 =>
    (ckT h2 165 13).bind fun _ =>
    bd2 (fX14_fails 165 v4 h2) fun v7 h8 =>
    (zck v7).bind fun _ =>
    some (v7, h8)
  ) else
  if t3 = 1 then (
    some (1, h2)
  ) else
  if t3 = 2 then (
    some (0, h2)
  ) else
  if t3 = 3 then (
    some (1, h2)
  ) else none
theorem wT_e (G : gG2) (a1 a2 : Int32) (h : hp) : fX14_isTemplateRead_b G 165 a1 a2 h = wT G FU a1 a2 h := rfl
/-- one round of the loop -/
theorem wT_st {h : hp} {S off p c : Nat} {L : List Int32} (X : MX h S off L) (mp' : MP h p c) (hp' : p ≤ L.length) (G : gG2) (N : Nat) (a1 a2 : Int32) : wT G (N + 1) a1 a2 h = if p < L.length then (if hereL L p = 125 then (bd2 (fX14_fails 165 (iN p) h) fun v7 h8 => (zck v7).bind fun _ => some (v7, h8)) else if hereL L p = 123 then (if hereL L (p + 1) = 47 ∨ hereL L (p + 1) = 58 then some (1, h) else bd2 (G.2.1 165 a1 a2 h) fun v10 h11 => if v10 = 0 then some (0, h11) else wT G N a1 a2 h11) else wT G N a1 a2 (pI h 165 14 (iN (p + 1)))) else some (1, h) := by
  have w := X.1
  have hl := X.2.2.2.2.2.2.2.2
  unfold wT
  rw [fX14_isTemplateRead_l0, gM w, Option.bind_some, gM w, Option.bind_some, mp'.1, X.2.2.2.1]
  by_cases c1 : p < L.length
  · rw [if_neg (by rw [i_le (by omega) (by omega)]; omega), if_pos c1, ckM w, Option.bind_some, here_m X mp' (by omega), bd2_s]
    simp only [jn_e]
    by_cases c2 : hereL L p = 125
    · rw [if_pos c2, if_pos c2]
      show ((gfI h 165 13 14).bind fun v4 => (ckT h 165 13).bind fun _ => bd2 (fX14_fails 165 v4 h) fun v7 h8 => (zck v7).bind fun _ => some (v7, h8)) = _
      rw [gM w, Option.bind_some, mp'.1, ckM w, Option.bind_some]
    rw [if_neg c2, if_neg c2]
    have pc : (bd2 (bd2 (G.2.1 165 a1 a2 h) fun v10 h11 => if v10 = 0 then some (2, h11) else fX14_isTemplateRead_l0 G N 165 a1 a2 h11) fun (t3 : Nat) h2 => if t3 = 0 then ((gfI h2 165 13 14).bind fun v4 => (ckT h2 165 13).bind fun _ => bd2 (fX14_fails 165 v4 h2) fun v7 h8 => (zck v7).bind fun _ => some (v7, h8)) else if t3 = 1 then some (1, h2) else if t3 = 2 then some (0, h2) else if t3 = 3 then some (1, h2) else none) = bd2 (G.2.1 165 a1 a2 h) fun v10 h11 => if v10 = 0 then some (0, h11) else bd2 (fX14_isTemplateRead_l0 G N 165 a1 a2 h11) fun (t3 : Nat) h2 => if t3 = 0 then ((gfI h2 165 13 14).bind fun v4 => (ckT h2 165 13).bind fun _ => bd2 (fX14_fails 165 v4 h2) fun v7 h8 => (zck v7).bind fun _ => some (v7, h8)) else if t3 = 1 then some (1, h2) else if t3 = 2 then some (0, h2) else if t3 = 3 then some (1, h2) else none := by
      cases G.2.1 165 a1 a2 h with
      | none => rfl
      | some x =>
        obtain ⟨v, h1⟩ := x
        rw [bd2_s, bd2_s]
        by_cases q : v = 0
        · rw [if_pos q, if_pos q]; rfl
        · rw [if_neg q, if_neg q]
    by_cases c3 : hereL L p = 123
    · rw [if_pos c3, if_pos c3, ckM w, Option.bind_some, ahead_m X mp' (by omega), bd2_s]
      by_cases c4 : hereL L (p + 1) = 47
      · rw [if_pos c4, if_pos (.inl c4)]; rfl
      rw [if_neg c4, ckM w, Option.bind_some, ahead_m X mp' (by omega), bd2_s]
      by_cases c5 : hereL L (p + 1) = 58
      · rw [if_pos c5, if_pos (.inr c5)]; rfl
      · rw [if_neg c5, if_neg (show ¬ (hereL L (p + 1) = 47 ∨ hereL L (p + 1) = 58) from fun q => q.elim c4 c5), if_pos c3, ckM w, Option.bind_some]
        exact pc
    · rw [if_neg c3, if_neg c3, if_neg c3, gM w, Option.bind_some, mp'.1, i_succ, pM w, Option.bind_some]
  · rw [if_pos (by rw [i_le (by omega) (by omega)]; omega), if_neg c1]; rfl
theorem tmpl_m {S off : Nat} {L : List Int32} : ∀ (n m k : Nat) (blk : Bool) (h : hp) (p c N : Nat), m ≤ 4 → 3 * m + 2 ≤ k → MX h S off L → MP h p c → p ≤ L.length → L.length - p < n → L.length - p < N → (hereL L 0 = 123 → hereL L 1 = 60 → p ≠ 0) → MB L h p (pPcs L n m blk p) (fun t => c + nodesT (m + 1) t) (wT (G2 (k + 1)) N (iN (4 - m)) (b2 blk) h) := by
  intro n
  induction n with
  | zero => intro m k blk h p c N _ _ _ _ _ q; omega
  | succ n ih =>
    intro m k blk h p c N hm hk X mp' hp' hn hN1 h0
    have w := X.1
    have hl := X.2.2.2.2.2.2.2.2
    obtain ⟨N, rfl⟩ : ∃ q, N = q + 1 := ⟨N - 1, by omega⟩
    rw [wT_st X mp' hp']
    unfold pPcs
    by_cases c1 : p < L.length
    · rw [if_pos c1, if_neg (by omega)]
      by_cases c2 : hereL L p = 125
      · rw [if_pos c2, if_neg (fun q => by rw [c2] at q; exact absurd q.1 (by decide)), show pPiece L (pAll L n) m blk p = .inr p by unfold pPiece; rw [if_neg (by rw [c2]; decide), if_pos c2], bnd_r]
        exact MB.no X mp' _ (by omega)
      rw [if_neg c2]
      by_cases c3 : hereL L p = 123
      · rw [if_pos c3]
        by_cases c4 : hereL L (p + 1) = 47 ∨ hereL L (p + 1) = 58
        · rw [if_pos c4, if_pos ⟨c3, c4⟩]
          exact MB.yes mp' hp' _ rfl
        · rw [if_neg c4, if_neg (fun q => c4 q.2)]
          obtain ⟨k, rfl⟩ : ∃ q, k = q + 2 := ⟨k - 2, by omega⟩
          have P := piece_m (n := n) (blk := blk) (G := G2 (k + 2)) (G' := G2 (k + 1)) rfl X mp' c1 c3 hm (fun q z => h0 (by rw [← z]; exact c3) (by rw [z] at q; exact q) z) (fun m' em bl g p1 c' hp1 hp2 Xg mg => by
            subst em
            obtain ⟨k', rfl⟩ : ∃ q, k = q + 1 := ⟨k - 1, by omega⟩
            have key := ih m' k' bl g p1 c' FU (by omega) (by omega) Xg mg hp2 (by omega) (by show _ < 1000000; omega) (fun _ _ => by omega)
            rw [show iN (4 - (m' + 1)) + 1 = iN (4 - m') by rw [i_succ]; congr 1; omega]
            exact key)
          rw [show (G2 (k + 2 + 1)).2.1 = fX14_isPieceRead_b (G2 (k + 2)) from rfl]
          refine MB.up (h1 := h) (p1 := p + 1) ?_ (FS.rf _ _) (Nat.le_succ p)
          refine MB.bd X P fun pc q h1 X1 m1 hq1 hq2 => ?_
          have key := ih m (k + 2) blk h1 q _ N hm hk X1 m1 hq2 (by omega) (by omega) (fun _ _ => by omega)
          refine (show MB L h1 q (mp (pPcs L n m blk q) fun r => tCons pc r) _ _ from ?_)
          exact MB.mp (MB.dn key fun r => by rw [nodes_k]; omega)
      · rw [if_neg c3, if_neg (fun q => c3 q.1), show pPiece L (pAll L n) m blk p = .inl ((0, lnAt L p, hereL L p, 0, eN, eN, tyN m, tyN m), p + 1) by unfold pPiece; rw [if_neg c3, if_neg c2], bnd_l]
        refine MB.up (h1 := pI h 165 14 (iN (p + 1))) (p1 := p + 1) ?_ (MS.at _) (Nat.le_succ p)
        have key := ih m k blk _ (p + 1) c N hm hk (X.fs (MS.at (iN (p + 1)))) (mp'.at (p + 1)) c1 (by omega) (by omega) (fun _ _ => by omega)
        refine (show MB L _ (p + 1) (mp (pPcs L n m blk (p + 1)) fun r => tCons (0, lnAt L p, hereL L p, 0, eN, eN, tyN m, tyN m) r) _ _ from ?_)
        exact MB.mp (MB.dn key fun r => by rw [nodes_k]; show _ = c + (0 + nodesT (m + 1) r); omega)
    · rw [if_neg c1, if_pos (by omega)]
      exact MB.yes mp' hp' _ rfl
/-- a whole text -/
theorem allRead_m {h : hp} {S off : Nat} {L : List Int32} (X : MX h S off L) (mp' : MP h 0 0) : MB L h 0 (pTop L) (fun t => (if t.1 = none then 0 else 1) + nodesT 5 t.2) (fX14_isAllRead 165 h) := by
  have w := X.1
  have hl := X.2.2.2.2.2.2.2.2
  -- behind the pieces
  have tl : ∀ (h1 : hp) (q c : Nat) (ps : TY 5) (b : Option Nat), MX h1 S off L → MP h1 q c → q ≤ L.length → eP L q → c = (if b = none then 0 else 1) + nodesT 5 ps → MB L h1 q (bnd (pEnd L 4 false ps q) fun r q => .inl ((b, r.1), q)) (fun t => (if t.1 = none then 0 else 1) + nodesT 5 t.2) ((gfI h1 165 13 14).bind fun v5 => (gfI h1 165 13 13).bind fun v7 => if v5 = v7 then some (1, h1) else ((gfI h1 165 13 14).bind fun v9 => (ckT h1 165 13).bind fun _ => bd2 (fX14_fails 165 (v9 + 1) h1) fun v12 h13 => if v12 = 0 then some (0, h13) else some (1, h13))) := by
    intro h1 q c ps b X1 m1 hq E hc
    rw [gM X1.1, Option.bind_some, gM X1.1, Option.bind_some, m1.1, X1.2.2.2.1]
    unfold pEnd
    by_cases d : q < L.length
    · have d1 : ¬ iN q = iN L.length := by rw [i_eq (by omega) (by omega)]; omega
      have d2 : ¬ L.length ≤ q := by omega
      have d3 : ¬ (hereL L (q + 1) = 47 ∧ (4 : Nat) ≠ 4) := fun z => z.2 rfl
      have d4 : ¬ (hereL L (q + 1) = 58 ∧ false = true) := fun z => by cases z.2
      rw [if_neg d1, if_neg d2, if_neg d3, if_neg d4, bnd_r, Option.bind_some, ckM X1.1, Option.bind_some, i_succ, fails_m X1.1 m1, bd2_s, if_pos rfl]
      exact .inr ⟨q + 1, _, rfl, rfl, MS.fa _, by rw [hI_pI, if_pos ⟨rfl, rfl⟩], by omega⟩
    · have f1 : iN q = iN L.length := by rw [show q = L.length by omega]
      have f2 : L.length ≤ q := by omega
      rw [if_pos f1, if_pos f2, if_pos (rfl : (4 : Nat) = 4), bnd_l]
      exact MB.yes m1 hq _ hc.symm
  unfold fX14_isAllRead
  rw [ckM w, Option.bind_some, show fX14_isTemplateRead 165 0 0 h = wT (G2 119) FU (iN (4 - 4)) (b2 false) h from rfl]
  by_cases c : hereL L 0 = 123 ∧ hereL L 1 = 60
  · obtain ⟨l1, _⟩ := here_lt c.1 (by decide)
    obtain ⟨l2, _⟩ := here_lt c.2 (by decide)
    rw [pTop, if_pos c, show FU = 999999 + 1 from rfl, wT_st X mp' (Nat.zero_le _), if_pos l1, if_neg (by rw [c.1]; decide), if_pos c.1, if_neg (by rw [c.2]; decide), show (G2 119).2.1 = fX14_isPieceRead_b (G2 118) from rfl, kPm_e, gM w, Option.bind_some, mp'.1, if_pos (show iN 0 = 0 from rfl)]
    -- the head
    have X1 := X.fs (MS.at (iN 1))
    have m1 := mp'.at 1
    have X2 := X1.fs (MS.no (iN 1))
    have m2 := m1.no 1
    have X3 := X2.fs (MS.at (iN 2))
    have m3 := m2.at 2
    have st : kPm (G2 118) (iN (4 - 4)) (b2 false) 1 h = (bd2 (fX14_isOneOf 165 48 53 (pI (pI (pI h 165 14 (iN 1)) 165 16 (iN 1)) 165 14 (iN 2))) fun v63 h64 => if v63 = 0 then some (0, h64) else ((ckT h64 165 13).bind fun _ => bd2 (fX14_isSign 165 125 h64) fun v67 h68 => if v67 = 0 then some (0, h68) else some (1, h68))) := by
      unfold kPm kQm
      rw [gM w, Option.bind_some, mp'.1, show iN 0 + 1 = iN 1 from rfl, pM w, Option.bind_some, gM X1.1, Option.bind_some, m1.2.2, show iN 0 + 1 = iN 1 from rfl, pM X1.1, Option.bind_some, ckM X2.1, Option.bind_some, here_m X2 m2 (by omega), bd2_s, c.2, if_neg (by decide), if_neg (by decide), if_neg (by decide), if_neg (by decide), if_neg (by decide), if_pos rfl, k242m, if_pos rfl, if_neg z10, k262m, gM X2.1, Option.bind_some, m2.1, show iN 1 + 1 = iN 2 from rfl, pM X2.1, Option.bind_some, ckM X3.1, Option.bind_some]
    have head : MB L h 0 (bnd (pOne L 48 6 2) fun k p1 => bnd (pSign L 125 p1) fun _ p2 => .inl (k, p2)) (fun _ => 1) (kPm (G2 118) (iN (4 - 4)) (b2 false) 1 h) := by
      rw [st]
      refine MB.up (h1 := pI (pI (pI h 165 14 (iN 1)) 165 16 (iN 1)) 165 14 (iN 2)) (p1 := 2) ?_ (((MS.at _).tr (MS.no _)).tr (MS.at _)) (by omega)
      refine MB.bd X3 (one_m (lo := 48) (n := 6) X3 m3 l2 (by decide) (by decide)) fun v p2 h2 X2 m2 hp1 hp2 => ?_
      rw [ckM X2.1, Option.bind_some]
      exact MB.bd X2 (sign_m X2 m2 hp2 (by decide)) fun _ p3 h3 X3 m3 hp3 hp4 => MB.yes m3 hp4 _ rfl
    have e : (bnd (pOne L 48 6 2) fun k p1 => bnd (pSign L 125 p1) fun _ p2 => bnd (pAll L 161 5 false false p2) fun r q => .inl ((some k, r.1), q) : PR (Option Nat × TY 5)) = bnd (bnd (pOne L 48 6 2) fun k p1 => bnd (pSign L 125 p1) fun _ p2 => .inl (k, p2)) fun k p2 => bnd (pAll L 161 5 false false p2) fun r q => .inl ((some k, r.1), q) := by simp only [bnd_bnd, bnd_l]
    rw [e]
    rcases head with ⟨k, p1, h1, a1, a2, a3, a4, a5, a6⟩ | ⟨f, h1, a1, a2, a3, a4, a5⟩
    · have Xh := X.fs a3
      have pp : 0 < p1 := by
        have hz : p1 ≠ 0 := fun z => by
          cases hq : pOne L 48 6 2 with
          | inr f => rw [hq] at a1; cases a1
          | inl x =>
            have e1 : x.2 = 3 := by
              unfold pOne at hq
              by_cases q : ((48 : Nat) : Int) ≤ (hereL L 2).toInt ∧ (hereL L 2).toInt < (48 + 6 : Nat)
              · rw [if_pos q] at hq; exact (congrArg Prod.snd (Sum.inl.inj hq)).symm
              · rw [if_neg q] at hq; cases hq
            rw [hq, show (Sum.inl x : PR Nat) = .inl (x.1, x.2) from rfl, bnd_l, e1] at a1
            unfold pSign at a1
            by_cases q : hereL L 3 = 125
            · rw [if_pos q, bnd_l] at a1
              have : (4 : Nat) = p1 := congrArg Prod.snd (Sum.inl.inj a1)
              omega
            · rw [if_neg q] at a1; cases a1
        omega
      rw [a1, bnd_l, a2, bd2_s, if_neg z10, all_pcs, bnd_bnd]
      refine MB.up (h1 := h1) (p1 := p1) ?_ a3 (Nat.zero_le _)
      refine MB.b2 Xh (tmpl_m 161 4 118 false h1 p1 1 999999 (by decide) (by decide) Xh a4 a6 (by omega) (by omega) (fun _ _ => by omega)) fun ps q h2 s2 X2 m2 hp1 hp2 => ?_
      exact tl h2 q _ ps (some k) X2 m2 hp2 (pcs_end L _ _ _ _ _ _ s2) (by rw [if_neg (by simp)])
    · rw [a1, bnd_r, a2, bd2_s, if_pos rfl, bd2_s, if_pos rfl]
      exact .inr ⟨f, h1, rfl, rfl, a3, a4, a5⟩
  · rw [pTop, if_neg c, all_pcs, bnd_bnd]
    refine MB.b2 X (tmpl_m 161 4 118 false h 0 0 FU (by decide) (by decide) X mp' (Nat.zero_le _) (by omega) (by show _ < 1000000; omega) (fun a b => absurd ⟨a, b⟩ c)) fun ps q h2 s2 X2 m2 hp1 hp2 => ?_
    exact tl h2 q _ ps none X2 m2 hp2 (pcs_end L _ _ _ _ _ _ s2) (by rw [if_pos rfl])
