def fX14_signsBehind_l6 : Nat → Nat → Int32 → Int32 → Int32 → Int32 → Int32 → hp → Option (Int32 × hp)
  | 0, _, _, _, _, _, _, _ => none
  | n + 1, x0, x1, x2, x3, x4, x5, h =>
    (gfR h x0 13 9).bind fun v1 =>
    (alI h v1 x1).bind fun v3 =>
    if v3 ≤ (x5 + 2) then (
      some (x4, h)
    ) else (
      (gfR h x0 13 8).bind fun v5 =>
      (alI h v5 ((160 * x1) + x5)).bind fun v7 =>
      if v7 = 123 then (
        (gfR h x0 13 8).bind fun v9 =>
        (alI h v9 (((160 * x1) + x5) + 1)).bind fun v11 =>
        if v11 = x2 then (
          (gfR h x0 13 8).bind fun v13 =>
          (alI h v13 (((160 * x1) + x5) + 2)).bind fun v15 =>
          fX14_signsBehind_l6 n x0 x1 x2 x3 (x4 ||| ((1 : Int32) <<< ((v15 - x3) &&& 31))) (x5 + 1) h
        ) else (
          fX14_signsBehind_l6 n x0 x1 x2 x3 x4 (x5 + 1) h
        )
      ) else (
        fX14_signsBehind_l6 n x0 x1 x2 x3 x4 (x5 + 1) h
      )
    )
def fX14_signsBehind (a0 : Nat) (a1 : Int32) (a2 : Int32) (a3 : Int32) (h : hp) : Option (Int32 × hp) :=
  bd2 (fX14_signsBehind_l6 FU a0 a1 a2 a3 0 0 h) fun v3 h2 =>
  some (v3, h2)
set_option maxHeartbeats 4000000 in
set_option maxRecDepth 100000 in
theorem sX14_signsBehind_l6 (E : gE) (D : Nat) (hD : 0 ≤ D) {rz : Option Value} {h0 hz : hp} : ∀ (n : Nat) (x0 : Nat) (x1 : Int32) (x2 : Int32) (x3 : Int32) (x4 : Int32) (x5 : Int32) (h : hp) (m4 : Int32) (hq : hp), fX14_signsBehind_l6 n x0 x1 x2 x3 x4 x5 h = some (m4, hq) → (AW E yX14_signsBehind cX14_signsBehind (Option.some Jvm.ClassFile.FieldType.int) 6 D rz h0 hz 86 [(4, .int m4)] [] hq) → AW E yX14_signsBehind cX14_signsBehind (Option.some Jvm.ClassFile.FieldType.int) 6 D rz h0 hz 6 [(0, .ref x0), (1, .int x1), (2, .int x2), (3, .int x3), (4, .int x4), (5, .int x5)] [] h := by
  intro n
  induction n with
  | zero =>
    intro x0 x1 x2 x3 x4 x5 h m4 hq hf _
    rw [fX14_signsBehind_l6] at hf
    cases hf
  | succ n ih =>
    intro x0 x1 x2 x3 x4 x5 h m4 hq hf hk0
    rw [fX14_signsBehind_l6] at hf
    refine a_iload (q := 5) dX14_signsBehind_6 rfl ?_
    refine a_iconst (v := 2) dX14_signsBehind_8 (by decide) ?_
    refine a_iadd dX14_signsBehind_9 ?_
    refine a_aload_n (q := 0) dX14_signsBehind_10 rfl rfl ?_
    obtain ⟨v1, e2, hf⟩ := obd hf
    refine o_gfR dX14_signsBehind_11 lk_X14_37 rfl e2 ?_
    refine a_iload_n (q := 1) dX14_signsBehind_14 rfl rfl ?_
    obtain ⟨v3, e4, hf⟩ := obd hf
    refine o_alI dX14_signsBehind_15 e4 ?_
    refine a_icmp_ge (tgt := 86) dX14_signsBehind_16 (by decide) (fun c => ?_) (fun c => ?_)
    · have hf := ifp c hf
      obtain ⟨rfl, rfl⟩ := oc2 hf
      exact AW.sub [4] rfl (hk0)
    · have hf := ifn c hf
      refine a_aload_n (q := 0) dX14_signsBehind_19 rfl rfl ?_
      obtain ⟨v5, e6, hf⟩ := obd hf
      refine o_gfR dX14_signsBehind_20 lk_X14_34 rfl e6 ?_
      refine a_sipush (v := 160) dX14_signsBehind_23 (by decide) ?_
      refine a_iload_n (q := 1) dX14_signsBehind_26 rfl rfl ?_
      refine a_imul dX14_signsBehind_27 ?_
      refine a_iload (q := 5) dX14_signsBehind_28 rfl ?_
      refine a_iadd dX14_signsBehind_30 ?_
      obtain ⟨v7, e8, hf⟩ := obd hf
      refine o_alI dX14_signsBehind_31 e8 ?_
      refine a_bipush (v := 123) dX14_signsBehind_32 (by decide) ?_
      refine a_icmp_ne (tgt := 80) dX14_signsBehind_34 (by decide) (fun c => ?_) (fun c => ?_)
      · have hf := ifn c hf
        refine a_iinc (q := 5) (v := (x5 + 1)) (lv1 := [(5, .int (x5 + 1)), (0, .ref x0), (1, .int x1), (2, .int x2), (3, .int x3), (4, .int x4)]) dX14_signsBehind_80 rfl (by rfl) (by decide) rfl ?_
        refine a_goto (tgt := 6) dX14_signsBehind_83 (by decide) ?_
        exact AW.sub [1, 2, 3, 4, 5, 0] rfl (ih _ _ _ _ _ _ _ _ _ hf hk0)
      · have hf := ifp c hf
        refine a_aload_n (q := 0) dX14_signsBehind_37 rfl rfl ?_
        obtain ⟨v9, e10, hf⟩ := obd hf
        refine o_gfR dX14_signsBehind_38 lk_X14_34 rfl e10 ?_
        refine a_sipush (v := 160) dX14_signsBehind_41 (by decide) ?_
        refine a_iload_n (q := 1) dX14_signsBehind_44 rfl rfl ?_
        refine a_imul dX14_signsBehind_45 ?_
        refine a_iload (q := 5) dX14_signsBehind_46 rfl ?_
        refine a_iadd dX14_signsBehind_48 ?_
        refine a_iconst (v := 1) dX14_signsBehind_49 (by decide) ?_
        refine a_iadd dX14_signsBehind_50 ?_
        obtain ⟨v11, e12, hf⟩ := obd hf
        refine o_alI dX14_signsBehind_51 e12 ?_
        refine a_iload_n (q := 2) dX14_signsBehind_52 rfl rfl ?_
        refine a_icmp_ne (tgt := 80) dX14_signsBehind_53 (by decide) (fun c => ?_) (fun c => ?_)
        · have hf := ifn c hf
          refine a_iinc (q := 5) (v := (x5 + 1)) (lv1 := [(5, .int (x5 + 1)), (0, .ref x0), (1, .int x1), (2, .int x2), (3, .int x3), (4, .int x4)]) dX14_signsBehind_80 rfl (by rfl) (by decide) rfl ?_
          refine a_goto (tgt := 6) dX14_signsBehind_83 (by decide) ?_
          exact AW.sub [1, 2, 3, 4, 5, 0] rfl (ih _ _ _ _ _ _ _ _ _ hf hk0)
        · have hf := ifp c hf
          refine a_iload (q := 4) dX14_signsBehind_56 rfl ?_
          refine a_iconst (v := 1) dX14_signsBehind_58 (by decide) ?_
          refine a_aload_n (q := 0) dX14_signsBehind_59 rfl rfl ?_
          obtain ⟨v13, e14, hf⟩ := obd hf
          refine o_gfR dX14_signsBehind_60 lk_X14_34 rfl e14 ?_
          refine a_sipush (v := 160) dX14_signsBehind_63 (by decide) ?_
          refine a_iload_n (q := 1) dX14_signsBehind_66 rfl rfl ?_
          refine a_imul dX14_signsBehind_67 ?_
          refine a_iload (q := 5) dX14_signsBehind_68 rfl ?_
          refine a_iadd dX14_signsBehind_70 ?_
          refine a_iconst (v := 2) dX14_signsBehind_71 (by decide) ?_
          refine a_iadd dX14_signsBehind_72 ?_
          obtain ⟨v15, e16, hf⟩ := obd hf
          refine o_alI dX14_signsBehind_73 e16 ?_
          refine a_iload_n (q := 3) dX14_signsBehind_74 rfl rfl ?_
          refine a_isub dX14_signsBehind_75 ?_
          refine a_ishl dX14_signsBehind_76 ?_
          refine a_ior dX14_signsBehind_77 ?_
          refine a_istore (lv1 := [(4, .int (x4 ||| ((1 : Int32) <<< ((v15 - x3) &&& 31)))), (0, .ref x0), (1, .int x1), (2, .int x2), (3, .int x3), (5, .int x5)]) dX14_signsBehind_78 (by decide) rfl ?_
          refine a_iinc (q := 5) (v := (x5 + 1)) (lv1 := [(5, .int (x5 + 1)), (4, .int (x4 ||| ((1 : Int32) <<< ((v15 - x3) &&& 31)))), (0, .ref x0), (1, .int x1), (2, .int x2), (3, .int x3)]) dX14_signsBehind_80 rfl (by rfl) (by decide) rfl ?_
          refine a_goto (tgt := 6) dX14_signsBehind_83 (by decide) ?_
          exact AW.sub [2, 3, 4, 5, 1, 0] rfl (ih _ _ _ _ _ _ _ _ _ hf hk0)
set_option maxHeartbeats 4000000 in
set_option maxRecDepth 100000 in
theorem sX14_signsBehind (E : gE) (D : Nat) (hD : 0 ≤ D) {a0 : Nat} {a1 : Int32} {a2 : Int32} {a3 : Int32} {h hz : hp} {v0 : Int32} (hf : fX14_signsBehind a0 a1 a2 a3 h = some (v0, hz)) : MC E yX14_signsBehind cX14_signsBehind (Option.some Jvm.ClassFile.FieldType.int) 6 D [.ref a0, .int a1, .int a2, .int a3] h (some (.int v0)) hz := by
  refine MC.of (by decide +kernel) (Nat.le_of_ble_eq_true rfl) rfl ?_
  unfold fX14_signsBehind at hf
  show AW E yX14_signsBehind cX14_signsBehind (Option.some Jvm.ClassFile.FieldType.int) 6 D (some (.int v0)) h hz 0 [(0, .ref a0), (1, .int a1), (2, .int a2), (3, .int a3)] [] h
  refine a_iconst (v := 0) dX14_signsBehind_0 (by decide) ?_
  refine a_istore (lv1 := [(4, .int 0), (0, .ref a0), (1, .int a1), (2, .int a2), (3, .int a3)]) dX14_signsBehind_1 (by decide) rfl ?_
  refine a_iconst (v := 0) dX14_signsBehind_3 (by decide) ?_
  refine a_istore (lv1 := [(5, .int 0), (4, .int 0), (0, .ref a0), (1, .int a1), (2, .int a2), (3, .int a3)]) dX14_signsBehind_4 (by decide) rfl ?_
  obtain ⟨v3, h2, e1, hf⟩ := ob2 hf
  refine AW.sub [2, 3, 4, 5, 1, 0] rfl (sX14_signsBehind_l6 E D hD _ _ _ _ _ _ _ _ _ _ e1 ?_)
  refine a_iload (q := 0) dX14_signsBehind_86 rfl ?_
  obtain ⟨rfl, rfl⟩ := oc2 hf
  exact a_ireturn dX14_signsBehind_88 rfl
def fX14_variablesIn_l141 : Nat → Nat → Int32 → Int32 → Int32 → Int32 → hp → Option (Int32 × hp)
  | 0, _, _, _, _, _, _ => none
  | n + 1, x0, x1, x2, x3, x4, h =>
    (gfR h x0 13 8).bind fun v1 =>
    (alI h v1 (((160 * x1) + x4) + 1)).bind fun v3 =>
    bd2 (fX14_isIn (v3.toInt64) 97 122 h) fun v6 h7 =>
    if v6 = 0 then (
      some (x4, h7)
    ) else (
      fX14_variablesIn_l141 n x0 x1 x2 x3 (x4 + 1) h7
    )
def fX14_variablesIn_l91 : Nat → Nat → Int32 → Int32 → Int32 → Int32 → Int32 → Int32 → hp → Option (Int32 × hp)
  | 0, _, _, _, _, _, _, _, _ => none
  | n + 1, x0, x1, x2, x3, x4, x5, x6, h =>
    (gfR h x0 13 8).bind fun v1 =>
    (alI h v1 ((160 * x1) + x4)).bind fun v3 =>
    if v3 = 39 then (
      some (x4, h)
    ) else (
      fX14_variablesIn_l91 n x0 x1 x2 x3 (x4 + 1) x5 x6 h
    )
def fX14_variablesIn_l7 : Nat → Nat → Int32 → Int32 → Int32 → Int32 → hp → Option (Int32 × hp)
  | 0, _, _, _, _, _, _ => none
  | n + 1, x0, x1, x2, x3, x4, h =>
    (gfR h x0 13 9).bind fun v1 =>
    (alI h v1 x1).bind fun v3 =>
    if v3 ≤ x4 then (
      some (x2, h)
    ) else (
      (gfR h x0 13 8).bind fun v5 =>
      (alI h v5 ((160 * x1) + x4)).bind fun v7 =>
      jn (fun (s57_0 : Int32) (h57j : hp) => (
        jn (fun (p68_3 : Int32) (h68j : hp) => (
          jn (fun (p77_3 : Int32) (h77j : hp) => (
            jn (fun (p115_4 : Int32) (h115j : hp) => (
              jn (fun (h175j : hp) => (
                if p77_3 = 0 then (
                  fX14_variablesIn_l7 n x0 x1 x2 p77_3 (p115_4 + 1) h175j
                ) else (
                  bd2 (fX14_isIn (v7.toInt64) 97 104 h175j) fun v10 h11 =>
                  if v10 = 0 then (
                    fX14_variablesIn_l7 n x0 x1 x2 p77_3 (p115_4 + 1) h11
                  ) else (
                    fX14_variablesIn_l7 n x0 x1 (x2 ||| ((1 : Int32) <<< ((v7 - 97) &&& 31))) p77_3 (p115_4 + 1) h11
                  )
                )
                : Option (Int32 × hp))) fun k175 =>
              if p77_3 = 0 then (
                k175 h115j
              ) else (
                bd2 (fX14_isIn (v7.toInt64) 97 122 h115j) fun v13 h14 =>
                if v13 = 0 then (
                  k175 h14
                ) else (
                  if s57_0 = 124 then (
                    bd2 (fX14_variablesIn_l141 FU x0 x1 x2 p77_3 p115_4 h14) fun v17 h16 =>
                    fX14_variablesIn_l7 n x0 x1 x2 p77_3 (v17 + 1) h16
                  ) else (
                    k175 h14
                  )
                )
              )
              : Option (Int32 × hp))) fun k115 =>
            if p77_3 = 0 then (
              k115 x4 h77j
            ) else (
              if v7 = 39 then (
                bd2 (fX14_variablesIn_l91 FU x0 x1 x2 p77_3 (x4 + 1) v7 s57_0 h77j) fun v20 h19 =>
                k115 v20 h19
              ) else (
                k115 x4 h77j
              )
            )
            : Option (Int32 × hp))) fun k77 =>
          if v7 = 125 then (
            k77 0 h68j
          ) else (
            k77 p68_3 h68j
          )
          : Option (Int32 × hp))) fun k68 =>
        if v7 = 123 then (
          k68 1 h57j
        ) else (
          k68 x3 h57j
        )
        : Option (Int32 × hp))) fun k57 =>
      if x4 = 0 then (
        k57 0 h
      ) else (
        (gfR h x0 13 8).bind fun v21 =>
        (alI h v21 (((160 * x1) + x4) - 1)).bind fun v23 =>
        k57 v23 h
      )
    )
def fX14_variablesIn (a0 : Nat) (a1 : Int32) (h : hp) : Option (Int32 × hp) :=
  bd2 (fX14_variablesIn_l7 FU a0 a1 0 0 0 h) fun v3 h2 =>
  some (v3, h2)
set_option maxHeartbeats 4000000 in
set_option maxRecDepth 100000 in
theorem sX14_variablesIn_l141 (E : gE) (D : Nat) (hD : 1 ≤ D) {rz : Option Value} {h0 hz : hp} : ∀ (n : Nat) (x0 : Nat) (x1 : Int32) (x2 : Int32) (x3 : Int32) (x4 : Int32) (h : hp) (m4 : Int32) (hq : hp), fX14_variablesIn_l141 n x0 x1 x2 x3 x4 h = some (m4, hq) → (AW E yX14_variablesIn cX14_variablesIn (Option.some Jvm.ClassFile.FieldType.int) 7 D rz h0 hz 204 [(0, .ref x0), (1, .int x1), (2, .int x2), (3, .int x3), (4, .int m4)] [] hq) → AW E yX14_variablesIn cX14_variablesIn (Option.some Jvm.ClassFile.FieldType.int) 7 D rz h0 hz 141 [(0, .ref x0), (1, .int x1), (2, .int x2), (3, .int x3), (4, .int x4)] [] h := by
  intro n
  induction n with
  | zero =>
    intro x0 x1 x2 x3 x4 h m4 hq hf _
    rw [fX14_variablesIn_l141] at hf
    cases hf
  | succ n ih =>
    intro x0 x1 x2 x3 x4 h m4 hq hf hk0
    rw [fX14_variablesIn_l141] at hf
    refine a_aload_n (q := 0) dX14_variablesIn_141 rfl rfl ?_
    obtain ⟨v1, e2, hf⟩ := obd hf
    refine o_gfR dX14_variablesIn_142 lk_X14_34 rfl e2 ?_
    refine a_sipush (v := 160) dX14_variablesIn_145 (by decide) ?_
    refine a_iload_n (q := 1) dX14_variablesIn_148 rfl rfl ?_
    refine a_imul dX14_variablesIn_149 ?_
    refine a_iload (q := 4) dX14_variablesIn_150 rfl ?_
    refine a_iadd dX14_variablesIn_152 ?_
    refine a_iconst (v := 1) dX14_variablesIn_153 (by decide) ?_
    refine a_iadd dX14_variablesIn_154 ?_
    obtain ⟨v3, e4, hf⟩ := obd hf
    refine o_alI dX14_variablesIn_155 e4 ?_
    refine a_i2l dX14_variablesIn_156 rfl ?_
    refine a_ldc2 (v := 97) dX14_variablesIn_157 wd_1379 ?_
    refine a_ldc2 (v := 122) dX14_variablesIn_160 wd_1395 ?_
    obtain ⟨v6, h7, e5, hf⟩ := ob2 hf
    refine a_callS (as := [.long (v3.toInt64), .long 97, .long 122]) (np := 3) (st := []) (sX14_isIn E (D - 1) (by omega) e5) dX14_variablesIn_163 rfl (by omega) (by decide) cw_X14_155 wd_1324 rfl (Nat.le_of_ble_eq_true rfl) ?_
    refine a_if_eq (tgt := 204) dX14_variablesIn_166 (by decide) (fun c => ?_) (fun c => ?_)
    · have hf := ifp c hf
      obtain ⟨rfl, rfl⟩ := oc2 hf
      exact hk0
    · have hf := ifn c hf
      refine a_iinc (q := 4) (v := (x4 + 1)) (lv1 := [(4, .int (x4 + 1)), (0, .ref x0), (1, .int x1), (2, .int x2), (3, .int x3)]) dX14_variablesIn_169 rfl (by rfl) (by decide) rfl ?_
      refine a_goto (tgt := 141) dX14_variablesIn_172 (by decide) ?_
      exact AW.sub [1, 2, 3, 4, 0] rfl (ih _ _ _ _ _ _ _ _ hf hk0)
set_option maxHeartbeats 4000000 in
set_option maxRecDepth 100000 in
theorem sX14_variablesIn_l91 (E : gE) (D : Nat) (hD : 1 ≤ D) {rz : Option Value} {h0 hz : hp} : ∀ (n : Nat) (x0 : Nat) (x1 : Int32) (x2 : Int32) (x3 : Int32) (x4 : Int32) (x5 : Int32) (x6 : Int32) (h : hp) (m4 : Int32) (hq : hp), fX14_variablesIn_l91 n x0 x1 x2 x3 x4 x5 x6 h = some (m4, hq) → (AW E yX14_variablesIn cX14_variablesIn (Option.some Jvm.ClassFile.FieldType.int) 7 D rz h0 hz 115 [(0, .ref x0), (1, .int x1), (2, .int x2), (3, .int x3), (4, .int m4), (5, .int x5), (6, .int x6)] [] hq) → AW E yX14_variablesIn cX14_variablesIn (Option.some Jvm.ClassFile.FieldType.int) 7 D rz h0 hz 91 [(0, .ref x0), (1, .int x1), (2, .int x2), (3, .int x3), (4, .int x4), (5, .int x5), (6, .int x6)] [] h := by
  intro n
  induction n with
  | zero =>
    intro x0 x1 x2 x3 x4 x5 x6 h m4 hq hf _
    rw [fX14_variablesIn_l91] at hf
    cases hf
  | succ n ih =>
    intro x0 x1 x2 x3 x4 x5 x6 h m4 hq hf hk0
    rw [fX14_variablesIn_l91] at hf
    refine a_aload_n (q := 0) dX14_variablesIn_91 rfl rfl ?_
    obtain ⟨v1, e2, hf⟩ := obd hf
    refine o_gfR dX14_variablesIn_92 lk_X14_34 rfl e2 ?_
    refine a_sipush (v := 160) dX14_variablesIn_95 (by decide) ?_
    refine a_iload_n (q := 1) dX14_variablesIn_98 rfl rfl ?_
    refine a_imul dX14_variablesIn_99 ?_
    refine a_iload (q := 4) dX14_variablesIn_100 rfl ?_
    refine a_iadd dX14_variablesIn_102 ?_
    obtain ⟨v3, e4, hf⟩ := obd hf
    refine o_alI dX14_variablesIn_103 e4 ?_
    refine a_bipush (v := 39) dX14_variablesIn_104 (by decide) ?_
    refine a_icmp_eq (tgt := 115) dX14_variablesIn_106 (by decide) (fun c => ?_) (fun c => ?_)
    · have hf := ifp c hf
      obtain ⟨rfl, rfl⟩ := oc2 hf
      exact hk0
    · have hf := ifn c hf
      refine a_iinc (q := 4) (v := (x4 + 1)) (lv1 := [(4, .int (x4 + 1)), (0, .ref x0), (1, .int x1), (2, .int x2), (3, .int x3), (5, .int x5), (6, .int x6)]) dX14_variablesIn_109 rfl (by rfl) (by decide) rfl ?_
      refine a_goto (tgt := 91) dX14_variablesIn_112 (by decide) ?_
      exact AW.sub [1, 2, 3, 4, 0, 5, 6] rfl (ih _ _ _ _ _ _ _ _ _ _ hf hk0)
set_option maxHeartbeats 4000000 in
set_option maxRecDepth 100000 in
theorem sX14_variablesIn_l7 (E : gE) (D : Nat) (hD : 1 ≤ D) {rz : Option Value} {h0 hz : hp} : ∀ (n : Nat) (x0 : Nat) (x1 : Int32) (x2 : Int32) (x3 : Int32) (x4 : Int32) (h : hp) (m2 : Int32) (hq : hp), fX14_variablesIn_l7 n x0 x1 x2 x3 x4 h = some (m2, hq) → (AW E yX14_variablesIn cX14_variablesIn (Option.some Jvm.ClassFile.FieldType.int) 7 D rz h0 hz 210 [(2, .int m2)] [] hq) → AW E yX14_variablesIn cX14_variablesIn (Option.some Jvm.ClassFile.FieldType.int) 7 D rz h0 hz 7 [(0, .ref x0), (1, .int x1), (2, .int x2), (3, .int x3), (4, .int x4)] [] h := by
  intro n
  induction n with
  | zero =>
    intro x0 x1 x2 x3 x4 h m2 hq hf _
    rw [fX14_variablesIn_l7] at hf
    cases hf
  | succ n ih =>
    intro x0 x1 x2 x3 x4 h m2 hq hf hk0
    rw [fX14_variablesIn_l7] at hf
    refine a_iload (q := 4) dX14_variablesIn_7 rfl ?_
    refine a_aload_n (q := 0) dX14_variablesIn_9 rfl rfl ?_
    obtain ⟨v1, e2, hf⟩ := obd hf
    refine o_gfR dX14_variablesIn_10 lk_X14_37 rfl e2 ?_
    refine a_iload_n (q := 1) dX14_variablesIn_13 rfl rfl ?_
    obtain ⟨v3, e4, hf⟩ := obd hf
    refine o_alI dX14_variablesIn_14 e4 ?_
    refine a_icmp_ge (tgt := 210) dX14_variablesIn_15 (by decide) (fun c => ?_) (fun c => ?_)
    · have hf := ifp c hf
      obtain ⟨rfl, rfl⟩ := oc2 hf
      exact AW.sub [2] rfl (hk0)
    · have hf := ifn c hf
      refine a_aload_n (q := 0) dX14_variablesIn_18 rfl rfl ?_
      obtain ⟨v5, e6, hf⟩ := obd hf
      refine o_gfR dX14_variablesIn_19 lk_X14_34 rfl e6 ?_
      refine a_sipush (v := 160) dX14_variablesIn_22 (by decide) ?_
      refine a_iload_n (q := 1) dX14_variablesIn_25 rfl rfl ?_
      refine a_imul dX14_variablesIn_26 ?_
      refine a_iload (q := 4) dX14_variablesIn_27 rfl ?_
      refine a_iadd dX14_variablesIn_29 ?_
      obtain ⟨v7, e8, hf⟩ := obd hf
      refine o_alI dX14_variablesIn_30 e8 ?_
      refine a_istore (lv1 := [(5, .int v7), (0, .ref x0), (1, .int x1), (2, .int x2), (3, .int x3), (4, .int x4)]) dX14_variablesIn_31 (by decide) rfl ?_
      refine a_iload (q := 5) dX14_variablesIn_33 rfl ?_
      obtain ⟨k57, ek57, hf⟩ := jn_s hf
      have hj57 : ∀ (s57_0 : Int32) (h57j : hp), k57 s57_0 h57j = some (m2, hq) → AW E yX14_variablesIn cX14_variablesIn (Option.some Jvm.ClassFile.FieldType.int) 7 D rz h0 hz 57 [(0, .ref x0), (1, .int x1), (2, .int x2), (3, .int x3), (4, .int x4), (5, .int v7)] [.int s57_0] h57j := by
        intro s57_0 h57j hf
        rw [ek57] at hf
        clear ek57
        refine a_istore (lv1 := [(6, .int s57_0), (0, .ref x0), (1, .int x1), (2, .int x2), (3, .int x3), (4, .int x4), (5, .int v7)]) dX14_variablesIn_57 (by decide) rfl ?_
        refine a_iload (q := 6) dX14_variablesIn_59 rfl ?_
        refine a_bipush (v := 123) dX14_variablesIn_61 (by decide) ?_
        obtain ⟨k68, ek68, hf⟩ := jn_s hf
        have hj68 : ∀ (p68_3 : Int32) (h68j : hp), k68 p68_3 h68j = some (m2, hq) → AW E yX14_variablesIn cX14_variablesIn (Option.some Jvm.ClassFile.FieldType.int) 7 D rz h0 hz 68 [(0, .ref x0), (1, .int x1), (2, .int x2), (3, .int p68_3), (4, .int x4), (5, .int v7), (6, .int s57_0)] [] h68j := by
          intro p68_3 h68j hf
          rw [ek68] at hf
          clear ek68
          refine a_iload (q := 5) dX14_variablesIn_68 rfl ?_
          refine a_bipush (v := 125) dX14_variablesIn_70 (by decide) ?_
          obtain ⟨k77, ek77, hf⟩ := jn_s hf
          have hj77 : ∀ (p77_3 : Int32) (h77j : hp), k77 p77_3 h77j = some (m2, hq) → AW E yX14_variablesIn cX14_variablesIn (Option.some Jvm.ClassFile.FieldType.int) 7 D rz h0 hz 77 [(0, .ref x0), (1, .int x1), (2, .int x2), (3, .int p77_3), (4, .int x4), (5, .int v7), (6, .int s57_0)] [] h77j := by
            intro p77_3 h77j hf
            rw [ek77] at hf
            clear ek77
            refine a_iload_n (q := 3) dX14_variablesIn_77 rfl rfl ?_
            obtain ⟨k115, ek115, hf⟩ := jn_s hf
            have hj115 : ∀ (p115_4 : Int32) (h115j : hp), k115 p115_4 h115j = some (m2, hq) → AW E yX14_variablesIn cX14_variablesIn (Option.some Jvm.ClassFile.FieldType.int) 7 D rz h0 hz 115 [(0, .ref x0), (1, .int x1), (2, .int x2), (3, .int p77_3), (4, .int p115_4), (5, .int v7), (6, .int s57_0)] [] h115j := by
              intro p115_4 h115j hf
              rw [ek115] at hf
              clear ek115
              refine a_iload_n (q := 3) dX14_variablesIn_115 rfl rfl ?_
              obtain ⟨k175, ek175, hf⟩ := jn_s hf
              have hj175 : ∀ (h175j : hp), k175 h175j = some (m2, hq) → AW E yX14_variablesIn cX14_variablesIn (Option.some Jvm.ClassFile.FieldType.int) 7 D rz h0 hz 175 [(0, .ref x0), (1, .int x1), (2, .int x2), (3, .int p77_3), (4, .int p115_4), (5, .int v7)] [] h175j := by
                intro h175j hf
                rw [ek175] at hf
                clear ek175
                refine a_iload_n (q := 3) dX14_variablesIn_175 rfl rfl ?_
                refine a_if_eq (tgt := 204) dX14_variablesIn_176 (by decide) (fun c => ?_) (fun c => ?_)
                · have hf := ifp c hf
                  refine a_iinc (q := 4) (v := (p115_4 + 1)) (lv1 := [(4, .int (p115_4 + 1)), (0, .ref x0), (1, .int x1), (2, .int x2), (3, .int p77_3), (5, .int v7)]) dX14_variablesIn_204 rfl (by rfl) (by decide) rfl ?_
                  refine a_goto (tgt := 7) dX14_variablesIn_207 (by decide) ?_
                  exact AW.sub [1, 2, 3, 4, 0] rfl (ih _ _ _ _ _ _ _ _ hf hk0)
                · have hf := ifn c hf
                  refine a_iload (q := 5) dX14_variablesIn_179 rfl ?_
                  refine a_i2l dX14_variablesIn_181 rfl ?_
                  refine a_ldc2 (v := 97) dX14_variablesIn_182 wd_1379 ?_
                  refine a_ldc2 (v := 104) dX14_variablesIn_185 wd_1380 ?_
                  obtain ⟨v10, h11, e9, hf⟩ := ob2 hf
                  refine a_callS (as := [.long (v7.toInt64), .long 97, .long 104]) (np := 3) (st := []) (sX14_isIn E (D - 1) (by omega) e9) dX14_variablesIn_188 rfl (by omega) (by decide) cw_X14_155 wd_1324 rfl (Nat.le_of_ble_eq_true rfl) ?_
                  refine a_if_eq (tgt := 204) dX14_variablesIn_191 (by decide) (fun c => ?_) (fun c => ?_)
                  · have hf := ifp c hf
                    refine a_iinc (q := 4) (v := (p115_4 + 1)) (lv1 := [(4, .int (p115_4 + 1)), (0, .ref x0), (1, .int x1), (2, .int x2), (3, .int p77_3), (5, .int v7)]) dX14_variablesIn_204 rfl (by rfl) (by decide) rfl ?_
                    refine a_goto (tgt := 7) dX14_variablesIn_207 (by decide) ?_
                    exact AW.sub [1, 2, 3, 4, 0] rfl (ih _ _ _ _ _ _ _ _ hf hk0)
                  · have hf := ifn c hf
                    refine a_iload_n (q := 2) dX14_variablesIn_194 rfl rfl ?_
                    refine a_iconst (v := 1) dX14_variablesIn_195 (by decide) ?_
                    refine a_iload (q := 5) dX14_variablesIn_196 rfl ?_
                    refine a_bipush (v := 97) dX14_variablesIn_198 (by decide) ?_
                    refine a_isub dX14_variablesIn_200 ?_
                    refine a_ishl dX14_variablesIn_201 ?_
                    refine a_ior dX14_variablesIn_202 ?_
                    refine a_istore_n (lv1 := [(2, .int (x2 ||| ((1 : Int32) <<< ((v7 - 97) &&& 31)))), (0, .ref x0), (1, .int x1), (3, .int p77_3), (4, .int p115_4), (5, .int v7)]) dX14_variablesIn_203 rfl (by decide) rfl ?_
                    refine a_iinc (q := 4) (v := (p115_4 + 1)) (lv1 := [(4, .int (p115_4 + 1)), (2, .int (x2 ||| ((1 : Int32) <<< ((v7 - 97) &&& 31)))), (0, .ref x0), (1, .int x1), (3, .int p77_3), (5, .int v7)]) dX14_variablesIn_204 rfl (by rfl) (by decide) rfl ?_
                    refine a_goto (tgt := 7) dX14_variablesIn_207 (by decide) ?_
                    exact AW.sub [2, 3, 1, 4, 0] rfl (ih _ _ _ _ _ _ _ _ hf hk0)
              clear ek175
              refine a_if_eq (tgt := 175) dX14_variablesIn_116 (by decide) (fun c => ?_) (fun c => ?_)
              · have hf := ifp c hf
                exact AW.sub [0, 1, 2, 3, 4, 5] rfl (hj175 _ hf)
              · have hf := ifn c hf
                refine a_iload (q := 5) dX14_variablesIn_119 rfl ?_
                refine a_i2l dX14_variablesIn_121 rfl ?_
                refine a_ldc2 (v := 97) dX14_variablesIn_122 wd_1379 ?_
                refine a_ldc2 (v := 122) dX14_variablesIn_125 wd_1395 ?_
                obtain ⟨v13, h14, e12, hf⟩ := ob2 hf
                refine a_callS (as := [.long (v7.toInt64), .long 97, .long 122]) (np := 3) (st := []) (sX14_isIn E (D - 1) (by omega) e12) dX14_variablesIn_128 rfl (by omega) (by decide) cw_X14_155 wd_1324 rfl (Nat.le_of_ble_eq_true rfl) ?_
                refine a_if_eq (tgt := 175) dX14_variablesIn_131 (by decide) (fun c => ?_) (fun c => ?_)
                · have hf := ifp c hf
                  exact AW.sub [0, 1, 2, 3, 4, 5] rfl (hj175 _ hf)
                · have hf := ifn c hf
                  refine a_iload (q := 6) dX14_variablesIn_134 rfl ?_
                  refine a_bipush (v := 124) dX14_variablesIn_136 (by decide) ?_
                  refine a_icmp_ne (tgt := 175) dX14_variablesIn_138 (by decide) (fun c => ?_) (fun c => ?_)
                  · have hf := ifn c hf
                    exact AW.sub [0, 1, 2, 3, 4, 5] rfl (hj175 _ hf)
                  · have hf := ifp c hf
                    obtain ⟨v17, h16, e15, hf⟩ := ob2 hf
                    refine AW.sub [0, 1, 2, 3, 4] rfl (sX14_variablesIn_l141 E D hD _ _ _ _ _ _ _ _ _ e15 ?_)
                    refine a_iinc (q := 4) (v := (v17 + 1)) (lv1 := [(4, .int (v17 + 1)), (0, .ref x0), (1, .int x1), (2, .int x2), (3, .int p77_3)]) dX14_variablesIn_204 rfl (by rfl) (by decide) rfl ?_
                    refine a_goto (tgt := 7) dX14_variablesIn_207 (by decide) ?_
                    exact AW.sub [1, 2, 3, 4, 0] rfl (ih _ _ _ _ _ _ _ _ hf hk0)
            clear ek115
            refine a_if_eq (tgt := 115) dX14_variablesIn_78 (by decide) (fun c => ?_) (fun c => ?_)
            · have hf := ifp c hf
              exact hj115 _ _ hf
            · have hf := ifn c hf
              refine a_iload (q := 5) dX14_variablesIn_81 rfl ?_
              refine a_bipush (v := 39) dX14_variablesIn_83 (by decide) ?_
              refine a_icmp_ne (tgt := 115) dX14_variablesIn_85 (by decide) (fun c => ?_) (fun c => ?_)
              · have hf := ifn c hf
                exact hj115 _ _ hf
              · have hf := ifp c hf
                refine a_iinc (q := 4) (v := (x4 + 1)) (lv1 := [(4, .int (x4 + 1)), (0, .ref x0), (1, .int x1), (2, .int x2), (3, .int p77_3), (5, .int v7), (6, .int s57_0)]) dX14_variablesIn_88 rfl (by rfl) (by decide) rfl ?_
                obtain ⟨v20, h19, e18, hf⟩ := ob2 hf
                refine AW.sub [1, 2, 3, 4, 0, 5, 6] rfl (sX14_variablesIn_l91 E D hD _ _ _ _ _ _ _ _ _ _ _ e18 ?_)
                exact hj115 _ _ hf
          clear ek77
          refine a_icmp_ne (tgt := 77) dX14_variablesIn_72 (by decide) (fun c => ?_) (fun c => ?_)
          · have hf := ifn c hf
            exact hj77 _ _ hf
          · have hf := ifp c hf
            refine a_iconst (v := 0) dX14_variablesIn_75 (by decide) ?_
            refine a_istore_n (lv1 := [(3, .int 0), (0, .ref x0), (1, .int x1), (2, .int x2), (4, .int x4), (5, .int v7), (6, .int s57_0)]) dX14_variablesIn_76 rfl (by decide) rfl ?_
            exact AW.sub [1, 2, 3, 0, 4, 5, 6] rfl (hj77 _ _ hf)
        clear ek68
        refine a_icmp_ne (tgt := 68) dX14_variablesIn_63 (by decide) (fun c => ?_) (fun c => ?_)
        · have hf := ifn c hf
          exact AW.sub [1, 2, 3, 4, 5, 6, 0] rfl (hj68 _ _ hf)
        · have hf := ifp c hf
          refine a_iconst (v := 1) dX14_variablesIn_66 (by decide) ?_
          refine a_istore_n (lv1 := [(3, .int 1), (6, .int s57_0), (0, .ref x0), (1, .int x1), (2, .int x2), (4, .int x4), (5, .int v7)]) dX14_variablesIn_67 rfl (by decide) rfl ?_
          exact AW.sub [2, 3, 4, 0, 5, 6, 1] rfl (hj68 _ _ hf)
      clear ek57
      refine a_if_ne (tgt := 42) dX14_variablesIn_35 (by decide) (fun c => ?_) (fun c => ?_)
      · have hf := ifn c hf
        refine a_aload_n (q := 1) dX14_variablesIn_42 rfl rfl ?_
        obtain ⟨v21, e22, hf⟩ := obd hf
        refine o_gfR dX14_variablesIn_43 lk_X14_34 rfl e22 ?_
        refine a_sipush (v := 160) dX14_variablesIn_46 (by decide) ?_
        refine a_iload_n (q := 2) dX14_variablesIn_49 rfl rfl ?_
        refine a_imul dX14_variablesIn_50 ?_
        refine a_iload (q := 5) dX14_variablesIn_51 rfl ?_
        refine a_iadd dX14_variablesIn_53 ?_
        refine a_iconst (v := 1) dX14_variablesIn_54 (by decide) ?_
        refine a_isub dX14_variablesIn_55 ?_
        obtain ⟨v23, e24, hf⟩ := obd hf
        refine o_alI dX14_variablesIn_56 e24 ?_
        exact AW.sub [1, 2, 3, 4, 5, 0] rfl (hj57 _ _ hf)
      · have hf := ifp c hf
        refine a_iconst (v := 0) dX14_variablesIn_38 (by decide) ?_
        refine a_goto (tgt := 57) dX14_variablesIn_39 (by decide) ?_
        exact AW.sub [1, 2, 3, 4, 5, 0] rfl (hj57 _ _ hf)
set_option maxHeartbeats 4000000 in
set_option maxRecDepth 100000 in
theorem sX14_variablesIn (E : gE) (D : Nat) (hD : 1 ≤ D) {a0 : Nat} {a1 : Int32} {h hz : hp} {v0 : Int32} (hf : fX14_variablesIn a0 a1 h = some (v0, hz)) : MC E yX14_variablesIn cX14_variablesIn (Option.some Jvm.ClassFile.FieldType.int) 7 D [.ref a0, .int a1] h (some (.int v0)) hz := by
  refine MC.of (by decide +kernel) (Nat.le_of_ble_eq_true rfl) rfl ?_
  unfold fX14_variablesIn at hf
  show AW E yX14_variablesIn cX14_variablesIn (Option.some Jvm.ClassFile.FieldType.int) 7 D (some (.int v0)) h hz 0 [(0, .ref a0), (1, .int a1)] [] h
  refine a_iconst (v := 0) dX14_variablesIn_0 (by decide) ?_
  refine a_istore_n (lv1 := [(2, .int 0), (0, .ref a0), (1, .int a1)]) dX14_variablesIn_1 rfl (by decide) rfl ?_
  refine a_iconst (v := 0) dX14_variablesIn_2 (by decide) ?_
  refine a_istore_n (lv1 := [(3, .int 0), (2, .int 0), (0, .ref a0), (1, .int a1)]) dX14_variablesIn_3 rfl (by decide) rfl ?_
  refine a_iconst (v := 0) dX14_variablesIn_4 (by decide) ?_
  refine a_istore (lv1 := [(4, .int 0), (3, .int 0), (2, .int 0), (0, .ref a0), (1, .int a1)]) dX14_variablesIn_5 (by decide) rfl ?_
  obtain ⟨v3, h2, e1, hf⟩ := ob2 hf
  refine AW.sub [3, 4, 2, 1, 0] rfl (sX14_variablesIn_l7 E D hD _ _ _ _ _ _ _ _ _ e1 ?_)
  refine a_iload_n (q := 0) dX14_variablesIn_210 rfl rfl ?_
  obtain ⟨rfl, rfl⟩ := oc2 hf
  exact a_ireturn dX14_variablesIn_211 rfl
def fX14_has (a0 : Nat) (a1 : Int32) (a2 : Int32) (h : hp) : Option (Int32 × hp) :=
  bd2 (fX14_isIn (a1.toInt64) 0 5 h) fun v2 h3 =>
  if v2 = 0 then (
    some ((-1), h3)
  ) else (
    bd2 (fX14_isIn (a2.toInt64) 0 6 h3) fun v5 h6 =>
    if v5 = 0 then (
      some ((-1), h6)
    ) else (
      (gfR h6 a0 13 9).bind fun v7 =>
      (alI h6 v7 a1).bind fun v9 =>
      if 0 ≤ v9 then (
        if a2 = 0 then (
          (ckT h6 a0 13).bind fun _ =>
          bd2 (fX14_nodesOf a0 a1 h6) fun v12 h13 =>
          some (v12, h13)
        ) else (
        if a2 = 1 then (
          (gfR h6 a0 13 9).bind fun v15 =>
          (alI h6 v15 a1).bind fun v17 =>
          (ckT h6 a0 13).bind fun _ =>
          bd2 (fX14_lineAt a0 a1 v17 h6) fun v20 h21 =>
          some (v20, h21)
        ) else (
        if a2 = 2 then (
          (ckT h6 a0 13).bind fun _ =>
          bd2 (fX14_extended a0 a1 h6) fun v24 h25 =>
          some (v24, h25)
        ) else (
        if a2 = 3 then (
          (ckT h6 a0 13).bind fun _ =>
          bd2 (fX14_signsBehind a0 a1 61 65 h6) fun v28 h29 =>
          some (v28, h29)
        ) else (
        if a2 = 4 then (
          (ckT h6 a0 13).bind fun _ =>
          bd2 (fX14_signsBehind a0 a1 62 48 h6) fun v32 h33 =>
          some (v32, h33)
        ) else (
        if a2 = 5 then (
          (ckT h6 a0 13).bind fun _ =>
          bd2 (fX14_variablesIn a0 a1 h6) fun v36 h37 =>
          some (v36, h37)
        ) else (
          (gfR h6 a0 13 9).bind fun v39 =>
          (alI h6 v39 a1).bind fun v41 =>
          some (v41, h6)
        ))))))
      ) else (
        some ((-3), h6)
      )
    )
  )
set_option maxHeartbeats 4000000 in
set_option maxRecDepth 100000 in
theorem sX14_has (E : gE) (D : Nat) (hD : 133 ≤ D) {a0 : Nat} {a1 : Int32} {a2 : Int32} {h hz : hp} {v0 : Int32} (hf : fX14_has a0 a1 a2 h = some (v0, hz)) : MC E yX14_has cX14_has (Option.some Jvm.ClassFile.FieldType.int) 3 D [.ref a0, .int a1, .int a2] h (some (.int v0)) hz := by
  refine MC.of (by decide +kernel) (Nat.le_of_ble_eq_true rfl) rfl ?_
  unfold fX14_has at hf
  show AW E yX14_has cX14_has (Option.some Jvm.ClassFile.FieldType.int) 3 D (some (.int v0)) h hz 0 [(0, .ref a0), (1, .int a1), (2, .int a2)] [] h
  refine a_iload_n (q := 1) dX14_has_0 rfl rfl ?_
  refine a_i2l dX14_has_1 rfl ?_
  refine a_lconst (v := 0) dX14_has_2 (by decide) ?_
  refine a_ldc2 (v := 5) dX14_has_3 wd_1334 ?_
  obtain ⟨v2, h3, e1, hf⟩ := ob2 hf
  refine a_callS (as := [.long (a1.toInt64), .long 0, .long 5]) (np := 3) (st := []) (sX14_isIn E (D - 1) (by omega) e1) dX14_has_6 rfl (by omega) (by decide) cw_X14_155 wd_1324 rfl (Nat.le_of_ble_eq_true rfl) ?_
  refine a_if_eq (tgt := 24) dX14_has_9 (by decide) (fun c => ?_) (fun c => ?_)
  · have hf := ifp c hf
    refine a_iconst (v := (-1)) dX14_has_24 (by decide) ?_
    obtain ⟨rfl, rfl⟩ := oc2 hf
    exact a_ireturn dX14_has_25 rfl
  · have hf := ifn c hf
    refine a_iload_n (q := 2) dX14_has_12 rfl rfl ?_
    refine a_i2l dX14_has_13 rfl ?_
    refine a_lconst (v := 0) dX14_has_14 (by decide) ?_
    refine a_ldc2 (v := 6) dX14_has_15 wd_1424 ?_
    obtain ⟨v5, h6, e4, hf⟩ := ob2 hf
    refine a_callS (as := [.long (a2.toInt64), .long 0, .long 6]) (np := 3) (st := []) (sX14_isIn E (D - 1) (by omega) e4) dX14_has_18 rfl (by omega) (by decide) cw_X14_155 wd_1324 rfl (Nat.le_of_ble_eq_true rfl) ?_
    refine a_if_ne (tgt := 26) dX14_has_21 (by decide) (fun c => ?_) (fun c => ?_)
    · have hf := ifn c hf
      refine a_aload_n (q := 0) dX14_has_26 rfl rfl ?_
      obtain ⟨v7, e8, hf⟩ := obd hf
      refine o_gfR dX14_has_27 lk_X14_37 rfl e8 ?_
      refine a_iload_n (q := 1) dX14_has_30 rfl rfl ?_
      obtain ⟨v9, e10, hf⟩ := obd hf
      refine o_alI dX14_has_31 e10 ?_
      refine a_if_ge (tgt := 38) dX14_has_32 (by decide) (fun c => ?_) (fun c => ?_)
      · have hf := ifp c hf
        refine a_iload_n (q := 2) dX14_has_38 rfl rfl ?_
        by_cases c39_0 : a2 = 0
        · have hf := ifp c39_0 hf
          refine a_tblIn (k := 0) (off := 37) (tgt := 76) dX14_has_39 c39_0 (by decide) (by decide) rfl (by decide) ?_
          refine a_aload_n (q := 0) dX14_has_76 rfl rfl ?_
          refine a_iload_n (q := 1) dX14_has_77 rfl rfl ?_
          obtain ⟨_, e14, hf⟩ := obd hf
          obtain ⟨v12, h13, e11, hf⟩ := ob2 hf
          refine a_callV (as := [.int a1]) (np := 1) (ci := 13) (st := []) (sX14_nodesOf E (D - 1) (by omega) e11) dX14_has_78 rfl (by omega) (by decide) cw_X14_324 ⟨wd_1418, ws_79⟩ rfl (ckT_s e14) rfl (Nat.le_of_ble_eq_true rfl) ?_
          obtain ⟨rfl, rfl⟩ := oc2 hf
          exact a_ireturn dX14_has_81 rfl
        have hf := ifn c39_0 hf
        by_cases c39_1 : a2 = 1
        · have hf := ifp c39_1 hf
          refine a_tblIn (k := 1) (off := 43) (tgt := 82) dX14_has_39 c39_1 (by decide) (by decide) rfl (by decide) ?_
          refine a_aload_n (q := 0) dX14_has_82 rfl rfl ?_
          refine a_iload_n (q := 1) dX14_has_83 rfl rfl ?_
          refine a_aload_n (q := 0) dX14_has_84 rfl rfl ?_
          obtain ⟨v15, e16, hf⟩ := obd hf
          refine o_gfR dX14_has_85 lk_X14_37 rfl e16 ?_
          refine a_iload_n (q := 1) dX14_has_88 rfl rfl ?_
          obtain ⟨v17, e18, hf⟩ := obd hf
          refine o_alI dX14_has_89 e18 ?_
          obtain ⟨_, e22, hf⟩ := obd hf
          obtain ⟨v20, h21, e19, hf⟩ := ob2 hf
          refine a_callV (as := [.int a1, .int v17]) (np := 2) (ci := 13) (st := []) (sX14_lineAt E (D - 1) (by omega) e19) dX14_has_90 rfl (by omega) (by decide) cw_X14_329 ⟨wd_1427, ws_80⟩ rfl (ckT_s e22) rfl (Nat.le_of_ble_eq_true rfl) ?_
          obtain ⟨rfl, rfl⟩ := oc2 hf
          exact a_ireturn dX14_has_93 rfl
        have hf := ifn c39_1 hf
        by_cases c39_2 : a2 = 2
        · have hf := ifp c39_2 hf
          refine a_tblIn (k := 2) (off := 55) (tgt := 94) dX14_has_39 c39_2 (by decide) (by decide) rfl (by decide) ?_
          refine a_aload_n (q := 0) dX14_has_94 rfl rfl ?_
          refine a_iload_n (q := 1) dX14_has_95 rfl rfl ?_
          obtain ⟨_, e26, hf⟩ := obd hf
          obtain ⟨v24, h25, e23, hf⟩ := ob2 hf
          refine a_callV (as := [.int a1]) (np := 1) (ci := 13) (st := []) (sX14_extended E (D - 1) (by omega) e23) dX14_has_96 rfl (by omega) (by decide) cw_X14_332 ⟨wd_1431, ws_81⟩ rfl (ckT_s e26) rfl (Nat.le_of_ble_eq_true rfl) ?_
          obtain ⟨rfl, rfl⟩ := oc2 hf
          exact a_ireturn dX14_has_99 rfl
        have hf := ifn c39_2 hf
        by_cases c39_3 : a2 = 3
        · have hf := ifp c39_3 hf
          refine a_tblIn (k := 3) (off := 61) (tgt := 100) dX14_has_39 c39_3 (by decide) (by decide) rfl (by decide) ?_
          refine a_aload_n (q := 0) dX14_has_100 rfl rfl ?_
          refine a_iload_n (q := 1) dX14_has_101 rfl rfl ?_
          refine a_bipush (v := 61) dX14_has_102 (by decide) ?_
          refine a_bipush (v := 65) dX14_has_104 (by decide) ?_
          obtain ⟨_, e30, hf⟩ := obd hf
          obtain ⟨v28, h29, e27, hf⟩ := ob2 hf
          refine a_callV (as := [.int a1, .int 61, .int 65]) (np := 3) (ci := 13) (st := []) (sX14_signsBehind E (D - 1) (by omega) e27) dX14_has_106 rfl (by omega) (by decide) cw_X14_335 ⟨wd_1435, ws_82⟩ rfl (ckT_s e30) rfl (Nat.le_of_ble_eq_true rfl) ?_
          obtain ⟨rfl, rfl⟩ := oc2 hf
          exact a_ireturn dX14_has_109 rfl
        have hf := ifn c39_3 hf
        by_cases c39_4 : a2 = 4
        · have hf := ifp c39_4 hf
          refine a_tblIn (k := 4) (off := 71) (tgt := 110) dX14_has_39 c39_4 (by decide) (by decide) rfl (by decide) ?_
          refine a_aload_n (q := 0) dX14_has_110 rfl rfl ?_
          refine a_iload_n (q := 1) dX14_has_111 rfl rfl ?_
          refine a_bipush (v := 62) dX14_has_112 (by decide) ?_
          refine a_bipush (v := 48) dX14_has_114 (by decide) ?_
          obtain ⟨_, e34, hf⟩ := obd hf
          obtain ⟨v32, h33, e31, hf⟩ := ob2 hf
          refine a_callV (as := [.int a1, .int 62, .int 48]) (np := 3) (ci := 13) (st := []) (sX14_signsBehind E (D - 1) (by omega) e31) dX14_has_116 rfl (by omega) (by decide) cw_X14_335 ⟨wd_1435, ws_82⟩ rfl (ckT_s e34) rfl (Nat.le_of_ble_eq_true rfl) ?_
          obtain ⟨rfl, rfl⟩ := oc2 hf
          exact a_ireturn dX14_has_119 rfl
        have hf := ifn c39_4 hf
        by_cases c39_5 : a2 = 5
        · have hf := ifp c39_5 hf
          refine a_tblIn (k := 5) (off := 81) (tgt := 120) dX14_has_39 c39_5 (by decide) (by decide) rfl (by decide) ?_
          refine a_aload_n (q := 0) dX14_has_120 rfl rfl ?_
          refine a_iload_n (q := 1) dX14_has_121 rfl rfl ?_
          obtain ⟨_, e38, hf⟩ := obd hf
          obtain ⟨v36, h37, e35, hf⟩ := ob2 hf
          refine a_callV (as := [.int a1]) (np := 1) (ci := 13) (st := []) (sX14_variablesIn E (D - 1) (by omega) e35) dX14_has_122 rfl (by omega) (by decide) cw_X14_338 ⟨wd_1439, ws_83⟩ rfl (ckT_s e38) rfl (Nat.le_of_ble_eq_true rfl) ?_
          obtain ⟨rfl, rfl⟩ := oc2 hf
          exact a_ireturn dX14_has_125 rfl
        have hf := ifn c39_5 hf
        have t39_0 := lv_neT (a := 0) c39_0 rfl
        have t39_1 := lv_neT (a := 1) c39_1 rfl
        have t39_2 := lv_neT (a := 2) c39_2 rfl
        have t39_3 := lv_neT (a := 3) c39_3 rfl
        have t39_4 := lv_neT (a := 4) c39_4 rfl
        have t39_5 := lv_neT (a := 5) c39_5 rfl
        refine a_tblOut (tgt := 126) dX14_has_39 (by omega) (by decide) ?_
        refine a_aload_n (q := 0) dX14_has_126 rfl rfl ?_
        obtain ⟨v39, e40, hf⟩ := obd hf
        refine o_gfR dX14_has_127 lk_X14_37 rfl e40 ?_
        refine a_iload_n (q := 1) dX14_has_130 rfl rfl ?_
        obtain ⟨v41, e42, hf⟩ := obd hf
        refine o_alI dX14_has_131 e42 ?_
        obtain ⟨rfl, rfl⟩ := oc2 hf
        exact a_ireturn dX14_has_132 rfl
      · have hf := ifn c hf
        refine a_bipush (v := (-3)) dX14_has_35 (by decide) ?_
        obtain ⟨rfl, rfl⟩ := oc2 hf
        exact a_ireturn dX14_has_37 rfl
    · have hf := ifp c hf
      refine a_iconst (v := (-1)) dX14_has_24 (by decide) ?_
      obtain ⟨rfl, rfl⟩ := oc2 hf
      exact a_ireturn dX14_has_25 rfl
def fX14_byteAt (a0 : Nat) (a1 : Int32) (a2 : Int32) (h : hp) : Option (Int32 × hp) :=
  (gfR h a0 13 8).bind fun v1 =>
  (alI h v1 ((160 * a1) + a2)).bind fun v3 =>
  some (v3, h)
set_option maxHeartbeats 4000000 in
set_option maxRecDepth 100000 in
theorem sX14_byteAt (E : gE) (D : Nat) (hD : 0 ≤ D) {a0 : Nat} {a1 : Int32} {a2 : Int32} {h hz : hp} {v0 : Int32} (hf : fX14_byteAt a0 a1 a2 h = some (v0, hz)) : MC E yX14_byteAt cX14_byteAt (Option.some Jvm.ClassFile.FieldType.int) 3 D [.ref a0, .int a1, .int a2] h (some (.int v0)) hz := by
  refine MC.of (by decide +kernel) (Nat.le_of_ble_eq_true rfl) rfl ?_
  unfold fX14_byteAt at hf
  show AW E yX14_byteAt cX14_byteAt (Option.some Jvm.ClassFile.FieldType.int) 3 D (some (.int v0)) h hz 0 [(0, .ref a0), (1, .int a1), (2, .int a2)] [] h
  refine a_aload_n (q := 0) dX14_byteAt_0 rfl rfl ?_
  obtain ⟨v1, e2, hf⟩ := obd hf
  refine o_gfR dX14_byteAt_1 lk_X14_34 rfl e2 ?_
  refine a_sipush (v := 160) dX14_byteAt_4 (by decide) ?_
  refine a_iload_n (q := 1) dX14_byteAt_7 rfl rfl ?_
  refine a_imul dX14_byteAt_8 ?_
  refine a_iload_n (q := 2) dX14_byteAt_9 rfl rfl ?_
  refine a_iadd dX14_byteAt_10 ?_
  obtain ⟨v3, e4, hf⟩ := obd hf
  refine o_alI dX14_byteAt_11 e4 ?_
  obtain ⟨rfl, rfl⟩ := oc2 hf
  exact a_ireturn dX14_byteAt_12 rfl
def fX14_figuresAt_l2 : Nat → Nat → Int32 → Int32 → hp → Option (Int32 × hp)
  | 0, _, _, _, _ => none
  | n + 1, x0, x1, x2, h =>
    (gfI h x0 13 17).bind fun v1 =>
    (ckT h x0 13).bind fun _ =>
    bd2 (fX14_byteAt x0 x1 v1 h) fun v4 h5 =>
    bd2 (fX14_isIn (v4.toInt64) 48 57 h5) fun v8 h9 =>
    if v8 = 0 then (
      some (x2, h9)
    ) else (
      (gfI h9 x0 13 17).bind fun v10 =>
      (ckT h9 x0 13).bind fun _ =>
      bd2 (fX14_byteAt x0 x1 v10 h9) fun v13 h14 =>
      (gfI h14 x0 13 17).bind fun v16 =>
      (pfI h14 x0 13 17 (v16 + 1)).bind fun h18 =>
      fX14_figuresAt_l2 n x0 x1 (((10 * x2) + v13) - 48) h18
    )
def fX14_figuresAt (a0 : Nat) (a1 : Int32) (h : hp) : Option (Int32 × hp) :=
  bd2 (fX14_figuresAt_l2 FU a0 a1 0 h) fun v3 h2 =>
  some (v3, h2)
set_option maxHeartbeats 4000000 in
set_option maxRecDepth 100000 in
theorem sX14_figuresAt_l2 (E : gE) (D : Nat) (hD : 1 ≤ D) {rz : Option Value} {h0 hz : hp} : ∀ (n : Nat) (x0 : Nat) (x1 : Int32) (x2 : Int32) (h : hp) (m2 : Int32) (hq : hp), fX14_figuresAt_l2 n x0 x1 x2 h = some (m2, hq) → (AW E yX14_figuresAt cX14_figuresAt (Option.some Jvm.ClassFile.FieldType.int) 3 D rz h0 hz 55 [(2, .int m2)] [] hq) → AW E yX14_figuresAt cX14_figuresAt (Option.some Jvm.ClassFile.FieldType.int) 3 D rz h0 hz 2 [(0, .ref x0), (1, .int x1), (2, .int x2)] [] h := by
  intro n
  induction n with
  | zero =>
    intro x0 x1 x2 h m2 hq hf _
    rw [fX14_figuresAt_l2] at hf
    cases hf
  | succ n ih =>
    intro x0 x1 x2 h m2 hq hf hk0
    rw [fX14_figuresAt_l2] at hf
    refine a_aload_n (q := 0) dX14_figuresAt_2 rfl rfl ?_
    refine a_iload_n (q := 1) dX14_figuresAt_3 rfl rfl ?_
    refine a_aload_n (q := 0) dX14_figuresAt_4 rfl rfl ?_
    obtain ⟨v1, e2, hf⟩ := obd hf
    refine o_gfI dX14_figuresAt_5 lk_X14_341 rfl e2 ?_
    obtain ⟨_, e6, hf⟩ := obd hf
    obtain ⟨v4, h5, e3, hf⟩ := ob2 hf
    refine a_callV (as := [.int x1, .int v1]) (np := 2) (ci := 13) (st := []) (sX14_byteAt E (D - 1) (by omega) e3) dX14_figuresAt_8 rfl (by omega) (by decide) cw_X14_344 ⟨wd_1487, ws_93⟩ rfl (ckT_s e6) rfl (Nat.le_of_ble_eq_true rfl) ?_
    refine a_i2l dX14_figuresAt_11 rfl ?_
    refine a_ldc2 (v := 48) dX14_figuresAt_12 wd_1385 ?_
    refine a_ldc2 (v := 57) dX14_figuresAt_15 wd_1386 ?_
    obtain ⟨v8, h9, e7, hf⟩ := ob2 hf
    refine a_callS (as := [.long (v4.toInt64), .long 48, .long 57]) (np := 3) (st := []) (sX14_isIn E (D - 1) (by omega) e7) dX14_figuresAt_18 rfl (by omega) (by decide) cw_X14_155 wd_1324 rfl (Nat.le_of_ble_eq_true rfl) ?_
    refine a_if_eq (tgt := 55) dX14_figuresAt_21 (by decide) (fun c => ?_) (fun c => ?_)
    · have hf := ifp c hf
      obtain ⟨rfl, rfl⟩ := oc2 hf
      exact AW.sub [2] rfl (hk0)
    · have hf := ifn c hf
      refine a_bipush (v := 10) dX14_figuresAt_24 (by decide) ?_
      refine a_iload_n (q := 2) dX14_figuresAt_26 rfl rfl ?_
      refine a_imul dX14_figuresAt_27 ?_
      refine a_aload_n (q := 0) dX14_figuresAt_28 rfl rfl ?_
      refine a_iload_n (q := 1) dX14_figuresAt_29 rfl rfl ?_
      refine a_aload_n (q := 0) dX14_figuresAt_30 rfl rfl ?_
      obtain ⟨v10, e11, hf⟩ := obd hf
      refine o_gfI dX14_figuresAt_31 lk_X14_341 rfl e11 ?_
      obtain ⟨_, e15, hf⟩ := obd hf
      obtain ⟨v13, h14, e12, hf⟩ := ob2 hf
      refine a_callV (as := [.int x1, .int v10]) (np := 2) (ci := 13) (st := [.int (10 * x2)]) (sX14_byteAt E (D - 1) (by omega) e12) dX14_figuresAt_34 rfl (by omega) (by decide) cw_X14_344 ⟨wd_1487, ws_93⟩ rfl (ckT_s e15) rfl (Nat.le_of_ble_eq_true rfl) ?_
      refine a_iadd dX14_figuresAt_37 ?_
      refine a_bipush (v := 48) dX14_figuresAt_38 (by decide) ?_
      refine a_isub dX14_figuresAt_40 ?_
      refine a_istore_n (lv1 := [(2, .int (((10 * x2) + v13) - 48)), (0, .ref x0), (1, .int x1)]) dX14_figuresAt_41 rfl (by decide) rfl ?_
      refine a_aload_n (q := 1) dX14_figuresAt_42 rfl rfl ?_
      refine a_dup dX14_figuresAt_43 rfl ?_
      obtain ⟨v16, e17, hf⟩ := obd hf
      refine o_gfI dX14_figuresAt_44 lk_X14_341 rfl e17 ?_
      refine a_iconst (v := 1) dX14_figuresAt_47 (by decide) ?_
      refine a_iadd dX14_figuresAt_48 ?_
      obtain ⟨h18, e19, hf⟩ := obd hf
      refine o_pfI dX14_figuresAt_49 lk_X14_341 (⟨_, rfl, Or.inl rfl⟩) rfl e19 ?_
      refine a_goto (tgt := 2) dX14_figuresAt_52 (by decide) ?_
      exact AW.sub [1, 2, 0] rfl (ih _ _ _ _ _ _ hf hk0)
set_option maxHeartbeats 4000000 in
set_option maxRecDepth 100000 in
theorem sX14_figuresAt (E : gE) (D : Nat) (hD : 1 ≤ D) {a0 : Nat} {a1 : Int32} {h hz : hp} {v0 : Int32} (hf : fX14_figuresAt a0 a1 h = some (v0, hz)) : MC E yX14_figuresAt cX14_figuresAt (Option.some Jvm.ClassFile.FieldType.int) 3 D [.ref a0, .int a1] h (some (.int v0)) hz := by
  refine MC.of (by decide +kernel) (Nat.le_of_ble_eq_true rfl) rfl ?_
  unfold fX14_figuresAt at hf
  show AW E yX14_figuresAt cX14_figuresAt (Option.some Jvm.ClassFile.FieldType.int) 3 D (some (.int v0)) h hz 0 [(0, .ref a0), (1, .int a1)] [] h
  refine a_iconst (v := 0) dX14_figuresAt_0 (by decide) ?_
  refine a_istore_n (lv1 := [(2, .int 0), (0, .ref a0), (1, .int a1)]) dX14_figuresAt_1 rfl (by decide) rfl ?_
  obtain ⟨v3, h2, e1, hf⟩ := ob2 hf
  refine AW.sub [1, 2, 0] rfl (sX14_figuresAt_l2 E D hD _ _ _ _ _ _ _ e1 ?_)
  refine a_iload_n (q := 0) dX14_figuresAt_55 rfl rfl ?_
  obtain ⟨rfl, rfl⟩ := oc2 hf
  exact a_ireturn dX14_figuresAt_56 rfl
def fX14_operand_l119 : Nat → Nat → Int32 → Int32 → hp → Option hp
  | 0, _, _, _, _ => none
  | n + 1, x0, x1, x2, h =>
    (gfI h x0 13 17).bind fun v1 =>
    (ckT h x0 13).bind fun _ =>
    bd2 (fX14_byteAt x0 x1 v1 h) fun v4 h5 =>
    if v4 = 39 then (
      some (h5)
    ) else (
      (gfR h5 x0 13 3).bind fun v7 =>
      (gfR h5 x0 13 2).bind fun v9 =>
      (alI h5 v9 x2).bind fun v11 =>
      (gfI h5 x0 13 17).bind fun v13 =>
      (ckT h5 x0 13).bind fun _ =>
      bd2 (fX14_byteAt x0 x1 v13 h5) fun v16 h17 =>
      (asI h17 v7 ((16 * x2) + v11) v16).bind fun h19 =>
      (gfR h19 x0 13 2).bind fun v21 =>
      (alI h19 v21 x2).bind fun v23 =>
      (asI h19 v21 x2 (v23 + 1)).bind fun h25 =>
      (gfI h25 x0 13 17).bind fun v27 =>
      (pfI h25 x0 13 17 (v27 + 1)).bind fun h29 =>
      fX14_operand_l119 n x0 x1 x2 h29
    )
def fX14_operand (a0 : Nat) (a1 : Int32) (a2 : Int32) (h : hp) : Option (Int32 × hp) :=
  (gfI h a0 13 17).bind fun v1 =>
  (ckT h a0 13).bind fun _ =>
  bd2 (fX14_byteAt a0 a1 v1 h) fun v4 h5 =>
  bd2 (fX14_isIn (v4.toInt64) 97 104 h5) fun v8 h9 =>
  if v8 = 0 then (
    if v4 = 35 then (
      (gfI h9 a0 13 17).bind fun v39 =>
      (pfI h9 a0 13 17 (v39 + 1)).bind fun h41 =>
      (gfI h41 a0 13 37).bind fun v43 =>
      if v43 = 0 then (
        some (9, h41)
      ) else (
        (gfR h41 a0 13 39).bind fun v45 =>
        (gfI h41 a0 13 37).bind fun v47 =>
        (alI h41 v45 (v47 - 1)).bind fun v49 =>
        (ckT h41 a0 13).bind fun _ =>
        (fX14_isInt a0 a2 v49 h41).bind fun h52 =>
        some (0, h52)
      )
    ) else (
      if v4 = 39 then (
        (gfR h9 a0 13 0).bind fun v21 =>
        (asI h9 v21 a2 3).bind fun h23 =>
        (gfR h23 a0 13 2).bind fun v25 =>
        (asI h23 v25 a2 0).bind fun h27 =>
        (gfI h27 a0 13 17).bind fun v29 =>
        (pfI h27 a0 13 17 (v29 + 1)).bind fun h31 =>
        (fX14_operand_l119 FU a0 a1 a2 h31).bind fun h34 =>
        (gfI h34 a0 13 17).bind fun v35 =>
        (pfI h34 a0 13 17 (v35 + 1)).bind fun h37 =>
        some (0, h37)
      ) else (
        (gfI h9 a0 13 17).bind fun v10 =>
        jn (fun (s209_0 : Int32) (h209j : hp) => (
          (pfI h209j a0 13 17 (v10 + s209_0)).bind fun h12 =>
          (ckT h12 a0 13).bind fun _ =>
          bd2 (fX14_figuresAt a0 a1 h12) fun v15 h16 =>
          jn (fun (s236_0 : Int32) (h236j : hp) => (
            (ckT h236j a0 13).bind fun _ =>
            (fX14_isInt a0 a2 s236_0 h236j).bind fun h19 =>
            some (0, h19)
            : Option (Int32 × hp))) fun k236 =>
          if v4 = 45 then (
            k236 (-v15) h16
          ) else (
            k236 v15 h16
          )
          : Option (Int32 × hp))) fun k209 =>
        if v4 = 45 then (
          k209 1 h9
        ) else (
          k209 0 h9
        )
      )
    )
  ) else (
    (ckT h9 a0 13).bind fun _ =>
    (fX14_copies a0 (v4 - 97) a2 h9).bind fun h55 =>
    (gfI h55 a0 13 17).bind fun v57 =>
    (pfI h55 a0 13 17 (v57 + 1)).bind fun h59 =>
    some (0, h59)
  )
set_option maxHeartbeats 4000000 in
set_option maxRecDepth 100000 in
theorem sX14_operand_l119 (E : gE) (D : Nat) (hD : 2 ≤ D) {rz : Option Value} {h0 hz : hp} : ∀ (n : Nat) (x0 : Nat) (x1 : Int32) (x2 : Int32) (h : hp) (hq : hp), fX14_operand_l119 n x0 x1 x2 h = some hq → (AW E yX14_operand cX14_operand (Option.some Jvm.ClassFile.FieldType.int) 5 D rz h0 hz 181 [(0, .ref x0)] [] hq) → AW E yX14_operand cX14_operand (Option.some Jvm.ClassFile.FieldType.int) 5 D rz h0 hz 119 [(0, .ref x0), (1, .int x1), (2, .int x2)] [] h := by
  intro n
  induction n with
  | zero =>
    intro x0 x1 x2 h hq hf _
    rw [fX14_operand_l119] at hf
    cases hf
  | succ n ih =>
    intro x0 x1 x2 h hq hf hk0
    rw [fX14_operand_l119] at hf
    refine a_aload_n (q := 0) dX14_operand_119 rfl rfl ?_
    refine a_iload_n (q := 1) dX14_operand_120 rfl rfl ?_
    refine a_aload_n (q := 0) dX14_operand_121 rfl rfl ?_
    obtain ⟨v1, e2, hf⟩ := obd hf
    refine o_gfI dX14_operand_122 lk_X14_341 rfl e2 ?_
    obtain ⟨_, e6, hf⟩ := obd hf
    obtain ⟨v4, h5, e3, hf⟩ := ob2 hf
    refine a_callV (as := [.int x1, .int v1]) (np := 2) (ci := 13) (st := []) (sX14_byteAt E (D - 1) (by omega) e3) dX14_operand_125 rfl (by omega) (by decide) cw_X14_344 ⟨wd_1487, ws_93⟩ rfl (ckT_s e6) rfl (Nat.le_of_ble_eq_true rfl) ?_
    refine a_bipush (v := 39) dX14_operand_128 (by decide) ?_
    refine a_icmp_eq (tgt := 181) dX14_operand_130 (by decide) (fun c => ?_) (fun c => ?_)
    · have hf := ifp c hf
      obtain rfl := Option.some.inj hf
      exact AW.sub [0] rfl (hk0)
    · have hf := ifn c hf
      refine a_aload_n (q := 0) dX14_operand_133 rfl rfl ?_
      obtain ⟨v7, e8, hf⟩ := obd hf
      refine o_gfR dX14_operand_134 lk_X14_21 rfl e8 ?_
      refine a_bipush (v := 16) dX14_operand_137 (by decide) ?_
      refine a_iload_n (q := 2) dX14_operand_139 rfl rfl ?_
      refine a_imul dX14_operand_140 ?_
      refine a_aload_n (q := 0) dX14_operand_141 rfl rfl ?_
      obtain ⟨v9, e10, hf⟩ := obd hf
      refine o_gfR dX14_operand_142 lk_X14_18 rfl e10 ?_
      refine a_iload_n (q := 2) dX14_operand_145 rfl rfl ?_
      obtain ⟨v11, e12, hf⟩ := obd hf
      refine o_alI dX14_operand_146 e12 ?_
      refine a_iadd dX14_operand_147 ?_
      refine a_aload_n (q := 0) dX14_operand_148 rfl rfl ?_
      refine a_iload_n (q := 1) dX14_operand_149 rfl rfl ?_
      refine a_aload_n (q := 0) dX14_operand_150 rfl rfl ?_
      obtain ⟨v13, e14, hf⟩ := obd hf
      refine o_gfI dX14_operand_151 lk_X14_341 rfl e14 ?_
      obtain ⟨_, e18, hf⟩ := obd hf
      obtain ⟨v16, h17, e15, hf⟩ := ob2 hf
      refine a_callV (as := [.int x1, .int v13]) (np := 2) (ci := 13) (st := [.int ((16 * x2) + v11), .ref v7]) (sX14_byteAt E (D - 1) (by omega) e15) dX14_operand_154 rfl (by omega) (by decide) cw_X14_344 ⟨wd_1487, ws_93⟩ rfl (ckT_s e18) rfl (Nat.le_of_ble_eq_true rfl) ?_
      obtain ⟨h19, e20, hf⟩ := obd hf
      refine o_asI dX14_operand_157 e20 ?_
      refine a_aload_n (q := 0) dX14_operand_158 rfl rfl ?_
      obtain ⟨v21, e22, hf⟩ := obd hf
      refine o_gfR dX14_operand_159 lk_X14_18 rfl e22 ?_
      refine a_iload_n (q := 2) dX14_operand_162 rfl rfl ?_
      refine a_dup2 dX14_operand_163 rfl rfl ?_
      obtain ⟨v23, e24, hf⟩ := obd hf
      refine o_alI dX14_operand_164 e24 ?_
      refine a_iconst (v := 1) dX14_operand_165 (by decide) ?_
      refine a_iadd dX14_operand_166 ?_
      obtain ⟨h25, e26, hf⟩ := obd hf
      refine o_asI dX14_operand_167 e26 ?_
      refine a_aload_n (q := 0) dX14_operand_168 rfl rfl ?_
      refine a_dup dX14_operand_169 rfl ?_
      obtain ⟨v27, e28, hf⟩ := obd hf
      refine o_gfI dX14_operand_170 lk_X14_341 rfl e28 ?_
      refine a_iconst (v := 1) dX14_operand_173 (by decide) ?_
      refine a_iadd dX14_operand_174 ?_
      obtain ⟨h29, e30, hf⟩ := obd hf
      refine o_pfI dX14_operand_175 lk_X14_341 (⟨_, rfl, Or.inl rfl⟩) rfl e30 ?_
      refine a_goto (tgt := 119) dX14_operand_178 (by decide) ?_
      exact (ih _ _ _ _ _ hf hk0)
set_option maxHeartbeats 4000000 in
set_option maxRecDepth 100000 in
theorem sX14_operand (E : gE) (D : Nat) (hD : 2 ≤ D) {a0 : Nat} {a1 : Int32} {a2 : Int32} {h hz : hp} {v0 : Int32} (hf : fX14_operand a0 a1 a2 h = some (v0, hz)) : MC E yX14_operand cX14_operand (Option.some Jvm.ClassFile.FieldType.int) 5 D [.ref a0, .int a1, .int a2] h (some (.int v0)) hz := by
  refine MC.of (by decide +kernel) (Nat.le_of_ble_eq_true rfl) rfl ?_
  unfold fX14_operand at hf
  show AW E yX14_operand cX14_operand (Option.some Jvm.ClassFile.FieldType.int) 5 D (some (.int v0)) h hz 0 [(0, .ref a0), (1, .int a1), (2, .int a2)] [] h
  refine a_aload_n (q := 0) dX14_operand_0 rfl rfl ?_
  refine a_iload_n (q := 1) dX14_operand_1 rfl rfl ?_
  refine a_aload_n (q := 0) dX14_operand_2 rfl rfl ?_
  obtain ⟨v1, e2, hf⟩ := obd hf
  refine o_gfI dX14_operand_3 lk_X14_341 rfl e2 ?_
  obtain ⟨_, e6, hf⟩ := obd hf
  obtain ⟨v4, h5, e3, hf⟩ := ob2 hf
  refine a_callV (as := [.int a1, .int v1]) (np := 2) (ci := 13) (st := []) (sX14_byteAt E (D - 1) (by omega) e3) dX14_operand_6 rfl (by omega) (by decide) cw_X14_344 ⟨wd_1487, ws_93⟩ rfl (ckT_s e6) rfl (Nat.le_of_ble_eq_true rfl) ?_
  refine a_istore_n (lv1 := [(3, .int v4), (0, .ref a0), (1, .int a1), (2, .int a2)]) dX14_operand_9 rfl (by decide) rfl ?_
  refine a_iload_n (q := 0) dX14_operand_10 rfl rfl ?_
  refine a_i2l dX14_operand_11 rfl ?_
  refine a_ldc2 (v := 97) dX14_operand_12 wd_1379 ?_
  refine a_ldc2 (v := 104) dX14_operand_15 wd_1380 ?_
  obtain ⟨v8, h9, e7, hf⟩ := ob2 hf
  refine a_callS (as := [.long (v4.toInt64), .long 97, .long 104]) (np := 3) (st := []) (sX14_isIn E (D - 1) (by omega) e7) dX14_operand_18 rfl (by omega) (by decide) cw_X14_155 wd_1324 rfl (Nat.le_of_ble_eq_true rfl) ?_
  refine a_if_eq (tgt := 45) dX14_operand_21 (by decide) (fun c => ?_) (fun c => ?_)
  · have hf := ifp c hf
    refine a_iload_n (q := 0) dX14_operand_45 rfl rfl ?_
    refine a_bipush (v := 35) dX14_operand_46 (by decide) ?_
    refine a_icmp_ne (tgt := 89) dX14_operand_48 (by decide) (fun c => ?_) (fun c => ?_)
    · have hf := ifn c hf
      refine a_iload_n (q := 0) dX14_operand_89 rfl rfl ?_
      refine a_bipush (v := 39) dX14_operand_90 (by decide) ?_
      refine a_icmp_ne (tgt := 193) dX14_operand_92 (by decide) (fun c => ?_) (fun c => ?_)
      · have hf := ifn c hf
        refine a_aload_n (q := 1) dX14_operand_193 rfl rfl ?_
        refine a_dup dX14_operand_194 rfl ?_
        obtain ⟨v10, e11, hf⟩ := obd hf
        refine o_gfI dX14_operand_195 lk_X14_341 rfl e11 ?_
        refine a_iload_n (q := 0) dX14_operand_198 rfl rfl ?_
        refine a_bipush (v := 45) dX14_operand_199 (by decide) ?_
        obtain ⟨k209, ek209, hf⟩ := jn_s hf
        have hj209 : ∀ (s209_0 : Int32) (h209j : hp), k209 s209_0 h209j = some (v0, hz) → AW E yX14_operand cX14_operand (Option.some Jvm.ClassFile.FieldType.int) 5 D (some (.int v0)) h hz 209 [(0, .ref a0), (1, .int a1), (2, .int a2), (3, .int v4)] [.int s209_0, .int v10, .ref a0] h209j := by
          intro s209_0 h209j hf
          rw [ek209] at hf
          clear ek209
          refine a_iadd dX14_operand_209 ?_
          obtain ⟨h12, e13, hf⟩ := obd hf
          refine o_pfI dX14_operand_210 lk_X14_341 (⟨_, rfl, Or.inl rfl⟩) rfl e13 ?_
          refine a_aload_n (q := 0) dX14_operand_213 rfl rfl ?_
          refine a_iload_n (q := 1) dX14_operand_214 rfl rfl ?_
          obtain ⟨_, e17, hf⟩ := obd hf
          obtain ⟨v15, h16, e14, hf⟩ := ob2 hf
          refine a_callV (as := [.int a1]) (np := 1) (ci := 13) (st := []) (sX14_figuresAt E (D - 1) (by omega) e14) dX14_operand_215 rfl (by omega) (by decide) cw_X14_353 ⟨wd_1519, ws_101⟩ rfl (ckT_s e17) rfl (Nat.le_of_ble_eq_true rfl) ?_
          refine a_istore (lv1 := [(4, .int v15), (0, .ref a0), (1, .int a1), (2, .int a2), (3, .int v4)]) dX14_operand_218 (by decide) rfl ?_
          refine a_aload_n (q := 1) dX14_operand_220 rfl rfl ?_
          refine a_iload_n (q := 3) dX14_operand_221 rfl rfl ?_
          refine a_iload_n (q := 4) dX14_operand_222 rfl rfl ?_
          refine a_bipush (v := 45) dX14_operand_223 (by decide) ?_
          obtain ⟨k236, ek236, hf⟩ := jn_s hf
          have hj236 : ∀ (s236_0 : Int32) (h236j : hp), k236 s236_0 h236j = some (v0, hz) → AW E yX14_operand cX14_operand (Option.some Jvm.ClassFile.FieldType.int) 5 D (some (.int v0)) h hz 236 [] [.int s236_0, .int a2, .ref a0] h236j := by
            intro s236_0 h236j hf
            rw [ek236] at hf
            clear ek236
            obtain ⟨_, e20, hf⟩ := obd hf
            obtain ⟨h19, e18, hf⟩ := obd hf
            refine a_callV (as := [.int a2, .int s236_0]) (np := 2) (ci := 13) (st := []) (sX14_isInt E (D - 1) (by omega) e18) dX14_operand_236 rfl (by omega) (by decide) cw_X14_171 ⟨wd_1515, ws_100⟩ rfl (ckT_s e20) rfl (Nat.le_of_ble_eq_true rfl) ?_
            refine a_iconst (v := 0) dX14_operand_239 (by decide) ?_
            obtain ⟨rfl, rfl⟩ := oc2 hf
            exact a_ireturn dX14_operand_240 rfl
          clear ek236
          refine a_icmp_ne (tgt := 234) dX14_operand_225 (by decide) (fun c => ?_) (fun c => ?_)
          · have hf := ifn c hf
            refine a_iload (q := 0) dX14_operand_234 rfl ?_
            exact AW.sub [] rfl (hj236 _ _ hf)
          · have hf := ifp c hf
            refine a_iload (q := 0) dX14_operand_228 rfl ?_
            refine a_ineg dX14_operand_230 ?_
            refine a_goto (tgt := 236) dX14_operand_231 (by decide) ?_
            exact AW.sub [] rfl (hj236 _ _ hf)
        clear ek209
        refine a_icmp_ne (tgt := 208) dX14_operand_201 (by decide) (fun c => ?_) (fun c => ?_)
        · have hf := ifn c hf
          refine a_iconst (v := 0) dX14_operand_208 (by decide) ?_
          exact AW.sub [1, 2, 3, 0] rfl (hj209 _ _ hf)
        · have hf := ifp c hf
          refine a_iconst (v := 1) dX14_operand_204 (by decide) ?_
          refine a_goto (tgt := 209) dX14_operand_205 (by decide) ?_
          exact AW.sub [1, 2, 3, 0] rfl (hj209 _ _ hf)
      · have hf := ifp c hf
        refine a_aload_n (q := 1) dX14_operand_95 rfl rfl ?_
        obtain ⟨v21, e22, hf⟩ := obd hf
        refine o_gfR dX14_operand_96 lk_X14_11 rfl e22 ?_
        refine a_iload_n (q := 3) dX14_operand_99 rfl rfl ?_
        refine a_iconst (v := 3) dX14_operand_100 (by decide) ?_
        obtain ⟨h23, e24, hf⟩ := obd hf
        refine o_asI dX14_operand_101 e24 ?_
        refine a_aload_n (q := 1) dX14_operand_102 rfl rfl ?_
        obtain ⟨v25, e26, hf⟩ := obd hf
        refine o_gfR dX14_operand_103 lk_X14_18 rfl e26 ?_
        refine a_iload_n (q := 3) dX14_operand_106 rfl rfl ?_
        refine a_iconst (v := 0) dX14_operand_107 (by decide) ?_
        obtain ⟨h27, e28, hf⟩ := obd hf
        refine o_asI dX14_operand_108 e28 ?_
        refine a_aload_n (q := 1) dX14_operand_109 rfl rfl ?_
        refine a_dup dX14_operand_110 rfl ?_
        obtain ⟨v29, e30, hf⟩ := obd hf
        refine o_gfI dX14_operand_111 lk_X14_341 rfl e30 ?_
        refine a_iconst (v := 1) dX14_operand_114 (by decide) ?_
        refine a_iadd dX14_operand_115 ?_
        obtain ⟨h31, e32, hf⟩ := obd hf
        refine o_pfI dX14_operand_116 lk_X14_341 (⟨_, rfl, Or.inl rfl⟩) rfl e32 ?_
        obtain ⟨h34, e33, hf⟩ := obd hf
        refine AW.sub [1, 2, 3] rfl (sX14_operand_l119 E D hD _ _ _ _ _ _ e33 ?_)
        refine a_aload_n (q := 0) dX14_operand_181 rfl rfl ?_
        refine a_dup dX14_operand_182 rfl ?_
        obtain ⟨v35, e36, hf⟩ := obd hf
        refine o_gfI dX14_operand_183 lk_X14_341 rfl e36 ?_
        refine a_iconst (v := 1) dX14_operand_186 (by decide) ?_
        refine a_iadd dX14_operand_187 ?_
        obtain ⟨h37, e38, hf⟩ := obd hf
        refine o_pfI dX14_operand_188 lk_X14_341 (⟨_, rfl, Or.inl rfl⟩) rfl e38 ?_
        refine a_iconst (v := 0) dX14_operand_191 (by decide) ?_
        obtain ⟨rfl, rfl⟩ := oc2 hf
        exact a_ireturn dX14_operand_192 rfl
    · have hf := ifp c hf
      refine a_aload_n (q := 1) dX14_operand_51 rfl rfl ?_
      refine a_dup dX14_operand_52 rfl ?_
      obtain ⟨v39, e40, hf⟩ := obd hf
      refine o_gfI dX14_operand_53 lk_X14_341 rfl e40 ?_
      refine a_iconst (v := 1) dX14_operand_56 (by decide) ?_
      refine a_iadd dX14_operand_57 ?_
      obtain ⟨h41, e42, hf⟩ := obd hf
      refine o_pfI dX14_operand_58 lk_X14_341 (⟨_, rfl, Or.inl rfl⟩) rfl e42 ?_
      refine a_aload_n (q := 1) dX14_operand_61 rfl rfl ?_
      obtain ⟨v43, e44, hf⟩ := obd hf
      refine o_gfI dX14_operand_62 lk_X14_350 rfl e44 ?_
      refine a_if_ne (tgt := 71) dX14_operand_65 (by decide) (fun c => ?_) (fun c => ?_)
      · have hf := ifn c hf
        refine a_aload_n (q := 1) dX14_operand_71 rfl rfl ?_
        refine a_iload_n (q := 3) dX14_operand_72 rfl rfl ?_
        refine a_aload_n (q := 1) dX14_operand_73 rfl rfl ?_
        obtain ⟨v45, e46, hf⟩ := obd hf
        refine o_gfR dX14_operand_74 lk_X14_80 rfl e46 ?_
        refine a_aload_n (q := 1) dX14_operand_77 rfl rfl ?_
        obtain ⟨v47, e48, hf⟩ := obd hf
        refine o_gfI dX14_operand_78 lk_X14_350 rfl e48 ?_
        refine a_iconst (v := 1) dX14_operand_81 (by decide) ?_
        refine a_isub dX14_operand_82 ?_
        obtain ⟨v49, e50, hf⟩ := obd hf
        refine o_alI dX14_operand_83 e50 ?_
        obtain ⟨_, e53, hf⟩ := obd hf
        obtain ⟨h52, e51, hf⟩ := obd hf
        refine a_callV (as := [.int a2, .int v49]) (np := 2) (ci := 13) (st := []) (sX14_isInt E (D - 1) (by omega) e51) dX14_operand_84 rfl (by omega) (by decide) cw_X14_171 ⟨wd_1515, ws_100⟩ rfl (ckT_s e53) rfl (Nat.le_of_ble_eq_true rfl) ?_
        refine a_iconst (v := 0) dX14_operand_87 (by decide) ?_
        obtain ⟨rfl, rfl⟩ := oc2 hf
        exact a_ireturn dX14_operand_88 rfl
      · have hf := ifp c hf
        refine a_bipush (v := 9) dX14_operand_68 (by decide) ?_
        obtain ⟨rfl, rfl⟩ := oc2 hf
        exact a_ireturn dX14_operand_70 rfl
  · have hf := ifn c hf
    refine a_aload_n (q := 1) dX14_operand_24 rfl rfl ?_
    refine a_iload_n (q := 0) dX14_operand_25 rfl rfl ?_
    refine a_bipush (v := 97) dX14_operand_26 (by decide) ?_
    refine a_isub dX14_operand_28 ?_
    refine a_iload_n (q := 3) dX14_operand_29 rfl rfl ?_
    obtain ⟨_, e56, hf⟩ := obd hf
    obtain ⟨h55, e54, hf⟩ := obd hf
    refine a_callV (as := [.int (v4 - 97), .int a2]) (np := 2) (ci := 13) (st := []) (sX14_copies E (D - 1) (by omega) e54) dX14_operand_30 rfl (by omega) (by decide) cw_X14_347 ⟨wd_1511, ws_99⟩ rfl (ckT_s e56) rfl (Nat.le_of_ble_eq_true rfl) ?_
    refine a_aload_n (q := 1) dX14_operand_33 rfl rfl ?_
    refine a_dup dX14_operand_34 rfl ?_
    obtain ⟨v57, e58, hf⟩ := obd hf
    refine o_gfI dX14_operand_35 lk_X14_341 rfl e58 ?_
    refine a_iconst (v := 1) dX14_operand_38 (by decide) ?_
    refine a_iadd dX14_operand_39 ?_
    obtain ⟨h59, e60, hf⟩ := obd hf
    refine o_pfI dX14_operand_40 lk_X14_341 (⟨_, rfl, Or.inl rfl⟩) rfl e60 ?_
    refine a_iconst (v := 0) dX14_operand_43 (by decide) ?_
    obtain ⟨rfl, rfl⟩ := oc2 hf
    exact a_ireturn dX14_operand_44 rfl
def fX14_worksOut_l41 : Nat → Nat → Int32 → Int32 → Int32 → hp → Option hp
  | 0, _, _, _, _, _ => none
  | n + 1, x0, x1, x2, x4, h =>
    (gfI h x0 13 17).bind fun v1 =>
    (ckT h x0 13).bind fun _ =>
    bd2 (fX14_byteAt x0 x1 v1 h) fun v4 h5 =>
    bd2 (fX14_isIn (v4.toInt64) 97 122 h5) fun v8 h9 =>
    if v8 = 0 then (
      some (h9)
    ) else (
      (gfI h9 x0 13 17).bind fun v10 =>
      (pfI h9 x0 13 17 (v10 + 1)).bind fun h12 =>
      fX14_worksOut_l41 n x0 x1 x2 x4 h12
    )
def fX14_worksOut_l7 : Nat → Nat → Int32 → Int32 → Int32 → hp → Option (Int32 × hp)
  | 0, _, _, _, _, _ => none
  | n + 1, x0, x1, x2, x3, h =>
    if x3 = 0 then (
      (gfI h x0 13 17).bind fun v1 =>
      (ckT h x0 13).bind fun _ =>
      bd2 (fX14_byteAt x0 x1 v1 h) fun v4 h5 =>
      if v4 = 124 then (
        (gfI h5 x0 13 17).bind fun v7 =>
        (pfI h5 x0 13 17 (v7 + 1)).bind fun h9 =>
        (gfI h9 x0 13 17).bind fun v11 =>
        (fX14_worksOut_l41 FU x0 x1 x2 v11 h9).bind fun h14 =>
        (gfR h14 x0 13 8).bind fun v15 =>
        (pfR h14 x0 13 11 v15).bind fun h17 =>
        (pfI h17 x0 13 12 (160 * x1)).bind fun h19 =>
        (gfI h19 x0 13 17).bind fun v21 =>
        (ckT h19 x0 13).bind fun _ =>
        bd2 (fX14_nameAt x0 v11 v21 h19) fun v24 h25 =>
        jn (fun (p132_6 : Int32) (h132j : hp) => (
          (ckT h132j x0 13).bind fun _ =>
          bd2 (fX14_filtered x0 x2 v24 p132_6 h132j) fun v28 h29 =>
          fX14_worksOut_l7 n x0 x1 x2 v28 h29
          : Option (Int32 × hp))) fun k132 =>
        if v24 < 13 then (
          k132 0 h25
        ) else (
          (gfI h25 x0 13 17).bind fun v31 =>
          (pfI h25 x0 13 17 (v31 + 1)).bind fun h33 =>
          (ckT h33 x0 13).bind fun _ =>
          bd2 (fX14_figuresAt x0 x1 h33) fun v36 h37 =>
          k132 v36 h37
        )
      ) else (
        some (x3, h5)
      )
    ) else (
      some (x3, h)
    )
def fX14_worksOut (a0 : Nat) (a1 : Int32) (a2 : Int32) (h : hp) : Option (Int32 × hp) :=
  (ckT h a0 13).bind fun _ =>
  bd2 (fX14_operand a0 a1 a2 h) fun v2 h3 =>
  bd2 (fX14_worksOut_l7 FU a0 a1 a2 v2 h3) fun v7 h6 =>
  some (v7, h6)
set_option maxHeartbeats 4000000 in
set_option maxRecDepth 100000 in
theorem sX14_worksOut_l41 (E : gE) (D : Nat) (hD : 6 ≤ D) {rz : Option Value} {h0 hz : hp} : ∀ (n : Nat) (x0 : Nat) (x1 : Int32) (x2 : Int32) (x4 : Int32) (h : hp) (hq : hp), fX14_worksOut_l41 n x0 x1 x2 x4 h = some hq → (AW E yX14_worksOut cX14_worksOut (Option.some Jvm.ClassFile.FieldType.int) 7 D rz h0 hz 76 [(0, .ref x0), (1, .int x1), (2, .int x2), (4, .int x4)] [] hq) → AW E yX14_worksOut cX14_worksOut (Option.some Jvm.ClassFile.FieldType.int) 7 D rz h0 hz 41 [(0, .ref x0), (1, .int x1), (2, .int x2), (4, .int x4)] [] h := by
  intro n
  induction n with
  | zero =>
    intro x0 x1 x2 x4 h hq hf _
    rw [fX14_worksOut_l41] at hf
    cases hf
  | succ n ih =>
    intro x0 x1 x2 x4 h hq hf hk0
    rw [fX14_worksOut_l41] at hf
    refine a_aload_n (q := 0) dX14_worksOut_41 rfl rfl ?_
    refine a_iload_n (q := 1) dX14_worksOut_42 rfl rfl ?_
    refine a_aload_n (q := 0) dX14_worksOut_43 rfl rfl ?_
    obtain ⟨v1, e2, hf⟩ := obd hf
    refine o_gfI dX14_worksOut_44 lk_X14_341 rfl e2 ?_
    obtain ⟨_, e6, hf⟩ := obd hf
    obtain ⟨v4, h5, e3, hf⟩ := ob2 hf
    refine a_callV (as := [.int x1, .int v1]) (np := 2) (ci := 13) (st := []) (sX14_byteAt E (D - 1) (by omega) e3) dX14_worksOut_47 rfl (by omega) (by decide) cw_X14_344 ⟨wd_1487, ws_93⟩ rfl (ckT_s e6) rfl (Nat.le_of_ble_eq_true rfl) ?_
    refine a_i2l dX14_worksOut_50 rfl ?_
    refine a_ldc2 (v := 97) dX14_worksOut_51 wd_1379 ?_
    refine a_ldc2 (v := 122) dX14_worksOut_54 wd_1395 ?_
    obtain ⟨v8, h9, e7, hf⟩ := ob2 hf
    refine a_callS (as := [.long (v4.toInt64), .long 97, .long 122]) (np := 3) (st := []) (sX14_isIn E (D - 1) (by omega) e7) dX14_worksOut_57 rfl (by omega) (by decide) cw_X14_155 wd_1324 rfl (Nat.le_of_ble_eq_true rfl) ?_
    refine a_if_eq (tgt := 76) dX14_worksOut_60 (by decide) (fun c => ?_) (fun c => ?_)
    · have hf := ifp c hf
      obtain rfl := Option.some.inj hf
      exact hk0
    · have hf := ifn c hf
      refine a_aload_n (q := 0) dX14_worksOut_63 rfl rfl ?_
      refine a_dup dX14_worksOut_64 rfl ?_
      obtain ⟨v10, e11, hf⟩ := obd hf
      refine o_gfI dX14_worksOut_65 lk_X14_341 rfl e11 ?_
      refine a_iconst (v := 1) dX14_worksOut_68 (by decide) ?_
      refine a_iadd dX14_worksOut_69 ?_
      obtain ⟨h12, e13, hf⟩ := obd hf
      refine o_pfI dX14_worksOut_70 lk_X14_341 (⟨_, rfl, Or.inl rfl⟩) rfl e13 ?_
      refine a_goto (tgt := 41) dX14_worksOut_73 (by decide) ?_
      exact (ih _ _ _ _ _ _ hf hk0)
set_option maxHeartbeats 4000000 in
set_option maxRecDepth 100000 in
theorem sX14_worksOut_l7 (E : gE) (D : Nat) (hD : 6 ≤ D) {rz : Option Value} {h0 hz : hp} : ∀ (n : Nat) (x0 : Nat) (x1 : Int32) (x2 : Int32) (x3 : Int32) (h : hp) (m3 : Int32) (hq : hp), fX14_worksOut_l7 n x0 x1 x2 x3 h = some (m3, hq) → (AW E yX14_worksOut cX14_worksOut (Option.some Jvm.ClassFile.FieldType.int) 7 D rz h0 hz 145 [(3, .int m3)] [] hq) → AW E yX14_worksOut cX14_worksOut (Option.some Jvm.ClassFile.FieldType.int) 7 D rz h0 hz 7 [(0, .ref x0), (1, .int x1), (2, .int x2), (3, .int x3)] [] h := by
  intro n
  induction n with
  | zero =>
    intro x0 x1 x2 x3 h m3 hq hf _
    rw [fX14_worksOut_l7] at hf
    cases hf
  | succ n ih =>
    intro x0 x1 x2 x3 h m3 hq hf hk0
    rw [fX14_worksOut_l7] at hf
    refine a_iload_n (q := 3) dX14_worksOut_7 rfl rfl ?_
    refine a_if_ne (tgt := 145) dX14_worksOut_8 (by decide) (fun c => ?_) (fun c => ?_)
    · have hf := ifn c hf
      obtain ⟨rfl, rfl⟩ := oc2 hf
      exact AW.sub [3] rfl (hk0)
    · have hf := ifp c hf
      refine a_aload_n (q := 0) dX14_worksOut_11 rfl rfl ?_
      refine a_iload_n (q := 1) dX14_worksOut_12 rfl rfl ?_
      refine a_aload_n (q := 0) dX14_worksOut_13 rfl rfl ?_
      obtain ⟨v1, e2, hf⟩ := obd hf
      refine o_gfI dX14_worksOut_14 lk_X14_341 rfl e2 ?_
      obtain ⟨_, e6, hf⟩ := obd hf
      obtain ⟨v4, h5, e3, hf⟩ := ob2 hf
      refine a_callV (as := [.int x1, .int v1]) (np := 2) (ci := 13) (st := []) (sX14_byteAt E (D - 1) (by omega) e3) dX14_worksOut_17 rfl (by omega) (by decide) cw_X14_344 ⟨wd_1487, ws_93⟩ rfl (ckT_s e6) rfl (Nat.le_of_ble_eq_true rfl) ?_
      refine a_bipush (v := 124) dX14_worksOut_20 (by decide) ?_
      refine a_icmp_ne (tgt := 145) dX14_worksOut_22 (by decide) (fun c => ?_) (fun c => ?_)
      · have hf := ifn c hf
        obtain ⟨rfl, rfl⟩ := oc2 hf
        exact AW.sub [3] rfl (hk0)
      · have hf := ifp c hf
        refine a_aload_n (q := 0) dX14_worksOut_25 rfl rfl ?_
        refine a_dup dX14_worksOut_26 rfl ?_
        obtain ⟨v7, e8, hf⟩ := obd hf
        refine o_gfI dX14_worksOut_27 lk_X14_341 rfl e8 ?_
        refine a_iconst (v := 1) dX14_worksOut_30 (by decide) ?_
        refine a_iadd dX14_worksOut_31 ?_
        obtain ⟨h9, e10, hf⟩ := obd hf
        refine o_pfI dX14_worksOut_32 lk_X14_341 (⟨_, rfl, Or.inl rfl⟩) rfl e10 ?_
        refine a_aload_n (q := 0) dX14_worksOut_35 rfl rfl ?_
        obtain ⟨v11, e12, hf⟩ := obd hf
        refine o_gfI dX14_worksOut_36 lk_X14_341 rfl e12 ?_
        refine a_istore (lv1 := [(4, .int v11), (0, .ref x0), (1, .int x1), (2, .int x2), (3, .int x3)]) dX14_worksOut_39 (by decide) rfl ?_
        obtain ⟨h14, e13, hf⟩ := obd hf
        refine AW.sub [1, 2, 3, 0] rfl (sX14_worksOut_l41 E D hD _ _ _ _ _ _ _ e13 ?_)
        refine a_aload_n (q := 0) dX14_worksOut_76 rfl rfl ?_
        refine a_aload_n (q := 0) dX14_worksOut_77 rfl rfl ?_
        obtain ⟨v15, e16, hf⟩ := obd hf
        refine o_gfR dX14_worksOut_78 lk_X14_34 rfl e16 ?_
        obtain ⟨h17, e18, hf⟩ := obd hf
        refine o_pfR dX14_worksOut_81 lk_X14_40 (⟨_, rfl, Or.inl rfl⟩) rfl e18 ?_
        refine a_aload_n (q := 0) dX14_worksOut_84 rfl rfl ?_
        refine a_sipush (v := 160) dX14_worksOut_85 (by decide) ?_
        refine a_iload_n (q := 1) dX14_worksOut_88 rfl rfl ?_
        refine a_imul dX14_worksOut_89 ?_
        obtain ⟨h19, e20, hf⟩ := obd hf
        refine o_pfI dX14_worksOut_90 lk_X14_232 (⟨_, rfl, Or.inl rfl⟩) rfl e20 ?_
        refine a_aload_n (q := 0) dX14_worksOut_93 rfl rfl ?_
        refine a_iload (q := 3) dX14_worksOut_94 rfl ?_
        refine a_aload_n (q := 0) dX14_worksOut_96 rfl rfl ?_
        obtain ⟨v21, e22, hf⟩ := obd hf
        refine o_gfI dX14_worksOut_97 lk_X14_341 rfl e22 ?_
        obtain ⟨_, e26, hf⟩ := obd hf
        obtain ⟨v24, h25, e23, hf⟩ := ob2 hf
        refine a_callV (as := [.int v11, .int v21]) (np := 2) (ci := 13) (st := []) (sX14_nameAt E (D - 1) (by omega) e23) dX14_worksOut_100 rfl (by omega) (by decide) cw_X14_270 ⟨wd_1398, ws_76⟩ rfl (ckT_s e26) rfl (Nat.le_of_ble_eq_true rfl) ?_
        refine a_istore (lv1 := [(5, .int v24), (0, .ref x0), (1, .int x1), (2, .int x2), (4, .int v11)]) dX14_worksOut_103 (by decide) rfl ?_
        refine a_iconst (v := 0) dX14_worksOut_105 (by decide) ?_
        refine a_istore (lv1 := [(6, .int 0), (5, .int v24), (0, .ref x0), (1, .int x1), (2, .int x2), (4, .int v11)]) dX14_worksOut_106 (by decide) rfl ?_
        refine a_iload (q := 1) dX14_worksOut_108 rfl ?_
        refine a_bipush (v := 13) dX14_worksOut_110 (by decide) ?_
        obtain ⟨k132, ek132, hf⟩ := jn_s hf
        have hj132 : ∀ (p132_6 : Int32) (h132j : hp), k132 p132_6 h132j = some (m3, hq) → AW E yX14_worksOut cX14_worksOut (Option.some Jvm.ClassFile.FieldType.int) 7 D rz h0 hz 132 [(0, .ref x0), (1, .int x1), (2, .int x2), (5, .int v24), (6, .int p132_6)] [] h132j := by
          intro p132_6 h132j hf
          rw [ek132] at hf
          clear ek132
          refine a_aload_n (q := 0) dX14_worksOut_132 rfl rfl ?_
          refine a_iload_n (q := 2) dX14_worksOut_133 rfl rfl ?_
          refine a_iload (q := 3) dX14_worksOut_134 rfl ?_
          refine a_iload (q := 4) dX14_worksOut_136 rfl ?_
          obtain ⟨_, e30, hf⟩ := obd hf
          obtain ⟨v28, h29, e27, hf⟩ := ob2 hf
          refine a_callV (as := [.int x2, .int v24, .int p132_6]) (np := 3) (ci := 13) (st := []) (sX14_filtered E (D - 1) (by omega) e27) dX14_worksOut_138 rfl (by omega) (by decide) cw_X14_359 ⟨wd_1523, ws_102⟩ rfl (ckT_s e30) rfl (Nat.le_of_ble_eq_true rfl) ?_
          refine a_istore_n (lv1 := [(3, .int v28), (0, .ref x0), (1, .int x1), (2, .int x2), (5, .int v24), (6, .int p132_6)]) dX14_worksOut_141 rfl (by decide) rfl ?_
          refine a_goto (tgt := 7) dX14_worksOut_142 (by decide) ?_
          exact AW.sub [1, 2, 3, 0] rfl (ih _ _ _ _ _ _ _ hf hk0)
        clear ek132
        refine a_icmp_lt (tgt := 132) dX14_worksOut_112 (by decide) (fun c => ?_) (fun c => ?_)
        · have hf := ifp c hf
          exact AW.sub [2, 3, 4, 1, 0] rfl (hj132 _ _ hf)
        · have hf := ifn c hf
          refine a_aload_n (q := 2) dX14_worksOut_115 rfl rfl ?_
          refine a_dup dX14_worksOut_116 rfl ?_
          obtain ⟨v31, e32, hf⟩ := obd hf
          refine o_gfI dX14_worksOut_117 lk_X14_341 rfl e32 ?_
          refine a_iconst (v := 1) dX14_worksOut_120 (by decide) ?_
          refine a_iadd dX14_worksOut_121 ?_
          obtain ⟨h33, e34, hf⟩ := obd hf
          refine o_pfI dX14_worksOut_122 lk_X14_341 (⟨_, rfl, Or.inl rfl⟩) rfl e34 ?_
          refine a_aload_n (q := 2) dX14_worksOut_125 rfl rfl ?_
          refine a_iload_n (q := 3) dX14_worksOut_126 rfl rfl ?_
          obtain ⟨_, e38, hf⟩ := obd hf
          obtain ⟨v36, h37, e35, hf⟩ := ob2 hf
          refine a_callV (as := [.int x1]) (np := 1) (ci := 13) (st := []) (sX14_figuresAt E (D - 1) (by omega) e35) dX14_worksOut_127 rfl (by omega) (by decide) cw_X14_353 ⟨wd_1519, ws_101⟩ rfl (ckT_s e38) rfl (Nat.le_of_ble_eq_true rfl) ?_
          refine a_istore (lv1 := [(6, .int v36), (5, .int v24), (0, .ref x0), (1, .int x1), (2, .int x2), (4, .int v11)]) dX14_worksOut_130 (by decide) rfl ?_
          exact AW.sub [2, 3, 4, 1, 0] rfl (hj132 _ _ hf)
set_option maxHeartbeats 4000000 in
set_option maxRecDepth 100000 in
theorem sX14_worksOut (E : gE) (D : Nat) (hD : 6 ≤ D) {a0 : Nat} {a1 : Int32} {a2 : Int32} {h hz : hp} {v0 : Int32} (hf : fX14_worksOut a0 a1 a2 h = some (v0, hz)) : MC E yX14_worksOut cX14_worksOut (Option.some Jvm.ClassFile.FieldType.int) 7 D [.ref a0, .int a1, .int a2] h (some (.int v0)) hz := by
  refine MC.of (by decide +kernel) (Nat.le_of_ble_eq_true rfl) rfl ?_
  unfold fX14_worksOut at hf
  show AW E yX14_worksOut cX14_worksOut (Option.some Jvm.ClassFile.FieldType.int) 7 D (some (.int v0)) h hz 0 [(0, .ref a0), (1, .int a1), (2, .int a2)] [] h
  refine a_aload_n (q := 0) dX14_worksOut_0 rfl rfl ?_
  refine a_iload_n (q := 1) dX14_worksOut_1 rfl rfl ?_
  refine a_iload_n (q := 2) dX14_worksOut_2 rfl rfl ?_
  obtain ⟨_, e4, hf⟩ := obd hf
  obtain ⟨v2, h3, e1, hf⟩ := ob2 hf
  refine a_callV (as := [.int a1, .int a2]) (np := 2) (ci := 13) (st := []) (sX14_operand E (D - 1) (by omega) e1) dX14_worksOut_3 rfl (by omega) (by decide) cw_X14_356 ⟨wd_1507, ws_98⟩ rfl (ckT_s e4) rfl (Nat.le_of_ble_eq_true rfl) ?_
  refine a_istore_n (lv1 := [(3, .int v2), (0, .ref a0), (1, .int a1), (2, .int a2)]) dX14_worksOut_6 rfl (by decide) rfl ?_
  obtain ⟨v7, h6, e5, hf⟩ := ob2 hf
  refine AW.sub [1, 2, 3, 0] rfl (sX14_worksOut_l7 E D hD _ _ _ _ _ _ _ _ e5 ?_)
  refine a_iload_n (q := 0) dX14_worksOut_145 rfl rfl ?_
  obtain ⟨rfl, rfl⟩ := oc2 hf
  exact a_ireturn dX14_worksOut_146 rfl
