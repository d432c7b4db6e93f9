abbrev gG2 : Type := (Nat → Int32 → Int32 → Int32 → hp → Option (Int32 × hp)) × (Nat → Int32 → Int32 → hp → Option (Int32 × hp)) × (Nat → Int32 → Int32 → hp → Option (Int32 × hp))
def gG2_ok (E : gE) (D : Nat) (g : gG2) : Prop :=
  (∀ (a0 : Nat) (a1 : Int32) (a2 : Int32) (a3 : Int32) (h : hp) (v0 : Int32) (hz : hp), g.1 a0 a1 a2 a3 h = some (v0, hz) → MC E yX14_isBodyRead cX14_isBodyRead (Option.some Jvm.ClassFile.FieldType.boolean) 4 D [.ref a0, .int a1, .int a2, .int a3] h (some (.int v0)) hz) ∧
  (∀ (a0 : Nat) (a1 : Int32) (a2 : Int32) (h : hp) (v0 : Int32) (hz : hp), g.2.1 a0 a1 a2 h = some (v0, hz) → MC E yX14_isPieceRead cX14_isPieceRead (Option.some Jvm.ClassFile.FieldType.boolean) 5 D [.ref a0, .int a1, .int a2] h (some (.int v0)) hz) ∧
  (∀ (a0 : Nat) (a1 : Int32) (a2 : Int32) (h : hp) (v0 : Int32) (hz : hp), g.2.2 a0 a1 a2 h = some (v0, hz) → MC E yX14_isTemplateRead cX14_isTemplateRead (Option.some Jvm.ClassFile.FieldType.boolean) 4 D [.ref a0, .int a1, .int a2] h (some (.int v0)) hz)
def fX14_isBodyRead_b (g : gG2) (a0 : Nat) (a1 : Int32) (a2 : Int32) (a3 : Int32) (h : hp) : Option (Int32 × hp) :=
  (ckT h a0 13).bind fun _ =>
  bd2 (fX14_isSign a0 125 h) fun v2 h3 =>
  if v2 = 0 then (
    some (0, h3)
  ) else (
    (ckT h3 a0 13).bind fun _ =>
    bd2 (g.2.2 a0 (a1 + 1) a2 h3) fun v6 h7 =>
    if v6 = 0 then (
      some (0, h7)
    ) else (
      jn (fun (h77j : hp) => (
        (gfI h77j a0 13 14).bind fun v9 =>
        (gfI h77j a0 13 13).bind fun v11 =>
        if v9 = v11 then (
          (gfI h77j a0 13 13).bind fun v25 =>
          (ckT h77j a0 13).bind fun _ =>
          bd2 (fX14_fails a0 v25 h77j) fun v28 h29 =>
          (zck v28).bind fun _ =>
          some (v28, h29)
        ) else (
          (gfI h77j a0 13 14).bind fun v13 =>
          (pfI h77j a0 13 14 (v13 + 1)).bind fun h15 =>
          (ckT h15 a0 13).bind fun _ =>
          bd2 (fX14_isSign a0 47 h15) fun v18 h19 =>
          if v18 = 0 then (
            some (0, h19)
          ) else (
            (ckT h19 a0 13).bind fun _ =>
            bd2 (fX14_isSign a0 125 h19) fun v22 h23 =>
            if v22 = 0 then (
              some (0, h23)
            ) else (
              some (1, h23)
            )
          )
        )
        : Option (Int32 × hp))) fun k77 =>
      if a3 = 0 then (
        k77 h7
      ) else (
        (ckT h7 a0 13).bind fun _ =>
        bd2 (fX14_here a0 h7) fun v33 h34 =>
        if v33 = 123 then (
          (ckT h34 a0 13).bind fun _ =>
          bd2 (fX14_ahead a0 1 h34) fun v37 h38 =>
          if v37 = 58 then (
            (gfI h38 a0 13 14).bind fun v40 =>
            (pfI h38 a0 13 14 (v40 + 2)).bind fun h42 =>
            (ckT h42 a0 13).bind fun _ =>
            bd2 (fX14_isSign a0 125 h42) fun v45 h46 =>
            if v45 = 0 then (
              some (0, h46)
            ) else (
              (ckT h46 a0 13).bind fun _ =>
              bd2 (g.2.2 a0 (a1 + 1) a2 h46) fun v49 h50 =>
              if v49 = 0 then (
                some (0, h50)
              ) else (
                k77 h50
              )
            )
          ) else (
            k77 h38
          )
        ) else (
          k77 h34
        )
      )
    )
  )
def fX14_isPieceRead_b (g : gG2) (a0 : Nat) (a1 : Int32) (a2 : Int32) (h : hp) : Option (Int32 × hp) :=
  (gfI h a0 13 14).bind fun v1 =>
  jn (fun (s12_0 : Int32) (h12j : hp) => (
    (gfI h12j a0 13 14).bind fun v3 =>
    (pfI h12j a0 13 14 (v3 + 1)).bind fun h5 =>
    (gfI h5 a0 13 16).bind fun v7 =>
    (pfI h5 a0 13 16 (v7 + 1)).bind fun h9 =>
    (ckT h9 a0 13).bind fun _ =>
    bd2 (fX14_here a0 h9) fun v12 h13 =>
    jn (fun (h60j : hp) => (
      if a1 ≤ 3 then (
        (gfI h60j a0 13 14).bind fun v15 =>
        (pfI h60j a0 13 14 (v15 + 1)).bind fun h17 =>
        if v12 = 63 then (
          (ckT h17 a0 13).bind fun _ =>
          bd2 (fX14_isConditionRead a0 h17) fun v44 h45 =>
          if v44 = 0 then (
            some (0, h45)
          ) else (
            (ckT h45 a0 13).bind fun _ =>
            bd2 (g.1 a0 a1 a2 1 h45) fun v48 h49 =>
            if v48 = 0 then (
              some (0, h49)
            ) else (
              some (1, h49)
            )
          )
        ) else (
          if v12 = 61 then (
            (ckT h17 a0 13).bind fun _ =>
            bd2 (fX14_isOneOf a0 65 68 h17) fun v36 h37 =>
            if v36 = 0 then (
              some (0, h37)
            ) else (
              (ckT h37 a0 13).bind fun _ =>
              bd2 (g.1 a0 a1 1 0 h37) fun v40 h41 =>
              if v40 = 0 then (
                some (0, h41)
              ) else (
                some (1, h41)
              )
            )
          ) else (
            (ckT h17 a0 13).bind fun _ =>
            bd2 (fX14_isOneOf a0 97 104 h17) fun v20 h21 =>
            if v20 = 0 then (
              some (0, h21)
            ) else (
              (ckT h21 a0 13).bind fun _ =>
              bd2 (fX14_isSign a0 32 h21) fun v24 h25 =>
              if v24 = 0 then (
                some (0, h25)
              ) else (
                (ckT h25 a0 13).bind fun _ =>
                bd2 (fX14_isExpressionRead a0 h25) fun v28 h29 =>
                if v28 = 0 then (
                  some (0, h29)
                ) else (
                  (ckT h29 a0 13).bind fun _ =>
                  bd2 (g.1 a0 a1 a2 1 h29) fun v32 h33 =>
                  if v32 = 0 then (
                    some (0, h33)
                  ) else (
                    some (1, h33)
                  )
                )
              )
            )
          )
        )
      ) else (
        (gfI h60j a0 13 14).bind fun v51 =>
        (ckT h60j a0 13).bind fun _ =>
        bd2 (fX14_fails a0 v51 h60j) fun v54 h55 =>
        (zck v54).bind fun _ =>
        some (v54, h55)
      )
      : Option (Int32 × hp))) fun k60 =>
    if v12 = 63 then (
      k60 h13
    ) else (
      if v12 = 42 then (
        k60 h13
      ) else (
        if v12 = 61 then (
          k60 h13
        ) else (
          if v12 = 94 then (
            if a2 = 0 then (
              (gfI h13 a0 13 14).bind fun v114 =>
              (ckT h13 a0 13).bind fun _ =>
              bd2 (fX14_fails a0 v114 h13) fun v117 h118 =>
              (zck v117).bind fun _ =>
              some (v117, h118)
            ) else (
              (gfI h13 a0 13 14).bind fun v105 =>
              (pfI h13 a0 13 14 (v105 + 1)).bind fun h107 =>
              (ckT h107 a0 13).bind fun _ =>
              bd2 (fX14_isSign a0 125 h107) fun v110 h111 =>
              (zck v110).bind fun _ =>
              some (v110, h111)
            )
          ) else (
            jn (fun (h242j : hp) => (
              jn (fun (h262j : hp) => (
                (gfI h262j a0 13 14).bind fun v58 =>
                (pfI h262j a0 13 14 (v58 + 1)).bind fun h60 =>
                (ckT h60 a0 13).bind fun _ =>
                bd2 (fX14_isOneOf a0 48 53 h60) fun v63 h64 =>
                if v63 = 0 then (
                  some (0, h64)
                ) else (
                  (ckT h64 a0 13).bind fun _ =>
                  bd2 (fX14_isSign a0 125 h64) fun v67 h68 =>
                  if v67 = 0 then (
                    some (0, h68)
                  ) else (
                    some (1, h68)
                  )
                )
                : Option (Int32 × hp))) fun k262 =>
              if v12 = 60 then (
                if s12_0 = 0 then (
                  (gfI h242j a0 13 14).bind fun v70 =>
                  (ckT h242j a0 13).bind fun _ =>
                  bd2 (fX14_fails a0 v70 h242j) fun v73 h74 =>
                  (zck v73).bind fun _ =>
                  some (v73, h74)
                ) else (
                  k262 h242j
                )
              ) else (
                k262 h242j
              )
              : Option (Int32 × hp))) fun k242 =>
            if v12 = 62 then (
              k242 h13
            ) else (
              if v12 = 60 then (
                k242 h13
              ) else (
                if v12 = 64 then (
                  (gfI h13 a0 13 14).bind fun v85 =>
                  (pfI h13 a0 13 14 (v85 + 1)).bind fun h87 =>
                  (ckT h87 a0 13).bind fun _ =>
                  bd2 (fX14_isOneOf a0 97 104 h87) fun v90 h91 =>
                  if v90 = 0 then (
                    some (0, h91)
                  ) else (
                    (ckT h91 a0 13).bind fun _ =>
                    bd2 (fX14_isSign a0 61 h91) fun v94 h95 =>
                    if v94 = 0 then (
                      some (0, h95)
                    ) else (
                      (ckT h95 a0 13).bind fun _ =>
                      bd2 (fX14_isExpressionRead a0 h95) fun v98 h99 =>
                      if v98 = 0 then (
                        some (0, h99)
                      ) else (
                        (ckT h99 a0 13).bind fun _ =>
                        bd2 (fX14_isSign a0 125 h99) fun v102 h103 =>
                        if v102 = 0 then (
                          some (0, h103)
                        ) else (
                          some (1, h103)
                        )
                      )
                    )
                  )
                ) else (
                  (ckT h13 a0 13).bind fun _ =>
                  bd2 (fX14_isExpressionRead a0 h13) fun v78 h79 =>
                  if v78 = 0 then (
                    some (0, h79)
                  ) else (
                    (ckT h79 a0 13).bind fun _ =>
                    bd2 (fX14_isSign a0 125 h79) fun v82 h83 =>
                    if v82 = 0 then (
                      some (0, h83)
                    ) else (
                      some (1, h83)
                    )
                  )
                )
              )
            )
          )
        )
      )
    )
    : Option (Int32 × hp))) fun k12 =>
  if v1 = 0 then (
    k12 1 h
  ) else (
    k12 0 h
  )
def fX14_isTemplateRead_l0 (g : gG2) : Nat → Nat → Int32 → Int32 → hp → Option (Nat × hp)
  | 0, _, _, _, _ => none
  | n + 1, x0, x1, x2, h =>
    (gfI h x0 13 14).bind fun v1 =>
    (gfI h x0 13 13).bind fun v3 =>
    if v3 ≤ v1 then (
      some (3, h)
    ) else (
      (ckT h x0 13).bind fun _ =>
      bd2 (fX14_here x0 h) fun v6 h7 =>
      if v6 = 125 then (
        some (0, h7)
      ) else (
        jn (fun (h59j : hp) => (
          if v6 = 123 then (
            (ckT h59j x0 13).bind fun _ =>
            bd2 (g.2.1 x0 x1 x2 h59j) fun v10 h11 =>
            if v10 = 0 then (
              some (2, h11)
            ) else (
              fX14_isTemplateRead_l0 g n x0 x1 x2 h11
            )
          ) else (
            (gfI h59j x0 13 14).bind fun v13 =>
            (pfI h59j x0 13 14 (v13 + 1)).bind fun h15 =>
            fX14_isTemplateRead_l0 g n x0 x1 x2 h15
          )
          : Option (Nat × hp))) fun k59 =>
        if v6 = 123 then (
          (ckT h7 x0 13).bind fun _ =>
          bd2 (fX14_ahead x0 1 h7) fun v18 h19 =>
          if v18 = 47 then (
            some (1, h19)
          ) else (
            (ckT h19 x0 13).bind fun _ =>
            bd2 (fX14_ahead x0 1 h19) fun v22 h23 =>
            if v22 = 58 then (
              some (1, h23)
            ) else (
              k59 h23
            )
          )
        ) else (
          k59 h7
        )
      )
    )
def fX14_isTemplateRead_b (g : gG2) (a0 : Nat) (a1 : Int32) (a2 : Int32) (h : hp) : Option (Int32 × hp) :=
  bd2 (fX14_isTemplateRead_l0 g FU a0 a1 a2 h) fun t3 h2 =>
  if t3 = 0 then (
    (gfI h2 a0 13 14).bind fun v4 =>
    (ckT h2 a0 13).bind fun _ =>
    bd2 (fX14_fails a0 v4 h2) fun v7 h8 =>
    (zck v7).bind fun _ =>
    some (v7, h8)
  ) else
  if t3 = 1 then (
    some (1, h2)
  ) else
  if t3 = 2 then (
    some (0, h2)
  ) else
  if t3 = 3 then (
    some (1, h2)
  ) else none
set_option maxHeartbeats 4000000 in
set_option maxRecDepth 100000 in
theorem sX14_isBodyRead_b (E : gE) (D : Nat) (hD : 10 ≤ D) {g : gG2} (hg : gG2_ok E (D - 1) g) {a0 : Nat} {a1 : Int32} {a2 : Int32} {a3 : Int32} {h hz : hp} {v0 : Int32} (hf : fX14_isBodyRead_b g a0 a1 a2 a3 h = some (v0, hz)) : MC E yX14_isBodyRead cX14_isBodyRead (Option.some Jvm.ClassFile.FieldType.boolean) 4 D [.ref a0, .int a1, .int a2, .int a3] h (some (.int v0)) hz := by
  refine MC.of (by decide +kernel) (Nat.le_of_ble_eq_true rfl) rfl ?_
  unfold fX14_isBodyRead_b at hf
  show AW E yX14_isBodyRead cX14_isBodyRead (Option.some Jvm.ClassFile.FieldType.boolean) 4 D (some (.int v0)) h hz 0 [(0, .ref a0), (1, .int a1), (2, .int a2), (3, .int a3)] [] h
  refine a_aload_n (q := 0) dX14_isBodyRead_0 rfl rfl ?_
  refine a_bipush (v := 125) dX14_isBodyRead_1 (by decide) ?_
  obtain ⟨_, e4, hf⟩ := obd hf
  obtain ⟨v2, h3, e1, hf⟩ := ob2 hf
  refine a_callV (as := [.int 125]) (np := 1) (ci := 13) (st := []) (sX14_isSign E (D - 1) (by omega) e1) dX14_isBodyRead_3 rfl (by omega) (by decide) cw_X14_276 ⟨wd_1377, ws_72⟩ rfl (ckT_s e4) rfl (Nat.le_of_ble_eq_true rfl) ?_
  refine a_if_eq (tgt := 20) dX14_isBodyRead_6 (by decide) (fun c => ?_) (fun c => ?_)
  · have hf := ifp c hf
    refine a_iconst (v := 0) dX14_isBodyRead_20 (by decide) ?_
    obtain ⟨rfl, rfl⟩ := oc2 hf
    exact a_zreturn dX14_isBodyRead_21 rfl (by decide)
  · have hf := ifn c hf
    refine a_aload_n (q := 0) dX14_isBodyRead_9 rfl rfl ?_
    refine a_iload_n (q := 1) dX14_isBodyRead_10 rfl rfl ?_
    refine a_iconst (v := 1) dX14_isBodyRead_11 (by decide) ?_
    refine a_iadd dX14_isBodyRead_12 ?_
    refine a_iload_n (q := 2) dX14_isBodyRead_13 rfl rfl ?_
    obtain ⟨_, e8, hf⟩ := obd hf
    obtain ⟨v6, h7, e5, hf⟩ := ob2 hf
    refine a_callV (as := [.int (a1 + 1), .int a2]) (np := 2) (ci := 13) (st := []) ((hg.2.2) _ _ _ _ _ _ e5) dX14_isBodyRead_14 rfl (by omega) (by decide) cw_X14_294 ⟨wd_1345, ws_64⟩ rfl (ckT_s e8) rfl (Nat.le_of_ble_eq_true rfl) ?_
    refine a_if_ne (tgt := 22) dX14_isBodyRead_17 (by decide) (fun c => ?_) (fun c => ?_)
    · have hf := ifn c hf
      refine a_iload_n (q := 3) dX14_isBodyRead_22 rfl rfl ?_
      obtain ⟨k77, ek77, hf⟩ := jn_s hf
      have hj77 : ∀ (h77j : hp), k77 h77j = some (v0, hz) → AW E yX14_isBodyRead cX14_isBodyRead (Option.some Jvm.ClassFile.FieldType.boolean) 4 D (some (.int v0)) h hz 77 [(0, .ref a0)] [] h77j := by
        intro h77j hf
        rw [ek77] at hf
        clear ek77
        refine a_aload_n (q := 0) dX14_isBodyRead_77 rfl rfl ?_
        obtain ⟨v9, e10, hf⟩ := obd hf
        refine o_gfI dX14_isBodyRead_78 lk_X14_238 rfl e10 ?_
        refine a_aload_n (q := 0) dX14_isBodyRead_81 rfl rfl ?_
        obtain ⟨v11, e12, hf⟩ := obd hf
        refine o_gfI dX14_isBodyRead_82 lk_X14_235 rfl e12 ?_
        refine a_icmp_ne (tgt := 97) dX14_isBodyRead_85 (by decide) (fun c => ?_) (fun c => ?_)
        · have hf := ifn c hf
          refine a_aload_n (q := 0) dX14_isBodyRead_97 rfl rfl ?_
          refine a_dup dX14_isBodyRead_98 rfl ?_
          obtain ⟨v13, e14, hf⟩ := obd hf
          refine o_gfI dX14_isBodyRead_99 lk_X14_238 rfl e14 ?_
          refine a_iconst (v := 1) dX14_isBodyRead_102 (by decide) ?_
          refine a_iadd dX14_isBodyRead_103 ?_
          obtain ⟨h15, e16, hf⟩ := obd hf
          refine o_pfI dX14_isBodyRead_104 lk_X14_238 (⟨_, rfl, Or.inl rfl⟩) rfl e16 ?_
          refine a_aload_n (q := 0) dX14_isBodyRead_107 rfl rfl ?_
          refine a_bipush (v := 47) dX14_isBodyRead_108 (by decide) ?_
          obtain ⟨_, e20, hf⟩ := obd hf
          obtain ⟨v18, h19, e17, hf⟩ := ob2 hf
          refine a_callV (as := [.int 47]) (np := 1) (ci := 13) (st := []) (sX14_isSign E (D - 1) (by omega) e17) dX14_isBodyRead_110 rfl (by omega) (by decide) cw_X14_276 ⟨wd_1377, ws_72⟩ rfl (ckT_s e20) rfl (Nat.le_of_ble_eq_true rfl) ?_
          refine a_if_eq (tgt := 129) dX14_isBodyRead_113 (by decide) (fun c => ?_) (fun c => ?_)
          · have hf := ifp c hf
            refine a_iconst (v := 0) dX14_isBodyRead_129 (by decide) ?_
            obtain ⟨rfl, rfl⟩ := oc2 hf
            exact a_zreturn dX14_isBodyRead_130 rfl (by decide)
          · have hf := ifn c hf
            refine a_aload_n (q := 0) dX14_isBodyRead_116 rfl rfl ?_
            refine a_bipush (v := 125) dX14_isBodyRead_117 (by decide) ?_
            obtain ⟨_, e24, hf⟩ := obd hf
            obtain ⟨v22, h23, e21, hf⟩ := ob2 hf
            refine a_callV (as := [.int 125]) (np := 1) (ci := 13) (st := []) (sX14_isSign E (D - 1) (by omega) e21) dX14_isBodyRead_119 rfl (by omega) (by decide) cw_X14_276 ⟨wd_1377, ws_72⟩ rfl (ckT_s e24) rfl (Nat.le_of_ble_eq_true rfl) ?_
            refine a_if_eq (tgt := 129) dX14_isBodyRead_122 (by decide) (fun c => ?_) (fun c => ?_)
            · have hf := ifp c hf
              refine a_iconst (v := 0) dX14_isBodyRead_129 (by decide) ?_
              obtain ⟨rfl, rfl⟩ := oc2 hf
              exact a_zreturn dX14_isBodyRead_130 rfl (by decide)
            · have hf := ifn c hf
              refine a_iconst (v := 1) dX14_isBodyRead_125 (by decide) ?_
              refine a_goto (tgt := 130) dX14_isBodyRead_126 (by decide) ?_
              obtain ⟨rfl, rfl⟩ := oc2 hf
              exact a_zreturn dX14_isBodyRead_130 rfl (by decide)
        · have hf := ifp c hf
          refine a_aload_n (q := 0) dX14_isBodyRead_88 rfl rfl ?_
          refine a_aload_n (q := 0) dX14_isBodyRead_89 rfl rfl ?_
          obtain ⟨v25, e26, hf⟩ := obd hf
          refine o_gfI dX14_isBodyRead_90 lk_X14_235 rfl e26 ?_
          obtain ⟨_, e30, hf⟩ := obd hf
          obtain ⟨v28, h29, e27, hf⟩ := ob2 hf
          refine a_callV (as := [.int v25]) (np := 1) (ci := 13) (st := []) (sX14_fails E (D - 1) (by omega) e27) dX14_isBodyRead_93 rfl (by omega) (by decide) cw_X14_251 ⟨wd_1353, ws_66⟩ rfl (ckT_s e30) rfl (Nat.le_of_ble_eq_true rfl) ?_
          obtain ⟨_, e31, hf⟩ := obd hf
          obtain ⟨rfl, rfl⟩ := oc2 hf
          exact a_zreturn dX14_isBodyRead_96 rfl (zck_s e31)
      clear ek77
      refine a_if_eq (tgt := 77) dX14_isBodyRead_23 (by decide) (fun c => ?_) (fun c => ?_)
      · have hf := ifp c hf
        exact AW.sub [0] rfl (hj77 _ hf)
      · have hf := ifn c hf
        refine a_aload_n (q := 0) dX14_isBodyRead_26 rfl rfl ?_
        obtain ⟨_, e35, hf⟩ := obd hf
        obtain ⟨v33, h34, e32, hf⟩ := ob2 hf
        refine a_callV (as := []) (np := 0) (ci := 13) (st := []) (sX14_here E (D - 1) (by omega) e32) dX14_isBodyRead_27 rfl (by omega) (by decide) cw_X14_247 ⟨wd_1349, ws_65⟩ rfl (ckT_s e35) rfl (Nat.le_of_ble_eq_true rfl) ?_
        refine a_bipush (v := 123) dX14_isBodyRead_30 (by decide) ?_
        refine a_icmp_ne (tgt := 77) dX14_isBodyRead_32 (by decide) (fun c => ?_) (fun c => ?_)
        · have hf := ifn c hf
          exact AW.sub [0] rfl (hj77 _ hf)
        · have hf := ifp c hf
          refine a_aload_n (q := 0) dX14_isBodyRead_35 rfl rfl ?_
          refine a_iconst (v := 1) dX14_isBodyRead_36 (by decide) ?_
          obtain ⟨_, e39, hf⟩ := obd hf
          obtain ⟨v37, h38, e36, hf⟩ := ob2 hf
          refine a_callV (as := [.int 1]) (np := 1) (ci := 13) (st := []) (sX14_ahead E (D - 1) (by omega) e36) dX14_isBodyRead_37 rfl (by omega) (by decide) cw_X14_298 ⟨wd_1357, ws_67⟩ rfl (ckT_s e39) rfl (Nat.le_of_ble_eq_true rfl) ?_
          refine a_bipush (v := 58) dX14_isBodyRead_40 (by decide) ?_
          refine a_icmp_ne (tgt := 77) dX14_isBodyRead_42 (by decide) (fun c => ?_) (fun c => ?_)
          · have hf := ifn c hf
            exact AW.sub [0] rfl (hj77 _ hf)
          · have hf := ifp c hf
            refine a_aload_n (q := 0) dX14_isBodyRead_45 rfl rfl ?_
            refine a_dup dX14_isBodyRead_46 rfl ?_
            obtain ⟨v40, e41, hf⟩ := obd hf
            refine o_gfI dX14_isBodyRead_47 lk_X14_238 rfl e41 ?_
            refine a_iconst (v := 2) dX14_isBodyRead_50 (by decide) ?_
            refine a_iadd dX14_isBodyRead_51 ?_
            obtain ⟨h42, e43, hf⟩ := obd hf
            refine o_pfI dX14_isBodyRead_52 lk_X14_238 (⟨_, rfl, Or.inl rfl⟩) rfl e43 ?_
            refine a_aload_n (q := 0) dX14_isBodyRead_55 rfl rfl ?_
            refine a_bipush (v := 125) dX14_isBodyRead_56 (by decide) ?_
            obtain ⟨_, e47, hf⟩ := obd hf
            obtain ⟨v45, h46, e44, hf⟩ := ob2 hf
            refine a_callV (as := [.int 125]) (np := 1) (ci := 13) (st := []) (sX14_isSign E (D - 1) (by omega) e44) dX14_isBodyRead_58 rfl (by omega) (by decide) cw_X14_276 ⟨wd_1377, ws_72⟩ rfl (ckT_s e47) rfl (Nat.le_of_ble_eq_true rfl) ?_
            refine a_if_eq (tgt := 75) dX14_isBodyRead_61 (by decide) (fun c => ?_) (fun c => ?_)
            · have hf := ifp c hf
              refine a_iconst (v := 0) dX14_isBodyRead_75 (by decide) ?_
              obtain ⟨rfl, rfl⟩ := oc2 hf
              exact a_zreturn dX14_isBodyRead_76 rfl (by decide)
            · have hf := ifn c hf
              refine a_aload_n (q := 0) dX14_isBodyRead_64 rfl rfl ?_
              refine a_iload_n (q := 1) dX14_isBodyRead_65 rfl rfl ?_
              refine a_iconst (v := 1) dX14_isBodyRead_66 (by decide) ?_
              refine a_iadd dX14_isBodyRead_67 ?_
              refine a_iload_n (q := 2) dX14_isBodyRead_68 rfl rfl ?_
              obtain ⟨_, e51, hf⟩ := obd hf
              obtain ⟨v49, h50, e48, hf⟩ := ob2 hf
              refine a_callV (as := [.int (a1 + 1), .int a2]) (np := 2) (ci := 13) (st := []) ((hg.2.2) _ _ _ _ _ _ e48) dX14_isBodyRead_69 rfl (by omega) (by decide) cw_X14_294 ⟨wd_1345, ws_64⟩ rfl (ckT_s e51) rfl (Nat.le_of_ble_eq_true rfl) ?_
              refine a_if_ne (tgt := 77) dX14_isBodyRead_72 (by decide) (fun c => ?_) (fun c => ?_)
              · have hf := ifn c hf
                exact AW.sub [0] rfl (hj77 _ hf)
              · have hf := ifp c hf
                refine a_iconst (v := 0) dX14_isBodyRead_75 (by decide) ?_
                obtain ⟨rfl, rfl⟩ := oc2 hf
                exact a_zreturn dX14_isBodyRead_76 rfl (by decide)
    · have hf := ifp c hf
      refine a_iconst (v := 0) dX14_isBodyRead_20 (by decide) ?_
      obtain ⟨rfl, rfl⟩ := oc2 hf
      exact a_zreturn dX14_isBodyRead_21 rfl (by decide)
set_option maxHeartbeats 4000000 in
set_option maxRecDepth 100000 in
theorem sX14_isPieceRead_b (E : gE) (D : Nat) (hD : 10 ≤ D) {g : gG2} (hg : gG2_ok E (D - 1) g) {a0 : Nat} {a1 : Int32} {a2 : Int32} {h hz : hp} {v0 : Int32} (hf : fX14_isPieceRead_b g a0 a1 a2 h = some (v0, hz)) : MC E yX14_isPieceRead cX14_isPieceRead (Option.some Jvm.ClassFile.FieldType.boolean) 5 D [.ref a0, .int a1, .int a2] h (some (.int v0)) hz := by
  refine MC.of (by decide +kernel) (Nat.le_of_ble_eq_true rfl) rfl ?_
  unfold fX14_isPieceRead_b at hf
  show AW E yX14_isPieceRead cX14_isPieceRead (Option.some Jvm.ClassFile.FieldType.boolean) 5 D (some (.int v0)) h hz 0 [(0, .ref a0), (1, .int a1), (2, .int a2)] [] h
  refine a_aload_n (q := 0) dX14_isPieceRead_0 rfl rfl ?_
  obtain ⟨v1, e2, hf⟩ := obd hf
  refine o_gfI dX14_isPieceRead_1 lk_X14_238 rfl e2 ?_
  obtain ⟨k12, ek12, hf⟩ := jn_s hf
  have hj12 : ∀ (s12_0 : Int32) (h12j : hp), k12 s12_0 h12j = some (v0, hz) → AW E yX14_isPieceRead cX14_isPieceRead (Option.some Jvm.ClassFile.FieldType.boolean) 5 D (some (.int v0)) h hz 12 [(0, .ref a0), (1, .int a1), (2, .int a2)] [.int s12_0] h12j := by
    intro s12_0 h12j hf
    rw [ek12] at hf
    clear ek12
    refine a_istore_n (lv1 := [(3, .int s12_0), (0, .ref a0), (1, .int a1), (2, .int a2)]) dX14_isPieceRead_12 rfl (by decide) rfl ?_
    refine a_aload_n (q := 1) dX14_isPieceRead_13 rfl rfl ?_
    refine a_dup dX14_isPieceRead_14 rfl ?_
    obtain ⟨v3, e4, hf⟩ := obd hf
    refine o_gfI dX14_isPieceRead_15 lk_X14_238 rfl e4 ?_
    refine a_iconst (v := 1) dX14_isPieceRead_18 (by decide) ?_
    refine a_iadd dX14_isPieceRead_19 ?_
    obtain ⟨h5, e6, hf⟩ := obd hf
    refine o_pfI dX14_isPieceRead_20 lk_X14_238 (⟨_, rfl, Or.inl rfl⟩) rfl e6 ?_
    refine a_aload_n (q := 1) dX14_isPieceRead_23 rfl rfl ?_
    refine a_dup dX14_isPieceRead_24 rfl ?_
    obtain ⟨v7, e8, hf⟩ := obd hf
    refine o_gfI dX14_isPieceRead_25 lk_X14_244 rfl e8 ?_
    refine a_iconst (v := 1) dX14_isPieceRead_28 (by decide) ?_
    refine a_iadd dX14_isPieceRead_29 ?_
    obtain ⟨h9, e10, hf⟩ := obd hf
    refine o_pfI dX14_isPieceRead_30 lk_X14_244 (⟨_, rfl, Or.inl rfl⟩) rfl e10 ?_
    refine a_aload_n (q := 1) dX14_isPieceRead_33 rfl rfl ?_
    obtain ⟨_, e14, hf⟩ := obd hf
    obtain ⟨v12, h13, e11, hf⟩ := ob2 hf
    refine a_callV (as := []) (np := 0) (ci := 13) (st := []) (sX14_here E (D - 1) (by omega) e11) dX14_isPieceRead_34 rfl (by omega) (by decide) cw_X14_247 ⟨wd_1349, ws_65⟩ rfl (ckT_s e14) rfl (Nat.le_of_ble_eq_true rfl) ?_
    refine a_istore (lv1 := [(4, .int v12), (3, .int s12_0), (0, .ref a0), (1, .int a1), (2, .int a2)]) dX14_isPieceRead_37 (by decide) rfl ?_
    refine a_iload (q := 0) dX14_isPieceRead_39 rfl ?_
    refine a_bipush (v := 63) dX14_isPieceRead_41 (by decide) ?_
    obtain ⟨k60, ek60, hf⟩ := jn_s hf
    have hj60 : ∀ (h60j : hp), k60 h60j = some (v0, hz) → AW E yX14_isPieceRead cX14_isPieceRead (Option.some Jvm.ClassFile.FieldType.boolean) 5 D (some (.int v0)) h hz 60 [(0, .ref a0), (1, .int a1), (2, .int a2), (4, .int v12)] [] h60j := by
      intro h60j hf
      rw [ek60] at hf
      clear ek60
      refine a_iload_n (q := 1) dX14_isPieceRead_60 rfl rfl ?_
      refine a_iconst (v := 3) dX14_isPieceRead_61 (by decide) ?_
      refine a_icmp_le (tgt := 74) dX14_isPieceRead_62 (by decide) (fun c => ?_) (fun c => ?_)
      · have hf := ifp c hf
        refine a_aload_n (q := 0) dX14_isPieceRead_74 rfl rfl ?_
        refine a_dup dX14_isPieceRead_75 rfl ?_
        obtain ⟨v15, e16, hf⟩ := obd hf
        refine o_gfI dX14_isPieceRead_76 lk_X14_238 rfl e16 ?_
        refine a_iconst (v := 1) dX14_isPieceRead_79 (by decide) ?_
        refine a_iadd dX14_isPieceRead_80 ?_
        obtain ⟨h17, e18, hf⟩ := obd hf
        refine o_pfI dX14_isPieceRead_81 lk_X14_238 (⟨_, rfl, Or.inl rfl⟩) rfl e18 ?_
        refine a_iload (q := 3) dX14_isPieceRead_84 rfl ?_
        refine a_bipush (v := 63) dX14_isPieceRead_86 (by decide) ?_
        refine a_icmp_ne (tgt := 114) dX14_isPieceRead_88 (by decide) (fun c => ?_) (fun c => ?_)
        · have hf := ifn c hf
          refine a_iload (q := 3) dX14_isPieceRead_114 rfl ?_
          refine a_bipush (v := 61) dX14_isPieceRead_116 (by decide) ?_
          refine a_icmp_ne (tgt := 148) dX14_isPieceRead_118 (by decide) (fun c => ?_) (fun c => ?_)
          · have hf := ifn c hf
            refine a_aload_n (q := 0) dX14_isPieceRead_148 rfl rfl ?_
            refine a_bipush (v := 97) dX14_isPieceRead_149 (by decide) ?_
            refine a_bipush (v := 104) dX14_isPieceRead_151 (by decide) ?_
            obtain ⟨_, e22, hf⟩ := obd hf
            obtain ⟨v20, h21, e19, hf⟩ := ob2 hf
            refine a_callV (as := [.int 97, .int 104]) (np := 2) (ci := 13) (st := []) (sX14_isOneOf E (D - 1) (by omega) e19) dX14_isPieceRead_153 rfl (by omega) (by decide) cw_X14_308 ⟨wd_1409, ws_78⟩ rfl (ckT_s e22) rfl (Nat.le_of_ble_eq_true rfl) ?_
            refine a_if_eq (tgt := 189) dX14_isPieceRead_156 (by decide) (fun c => ?_) (fun c => ?_)
            · have hf := ifp c hf
              refine a_iconst (v := 0) dX14_isPieceRead_189 (by decide) ?_
              obtain ⟨rfl, rfl⟩ := oc2 hf
              exact a_zreturn dX14_isPieceRead_190 rfl (by decide)
            · have hf := ifn c hf
              refine a_aload_n (q := 0) dX14_isPieceRead_159 rfl rfl ?_
              refine a_bipush (v := 32) dX14_isPieceRead_160 (by decide) ?_
              obtain ⟨_, e26, hf⟩ := obd hf
              obtain ⟨v24, h25, e23, hf⟩ := ob2 hf
              refine a_callV (as := [.int 32]) (np := 1) (ci := 13) (st := []) (sX14_isSign E (D - 1) (by omega) e23) dX14_isPieceRead_162 rfl (by omega) (by decide) cw_X14_276 ⟨wd_1377, ws_72⟩ rfl (ckT_s e26) rfl (Nat.le_of_ble_eq_true rfl) ?_
              refine a_if_eq (tgt := 189) dX14_isPieceRead_165 (by decide) (fun c => ?_) (fun c => ?_)
              · have hf := ifp c hf
                refine a_iconst (v := 0) dX14_isPieceRead_189 (by decide) ?_
                obtain ⟨rfl, rfl⟩ := oc2 hf
                exact a_zreturn dX14_isPieceRead_190 rfl (by decide)
              · have hf := ifn c hf
                refine a_aload_n (q := 0) dX14_isPieceRead_168 rfl rfl ?_
                obtain ⟨_, e30, hf⟩ := obd hf
                obtain ⟨v28, h29, e27, hf⟩ := ob2 hf
                refine a_callV (as := []) (np := 0) (ci := 13) (st := []) (sX14_isExpressionRead E (D - 1) (by omega) e27) dX14_isPieceRead_169 rfl (by omega) (by decide) cw_X14_291 ⟨wd_1369, ws_70⟩ rfl (ckT_s e30) rfl (Nat.le_of_ble_eq_true rfl) ?_
                refine a_if_eq (tgt := 189) dX14_isPieceRead_172 (by decide) (fun c => ?_) (fun c => ?_)
                · have hf := ifp c hf
                  refine a_iconst (v := 0) dX14_isPieceRead_189 (by decide) ?_
                  obtain ⟨rfl, rfl⟩ := oc2 hf
                  exact a_zreturn dX14_isPieceRead_190 rfl (by decide)
                · have hf := ifn c hf
                  refine a_aload_n (q := 0) dX14_isPieceRead_175 rfl rfl ?_
                  refine a_iload_n (q := 1) dX14_isPieceRead_176 rfl rfl ?_
                  refine a_iload_n (q := 2) dX14_isPieceRead_177 rfl rfl ?_
                  refine a_iconst (v := 1) dX14_isPieceRead_178 (by decide) ?_
                  obtain ⟨_, e34, hf⟩ := obd hf
                  obtain ⟨v32, h33, e31, hf⟩ := ob2 hf
                  refine a_callV (as := [.int a1, .int a2, .int 1]) (np := 3) (ci := 13) (st := []) ((hg.1) _ _ _ _ _ _ _ e31) dX14_isPieceRead_179 rfl (by omega) (by decide) cw_X14_304 ⟨wd_1405, ws_77⟩ rfl (ckT_s e34) rfl (Nat.le_of_ble_eq_true rfl) ?_
                  refine a_if_eq (tgt := 189) dX14_isPieceRead_182 (by decide) (fun c => ?_) (fun c => ?_)
                  · have hf := ifp c hf
                    refine a_iconst (v := 0) dX14_isPieceRead_189 (by decide) ?_
                    obtain ⟨rfl, rfl⟩ := oc2 hf
                    exact a_zreturn dX14_isPieceRead_190 rfl (by decide)
                  · have hf := ifn c hf
                    refine a_iconst (v := 1) dX14_isPieceRead_185 (by decide) ?_
                    refine a_goto (tgt := 190) dX14_isPieceRead_186 (by decide) ?_
                    obtain ⟨rfl, rfl⟩ := oc2 hf
                    exact a_zreturn dX14_isPieceRead_190 rfl (by decide)
          · have hf := ifp c hf
            refine a_aload_n (q := 0) dX14_isPieceRead_121 rfl rfl ?_
            refine a_bipush (v := 65) dX14_isPieceRead_122 (by decide) ?_
            refine a_bipush (v := 68) dX14_isPieceRead_124 (by decide) ?_
            obtain ⟨_, e38, hf⟩ := obd hf
            obtain ⟨v36, h37, e35, hf⟩ := ob2 hf
            refine a_callV (as := [.int 65, .int 68]) (np := 2) (ci := 13) (st := []) (sX14_isOneOf E (D - 1) (by omega) e35) dX14_isPieceRead_126 rfl (by omega) (by decide) cw_X14_308 ⟨wd_1409, ws_78⟩ rfl (ckT_s e38) rfl (Nat.le_of_ble_eq_true rfl) ?_
            refine a_if_eq (tgt := 146) dX14_isPieceRead_129 (by decide) (fun c => ?_) (fun c => ?_)
            · have hf := ifp c hf
              refine a_iconst (v := 0) dX14_isPieceRead_146 (by decide) ?_
              obtain ⟨rfl, rfl⟩ := oc2 hf
              exact a_zreturn dX14_isPieceRead_147 rfl (by decide)
            · have hf := ifn c hf
              refine a_aload_n (q := 0) dX14_isPieceRead_132 rfl rfl ?_
              refine a_iload_n (q := 1) dX14_isPieceRead_133 rfl rfl ?_
              refine a_iconst (v := 1) dX14_isPieceRead_134 (by decide) ?_
              refine a_iconst (v := 0) dX14_isPieceRead_135 (by decide) ?_
              obtain ⟨_, e42, hf⟩ := obd hf
              obtain ⟨v40, h41, e39, hf⟩ := ob2 hf
              refine a_callV (as := [.int a1, .int 1, .int 0]) (np := 3) (ci := 13) (st := []) ((hg.1) _ _ _ _ _ _ _ e39) dX14_isPieceRead_136 rfl (by omega) (by decide) cw_X14_304 ⟨wd_1405, ws_77⟩ rfl (ckT_s e42) rfl (Nat.le_of_ble_eq_true rfl) ?_
              refine a_if_eq (tgt := 146) dX14_isPieceRead_139 (by decide) (fun c => ?_) (fun c => ?_)
              · have hf := ifp c hf
                refine a_iconst (v := 0) dX14_isPieceRead_146 (by decide) ?_
                obtain ⟨rfl, rfl⟩ := oc2 hf
                exact a_zreturn dX14_isPieceRead_147 rfl (by decide)
              · have hf := ifn c hf
                refine a_iconst (v := 1) dX14_isPieceRead_142 (by decide) ?_
                refine a_goto (tgt := 147) dX14_isPieceRead_143 (by decide) ?_
                obtain ⟨rfl, rfl⟩ := oc2 hf
                exact a_zreturn dX14_isPieceRead_147 rfl (by decide)
        · have hf := ifp c hf
          refine a_aload_n (q := 0) dX14_isPieceRead_91 rfl rfl ?_
          obtain ⟨_, e46, hf⟩ := obd hf
          obtain ⟨v44, h45, e43, hf⟩ := ob2 hf
          refine a_callV (as := []) (np := 0) (ci := 13) (st := []) (sX14_isConditionRead E (D - 1) (by omega) e43) dX14_isPieceRead_92 rfl (by omega) (by decide) cw_X14_301 ⟨wd_1365, ws_69⟩ rfl (ckT_s e46) rfl (Nat.le_of_ble_eq_true rfl) ?_
          refine a_if_eq (tgt := 112) dX14_isPieceRead_95 (by decide) (fun c => ?_) (fun c => ?_)
          · have hf := ifp c hf
            refine a_iconst (v := 0) dX14_isPieceRead_112 (by decide) ?_
            obtain ⟨rfl, rfl⟩ := oc2 hf
            exact a_zreturn dX14_isPieceRead_113 rfl (by decide)
          · have hf := ifn c hf
            refine a_aload_n (q := 0) dX14_isPieceRead_98 rfl rfl ?_
            refine a_iload_n (q := 1) dX14_isPieceRead_99 rfl rfl ?_
            refine a_iload_n (q := 2) dX14_isPieceRead_100 rfl rfl ?_
            refine a_iconst (v := 1) dX14_isPieceRead_101 (by decide) ?_
            obtain ⟨_, e50, hf⟩ := obd hf
            obtain ⟨v48, h49, e47, hf⟩ := ob2 hf
            refine a_callV (as := [.int a1, .int a2, .int 1]) (np := 3) (ci := 13) (st := []) ((hg.1) _ _ _ _ _ _ _ e47) dX14_isPieceRead_102 rfl (by omega) (by decide) cw_X14_304 ⟨wd_1405, ws_77⟩ rfl (ckT_s e50) rfl (Nat.le_of_ble_eq_true rfl) ?_
            refine a_if_eq (tgt := 112) dX14_isPieceRead_105 (by decide) (fun c => ?_) (fun c => ?_)
            · have hf := ifp c hf
              refine a_iconst (v := 0) dX14_isPieceRead_112 (by decide) ?_
              obtain ⟨rfl, rfl⟩ := oc2 hf
              exact a_zreturn dX14_isPieceRead_113 rfl (by decide)
            · have hf := ifn c hf
              refine a_iconst (v := 1) dX14_isPieceRead_108 (by decide) ?_
              refine a_goto (tgt := 113) dX14_isPieceRead_109 (by decide) ?_
              obtain ⟨rfl, rfl⟩ := oc2 hf
              exact a_zreturn dX14_isPieceRead_113 rfl (by decide)
      · have hf := ifn c hf
        refine a_aload_n (q := 0) dX14_isPieceRead_65 rfl rfl ?_
        refine a_aload_n (q := 0) dX14_isPieceRead_66 rfl rfl ?_
        obtain ⟨v51, e52, hf⟩ := obd hf
        refine o_gfI dX14_isPieceRead_67 lk_X14_238 rfl e52 ?_
        obtain ⟨_, e56, hf⟩ := obd hf
        obtain ⟨v54, h55, e53, hf⟩ := ob2 hf
        refine a_callV (as := [.int v51]) (np := 1) (ci := 13) (st := []) (sX14_fails E (D - 1) (by omega) e53) dX14_isPieceRead_70 rfl (by omega) (by decide) cw_X14_251 ⟨wd_1353, ws_66⟩ rfl (ckT_s e56) rfl (Nat.le_of_ble_eq_true rfl) ?_
        obtain ⟨_, e57, hf⟩ := obd hf
        obtain ⟨rfl, rfl⟩ := oc2 hf
        exact a_zreturn dX14_isPieceRead_73 rfl (zck_s e57)
    clear ek60
    refine a_icmp_eq (tgt := 60) dX14_isPieceRead_43 (by decide) (fun c => ?_) (fun c => ?_)
    · have hf := ifp c hf
      exact AW.sub [2, 3, 4, 0] rfl (hj60 _ hf)
    · have hf := ifn c hf
      refine a_iload (q := 0) dX14_isPieceRead_46 rfl ?_
      refine a_bipush (v := 42) dX14_isPieceRead_48 (by decide) ?_
      refine a_icmp_eq (tgt := 60) dX14_isPieceRead_50 (by decide) (fun c => ?_) (fun c => ?_)
      · have hf := ifp c hf
        exact AW.sub [2, 3, 4, 0] rfl (hj60 _ hf)
      · have hf := ifn c hf
        refine a_iload (q := 0) dX14_isPieceRead_53 rfl ?_
        refine a_bipush (v := 61) dX14_isPieceRead_55 (by decide) ?_
        refine a_icmp_ne (tgt := 191) dX14_isPieceRead_57 (by decide) (fun c => ?_) (fun c => ?_)
        · have hf := ifn c hf
          refine a_iload (q := 0) dX14_isPieceRead_191 rfl ?_
          refine a_bipush (v := 94) dX14_isPieceRead_193 (by decide) ?_
          refine a_icmp_ne (tgt := 228) dX14_isPieceRead_195 (by decide) (fun c => ?_) (fun c => ?_)
          · have hf := ifn c hf
            refine a_iload (q := 0) dX14_isPieceRead_228 rfl ?_
            refine a_bipush (v := 62) dX14_isPieceRead_230 (by decide) ?_
            obtain ⟨k242, ek242, hf⟩ := jn_s hf
            have hj242 : ∀ (h242j : hp), k242 h242j = some (v0, hz) → AW E yX14_isPieceRead cX14_isPieceRead (Option.some Jvm.ClassFile.FieldType.boolean) 5 D (some (.int v0)) h hz 242 [(0, .ref a0), (3, .int s12_0), (4, .int v12)] [] h242j := by
              intro h242j hf
              rw [ek242] at hf
              clear ek242
              refine a_iload (q := 2) dX14_isPieceRead_242 rfl ?_
              refine a_bipush (v := 60) dX14_isPieceRead_244 (by decide) ?_
              obtain ⟨k262, ek262, hf⟩ := jn_s hf
              have hj262 : ∀ (h262j : hp), k262 h262j = some (v0, hz) → AW E yX14_isPieceRead cX14_isPieceRead (Option.some Jvm.ClassFile.FieldType.boolean) 5 D (some (.int v0)) h hz 262 [(0, .ref a0)] [] h262j := by
                intro h262j hf
                rw [ek262] at hf
                clear ek262
                refine a_aload_n (q := 0) dX14_isPieceRead_262 rfl rfl ?_
                refine a_dup dX14_isPieceRead_263 rfl ?_
                obtain ⟨v58, e59, hf⟩ := obd hf
                refine o_gfI dX14_isPieceRead_264 lk_X14_238 rfl e59 ?_
                refine a_iconst (v := 1) dX14_isPieceRead_267 (by decide) ?_
                refine a_iadd dX14_isPieceRead_268 ?_
                obtain ⟨h60, e61, hf⟩ := obd hf
                refine o_pfI dX14_isPieceRead_269 lk_X14_238 (⟨_, rfl, Or.inl rfl⟩) rfl e61 ?_
                refine a_aload_n (q := 0) dX14_isPieceRead_272 rfl rfl ?_
                refine a_bipush (v := 48) dX14_isPieceRead_273 (by decide) ?_
                refine a_bipush (v := 53) dX14_isPieceRead_275 (by decide) ?_
                obtain ⟨_, e65, hf⟩ := obd hf
                obtain ⟨v63, h64, e62, hf⟩ := ob2 hf
                refine a_callV (as := [.int 48, .int 53]) (np := 2) (ci := 13) (st := []) (sX14_isOneOf E (D - 1) (by omega) e62) dX14_isPieceRead_277 rfl (by omega) (by decide) cw_X14_308 ⟨wd_1409, ws_78⟩ rfl (ckT_s e65) rfl (Nat.le_of_ble_eq_true rfl) ?_
                refine a_if_eq (tgt := 296) dX14_isPieceRead_280 (by decide) (fun c => ?_) (fun c => ?_)
                · have hf := ifp c hf
                  refine a_iconst (v := 0) dX14_isPieceRead_296 (by decide) ?_
                  obtain ⟨rfl, rfl⟩ := oc2 hf
                  exact a_zreturn dX14_isPieceRead_297 rfl (by decide)
                · have hf := ifn c hf
                  refine a_aload_n (q := 0) dX14_isPieceRead_283 rfl rfl ?_
                  refine a_bipush (v := 125) dX14_isPieceRead_284 (by decide) ?_
                  obtain ⟨_, e69, hf⟩ := obd hf
                  obtain ⟨v67, h68, e66, hf⟩ := ob2 hf
                  refine a_callV (as := [.int 125]) (np := 1) (ci := 13) (st := []) (sX14_isSign E (D - 1) (by omega) e66) dX14_isPieceRead_286 rfl (by omega) (by decide) cw_X14_276 ⟨wd_1377, ws_72⟩ rfl (ckT_s e69) rfl (Nat.le_of_ble_eq_true rfl) ?_
                  refine a_if_eq (tgt := 296) dX14_isPieceRead_289 (by decide) (fun c => ?_) (fun c => ?_)
                  · have hf := ifp c hf
                    refine a_iconst (v := 0) dX14_isPieceRead_296 (by decide) ?_
                    obtain ⟨rfl, rfl⟩ := oc2 hf
                    exact a_zreturn dX14_isPieceRead_297 rfl (by decide)
                  · have hf := ifn c hf
                    refine a_iconst (v := 1) dX14_isPieceRead_292 (by decide) ?_
                    refine a_goto (tgt := 297) dX14_isPieceRead_293 (by decide) ?_
                    obtain ⟨rfl, rfl⟩ := oc2 hf
                    exact a_zreturn dX14_isPieceRead_297 rfl (by decide)
              clear ek262
              refine a_icmp_ne (tgt := 262) dX14_isPieceRead_246 (by decide) (fun c => ?_) (fun c => ?_)
              · have hf := ifn c hf
                exact AW.sub [0] rfl (hj262 _ hf)
              · have hf := ifp c hf
                refine a_iload_n (q := 1) dX14_isPieceRead_249 rfl rfl ?_
                refine a_if_ne (tgt := 262) dX14_isPieceRead_250 (by decide) (fun c => ?_) (fun c => ?_)
                · have hf := ifn c hf
                  exact AW.sub [0] rfl (hj262 _ hf)
                · have hf := ifp c hf
                  refine a_aload_n (q := 0) dX14_isPieceRead_253 rfl rfl ?_
                  refine a_aload_n (q := 0) dX14_isPieceRead_254 rfl rfl ?_
                  obtain ⟨v70, e71, hf⟩ := obd hf
                  refine o_gfI dX14_isPieceRead_255 lk_X14_238 rfl e71 ?_
                  obtain ⟨_, e75, hf⟩ := obd hf
                  obtain ⟨v73, h74, e72, hf⟩ := ob2 hf
                  refine a_callV (as := [.int v70]) (np := 1) (ci := 13) (st := []) (sX14_fails E (D - 1) (by omega) e72) dX14_isPieceRead_258 rfl (by omega) (by decide) cw_X14_251 ⟨wd_1353, ws_66⟩ rfl (ckT_s e75) rfl (Nat.le_of_ble_eq_true rfl) ?_
                  obtain ⟨_, e76, hf⟩ := obd hf
                  obtain ⟨rfl, rfl⟩ := oc2 hf
                  exact a_zreturn dX14_isPieceRead_261 rfl (zck_s e76)
            clear ek242
            refine a_icmp_eq (tgt := 242) dX14_isPieceRead_232 (by decide) (fun c => ?_) (fun c => ?_)
            · have hf := ifp c hf
              exact AW.sub [2, 1, 0] rfl (hj242 _ hf)
            · have hf := ifn c hf
              refine a_iload (q := 0) dX14_isPieceRead_235 rfl ?_
              refine a_bipush (v := 60) dX14_isPieceRead_237 (by decide) ?_
              refine a_icmp_ne (tgt := 298) dX14_isPieceRead_239 (by decide) (fun c => ?_) (fun c => ?_)
              · have hf := ifn c hf
                refine a_iload (q := 0) dX14_isPieceRead_298 rfl ?_
                refine a_bipush (v := 64) dX14_isPieceRead_300 (by decide) ?_
                refine a_icmp_ne (tgt := 357) dX14_isPieceRead_302 (by decide) (fun c => ?_) (fun c => ?_)
                · have hf := ifn c hf
                  refine a_aload_n (q := 2) dX14_isPieceRead_357 rfl rfl ?_
                  obtain ⟨_, e80, hf⟩ := obd hf
                  obtain ⟨v78, h79, e77, hf⟩ := ob2 hf
                  refine a_callV (as := []) (np := 0) (ci := 13) (st := []) (sX14_isExpressionRead E (D - 1) (by omega) e77) dX14_isPieceRead_358 rfl (by omega) (by decide) cw_X14_291 ⟨wd_1369, ws_70⟩ rfl (ckT_s e80) rfl (Nat.le_of_ble_eq_true rfl) ?_
                  refine a_if_eq (tgt := 377) dX14_isPieceRead_361 (by decide) (fun c => ?_) (fun c => ?_)
                  · have hf := ifp c hf
                    refine a_iconst (v := 0) dX14_isPieceRead_377 (by decide) ?_
                    obtain ⟨rfl, rfl⟩ := oc2 hf
                    exact a_zreturn dX14_isPieceRead_378 rfl (by decide)
                  · have hf := ifn c hf
                    refine a_aload_n (q := 2) dX14_isPieceRead_364 rfl rfl ?_
                    refine a_bipush (v := 125) dX14_isPieceRead_365 (by decide) ?_
                    obtain ⟨_, e84, hf⟩ := obd hf
                    obtain ⟨v82, h83, e81, hf⟩ := ob2 hf
                    refine a_callV (as := [.int 125]) (np := 1) (ci := 13) (st := []) (sX14_isSign E (D - 1) (by omega) e81) dX14_isPieceRead_367 rfl (by omega) (by decide) cw_X14_276 ⟨wd_1377, ws_72⟩ rfl (ckT_s e84) rfl (Nat.le_of_ble_eq_true rfl) ?_
                    refine a_if_eq (tgt := 377) dX14_isPieceRead_370 (by decide) (fun c => ?_) (fun c => ?_)
                    · have hf := ifp c hf
                      refine a_iconst (v := 0) dX14_isPieceRead_377 (by decide) ?_
                      obtain ⟨rfl, rfl⟩ := oc2 hf
                      exact a_zreturn dX14_isPieceRead_378 rfl (by decide)
                    · have hf := ifn c hf
                      refine a_iconst (v := 1) dX14_isPieceRead_373 (by decide) ?_
                      refine a_goto (tgt := 378) dX14_isPieceRead_374 (by decide) ?_
                      obtain ⟨rfl, rfl⟩ := oc2 hf
                      exact a_zreturn dX14_isPieceRead_378 rfl (by decide)
                · have hf := ifp c hf
                  refine a_aload_n (q := 2) dX14_isPieceRead_305 rfl rfl ?_
                  refine a_dup dX14_isPieceRead_306 rfl ?_
                  obtain ⟨v85, e86, hf⟩ := obd hf
                  refine o_gfI dX14_isPieceRead_307 lk_X14_238 rfl e86 ?_
                  refine a_iconst (v := 1) dX14_isPieceRead_310 (by decide) ?_
                  refine a_iadd dX14_isPieceRead_311 ?_
                  obtain ⟨h87, e88, hf⟩ := obd hf
                  refine o_pfI dX14_isPieceRead_312 lk_X14_238 (⟨_, rfl, Or.inl rfl⟩) rfl e88 ?_
                  refine a_aload_n (q := 2) dX14_isPieceRead_315 rfl rfl ?_
                  refine a_bipush (v := 97) dX14_isPieceRead_316 (by decide) ?_
                  refine a_bipush (v := 104) dX14_isPieceRead_318 (by decide) ?_
                  obtain ⟨_, e92, hf⟩ := obd hf
                  obtain ⟨v90, h91, e89, hf⟩ := ob2 hf
                  refine a_callV (as := [.int 97, .int 104]) (np := 2) (ci := 13) (st := []) (sX14_isOneOf E (D - 1) (by omega) e89) dX14_isPieceRead_320 rfl (by omega) (by decide) cw_X14_308 ⟨wd_1409, ws_78⟩ rfl (ckT_s e92) rfl (Nat.le_of_ble_eq_true rfl) ?_
                  refine a_if_eq (tgt := 355) dX14_isPieceRead_323 (by decide) (fun c => ?_) (fun c => ?_)
                  · have hf := ifp c hf
                    refine a_iconst (v := 0) dX14_isPieceRead_355 (by decide) ?_
                    obtain ⟨rfl, rfl⟩ := oc2 hf
                    exact a_zreturn dX14_isPieceRead_356 rfl (by decide)
                  · have hf := ifn c hf
                    refine a_aload_n (q := 2) dX14_isPieceRead_326 rfl rfl ?_
                    refine a_bipush (v := 61) dX14_isPieceRead_327 (by decide) ?_
                    obtain ⟨_, e96, hf⟩ := obd hf
                    obtain ⟨v94, h95, e93, hf⟩ := ob2 hf
                    refine a_callV (as := [.int 61]) (np := 1) (ci := 13) (st := []) (sX14_isSign E (D - 1) (by omega) e93) dX14_isPieceRead_329 rfl (by omega) (by decide) cw_X14_276 ⟨wd_1377, ws_72⟩ rfl (ckT_s e96) rfl (Nat.le_of_ble_eq_true rfl) ?_
                    refine a_if_eq (tgt := 355) dX14_isPieceRead_332 (by decide) (fun c => ?_) (fun c => ?_)
                    · have hf := ifp c hf
                      refine a_iconst (v := 0) dX14_isPieceRead_355 (by decide) ?_
                      obtain ⟨rfl, rfl⟩ := oc2 hf
                      exact a_zreturn dX14_isPieceRead_356 rfl (by decide)
                    · have hf := ifn c hf
                      refine a_aload_n (q := 2) dX14_isPieceRead_335 rfl rfl ?_
                      obtain ⟨_, e100, hf⟩ := obd hf
                      obtain ⟨v98, h99, e97, hf⟩ := ob2 hf
                      refine a_callV (as := []) (np := 0) (ci := 13) (st := []) (sX14_isExpressionRead E (D - 1) (by omega) e97) dX14_isPieceRead_336 rfl (by omega) (by decide) cw_X14_291 ⟨wd_1369, ws_70⟩ rfl (ckT_s e100) rfl (Nat.le_of_ble_eq_true rfl) ?_
                      refine a_if_eq (tgt := 355) dX14_isPieceRead_339 (by decide) (fun c => ?_) (fun c => ?_)
                      · have hf := ifp c hf
                        refine a_iconst (v := 0) dX14_isPieceRead_355 (by decide) ?_
                        obtain ⟨rfl, rfl⟩ := oc2 hf
                        exact a_zreturn dX14_isPieceRead_356 rfl (by decide)
                      · have hf := ifn c hf
                        refine a_aload_n (q := 2) dX14_isPieceRead_342 rfl rfl ?_
                        refine a_bipush (v := 125) dX14_isPieceRead_343 (by decide) ?_
                        obtain ⟨_, e104, hf⟩ := obd hf
                        obtain ⟨v102, h103, e101, hf⟩ := ob2 hf
                        refine a_callV (as := [.int 125]) (np := 1) (ci := 13) (st := []) (sX14_isSign E (D - 1) (by omega) e101) dX14_isPieceRead_345 rfl (by omega) (by decide) cw_X14_276 ⟨wd_1377, ws_72⟩ rfl (ckT_s e104) rfl (Nat.le_of_ble_eq_true rfl) ?_
                        refine a_if_eq (tgt := 355) dX14_isPieceRead_348 (by decide) (fun c => ?_) (fun c => ?_)
                        · have hf := ifp c hf
                          refine a_iconst (v := 0) dX14_isPieceRead_355 (by decide) ?_
                          obtain ⟨rfl, rfl⟩ := oc2 hf
                          exact a_zreturn dX14_isPieceRead_356 rfl (by decide)
                        · have hf := ifn c hf
                          refine a_iconst (v := 1) dX14_isPieceRead_351 (by decide) ?_
                          refine a_goto (tgt := 356) dX14_isPieceRead_352 (by decide) ?_
                          obtain ⟨rfl, rfl⟩ := oc2 hf
                          exact a_zreturn dX14_isPieceRead_356 rfl (by decide)
              · have hf := ifp c hf
                exact AW.sub [2, 1, 0] rfl (hj242 _ hf)
          · have hf := ifp c hf
            refine a_iload_n (q := 4) dX14_isPieceRead_198 rfl rfl ?_
            refine a_if_ne (tgt := 211) dX14_isPieceRead_199 (by decide) (fun c => ?_) (fun c => ?_)
            · have hf := ifn c hf
              refine a_aload_n (q := 2) dX14_isPieceRead_211 rfl rfl ?_
              refine a_dup dX14_isPieceRead_212 rfl ?_
              obtain ⟨v105, e106, hf⟩ := obd hf
              refine o_gfI dX14_isPieceRead_213 lk_X14_238 rfl e106 ?_
              refine a_iconst (v := 1) dX14_isPieceRead_216 (by decide) ?_
              refine a_iadd dX14_isPieceRead_217 ?_
              obtain ⟨h107, e108, hf⟩ := obd hf
              refine o_pfI dX14_isPieceRead_218 lk_X14_238 (⟨_, rfl, Or.inl rfl⟩) rfl e108 ?_
              refine a_aload_n (q := 2) dX14_isPieceRead_221 rfl rfl ?_
              refine a_bipush (v := 125) dX14_isPieceRead_222 (by decide) ?_
              obtain ⟨_, e112, hf⟩ := obd hf
              obtain ⟨v110, h111, e109, hf⟩ := ob2 hf
              refine a_callV (as := [.int 125]) (np := 1) (ci := 13) (st := []) (sX14_isSign E (D - 1) (by omega) e109) dX14_isPieceRead_224 rfl (by omega) (by decide) cw_X14_276 ⟨wd_1377, ws_72⟩ rfl (ckT_s e112) rfl (Nat.le_of_ble_eq_true rfl) ?_
              obtain ⟨_, e113, hf⟩ := obd hf
              obtain ⟨rfl, rfl⟩ := oc2 hf
              exact a_zreturn dX14_isPieceRead_227 rfl (zck_s e113)
            · have hf := ifp c hf
              refine a_aload_n (q := 2) dX14_isPieceRead_202 rfl rfl ?_
              refine a_aload_n (q := 2) dX14_isPieceRead_203 rfl rfl ?_
              obtain ⟨v114, e115, hf⟩ := obd hf
              refine o_gfI dX14_isPieceRead_204 lk_X14_238 rfl e115 ?_
              obtain ⟨_, e119, hf⟩ := obd hf
              obtain ⟨v117, h118, e116, hf⟩ := ob2 hf
              refine a_callV (as := [.int v114]) (np := 1) (ci := 13) (st := []) (sX14_fails E (D - 1) (by omega) e116) dX14_isPieceRead_207 rfl (by omega) (by decide) cw_X14_251 ⟨wd_1353, ws_66⟩ rfl (ckT_s e119) rfl (Nat.le_of_ble_eq_true rfl) ?_
              obtain ⟨_, e120, hf⟩ := obd hf
              obtain ⟨rfl, rfl⟩ := oc2 hf
              exact a_zreturn dX14_isPieceRead_210 rfl (zck_s e120)
        · have hf := ifp c hf
          exact AW.sub [2, 3, 4, 0] rfl (hj60 _ hf)
  clear ek12
  refine a_if_ne (tgt := 11) dX14_isPieceRead_4 (by decide) (fun c => ?_) (fun c => ?_)
  · have hf := ifn c hf
    refine a_iconst (v := 0) dX14_isPieceRead_11 (by decide) ?_
    exact hj12 _ _ hf
  · have hf := ifp c hf
    refine a_iconst (v := 1) dX14_isPieceRead_7 (by decide) ?_
    refine a_goto (tgt := 12) dX14_isPieceRead_8 (by decide) ?_
    exact hj12 _ _ hf
set_option maxHeartbeats 4000000 in
set_option maxRecDepth 100000 in
theorem sX14_isTemplateRead_l0 (E : gE) (D : Nat) (hD : 10 ≤ D) {g : gG2} (hg : gG2_ok E (D - 1) g) {rz : Option Value} {h0 hz : hp} : ∀ (n : Nat) (x0 : Nat) (x1 : Int32) (x2 : Int32) (h : hp) (tq : Nat) (hq : hp), fX14_isTemplateRead_l0 g n x0 x1 x2 h = some (tq, hq) → (tq = 0 → AW E yX14_isTemplateRead cX14_isTemplateRead (Option.some Jvm.ClassFile.FieldType.boolean) 4 D rz h0 hz 22 [(0, .ref x0)] [] hq) → (tq = 1 → AW E yX14_isTemplateRead cX14_isTemplateRead (Option.some Jvm.ClassFile.FieldType.boolean) 4 D rz h0 hz 57 [] [] hq) → (tq = 2 → AW E yX14_isTemplateRead cX14_isTemplateRead (Option.some Jvm.ClassFile.FieldType.boolean) 4 D rz h0 hz 87 [] [] hq) → (tq = 3 → AW E yX14_isTemplateRead cX14_isTemplateRead (Option.some Jvm.ClassFile.FieldType.boolean) 4 D rz h0 hz 92 [] [] hq) → AW E yX14_isTemplateRead cX14_isTemplateRead (Option.some Jvm.ClassFile.FieldType.boolean) 4 D rz h0 hz 0 [(0, .ref x0), (1, .int x1), (2, .int x2)] [] h := by
  intro n
  induction n with
  | zero =>
    intro x0 x1 x2 h tq hq hf _ _ _ _
    rw [fX14_isTemplateRead_l0] at hf
    cases hf
  | succ n ih =>
    intro x0 x1 x2 h tq hq hf hk0 hk1 hk2 hk3
    rw [fX14_isTemplateRead_l0] at hf
    refine a_aload_n (q := 0) dX14_isTemplateRead_0 rfl rfl ?_
    obtain ⟨v1, e2, hf⟩ := obd hf
    refine o_gfI dX14_isTemplateRead_1 lk_X14_238 rfl e2 ?_
    refine a_aload_n (q := 0) dX14_isTemplateRead_4 rfl rfl ?_
    obtain ⟨v3, e4, hf⟩ := obd hf
    refine o_gfI dX14_isTemplateRead_5 lk_X14_235 rfl e4 ?_
    refine a_icmp_ge (tgt := 92) dX14_isTemplateRead_8 (by decide) (fun c => ?_) (fun c => ?_)
    · have hf := ifp c hf
      obtain ⟨rfl, rfl⟩ := oc2 hf
      exact AW.sub [] rfl (hk3 rfl)
    · have hf := ifn c hf
      refine a_aload_n (q := 0) dX14_isTemplateRead_11 rfl rfl ?_
      obtain ⟨_, e8, hf⟩ := obd hf
      obtain ⟨v6, h7, e5, hf⟩ := ob2 hf
      refine a_callV (as := []) (np := 0) (ci := 13) (st := []) (sX14_here E (D - 1) (by omega) e5) dX14_isTemplateRead_12 rfl (by omega) (by decide) cw_X14_247 ⟨wd_1349, ws_65⟩ rfl (ckT_s e8) rfl (Nat.le_of_ble_eq_true rfl) ?_
      refine a_istore_n (lv1 := [(3, .int v6), (0, .ref x0), (1, .int x1), (2, .int x2)]) dX14_isTemplateRead_15 rfl (by decide) rfl ?_
      refine a_iload_n (q := 0) dX14_isTemplateRead_16 rfl rfl ?_
      refine a_bipush (v := 125) dX14_isTemplateRead_17 (by decide) ?_
      refine a_icmp_ne (tgt := 31) dX14_isTemplateRead_19 (by decide) (fun c => ?_) (fun c => ?_)
      · have hf := ifn c hf
        refine a_iload_n (q := 0) dX14_isTemplateRead_31 rfl rfl ?_
        refine a_bipush (v := 123) dX14_isTemplateRead_32 (by decide) ?_
        obtain ⟨k59, ek59, hf⟩ := jn_s hf
        have hj59 : ∀ (h59j : hp), k59 h59j = some (tq, hq) → AW E yX14_isTemplateRead cX14_isTemplateRead (Option.some Jvm.ClassFile.FieldType.boolean) 4 D rz h0 hz 59 [(0, .ref x0), (1, .int x1), (2, .int x2), (3, .int v6)] [] h59j := by
          intro h59j hf
          rw [ek59] at hf
          clear ek59
          refine a_iload_n (q := 3) dX14_isTemplateRead_59 rfl rfl ?_
          refine a_bipush (v := 123) dX14_isTemplateRead_60 (by decide) ?_
          refine a_icmp_eq (tgt := 78) dX14_isTemplateRead_62 (by decide) (fun c => ?_) (fun c => ?_)
          · have hf := ifp c hf
            refine a_aload_n (q := 0) dX14_isTemplateRead_78 rfl rfl ?_
            refine a_iload_n (q := 1) dX14_isTemplateRead_79 rfl rfl ?_
            refine a_iload_n (q := 2) dX14_isTemplateRead_80 rfl rfl ?_
            obtain ⟨_, e12, hf⟩ := obd hf
            obtain ⟨v10, h11, e9, hf⟩ := ob2 hf
            refine a_callV (as := [.int x1, .int x2]) (np := 2) (ci := 13) (st := []) ((hg.2.1) _ _ _ _ _ _ e9) dX14_isTemplateRead_81 rfl (by omega) (by decide) cw_X14_312 ⟨wd_1361, ws_68⟩ rfl (ckT_s e12) rfl (Nat.le_of_ble_eq_true rfl) ?_
            refine a_if_ne (tgt := 89) dX14_isTemplateRead_84 (by decide) (fun c => ?_) (fun c => ?_)
            · have hf := ifn c hf
              refine a_goto (tgt := 0) dX14_isTemplateRead_89 (by decide) ?_
              exact AW.sub [0, 1, 2] rfl (ih _ _ _ _ _ _ hf hk0 hk1 hk2 hk3)
            · have hf := ifp c hf
              obtain ⟨rfl, rfl⟩ := oc2 hf
              exact AW.sub [] rfl (hk2 rfl)
          · have hf := ifn c hf
            refine a_aload_n (q := 0) dX14_isTemplateRead_65 rfl rfl ?_
            refine a_dup dX14_isTemplateRead_66 rfl ?_
            obtain ⟨v13, e14, hf⟩ := obd hf
            refine o_gfI dX14_isTemplateRead_67 lk_X14_238 rfl e14 ?_
            refine a_iconst (v := 1) dX14_isTemplateRead_70 (by decide) ?_
            refine a_iadd dX14_isTemplateRead_71 ?_
            obtain ⟨h15, e16, hf⟩ := obd hf
            refine o_pfI dX14_isTemplateRead_72 lk_X14_238 (⟨_, rfl, Or.inl rfl⟩) rfl e16 ?_
            refine a_goto (tgt := 89) dX14_isTemplateRead_75 (by decide) ?_
            refine a_goto (tgt := 0) dX14_isTemplateRead_89 (by decide) ?_
            exact AW.sub [0, 1, 2] rfl (ih _ _ _ _ _ _ hf hk0 hk1 hk2 hk3)
        clear ek59
        refine a_icmp_ne (tgt := 59) dX14_isTemplateRead_34 (by decide) (fun c => ?_) (fun c => ?_)
        · have hf := ifn c hf
          exact AW.sub [1, 2, 3, 0] rfl (hj59 _ hf)
        · have hf := ifp c hf
          refine a_aload_n (q := 1) dX14_isTemplateRead_37 rfl rfl ?_
          refine a_iconst (v := 1) dX14_isTemplateRead_38 (by decide) ?_
          obtain ⟨_, e20, hf⟩ := obd hf
          obtain ⟨v18, h19, e17, hf⟩ := ob2 hf
          refine a_callV (as := [.int 1]) (np := 1) (ci := 13) (st := []) (sX14_ahead E (D - 1) (by omega) e17) dX14_isTemplateRead_39 rfl (by omega) (by decide) cw_X14_298 ⟨wd_1357, ws_67⟩ rfl (ckT_s e20) rfl (Nat.le_of_ble_eq_true rfl) ?_
          refine a_bipush (v := 47) dX14_isTemplateRead_42 (by decide) ?_
          refine a_icmp_eq (tgt := 57) dX14_isTemplateRead_44 (by decide) (fun c => ?_) (fun c => ?_)
          · have hf := ifp c hf
            obtain ⟨rfl, rfl⟩ := oc2 hf
            exact AW.sub [] rfl (hk1 rfl)
          · have hf := ifn c hf
            refine a_aload_n (q := 1) dX14_isTemplateRead_47 rfl rfl ?_
            refine a_iconst (v := 1) dX14_isTemplateRead_48 (by decide) ?_
            obtain ⟨_, e24, hf⟩ := obd hf
            obtain ⟨v22, h23, e21, hf⟩ := ob2 hf
            refine a_callV (as := [.int 1]) (np := 1) (ci := 13) (st := []) (sX14_ahead E (D - 1) (by omega) e21) dX14_isTemplateRead_49 rfl (by omega) (by decide) cw_X14_298 ⟨wd_1357, ws_67⟩ rfl (ckT_s e24) rfl (Nat.le_of_ble_eq_true rfl) ?_
            refine a_bipush (v := 58) dX14_isTemplateRead_52 (by decide) ?_
            refine a_icmp_ne (tgt := 59) dX14_isTemplateRead_54 (by decide) (fun c => ?_) (fun c => ?_)
            · have hf := ifn c hf
              exact AW.sub [1, 2, 3, 0] rfl (hj59 _ hf)
            · have hf := ifp c hf
              obtain ⟨rfl, rfl⟩ := oc2 hf
              exact AW.sub [] rfl (hk1 rfl)
      · have hf := ifp c hf
        obtain ⟨rfl, rfl⟩ := oc2 hf
        exact AW.sub [1] rfl (hk0 rfl)
set_option maxHeartbeats 4000000 in
set_option maxRecDepth 100000 in
theorem sX14_isTemplateRead_b (E : gE) (D : Nat) (hD : 10 ≤ D) {g : gG2} (hg : gG2_ok E (D - 1) g) {a0 : Nat} {a1 : Int32} {a2 : Int32} {h hz : hp} {v0 : Int32} (hf : fX14_isTemplateRead_b g a0 a1 a2 h = some (v0, hz)) : MC E yX14_isTemplateRead cX14_isTemplateRead (Option.some Jvm.ClassFile.FieldType.boolean) 4 D [.ref a0, .int a1, .int a2] h (some (.int v0)) hz := by
  refine MC.of (by decide +kernel) (Nat.le_of_ble_eq_true rfl) rfl ?_
  unfold fX14_isTemplateRead_b at hf
  show AW E yX14_isTemplateRead cX14_isTemplateRead (Option.some Jvm.ClassFile.FieldType.boolean) 4 D (some (.int v0)) h hz 0 [(0, .ref a0), (1, .int a1), (2, .int a2)] [] h
  obtain ⟨t3, h2, e1, hf⟩ := ob2 hf
  refine sX14_isTemplateRead_l0 E D hD hg _ _ _ _ _ _ _ e1 (fun c => ?_) (fun c => ?_) (fun c => ?_) (fun c => ?_)
  · have hf := ifp c hf
    refine a_aload_n (q := 0) dX14_isTemplateRead_22 rfl rfl ?_
    refine a_aload_n (q := 0) dX14_isTemplateRead_23 rfl rfl ?_
    obtain ⟨v4, e5, hf⟩ := obd hf
    refine o_gfI dX14_isTemplateRead_24 lk_X14_238 rfl e5 ?_
    obtain ⟨_, e9, hf⟩ := obd hf
    obtain ⟨v7, h8, e6, hf⟩ := ob2 hf
    refine a_callV (as := [.int v4]) (np := 1) (ci := 13) (st := []) (sX14_fails E (D - 1) (by omega) e6) dX14_isTemplateRead_27 rfl (by omega) (by decide) cw_X14_251 ⟨wd_1353, ws_66⟩ rfl (ckT_s e9) rfl (Nat.le_of_ble_eq_true rfl) ?_
    obtain ⟨_, e10, hf⟩ := obd hf
    obtain ⟨rfl, rfl⟩ := oc2 hf
    exact a_zreturn dX14_isTemplateRead_30 rfl (zck_s e10)
  · have hf := ifn (by rw [c]; decide) hf
    have hf := ifp c hf
    refine a_iconst (v := 1) dX14_isTemplateRead_57 (by decide) ?_
    obtain ⟨rfl, rfl⟩ := oc2 hf
    exact a_zreturn dX14_isTemplateRead_58 rfl (by decide)
  · have hf := ifn (by rw [c]; decide) hf
    have hf := ifn (by rw [c]; decide) hf
    have hf := ifp c hf
    refine a_iconst (v := 0) dX14_isTemplateRead_87 (by decide) ?_
    obtain ⟨rfl, rfl⟩ := oc2 hf
    exact a_zreturn dX14_isTemplateRead_88 rfl (by decide)
  · have hf := ifn (by rw [c]; decide) hf
    have hf := ifn (by rw [c]; decide) hf
    have hf := ifn (by rw [c]; decide) hf
    have hf := ifp c hf
    refine a_iconst (v := 1) dX14_isTemplateRead_92 (by decide) ?_
    obtain ⟨rfl, rfl⟩ := oc2 hf
    exact a_zreturn dX14_isTemplateRead_93 rfl (by decide)
def G2 : Nat → gG2
  | 0 => ((fun _ _ _ _ _ => none), (fun _ _ _ _ => none), (fun _ _ _ _ => none))
  | n + 1 => (fX14_isBodyRead_b (G2 n), fX14_isPieceRead_b (G2 n), fX14_isTemplateRead_b (G2 n))
theorem G2_ok (E : gE) : ∀ (n D : Nat), n + 10 ≤ D → gG2_ok E D (G2 n) := by
  intro n
  induction n with
  | zero =>
    intro D hD
    exact ⟨(fun _ _ _ _ _ _ _ hf => by cases hf), (fun _ _ _ _ _ _ hf => by cases hf), (fun _ _ _ _ _ _ hf => by cases hf)⟩
  | succ n ih =>
    intro D hD
    have hg := ih (D - 1) (by omega)
    exact ⟨(fun _ _ _ _ _ _ _ hf => sX14_isBodyRead_b E D (by omega) hg hf), (fun _ _ _ _ _ _ hf => sX14_isPieceRead_b E D (by omega) hg hf), (fun _ _ _ _ _ _ hf => sX14_isTemplateRead_b E D (by omega) hg hf)⟩
def fX14_isBodyRead (a0 : Nat) (a1 : Int32) (a2 : Int32) (a3 : Int32) (h : hp) : Option (Int32 × hp) := (G2 120).1 a0 a1 a2 a3 h
theorem sX14_isBodyRead (E : gE) (D : Nat) (hD : 130 ≤ D) {a0 : Nat} {a1 : Int32} {a2 : Int32} {a3 : Int32} {h hz : hp} {v0 : Int32} (hf : fX14_isBodyRead a0 a1 a2 a3 h = some (v0, hz)) : MC E yX14_isBodyRead cX14_isBodyRead (Option.some Jvm.ClassFile.FieldType.boolean) 4 D [.ref a0, .int a1, .int a2, .int a3] h (some (.int v0)) hz :=
  (G2_ok E 120 D (by omega)).1 _ _ _ _ _ _ _ hf
def fX14_isPieceRead (a0 : Nat) (a1 : Int32) (a2 : Int32) (h : hp) : Option (Int32 × hp) := (G2 120).2.1 a0 a1 a2 h
theorem sX14_isPieceRead (E : gE) (D : Nat) (hD : 130 ≤ D) {a0 : Nat} {a1 : Int32} {a2 : Int32} {h hz : hp} {v0 : Int32} (hf : fX14_isPieceRead a0 a1 a2 h = some (v0, hz)) : MC E yX14_isPieceRead cX14_isPieceRead (Option.some Jvm.ClassFile.FieldType.boolean) 5 D [.ref a0, .int a1, .int a2] h (some (.int v0)) hz :=
  (G2_ok E 120 D (by omega)).2.1 _ _ _ _ _ _ hf
def fX14_isTemplateRead (a0 : Nat) (a1 : Int32) (a2 : Int32) (h : hp) : Option (Int32 × hp) := (G2 120).2.2 a0 a1 a2 h
theorem sX14_isTemplateRead (E : gE) (D : Nat) (hD : 130 ≤ D) {a0 : Nat} {a1 : Int32} {a2 : Int32} {h hz : hp} {v0 : Int32} (hf : fX14_isTemplateRead a0 a1 a2 h = some (v0, hz)) : MC E yX14_isTemplateRead cX14_isTemplateRead (Option.some Jvm.ClassFile.FieldType.boolean) 4 D [.ref a0, .int a1, .int a2] h (some (.int v0)) hz :=
  (G2_ok E 120 D (by omega)).2.2 _ _ _ _ _ _ hf
def fX14_isAllRead (a0 : Nat) (h : hp) : Option (Int32 × hp) :=
  (ckT h a0 13).bind fun _ =>
  bd2 (fX14_isTemplateRead a0 0 0 h) fun v2 h3 =>
  if v2 = 0 then (
    some (0, h3)
  ) else (
    (gfI h3 a0 13 14).bind fun v5 =>
    (gfI h3 a0 13 13).bind fun v7 =>
    if v5 = v7 then (
      some (1, h3)
    ) else (
      (gfI h3 a0 13 14).bind fun v9 =>
      (ckT h3 a0 13).bind fun _ =>
      bd2 (fX14_fails a0 (v9 + 1) h3) fun v12 h13 =>
      if v12 = 0 then (
        some (0, h13)
      ) else (
        some (1, h13)
      )
    )
  )
set_option maxHeartbeats 4000000 in
set_option maxRecDepth 100000 in
theorem sX14_isAllRead (E : gE) (D : Nat) (hD : 131 ≤ D) {a0 : Nat} {h hz : hp} {v0 : Int32} (hf : fX14_isAllRead a0 h = some (v0, hz)) : MC E yX14_isAllRead cX14_isAllRead (Option.some Jvm.ClassFile.FieldType.boolean) 1 D [.ref a0] h (some (.int v0)) hz := by
  refine MC.of (by decide +kernel) (Nat.le_of_ble_eq_true rfl) rfl ?_
  unfold fX14_isAllRead at hf
  show AW E yX14_isAllRead cX14_isAllRead (Option.some Jvm.ClassFile.FieldType.boolean) 1 D (some (.int v0)) h hz 0 [(0, .ref a0)] [] h
  refine a_aload_n (q := 0) dX14_isAllRead_0 rfl rfl ?_
  refine a_iconst (v := 0) dX14_isAllRead_1 (by decide) ?_
  refine a_iconst (v := 0) dX14_isAllRead_2 (by decide) ?_
  obtain ⟨_, e4, hf⟩ := obd hf
  obtain ⟨v2, h3, e1, hf⟩ := ob2 hf
  refine a_callV (as := [.int 0, .int 0]) (np := 2) (ci := 13) (st := []) (sX14_isTemplateRead E (D - 1) (by omega) e1) dX14_isAllRead_3 rfl (by omega) (by decide) cw_X14_294 ⟨wd_1345, ws_64⟩ rfl (ckT_s e4) rfl (Nat.le_of_ble_eq_true rfl) ?_
  refine a_if_ne (tgt := 11) dX14_isAllRead_6 (by decide) (fun c => ?_) (fun c => ?_)
  · have hf := ifn c hf
    refine a_aload_n (q := 0) dX14_isAllRead_11 rfl rfl ?_
    obtain ⟨v5, e6, hf⟩ := obd hf
    refine o_gfI dX14_isAllRead_12 lk_X14_238 rfl e6 ?_
    refine a_aload_n (q := 0) dX14_isAllRead_15 rfl rfl ?_
    obtain ⟨v7, e8, hf⟩ := obd hf
    refine o_gfI dX14_isAllRead_16 lk_X14_235 rfl e8 ?_
    refine a_icmp_eq (tgt := 35) dX14_isAllRead_19 (by decide) (fun c => ?_) (fun c => ?_)
    · have hf := ifp c hf
      refine a_iconst (v := 1) dX14_isAllRead_35 (by decide) ?_
      refine a_goto (tgt := 40) dX14_isAllRead_36 (by decide) ?_
      obtain ⟨rfl, rfl⟩ := oc2 hf
      exact a_zreturn dX14_isAllRead_40 rfl (by decide)
    · have hf := ifn c hf
      refine a_aload_n (q := 0) dX14_isAllRead_22 rfl rfl ?_
      refine a_aload_n (q := 0) dX14_isAllRead_23 rfl rfl ?_
      obtain ⟨v9, e10, hf⟩ := obd hf
      refine o_gfI dX14_isAllRead_24 lk_X14_238 rfl e10 ?_
      refine a_iconst (v := 1) dX14_isAllRead_27 (by decide) ?_
      refine a_iadd dX14_isAllRead_28 ?_
      obtain ⟨_, e14, hf⟩ := obd hf
      obtain ⟨v12, h13, e11, hf⟩ := ob2 hf
      refine a_callV (as := [.int (v9 + 1)]) (np := 1) (ci := 13) (st := []) (sX14_fails E (D - 1) (by omega) e11) dX14_isAllRead_29 rfl (by omega) (by decide) cw_X14_251 ⟨wd_1353, ws_66⟩ rfl (ckT_s e14) rfl (Nat.le_of_ble_eq_true rfl) ?_
      refine a_if_eq (tgt := 39) dX14_isAllRead_32 (by decide) (fun c => ?_) (fun c => ?_)
      · have hf := ifp c hf
        refine a_iconst (v := 0) dX14_isAllRead_39 (by decide) ?_
        obtain ⟨rfl, rfl⟩ := oc2 hf
        exact a_zreturn dX14_isAllRead_40 rfl (by decide)
      · have hf := ifn c hf
        refine a_iconst (v := 1) dX14_isAllRead_35 (by decide) ?_
        refine a_goto (tgt := 40) dX14_isAllRead_36 (by decide) ?_
        obtain ⟨rfl, rfl⟩ := oc2 hf
        exact a_zreturn dX14_isAllRead_40 rfl (by decide)
  · have hf := ifp c hf
    refine a_iconst (v := 0) dX14_isAllRead_9 (by decide) ?_
    obtain ⟨rfl, rfl⟩ := oc2 hf
    exact a_zreturn dX14_isAllRead_10 rfl (by decide)
def fX14_template_l51 : Nat → Nat → Int32 → Int32 → Int32 → hp → Option hp
  | 0, _, _, _, _, _ => none
  | n + 1, x0, x1, x2, x3, h =>
    if x2 ≤ x3 then (
      some (h)
    ) else (
      (gfR h x0 13 8).bind fun v1 =>
      (gfR h x0 13 7).bind fun v3 =>
      (alI h v3 x3).bind fun v5 =>
      (asI h v1 ((160 * x1) + x3) v5).bind fun h7 =>
      fX14_template_l51 n x0 x1 x2 (x3 + 1) h7
    )
def fX14_template (a0 : Nat) (a1 : Int32) (h : hp) : Option (Int32 × hp) :=
  bd2 (fX14_isIn (a1.toInt64) 0 5 h) fun v2 h3 =>
  if v2 = 0 then (
    some ((-1), h3)
  ) else (
    (gfI h3 a0 13 10).bind fun v4 =>
    (pfI h3 a0 13 10 0).bind fun h6 =>
    (gfR h6 a0 13 7).bind fun v8 =>
    (ckT h6 a0 13).bind fun _ =>
    (fX14_reads a0 v8 0 v4 h6).bind fun h11 =>
    (ckT h11 a0 13).bind fun _ =>
    bd2 (fX14_isAllRead a0 h11) fun v14 h15 =>
    if v14 = 0 then (
      (gfI h15 a0 13 15).bind fun v25 =>
      some (((-100) - v25), h15)
    ) else (
      (fX14_template_l51 FU a0 a1 v4 0 h15).bind fun h18 =>
      (gfR h18 a0 13 9).bind fun v19 =>
      (asI h18 v19 a1 v4).bind fun h21 =>
      (gfI h21 a0 13 16).bind fun v23 =>
      some (v23, h21)
    )
  )
set_option maxHeartbeats 4000000 in
set_option maxRecDepth 100000 in
theorem sX14_template_l51 (E : gE) (D : Nat) (hD : 132 ≤ D) {rz : Option Value} {h0 hz : hp} : ∀ (n : Nat) (x0 : Nat) (x1 : Int32) (x2 : Int32) (x3 : Int32) (h : hp) (hq : hp), fX14_template_l51 n x0 x1 x2 x3 h = some hq → (AW E yX14_template cX14_template (Option.some Jvm.ClassFile.FieldType.int) 4 D rz h0 hz 80 [(0, .ref x0), (1, .int x1), (2, .int x2)] [] hq) → AW E yX14_template cX14_template (Option.some Jvm.ClassFile.FieldType.int) 4 D rz h0 hz 51 [(0, .ref x0), (1, .int x1), (2, .int x2), (3, .int x3)] [] h := by
  intro n
  induction n with
  | zero =>
    intro x0 x1 x2 x3 h hq hf _
    rw [fX14_template_l51] at hf
    cases hf
  | succ n ih =>
    intro x0 x1 x2 x3 h hq hf hk0
    rw [fX14_template_l51] at hf
    refine a_iload_n (q := 3) dX14_template_51 rfl rfl ?_
    refine a_iload_n (q := 2) dX14_template_52 rfl rfl ?_
    refine a_icmp_ge (tgt := 80) dX14_template_53 (by decide) (fun c => ?_) (fun c => ?_)
    · have hf := ifp c hf
      obtain rfl := Option.some.inj hf
      exact AW.sub [0, 1, 2] rfl (hk0)
    · have hf := ifn c hf
      refine a_aload_n (q := 0) dX14_template_56 rfl rfl ?_
      obtain ⟨v1, e2, hf⟩ := obd hf
      refine o_gfR dX14_template_57 lk_X14_34 rfl e2 ?_
      refine a_sipush (v := 160) dX14_template_60 (by decide) ?_
      refine a_iload_n (q := 1) dX14_template_63 rfl rfl ?_
      refine a_imul dX14_template_64 ?_
      refine a_iload_n (q := 3) dX14_template_65 rfl rfl ?_
      refine a_iadd dX14_template_66 ?_
      refine a_aload_n (q := 0) dX14_template_67 rfl rfl ?_
      obtain ⟨v3, e4, hf⟩ := obd hf
      refine o_gfR dX14_template_68 lk_X14_31 rfl e4 ?_
      refine a_iload_n (q := 3) dX14_template_71 rfl rfl ?_
      obtain ⟨v5, e6, hf⟩ := obd hf
      refine o_alI dX14_template_72 e6 ?_
      obtain ⟨h7, e8, hf⟩ := obd hf
      refine o_asI dX14_template_73 e8 ?_
      refine a_iinc (q := 3) (v := (x3 + 1)) (lv1 := [(3, .int (x3 + 1)), (0, .ref x0), (1, .int x1), (2, .int x2)]) dX14_template_74 rfl (by rfl) (by decide) rfl ?_
      refine a_goto (tgt := 51) dX14_template_77 (by decide) ?_
      exact AW.sub [1, 2, 3, 0] rfl (ih _ _ _ _ _ _ hf hk0)
set_option maxHeartbeats 4000000 in
set_option maxRecDepth 100000 in
theorem sX14_template (E : gE) (D : Nat) (hD : 132 ≤ D) {a0 : Nat} {a1 : Int32} {h hz : hp} {v0 : Int32} (hf : fX14_template a0 a1 h = some (v0, hz)) : MC E yX14_template cX14_template (Option.some Jvm.ClassFile.FieldType.int) 4 D [.ref a0, .int a1] h (some (.int v0)) hz := by
  refine MC.of (by decide +kernel) (Nat.le_of_ble_eq_true rfl) rfl ?_
  unfold fX14_template at hf
  show AW E yX14_template cX14_template (Option.some Jvm.ClassFile.FieldType.int) 4 D (some (.int v0)) h hz 0 [(0, .ref a0), (1, .int a1)] [] h
  refine a_iload_n (q := 1) dX14_template_0 rfl rfl ?_
  refine a_i2l dX14_template_1 rfl ?_
  refine a_lconst (v := 0) dX14_template_2 (by decide) ?_
  refine a_ldc2 (v := 5) dX14_template_3 wd_1334 ?_
  obtain ⟨v2, h3, e1, hf⟩ := ob2 hf
  refine a_callS (as := [.long (a1.toInt64), .long 0, .long 5]) (np := 3) (st := []) (sX14_isIn E (D - 1) (by omega) e1) dX14_template_6 rfl (by omega) (by decide) cw_X14_155 wd_1324 rfl (Nat.le_of_ble_eq_true rfl) ?_
  refine a_if_ne (tgt := 14) dX14_template_9 (by decide) (fun c => ?_) (fun c => ?_)
  · have hf := ifn c hf
    refine a_aload_n (q := 0) dX14_template_14 rfl rfl ?_
    obtain ⟨v4, e5, hf⟩ := obd hf
    refine o_gfI dX14_template_15 lk_X14_229 rfl e5 ?_
    refine a_istore_n (lv1 := [(2, .int v4), (0, .ref a0), (1, .int a1)]) dX14_template_18 rfl (by decide) rfl ?_
    refine a_aload_n (q := 1) dX14_template_19 rfl rfl ?_
    refine a_iconst (v := 0) dX14_template_20 (by decide) ?_
    obtain ⟨h6, e7, hf⟩ := obd hf
    refine o_pfI dX14_template_21 lk_X14_229 (⟨_, rfl, Or.inl rfl⟩) rfl e7 ?_
    refine a_aload_n (q := 1) dX14_template_24 rfl rfl ?_
    refine a_aload_n (q := 1) dX14_template_25 rfl rfl ?_
    obtain ⟨v8, e9, hf⟩ := obd hf
    refine o_gfR dX14_template_26 lk_X14_31 rfl e9 ?_
    refine a_iconst (v := 0) dX14_template_29 (by decide) ?_
    refine a_iload_n (q := 0) dX14_template_30 rfl rfl ?_
    obtain ⟨_, e12, hf⟩ := obd hf
    obtain ⟨h11, e10, hf⟩ := obd hf
    refine a_callV (as := [.ref v8, .int 0, .int v4]) (np := 3) (ci := 13) (st := []) (sX14_reads E (D - 1) (by omega) e10) dX14_template_31 rfl (by omega) (by decide) cw_X14_317 ⟨wd_1337, ws_62⟩ rfl (ckT_s e12) rfl (Nat.le_of_ble_eq_true rfl) ?_
    refine a_aload_n (q := 1) dX14_template_34 rfl rfl ?_
    obtain ⟨_, e16, hf⟩ := obd hf
    obtain ⟨v14, h15, e13, hf⟩ := ob2 hf
    refine a_callV (as := []) (np := 0) (ci := 13) (st := []) (sX14_isAllRead E (D - 1) (by omega) e13) dX14_template_35 rfl (by omega) (by decide) cw_X14_321 ⟨wd_1341, ws_63⟩ rfl (ckT_s e16) rfl (Nat.le_of_ble_eq_true rfl) ?_
    refine a_if_ne (tgt := 49) dX14_template_38 (by decide) (fun c => ?_) (fun c => ?_)
    · have hf := ifn c hf
      refine a_iconst (v := 0) dX14_template_49 (by decide) ?_
      refine a_istore_n (lv1 := [(3, .int 0), (2, .int v4), (0, .ref a0), (1, .int a1)]) dX14_template_50 rfl (by decide) rfl ?_
      obtain ⟨h18, e17, hf⟩ := obd hf
      refine AW.sub [2, 3, 1, 0] rfl (sX14_template_l51 E D hD _ _ _ _ _ _ _ e17 ?_)
      refine a_aload_n (q := 0) dX14_template_80 rfl rfl ?_
      obtain ⟨v19, e20, hf⟩ := obd hf
      refine o_gfR dX14_template_81 lk_X14_37 rfl e20 ?_
      refine a_iload_n (q := 1) dX14_template_84 rfl rfl ?_
      refine a_iload_n (q := 2) dX14_template_85 rfl rfl ?_
      obtain ⟨h21, e22, hf⟩ := obd hf
      refine o_asI dX14_template_86 e22 ?_
      refine a_aload_n (q := 0) dX14_template_87 rfl rfl ?_
      obtain ⟨v23, e24, hf⟩ := obd hf
      refine o_gfI dX14_template_88 lk_X14_244 rfl e24 ?_
      obtain ⟨rfl, rfl⟩ := oc2 hf
      exact a_ireturn dX14_template_91 rfl
    · have hf := ifp c hf
      refine a_bipush (v := (-100)) dX14_template_41 (by decide) ?_
      refine a_aload_n (q := 1) dX14_template_43 rfl rfl ?_
      obtain ⟨v25, e26, hf⟩ := obd hf
      refine o_gfI dX14_template_44 lk_X14_241 rfl e26 ?_
      refine a_isub dX14_template_47 ?_
      obtain ⟨rfl, rfl⟩ := oc2 hf
      exact a_ireturn dX14_template_48 rfl
  · have hf := ifp c hf
    refine a_iconst (v := (-1)) dX14_template_12 (by decide) ?_
    obtain ⟨rfl, rfl⟩ := oc2 hf
    exact a_ireturn dX14_template_13 rfl
def fX14_nodesOf (a0 : Nat) (a1 : Int32) (h : hp) : Option (Int32 × hp) :=
  (gfR h a0 13 8).bind fun v1 =>
  (gfR h a0 13 9).bind fun v3 =>
  (alI h v3 a1).bind fun v5 =>
  (ckT h a0 13).bind fun _ =>
  (fX14_reads a0 v1 (160 * a1) v5 h).bind fun h8 =>
  (ckT h8 a0 13).bind fun _ =>
  bd2 (fX14_isAllRead a0 h8) fun v11 h12 =>
  (gfI h12 a0 13 16).bind fun v14 =>
  some (v14, h12)
set_option maxHeartbeats 4000000 in
set_option maxRecDepth 100000 in
theorem sX14_nodesOf (E : gE) (D : Nat) (hD : 132 ≤ D) {a0 : Nat} {a1 : Int32} {h hz : hp} {v0 : Int32} (hf : fX14_nodesOf a0 a1 h = some (v0, hz)) : MC E yX14_nodesOf cX14_nodesOf (Option.some Jvm.ClassFile.FieldType.int) 2 D [.ref a0, .int a1] h (some (.int v0)) hz := by
  refine MC.of (by decide +kernel) (Nat.le_of_ble_eq_true rfl) rfl ?_
  unfold fX14_nodesOf at hf
  show AW E yX14_nodesOf cX14_nodesOf (Option.some Jvm.ClassFile.FieldType.int) 2 D (some (.int v0)) h hz 0 [(0, .ref a0), (1, .int a1)] [] h
  refine a_aload_n (q := 0) dX14_nodesOf_0 rfl rfl ?_
  refine a_aload_n (q := 0) dX14_nodesOf_1 rfl rfl ?_
  obtain ⟨v1, e2, hf⟩ := obd hf
  refine o_gfR dX14_nodesOf_2 lk_X14_34 rfl e2 ?_
  refine a_sipush (v := 160) dX14_nodesOf_5 (by decide) ?_
  refine a_iload_n (q := 1) dX14_nodesOf_8 rfl rfl ?_
  refine a_imul dX14_nodesOf_9 ?_
  refine a_aload_n (q := 0) dX14_nodesOf_10 rfl rfl ?_
  obtain ⟨v3, e4, hf⟩ := obd hf
  refine o_gfR dX14_nodesOf_11 lk_X14_37 rfl e4 ?_
  refine a_iload_n (q := 1) dX14_nodesOf_14 rfl rfl ?_
  obtain ⟨v5, e6, hf⟩ := obd hf
  refine o_alI dX14_nodesOf_15 e6 ?_
  obtain ⟨_, e9, hf⟩ := obd hf
  obtain ⟨h8, e7, hf⟩ := obd hf
  refine a_callV (as := [.ref v1, .int (160 * a1), .int v5]) (np := 3) (ci := 13) (st := []) (sX14_reads E (D - 1) (by omega) e7) dX14_nodesOf_16 rfl (by omega) (by decide) cw_X14_317 ⟨wd_1337, ws_62⟩ rfl (ckT_s e9) rfl (Nat.le_of_ble_eq_true rfl) ?_
  refine a_aload_n (q := 0) dX14_nodesOf_19 rfl rfl ?_
  obtain ⟨_, e13, hf⟩ := obd hf
  obtain ⟨v11, h12, e10, hf⟩ := ob2 hf
  refine a_callV (as := []) (np := 0) (ci := 13) (st := []) (sX14_isAllRead E (D - 1) (by omega) e10) dX14_nodesOf_20 rfl (by omega) (by decide) cw_X14_321 ⟨wd_1341, ws_63⟩ rfl (ckT_s e13) rfl (Nat.le_of_ble_eq_true rfl) ?_
  refine a_pop dX14_nodesOf_23 rfl ?_
  refine a_aload_n (q := 0) dX14_nodesOf_24 rfl rfl ?_
  obtain ⟨v14, e15, hf⟩ := obd hf
  refine o_gfI dX14_nodesOf_25 lk_X14_244 rfl e15 ?_
  obtain ⟨rfl, rfl⟩ := oc2 hf
  exact a_ireturn dX14_nodesOf_28 rfl
def fX14_drop (a0 : Nat) (a1 : Int32) (h : hp) : Option (Int32 × hp) :=
  bd2 (fX14_isIn (a1.toInt64) 0 5 h) fun v2 h3 =>
  if v2 = 0 then (
    some ((-1), h3)
  ) else (
    (gfR h3 a0 13 9).bind fun v4 =>
    (alI h3 v4 a1).bind fun v6 =>
    if 0 ≤ v6 then (
      (ckT h3 a0 13).bind fun _ =>
      bd2 (fX14_nodesOf a0 a1 h3) fun v9 h10 =>
      (gfR h10 a0 13 9).bind fun v12 =>
      (asI h10 v12 a1 (-1)).bind fun h14 =>
      some (v9, h14)
    ) else (
      some ((-3), h3)
    )
  )
set_option maxHeartbeats 4000000 in
set_option maxRecDepth 100000 in
theorem sX14_drop (E : gE) (D : Nat) (hD : 133 ≤ D) {a0 : Nat} {a1 : Int32} {h hz : hp} {v0 : Int32} (hf : fX14_drop a0 a1 h = some (v0, hz)) : MC E yX14_drop cX14_drop (Option.some Jvm.ClassFile.FieldType.int) 3 D [.ref a0, .int a1] h (some (.int v0)) hz := by
  refine MC.of (by decide +kernel) (Nat.le_of_ble_eq_true rfl) rfl ?_
  unfold fX14_drop at hf
  show AW E yX14_drop cX14_drop (Option.some Jvm.ClassFile.FieldType.int) 3 D (some (.int v0)) h hz 0 [(0, .ref a0), (1, .int a1)] [] h
  refine a_iload_n (q := 1) dX14_drop_0 rfl rfl ?_
  refine a_i2l dX14_drop_1 rfl ?_
  refine a_lconst (v := 0) dX14_drop_2 (by decide) ?_
  refine a_ldc2 (v := 5) dX14_drop_3 wd_1334 ?_
  obtain ⟨v2, h3, e1, hf⟩ := ob2 hf
  refine a_callS (as := [.long (a1.toInt64), .long 0, .long 5]) (np := 3) (st := []) (sX14_isIn E (D - 1) (by omega) e1) dX14_drop_6 rfl (by omega) (by decide) cw_X14_155 wd_1324 rfl (Nat.le_of_ble_eq_true rfl) ?_
  refine a_if_ne (tgt := 14) dX14_drop_9 (by decide) (fun c => ?_) (fun c => ?_)
  · have hf := ifn c hf
    refine a_aload_n (q := 0) dX14_drop_14 rfl rfl ?_
    obtain ⟨v4, e5, hf⟩ := obd hf
    refine o_gfR dX14_drop_15 lk_X14_37 rfl e5 ?_
    refine a_iload_n (q := 1) dX14_drop_18 rfl rfl ?_
    obtain ⟨v6, e7, hf⟩ := obd hf
    refine o_alI dX14_drop_19 e7 ?_
    refine a_if_ge (tgt := 26) dX14_drop_20 (by decide) (fun c => ?_) (fun c => ?_)
    · have hf := ifp c hf
      refine a_aload_n (q := 0) dX14_drop_26 rfl rfl ?_
      refine a_iload_n (q := 1) dX14_drop_27 rfl rfl ?_
      obtain ⟨_, e11, hf⟩ := obd hf
      obtain ⟨v9, h10, e8, hf⟩ := ob2 hf
      refine a_callV (as := [.int a1]) (np := 1) (ci := 13) (st := []) (sX14_nodesOf E (D - 1) (by omega) e8) dX14_drop_28 rfl (by omega) (by decide) cw_X14_324 ⟨wd_1418, ws_79⟩ rfl (ckT_s e11) rfl (Nat.le_of_ble_eq_true rfl) ?_
      refine a_istore_n (lv1 := [(2, .int v9), (0, .ref a0), (1, .int a1)]) dX14_drop_31 rfl (by decide) rfl ?_
      refine a_aload_n (q := 1) dX14_drop_32 rfl rfl ?_
      obtain ⟨v12, e13, hf⟩ := obd hf
      refine o_gfR dX14_drop_33 lk_X14_37 rfl e13 ?_
      refine a_iload_n (q := 2) dX14_drop_36 rfl rfl ?_
      refine a_iconst (v := (-1)) dX14_drop_37 (by decide) ?_
      obtain ⟨h14, e15, hf⟩ := obd hf
      refine o_asI dX14_drop_38 e15 ?_
      refine a_iload_n (q := 0) dX14_drop_39 rfl rfl ?_
      obtain ⟨rfl, rfl⟩ := oc2 hf
      exact a_ireturn dX14_drop_40 rfl
    · have hf := ifn c hf
      refine a_bipush (v := (-3)) dX14_drop_23 (by decide) ?_
      obtain ⟨rfl, rfl⟩ := oc2 hf
      exact a_ireturn dX14_drop_25 rfl
  · have hf := ifp c hf
    refine a_iconst (v := (-1)) dX14_drop_12 (by decide) ?_
    obtain ⟨rfl, rfl⟩ := oc2 hf
    exact a_ireturn dX14_drop_13 rfl
def fX14_lineAt_l5 : Nat → Nat → Int32 → Int32 → Int32 → Int32 → hp → Option (Int32 × hp)
  | 0, _, _, _, _, _, _ => none
  | n + 1, x0, x1, x2, x3, x4, h =>
    if x2 ≤ x4 then (
      some (x3, h)
    ) else (
      (gfR h x0 13 8).bind fun v1 =>
      (alI h v1 ((160 * x1) + x4)).bind fun v3 =>
      jn (fun (s35_0 : Int32) (h35j : hp) => (
        fX14_lineAt_l5 n x0 x1 x2 (x3 + s35_0) (x4 + 1) h35j
        : Option (Int32 × hp))) fun k35 =>
      if v3 = 10 then (
        k35 1 h
      ) else (
        k35 0 h
      )
    )
def fX14_lineAt (a0 : Nat) (a1 : Int32) (a2 : Int32) (h : hp) : Option (Int32 × hp) :=
  bd2 (fX14_lineAt_l5 FU a0 a1 a2 1 0 h) fun v3 h2 =>
  some (v3, h2)
set_option maxHeartbeats 4000000 in
set_option maxRecDepth 100000 in
theorem sX14_lineAt_l5 (E : gE) (D : Nat) (hD : 0 ≤ D) {rz : Option Value} {h0 hz : hp} : ∀ (n : Nat) (x0 : Nat) (x1 : Int32) (x2 : Int32) (x3 : Int32) (x4 : Int32) (h : hp) (m3 : Int32) (hq : hp), fX14_lineAt_l5 n x0 x1 x2 x3 x4 h = some (m3, hq) → (AW E yX14_lineAt cX14_lineAt (Option.some Jvm.ClassFile.FieldType.int) 5 D rz h0 hz 43 [(3, .int m3)] [] hq) → AW E yX14_lineAt cX14_lineAt (Option.some Jvm.ClassFile.FieldType.int) 5 D rz h0 hz 5 [(0, .ref x0), (1, .int x1), (2, .int x2), (3, .int x3), (4, .int x4)] [] h := by
  intro n
  induction n with
  | zero =>
    intro x0 x1 x2 x3 x4 h m3 hq hf _
    rw [fX14_lineAt_l5] at hf
    cases hf
  | succ n ih =>
    intro x0 x1 x2 x3 x4 h m3 hq hf hk0
    rw [fX14_lineAt_l5] at hf
    refine a_iload (q := 4) dX14_lineAt_5 rfl ?_
    refine a_iload_n (q := 2) dX14_lineAt_7 rfl rfl ?_
    refine a_icmp_ge (tgt := 43) dX14_lineAt_8 (by decide) (fun c => ?_) (fun c => ?_)
    · have hf := ifp c hf
      obtain ⟨rfl, rfl⟩ := oc2 hf
      exact AW.sub [3] rfl (hk0)
    · have hf := ifn c hf
      refine a_iload_n (q := 3) dX14_lineAt_11 rfl rfl ?_
      refine a_aload_n (q := 0) dX14_lineAt_12 rfl rfl ?_
      obtain ⟨v1, e2, hf⟩ := obd hf
      refine o_gfR dX14_lineAt_13 lk_X14_34 rfl e2 ?_
      refine a_sipush (v := 160) dX14_lineAt_16 (by decide) ?_
      refine a_iload_n (q := 1) dX14_lineAt_19 rfl rfl ?_
      refine a_imul dX14_lineAt_20 ?_
      refine a_iload (q := 4) dX14_lineAt_21 rfl ?_
      refine a_iadd dX14_lineAt_23 ?_
      obtain ⟨v3, e4, hf⟩ := obd hf
      refine o_alI dX14_lineAt_24 e4 ?_
      refine a_bipush (v := 10) dX14_lineAt_25 (by decide) ?_
      obtain ⟨k35, ek35, hf⟩ := jn_s hf
      have hj35 : ∀ (s35_0 : Int32) (h35j : hp), k35 s35_0 h35j = some (m3, hq) → AW E yX14_lineAt cX14_lineAt (Option.some Jvm.ClassFile.FieldType.int) 5 D rz h0 hz 35 [(0, .ref x0), (1, .int x1), (2, .int x2), (4, .int x4)] [.int s35_0, .int x3] h35j := by
        intro s35_0 h35j hf
        rw [ek35] at hf
        clear ek35
        refine a_iadd dX14_lineAt_35 ?_
        refine a_istore_n (lv1 := [(3, .int (x3 + s35_0)), (0, .ref x0), (1, .int x1), (2, .int x2), (4, .int x4)]) dX14_lineAt_36 rfl (by decide) rfl ?_
        refine a_iinc (q := 4) (v := (x4 + 1)) (lv1 := [(4, .int (x4 + 1)), (3, .int (x3 + s35_0)), (0, .ref x0), (1, .int x1), (2, .int x2)]) dX14_lineAt_37 rfl (by rfl) (by decide) rfl ?_
        refine a_goto (tgt := 5) dX14_lineAt_40 (by decide) ?_
        exact AW.sub [2, 3, 4, 1, 0] rfl (ih _ _ _ _ _ _ _ _ hf hk0)
      clear ek35
      refine a_icmp_ne (tgt := 34) dX14_lineAt_27 (by decide) (fun c => ?_) (fun c => ?_)
      · have hf := ifn c hf
        refine a_iconst (v := 0) dX14_lineAt_34 (by decide) ?_
        exact AW.sub [0, 1, 2, 4] rfl (hj35 _ _ hf)
      · have hf := ifp c hf
        refine a_iconst (v := 1) dX14_lineAt_30 (by decide) ?_
        refine a_goto (tgt := 35) dX14_lineAt_31 (by decide) ?_
        exact AW.sub [0, 1, 2, 4] rfl (hj35 _ _ hf)
set_option maxHeartbeats 4000000 in
set_option maxRecDepth 100000 in
theorem sX14_lineAt (E : gE) (D : Nat) (hD : 0 ≤ D) {a0 : Nat} {a1 : Int32} {a2 : Int32} {h hz : hp} {v0 : Int32} (hf : fX14_lineAt a0 a1 a2 h = some (v0, hz)) : MC E yX14_lineAt cX14_lineAt (Option.some Jvm.ClassFile.FieldType.int) 5 D [.ref a0, .int a1, .int a2] h (some (.int v0)) hz := by
  refine MC.of (by decide +kernel) (Nat.le_of_ble_eq_true rfl) rfl ?_
  unfold fX14_lineAt at hf
  show AW E yX14_lineAt cX14_lineAt (Option.some Jvm.ClassFile.FieldType.int) 5 D (some (.int v0)) h hz 0 [(0, .ref a0), (1, .int a1), (2, .int a2)] [] h
  refine a_iconst (v := 1) dX14_lineAt_0 (by decide) ?_
  refine a_istore_n (lv1 := [(3, .int 1), (0, .ref a0), (1, .int a1), (2, .int a2)]) dX14_lineAt_1 rfl (by decide) rfl ?_
  refine a_iconst (v := 0) dX14_lineAt_2 (by decide) ?_
  refine a_istore (lv1 := [(4, .int 0), (3, .int 1), (0, .ref a0), (1, .int a1), (2, .int a2)]) dX14_lineAt_3 (by decide) rfl ?_
  obtain ⟨v3, h2, e1, hf⟩ := ob2 hf
  refine AW.sub [2, 3, 4, 1, 0] rfl (sX14_lineAt_l5 E D hD _ _ _ _ _ _ _ _ _ e1 ?_)
  refine a_iload_n (q := 0) dX14_lineAt_43 rfl rfl ?_
  obtain ⟨rfl, rfl⟩ := oc2 hf
  exact a_ireturn dX14_lineAt_44 rfl
def fX14_extended (a0 : Nat) (a1 : Int32) (h : hp) : Option (Int32 × hp) :=
  (gfR h a0 13 9).bind fun v1 =>
  (alI h v1 a1).bind fun v3 =>
  if v3 ≤ 3 then (
    some ((-5), h)
  ) else (
    (gfR h a0 13 8).bind fun v5 =>
    (alI h v5 (160 * a1)).bind fun v7 =>
    if v7 = 123 then (
      (gfR h a0 13 8).bind fun v9 =>
      (alI h v9 ((160 * a1) + 1)).bind fun v11 =>
      if v11 = 60 then (
        (gfR h a0 13 8).bind fun v13 =>
        (alI h v13 ((160 * a1) + 2)).bind fun v15 =>
        some ((v15 - 48), h)
      ) else (
        some ((-5), h)
      )
    ) else (
      some ((-5), h)
    )
  )
set_option maxHeartbeats 4000000 in
set_option maxRecDepth 100000 in
theorem sX14_extended (E : gE) (D : Nat) (hD : 0 ≤ D) {a0 : Nat} {a1 : Int32} {h hz : hp} {v0 : Int32} (hf : fX14_extended a0 a1 h = some (v0, hz)) : MC E yX14_extended cX14_extended (Option.some Jvm.ClassFile.FieldType.int) 2 D [.ref a0, .int a1] h (some (.int v0)) hz := by
  refine MC.of (by decide +kernel) (Nat.le_of_ble_eq_true rfl) rfl ?_
  unfold fX14_extended at hf
  show AW E yX14_extended cX14_extended (Option.some Jvm.ClassFile.FieldType.int) 2 D (some (.int v0)) h hz 0 [(0, .ref a0), (1, .int a1)] [] h
  refine a_aload_n (q := 0) dX14_extended_0 rfl rfl ?_
  obtain ⟨v1, e2, hf⟩ := obd hf
  refine o_gfR dX14_extended_1 lk_X14_37 rfl e2 ?_
  refine a_iload_n (q := 1) dX14_extended_4 rfl rfl ?_
  obtain ⟨v3, e4, hf⟩ := obd hf
  refine o_alI dX14_extended_5 e4 ?_
  refine a_iconst (v := 3) dX14_extended_6 (by decide) ?_
  refine a_icmp_le (tgt := 60) dX14_extended_7 (by decide) (fun c => ?_) (fun c => ?_)
  · have hf := ifp c hf
    refine a_bipush (v := (-5)) dX14_extended_60 (by decide) ?_
    obtain ⟨rfl, rfl⟩ := oc2 hf
    exact a_ireturn dX14_extended_62 rfl
  · have hf := ifn c hf
    refine a_aload_n (q := 0) dX14_extended_10 rfl rfl ?_
    obtain ⟨v5, e6, hf⟩ := obd hf
    refine o_gfR dX14_extended_11 lk_X14_34 rfl e6 ?_
    refine a_sipush (v := 160) dX14_extended_14 (by decide) ?_
    refine a_iload_n (q := 1) dX14_extended_17 rfl rfl ?_
    refine a_imul dX14_extended_18 ?_
    obtain ⟨v7, e8, hf⟩ := obd hf
    refine o_alI dX14_extended_19 e8 ?_
    refine a_bipush (v := 123) dX14_extended_20 (by decide) ?_
    refine a_icmp_ne (tgt := 60) dX14_extended_22 (by decide) (fun c => ?_) (fun c => ?_)
    · have hf := ifn c hf
      refine a_bipush (v := (-5)) dX14_extended_60 (by decide) ?_
      obtain ⟨rfl, rfl⟩ := oc2 hf
      exact a_ireturn dX14_extended_62 rfl
    · have hf := ifp c hf
      refine a_aload_n (q := 0) dX14_extended_25 rfl rfl ?_
      obtain ⟨v9, e10, hf⟩ := obd hf
      refine o_gfR dX14_extended_26 lk_X14_34 rfl e10 ?_
      refine a_sipush (v := 160) dX14_extended_29 (by decide) ?_
      refine a_iload_n (q := 1) dX14_extended_32 rfl rfl ?_
      refine a_imul dX14_extended_33 ?_
      refine a_iconst (v := 1) dX14_extended_34 (by decide) ?_
      refine a_iadd dX14_extended_35 ?_
      obtain ⟨v11, e12, hf⟩ := obd hf
      refine o_alI dX14_extended_36 e12 ?_
      refine a_bipush (v := 60) dX14_extended_37 (by decide) ?_
      refine a_icmp_ne (tgt := 60) dX14_extended_39 (by decide) (fun c => ?_) (fun c => ?_)
      · have hf := ifn c hf
        refine a_bipush (v := (-5)) dX14_extended_60 (by decide) ?_
        obtain ⟨rfl, rfl⟩ := oc2 hf
        exact a_ireturn dX14_extended_62 rfl
      · have hf := ifp c hf
        refine a_aload_n (q := 0) dX14_extended_42 rfl rfl ?_
        obtain ⟨v13, e14, hf⟩ := obd hf
        refine o_gfR dX14_extended_43 lk_X14_34 rfl e14 ?_
        refine a_sipush (v := 160) dX14_extended_46 (by decide) ?_
        refine a_iload_n (q := 1) dX14_extended_49 rfl rfl ?_
        refine a_imul dX14_extended_50 ?_
        refine a_iconst (v := 2) dX14_extended_51 (by decide) ?_
        refine a_iadd dX14_extended_52 ?_
        obtain ⟨v15, e16, hf⟩ := obd hf
        refine o_alI dX14_extended_53 e16 ?_
        refine a_bipush (v := 48) dX14_extended_54 (by decide) ?_
        refine a_isub dX14_extended_56 ?_
        refine a_goto (tgt := 62) dX14_extended_57 (by decide) ?_
        obtain ⟨rfl, rfl⟩ := oc2 hf
        exact a_ireturn dX14_extended_62 rfl
