abbrev gG1 : Type := (Nat → Int32 → Int32 → hp → Option hp) × (Nat → Nat → Int32 → hp → Option hp) × (Nat → Nat → Int32 → hp → Option hp) × (Nat → Nat → Int32 → hp → Option hp) × (Nat → Nat → Int32 → hp → Option hp) × (Nat → Nat → Int32 → hp → Option hp) × (Nat → Nat → Int32 → hp → Option hp) × (Nat → Nat → Int32 → hp → Option hp) × (Nat → Nat → Nat → Int32 → Int32 → hp → Option hp)
def gG1_ok (E : gE) (D : Nat) (g : gG1) : Prop :=
  (∀ (a0 : Nat) (a1 : Int32) (a2 : Int32) (h : hp) (hz : hp), g.1 a0 a1 a2 h = some hz → MC E yX12_walkTemplate cX12_walkTemplate (Option.none : Option Jvm.ClassFile.FieldType) 6 D [.ref a0, .int a1, .int a2] h none hz) ∧
  (∀ (a0 : Nat) (a1 : Nat) (a2 : Int32) (h : hp) (hz : hp), g.2.1 a0 a1 a2 h = some hz → MC E yX12_walkAll cX12_walkAll (Option.none : Option Jvm.ClassFile.FieldType) 5 D [.ref a0, .ref a1, .int a2] h none hz) ∧
  (∀ (a0 : Nat) (a1 : Nat) (a2 : Int32) (h : hp) (hz : hp), g.2.2.1 a0 a1 a2 h = some hz → MC E yX12_walkOne cX12_walkOne (Option.none : Option Jvm.ClassFile.FieldType) 3 D [.ref a0, .ref a1, .int a2] h none hz) ∧
  (∀ (a0 : Nat) (a1 : Nat) (a2 : Int32) (h : hp) (hz : hp), g.2.2.2.1 a0 a1 a2 h = some hz → MC E yX12_lookIntoBranch cX12_lookIntoBranch (Option.none : Option Jvm.ClassFile.FieldType) 5 D [.ref a0, .ref a1, .int a2] h none hz) ∧
  (∀ (a0 : Nat) (a1 : Nat) (a2 : Int32) (h : hp) (hz : hp), g.2.2.2.2.1 a0 a1 a2 h = some hz → MC E yX12_lookIntoLoop cX12_lookIntoLoop (Option.none : Option Jvm.ClassFile.FieldType) 4 D [.ref a0, .ref a1, .int a2] h none hz) ∧
  (∀ (a0 : Nat) (a1 : Nat) (a2 : Int32) (h : hp) (hz : hp), g.2.2.2.2.2.1 a0 a1 a2 h = some hz → MC E yX12_walkBranch cX12_walkBranch (Option.none : Option Jvm.ClassFile.FieldType) 4 D [.ref a0, .ref a1, .int a2] h none hz) ∧
  (∀ (a0 : Nat) (a1 : Nat) (a2 : Int32) (h : hp) (hz : hp), g.2.2.2.2.2.2.1 a0 a1 a2 h = some hz → MC E yX12_walkLoop cX12_walkLoop (Option.none : Option Jvm.ClassFile.FieldType) 7 D [.ref a0, .ref a1, .int a2] h none hz) ∧
  (∀ (a0 : Nat) (a1 : Nat) (a2 : Int32) (h : hp) (hz : hp), g.2.2.2.2.2.2.2.1 a0 a1 a2 h = some hz → MC E yX12_walkElsewhere cX12_walkElsewhere (Option.none : Option Jvm.ClassFile.FieldType) 4 D [.ref a0, .ref a1, .int a2] h none hz) ∧
  (∀ (a0 : Nat) (a1 : Nat) (a2 : Nat) (a3 : Int32) (a4 : Int32) (h : hp) (hz : hp), g.2.2.2.2.2.2.2.2 a0 a1 a2 a3 a4 h = some hz → MC E yX12_walkBlock cX12_walkBlock (Option.none : Option Jvm.ClassFile.FieldType) 12 D [.ref a0, .ref a1, .ref a2, .int a3, .int a4] h none hz)
def fX12_walkTemplate_b (g : gG1) (a0 : Nat) (a1 : Int32) (a2 : Int32) (h : hp) : Option hp :=
  (gfI h a0 11 11).bind fun v1 =>
  (gfR h a0 11 2).bind fun v3 =>
  (aln 2 h v3).bind fun v5 =>
  bd2 (fX13_among v1 v5 h) fun v8 h9 =>
  if v8 = 0 then (
    (ckT h9 a0 11).bind fun _ =>
    (fX12_fail a0 0 7 h9).bind fun h43 =>
    some h43
  ) else (
    (gfR h9 a0 11 2).bind fun v10 =>
    (gfI h9 a0 11 11).bind fun v12 =>
    (alR 2 h9 v10 v12).bind fun v14 =>
    (gfI h9 a0 11 11).bind fun v16 =>
    (pfI h9 a0 11 11 (v16 + 1)).bind fun h18 =>
    (ckT h18 a0 11).bind fun _ =>
    bd2 (fX12_lastOf a0 v14 a1 h18) fun v21 h22 =>
    jn (fun (h92j : hp) => (
      (gfI h92j a0 11 11).bind fun v24 =>
      (pfI h92j a0 11 11 (v24 - 1)).bind fun h26 =>
      some h26
      : Option hp)) fun k92 =>
    if v21 = 0 then (
      k92 h22
    ) else (
      (gfI h22 a0 11 13).bind fun v28 =>
      (gfR h22 v21 9 2).bind fun v30 =>
      (ckT h22 a0 11).bind fun _ =>
      (g.2.1 a0 v30 a2 h22).bind fun h33 =>
      (pfI h33 v14 0 2 0).bind fun h35 =>
      (gfI h35 a0 11 13).bind fun v37 =>
      if v37 = v28 then (
        k92 h35
      ) else (
        (ckT h35 a0 11).bind fun _ =>
        (fX12_fail a0 0 3 h35).bind fun h40 =>
        k92 h40
      )
    )
  )
def fX12_walkAll_l22 (g : gG1) : Nat → Nat → Int32 → Int32 → Nat → hp → Option hp
  | 0, _, _, _, _, _ => none
  | n + 1, x0, x2, x3, x4, h =>
    if x4 = 0 then (
      some (h)
    ) else (
      (gfI h x0 11 17).bind fun v1 =>
      if v1 = 0 then (
        (ckT h x0 11).bind fun _ =>
        (g.2.2.1 x0 x4 x2 h).bind fun h4 =>
        (gfR h4 x4 5 8).bind fun v6 =>
        fX12_walkAll_l22 g n x0 x2 x3 v6 h4
      ) else (
        some (h)
      )
    )
def fX12_walkAll_b (g : gG1) (a0 : Nat) (a1 : Nat) (a2 : Int32) (h : hp) : Option hp :=
  if a2 < 48 then (
    (gfI h a0 11 10).bind fun v1 =>
    (fX12_walkAll_l22 g FU a0 a2 v1 a1 h).bind fun h4 =>
    (ckT h4 a0 11).bind fun _ =>
    (fX12_giveBack a0 v1 h4).bind fun h6 =>
    some h6
  ) else (
    (ckT h a0 11).bind fun _ =>
    (fX12_fail a0 0 7 h).bind fun h9 =>
    some h9
  )
def fX12_walkOne_b (g : gG1) (a0 : Nat) (a1 : Nat) (a2 : Int32) (h : hp) : Option hp :=
  (gfI h a1 5 0).bind fun v1 =>
  if v1 = 0 then (
    (gfI h a1 5 2).bind fun v45 =>
    (gfI h a1 5 1).bind fun v47 =>
    (ckT h a0 11).bind fun _ =>
    (fX12_putByte a0 v45 v47 h).bind fun h50 =>
    (gfI h50 a0 11 13).bind fun v52 =>
    (gfI h50 a1 5 2).bind fun v54 =>
    bd2 (fX12_behind v52 v54 h50) fun v57 h58 =>
    (pfI h58 a0 11 13 v57).bind fun h59 =>
    some h59
  ) else (
    (gfI h a0 11 14).bind fun v3 =>
    if v3 < 300 then (
      (gfI h a0 11 14).bind fun v5 =>
      (pfI h a0 11 14 (v5 + 1)).bind fun h7 =>
      (gfI h7 a1 5 0).bind fun v9 =>
      if v9 = 1 then (
        (gfI h7 a0 11 16).bind fun v11 =>
        if v11 = 0 then (
          (ckT h7 a0 11).bind fun _ =>
          (fX12_putValue a0 a1 h7).bind fun h14 =>
          some h14
        ) else (
          some h7
        )
      ) else (
      if v9 = 2 then (
        (gfI h7 a0 11 16).bind fun v16 =>
        if v16 = 0 then (
          (ckT h7 a0 11).bind fun _ =>
          (g.2.2.2.2.2.1 a0 a1 a2 h7).bind fun h19 =>
          some h19
        ) else (
          (ckT h7 a0 11).bind fun _ =>
          (g.2.2.2.1 a0 a1 a2 h7).bind fun h22 =>
          some h22
        )
      ) else (
      if v9 = 3 then (
        (gfI h7 a0 11 16).bind fun v24 =>
        if v24 = 0 then (
          (ckT h7 a0 11).bind fun _ =>
          (g.2.2.2.2.2.2.1 a0 a1 a2 h7).bind fun h27 =>
          some h27
        ) else (
          (ckT h7 a0 11).bind fun _ =>
          (g.2.2.2.2.1 a0 a1 a2 h7).bind fun h30 =>
          some h30
        )
      ) else (
      if v9 = 7 then (
        (gfI h7 a0 11 16).bind fun v32 =>
        if v32 = 0 then (
          (ckT h7 a0 11).bind fun _ =>
          (fX12_tellName a0 a1 h7).bind fun h35 =>
          some h35
        ) else (
          some h7
        )
      ) else (
        (ckT h7 a0 11).bind fun _ =>
        (g.2.2.2.2.2.2.2.1 a0 a1 a2 h7).bind fun h38 =>
        some h38
      ))))
    ) else (
      (gfI h a1 5 1).bind fun v40 =>
      (ckT h a0 11).bind fun _ =>
      (fX12_fail a0 v40 6 h).bind fun h43 =>
      some h43
    )
  )
def fX12_lookIntoBranch_b (g : gG1) (a0 : Nat) (a1 : Nat) (a2 : Int32) (h : hp) : Option hp :=
  (gfI h a0 11 13).bind fun v1 =>
  (gfR h a1 5 6).bind fun v3 =>
  (ckT h a0 11).bind fun _ =>
  (g.2.1 a0 v3 (a2 + 1) h).bind fun h6 =>
  (gfI h6 a0 11 13).bind fun v8 =>
  (pfI h6 a0 11 13 v1).bind fun h10 =>
  (gfR h10 a1 5 7).bind fun v12 =>
  (ckT h10 a0 11).bind fun _ =>
  (g.2.1 a0 v12 (a2 + 1) h10).bind fun h15 =>
  (gfI h15 a0 11 13).bind fun v17 =>
  if v17 = v8 then (
    some h15
  ) else (
    (gfI h15 a1 5 1).bind fun v19 =>
    (ckT h15 a0 11).bind fun _ =>
    (fX12_fail a0 v19 3 h15).bind fun h22 =>
    some h22
  )
def fX12_lookIntoLoop_b (g : gG1) (a0 : Nat) (a1 : Nat) (a2 : Int32) (h : hp) : Option hp :=
  (gfI h a0 11 13).bind fun v1 =>
  (gfR h a1 5 6).bind fun v3 =>
  (ckT h a0 11).bind fun _ =>
  (g.2.1 a0 v3 (a2 + 1) h).bind fun h6 =>
  (gfI h6 a0 11 13).bind fun v8 =>
  jn (fun (h33j : hp) => (
    (gfR h33j a1 5 7).bind fun v10 =>
    (ckT h33j a0 11).bind fun _ =>
    (g.2.1 a0 v10 (a2 + 1) h33j).bind fun h13 =>
    (gfI h13 a0 11 13).bind fun v15 =>
    if v15 = v1 then (
      some h13
    ) else (
      (gfI h13 a1 5 1).bind fun v17 =>
      (ckT h13 a0 11).bind fun _ =>
      (fX12_fail a0 v17 3 h13).bind fun h20 =>
      some h20
    )
    : Option hp)) fun k33 =>
  if v8 = v1 then (
    k33 h6
  ) else (
    (gfI h6 a1 5 1).bind fun v22 =>
    (ckT h6 a0 11).bind fun _ =>
    (fX12_fail a0 v22 3 h6).bind fun h25 =>
    k33 h25
  )
def fX12_walkBranch_b (g : gG1) (a0 : Nat) (a1 : Nat) (a2 : Int32) (h : hp) : Option hp :=
  (ckT h a0 11).bind fun _ =>
  bd2 (fX12_holds a0 a1 h) fun v2 h3 =>
  (gfI h3 a0 11 17).bind fun v5 =>
  if v5 = 0 then (
    jn (fun (s29_0 : Nat) (h29j : hp) => (
      (ckT h29j a0 11).bind fun _ =>
      (g.2.1 a0 s29_0 (a2 + 1) h29j).bind fun h8 =>
      some h8
      : Option hp)) fun k29 =>
    if v2 = 0 then (
      (gfR h3 a1 5 7).bind fun v10 =>
      k29 v10 h3
    ) else (
      (gfR h3 a1 5 6).bind fun v12 =>
      k29 v12 h3
    )
  ) else (
    some h3
  )
def fX12_walkLoop_l87 (g : gG1) : Nat → Nat → Nat → Int32 → Nat → Int32 → Int32 → hp → Option hp
  | 0, _, _, _, _, _, _, _ => none
  | n + 1, x0, x1, x2, x3, x4, x5, h =>
    (gfI h x3 10 3).bind fun v1 =>
    if v1 ≤ x5 then (
      some (h)
    ) else (
      (gfI h x0 11 17).bind fun v3 =>
      if v3 = 0 then (
        (gfI h x0 11 10).bind fun v5 =>
        (gfR h x0 11 4).bind fun v7 =>
        (ckT h x3 10).bind fun _ =>
        bd2 (fX11_at x3 x5 h) fun v10 h11 =>
        (ckT h11 v7 10).bind fun _ =>
        (fX11_becomeInt v7 v10 h11).bind fun h14 =>
        (gfI h14 x1 5 2).bind fun v16 =>
        (gfR h14 x0 11 4).bind fun v18 =>
        (ckT h14 x0 11).bind fun _ =>
        (fX12_giveName x0 v16 v18 h14).bind fun h21 =>
        (pfI h21 x0 11 15 x5).bind fun h23 =>
        (gfR h23 x1 5 6).bind fun v25 =>
        (ckT h23 x0 11).bind fun _ =>
        (g.2.1 x0 v25 (x2 + 1) h23).bind fun h28 =>
        (ckT h28 x0 11).bind fun _ =>
        (fX12_giveBack x0 v5 h28).bind fun h31 =>
        fX12_walkLoop_l87 g n x0 x1 x2 x3 x4 (x5 + 1) h31
      ) else (
        some (h)
      )
    )
def fX12_walkLoop_b (g : gG1) (a0 : Nat) (a1 : Nat) (a2 : Int32) (h : hp) : Option hp :=
  (ckT h a0 11).bind fun _ =>
  bd2 (fX12_listAt a0 a2 h) fun v2 h3 =>
  if v2 = 0 then (
    (gfI h3 a1 5 1).bind fun v34 =>
    (ckT h3 a0 11).bind fun _ =>
    (fX12_fail a0 v34 7 h3).bind fun h37 =>
    some h37
  ) else (
    (gfR h3 a1 5 4).bind fun v5 =>
    (gfI h3 a1 5 1).bind fun v7 =>
    (ckT h3 a0 11).bind fun _ =>
    (fX12_workOut a0 v5 v2 v7 h3).bind fun h10 =>
    (gfI h10 a0 11 17).bind fun v12 =>
    if v12 = 0 then (
      (gfI h10 v2 10 0).bind fun v14 =>
      if v14 = 4 then (
        (gfI h10 v2 10 3).bind fun v16 =>
        jn (fun (h78j : hp) => (
          (gfI h78j a0 11 15).bind fun v18 =>
          (fX12_walkLoop_l87 g FU a0 a1 a2 v2 v18 0 h78j).bind fun h21 =>
          (pfI h21 a0 11 15 v18).bind fun h22 =>
          some h22
          : Option hp)) fun k78 =>
        if v16 = 0 then (
          (gfR h10 a1 5 7).bind fun v24 =>
          (ckT h10 a0 11).bind fun _ =>
          (g.2.1 a0 v24 (a2 + 1) h10).bind fun h27 =>
          k78 h27
        ) else (
          k78 h10
        )
      ) else (
        (gfI h10 a1 5 1).bind fun v29 =>
        (ckT h10 a0 11).bind fun _ =>
        (fX12_fail a0 v29 2 h10).bind fun h32 =>
        some h32
      )
    ) else (
      some h10
    )
  )
def fX12_walkElsewhere_b (g : gG1) (a0 : Nat) (a1 : Nat) (a2 : Int32) (h : hp) : Option hp :=
  (gfI h a0 11 12).bind fun v1 =>
  jn (fun (h26j : hp) => (
    (gfI h26j a1 5 1).bind fun v3 =>
    (ckT h26j a0 11).bind fun _ =>
    (fX12_fail a0 v3 7 h26j).bind fun h6 =>
    some h6
    : Option hp)) fun k26 =>
  if 8 ≤ v1 then (
    k26 h
  ) else (
    (gfI h a0 11 11).bind fun v8 =>
    (gfR h a0 11 2).bind fun v10 =>
    (aln 2 h v10).bind fun v12 =>
    bd2 (fX13_among (v8 - 1) v12 h) fun v15 h16 =>
    if v15 = 0 then (
      k26 h16
    ) else (
      (gfR h16 a0 11 2).bind fun v17 =>
      (gfI h16 a0 11 11).bind fun v19 =>
      (alR 2 h16 v17 (v19 - 1)).bind fun v21 =>
      (gfI h16 a0 11 12).bind fun v23 =>
      (pfI h16 a0 11 12 (v23 + 1)).bind fun h25 =>
      (gfI h25 a1 5 0).bind fun v27 =>
      jn (fun (h122j : hp) => (
        (gfI h122j a0 11 12).bind fun v29 =>
        (pfI h122j a0 11 12 (v29 - 1)).bind fun h31 =>
        some h31
        : Option hp)) fun k122 =>
      if v27 = 6 then (
        (gfI h25 a1 5 1).bind fun v43 =>
        (pfI h25 v21 0 4 v43).bind fun h45 =>
        (gfI h45 a1 5 2).bind fun v47 =>
        (ckT h45 a0 11).bind fun _ =>
        (g.1 a0 v47 (a2 + 1) h45).bind fun h50 =>
        k122 h50
      ) else (
        (gfI h25 a1 5 0).bind fun v33 =>
        if v33 = 4 then (
          (ckT h25 a0 11).bind fun _ =>
          (g.2.2.2.2.2.2.2.2 a0 v21 a1 0 a2 h25).bind fun h41 =>
          k122 h41
        ) else (
          (gfI h25 v21 0 2).bind fun v35 =>
          (ckT h25 a0 11).bind fun _ =>
          (g.2.2.2.2.2.2.2.2 a0 v21 a1 (v35 + 1) a2 h25).bind fun h38 =>
          k122 h38
        )
      )
    )
  )
def fX12_walkBlock_l43 (g : gG1) : Nat → Nat → Nat → Nat → Int32 → Int32 → Int32 → Int32 → Int32 → Nat → Int32 → hp → Option (Nat × hp)
  | 0, _, _, _, _, _, _, _, _, _, _, _ => none
  | n + 1, x0, x1, x2, x4, x5, x6, x7, x8, x9, x10, h =>
    (gfI h x1 0 1).bind fun v1 =>
    if v1 ≤ x10 then (
      some (x9, h)
    ) else (
      if x9 = 0 then (
        (gfR h x0 11 0).bind fun v3 =>
        (ckT h x1 0).bind fun _ =>
        bd2 (fX1_at x1 x10 h) fun v6 h7 =>
        (ckT h7 v3 8).bind fun _ =>
        bd2 (fX9_held v3 v6 h7) fun v10 h11 =>
        jn (fun (s88_0 : Nat) (h88j : hp) => (
          if s88_0 = 0 then (
            fX12_walkBlock_l43 g n x0 x1 x2 x4 x5 x6 x7 x8 s88_0 (x10 + 1) h88j
          ) else (
            (pfI h88j x1 0 2 x10).bind fun h13 =>
            fX12_walkBlock_l43 g n x0 x1 x2 x4 x5 x6 x7 x8 s88_0 (x10 + 1) h13
          )
          : Option (Nat × hp))) fun k88 =>
        if v10 = 0 then (
          k88 0 h11
        ) else (
          (ckT h11 v10 9).bind fun _ =>
          bd2 (fX10_block v10 x8 h11) fun v16 h17 =>
          k88 v16 h17
        )
      ) else (
        some (x9, h)
      )
    )
def fX12_walkBlock_b (g : gG1) (a0 : Nat) (a1 : Nat) (a2 : Nat) (a3 : Int32) (a4 : Int32) (h : hp) : Option hp :=
  (gfI h a1 0 2).bind fun v1 =>
  (gfI h a1 0 3).bind fun v3 =>
  (gfI h a0 11 13).bind fun v5 =>
  (gfI h a2 5 0).bind fun v7 =>
  jn (fun (s35_0 : Int32) (h35j : hp) => (
    bd2 (fX12_walkBlock_l43 g FU a0 a1 a2 a4 v1 v3 v5 s35_0 0 a3 h35j) fun v11 h10 =>
    if v11 = 0 then (
      (gfI h10 a2 5 1).bind fun v30 =>
      (ckT h10 a0 11).bind fun _ =>
      (fX12_fail a0 v30 8 h10).bind fun h33 =>
      some h33
    ) else (
      (pfI h10 a1 0 3 s35_0).bind fun h12 =>
      (gfR h12 v11 5 6).bind fun v14 =>
      (ckT h12 a0 11).bind fun _ =>
      (g.2.1 a0 v14 (a4 + 1) h12).bind fun h17 =>
      (pfI h17 a1 0 2 v1).bind fun h19 =>
      (pfI h19 a1 0 3 v3).bind fun h21 =>
      (gfI h21 a0 11 13).bind fun v23 =>
      if v23 = v5 then (
        some h21
      ) else (
        (gfI h21 a2 5 1).bind fun v25 =>
        (ckT h21 a0 11).bind fun _ =>
        (fX12_fail a0 v25 3 h21).bind fun h28 =>
        some h28
      )
    )
    : Option hp)) fun k35 =>
  if v7 = 4 then (
    (gfI h a2 5 2).bind fun v35 =>
    k35 v35 h
  ) else (
    k35 v3 h
  )
set_option maxHeartbeats 4000000 in
set_option maxRecDepth 100000 in
theorem sX12_walkTemplate_b (E : gE) (D : Nat) (hD : 7 ≤ D) {g : gG1} (hg : gG1_ok E (D - 1) g) {a0 : Nat} {a1 : Int32} {a2 : Int32} {h hz : hp} (hf : fX12_walkTemplate_b g a0 a1 a2 h = some hz) : MC E yX12_walkTemplate cX12_walkTemplate (Option.none : Option Jvm.ClassFile.FieldType) 6 D [.ref a0, .int a1, .int a2] h none hz := by
  refine MC.of (by decide +kernel) (Nat.le_of_ble_eq_true rfl) rfl ?_
  unfold fX12_walkTemplate_b at hf
  show AW E yX12_walkTemplate cX12_walkTemplate (Option.none : Option Jvm.ClassFile.FieldType) 6 D none h hz 0 [(0, .ref a0), (1, .int a1), (2, .int a2)] [] h
  refine a_aload_n (q := 0) dX12_walkTemplate_0 rfl rfl ?_
  obtain ⟨v1, e2, hf⟩ := obd hf
  refine o_gfI dX12_walkTemplate_1 lk_X12_61 rfl e2 ?_
  refine a_aload_n (q := 0) dX12_walkTemplate_4 rfl rfl ?_
  obtain ⟨v3, e4, hf⟩ := obd hf
  refine o_gfR dX12_walkTemplate_5 lk_X12_13 rfl e4 ?_
  obtain ⟨v5, e6, hf⟩ := obd hf
  refine o_aln dX12_walkTemplate_8 (by decide) e6 ?_
  obtain ⟨v8, h9, e7, hf⟩ := ob2 hf
  refine a_callS (as := [.int v1, .int v5]) (np := 2) (st := []) (sX13_among E (D - 1) (by omega) e7) dX12_walkTemplate_9 rfl (by omega) (by decide) cw_X12_91 wd_268 rfl (Nat.le_of_ble_eq_true rfl) ?_
  refine a_if_ne (tgt := 23) dX12_walkTemplate_12 (by decide) (fun c => ?_) (fun c => ?_)
  · have hf := ifn c hf
    refine a_aload_n (q := 0) dX12_walkTemplate_23 rfl rfl ?_
    obtain ⟨v10, e11, hf⟩ := obd hf
    refine o_gfR dX12_walkTemplate_24 lk_X12_13 rfl e11 ?_
    refine a_aload_n (q := 0) dX12_walkTemplate_27 rfl rfl ?_
    obtain ⟨v12, e13, hf⟩ := obd hf
    refine o_gfI dX12_walkTemplate_28 lk_X12_61 rfl e13 ?_
    obtain ⟨v14, e15, hf⟩ := obd hf
    refine o_alR dX12_walkTemplate_31 (by decide) e15 ?_
    refine a_astore_n (lv1 := [(3, .ref v14), (0, .ref a0), (1, .int a1), (2, .int a2)]) dX12_walkTemplate_32 rfl (by decide) rfl ?_
    refine a_aload_n (q := 1) dX12_walkTemplate_33 rfl rfl ?_
    refine a_aload_n (q := 1) dX12_walkTemplate_34 rfl rfl ?_
    obtain ⟨v16, e17, hf⟩ := obd hf
    refine o_gfI dX12_walkTemplate_35 lk_X12_61 rfl e17 ?_
    refine a_iconst (v := 1) dX12_walkTemplate_38 (by decide) ?_
    refine a_iadd dX12_walkTemplate_39 ?_
    obtain ⟨h18, e19, hf⟩ := obd hf
    refine o_pfI dX12_walkTemplate_40 lk_X12_61 (⟨_, rfl, Or.inl rfl⟩) rfl e19 ?_
    refine a_aload_n (q := 1) dX12_walkTemplate_43 rfl rfl ?_
    refine a_aload_n (q := 0) dX12_walkTemplate_44 rfl rfl ?_
    refine a_iload_n (q := 2) dX12_walkTemplate_45 rfl rfl ?_
    obtain ⟨_, e23, hf⟩ := obd hf
    obtain ⟨v21, h22, e20, hf⟩ := ob2 hf
    refine a_callV (as := [.ref v14, .int a1]) (np := 2) (ci := 11) (st := []) (sX12_lastOf E (D - 1) (by omega) e20) dX12_walkTemplate_46 rfl (by omega) (by decide) cw_X12_99 ⟨wd_786, ws_30⟩ rfl (ckT_s e23) rfl (Nat.le_of_ble_eq_true rfl) ?_
    refine a_astore (lv1 := [(4, .ref v21), (3, .ref v14), (0, .ref a0), (1, .int a1), (2, .int a2)]) dX12_walkTemplate_49 (by decide) rfl ?_
    refine a_aload (q := 0) dX12_walkTemplate_51 rfl ?_
    obtain ⟨k92, ek92, hf⟩ := jn_s hf
    have hj92 : ∀ (h92j : hp), k92 h92j = some hz → AW E yX12_walkTemplate cX12_walkTemplate (Option.none : Option Jvm.ClassFile.FieldType) 6 D none h hz 92 [(0, .ref a0)] [] h92j := by
      intro h92j hf
      rw [ek92] at hf
      clear ek92
      refine a_aload_n (q := 0) dX12_walkTemplate_92 rfl rfl ?_
      refine a_aload_n (q := 0) dX12_walkTemplate_93 rfl rfl ?_
      obtain ⟨v24, e25, hf⟩ := obd hf
      refine o_gfI dX12_walkTemplate_94 lk_X12_61 rfl e25 ?_
      refine a_iconst (v := 1) dX12_walkTemplate_97 (by decide) ?_
      refine a_isub dX12_walkTemplate_98 ?_
      obtain ⟨h26, e27, hf⟩ := obd hf
      refine o_pfI dX12_walkTemplate_99 lk_X12_61 (⟨_, rfl, Or.inl rfl⟩) rfl e27 ?_
      obtain rfl := Option.some.inj hf
      exact a_return dX12_walkTemplate_102 rfl
    clear ek92
    refine a_ifnull (tgt := 92) dX12_walkTemplate_53 (by decide) (fun c => ?_) (fun c => ?_)
    · have hf := ifp c hf
      exact AW.sub [2] rfl (hj92 _ hf)
    · have hf := ifn c hf
      refine a_aload_n (q := 2) dX12_walkTemplate_56 rfl rfl ?_
      obtain ⟨v28, e29, hf⟩ := obd hf
      refine o_gfI dX12_walkTemplate_57 lk_X12_68 rfl e29 ?_
      refine a_istore (lv1 := [(5, .int v28), (4, .ref v21), (3, .ref v14), (0, .ref a0), (1, .int a1), (2, .int a2)]) dX12_walkTemplate_60 (by decide) rfl ?_
      refine a_aload_n (q := 3) dX12_walkTemplate_62 rfl rfl ?_
      refine a_aload (q := 1) dX12_walkTemplate_63 rfl ?_
      obtain ⟨v30, e31, hf⟩ := obd hf
      refine o_gfR dX12_walkTemplate_65 lk_X12_103 rfl e31 ?_
      refine a_iload_n (q := 5) dX12_walkTemplate_68 rfl rfl ?_
      obtain ⟨_, e34, hf⟩ := obd hf
      obtain ⟨h33, e32, hf⟩ := obd hf
      refine a_callV (as := [.ref v30, .int a2]) (np := 2) (ci := 11) (st := []) ((hg.2.1) _ _ _ _ _ e32) dX12_walkTemplate_69 rfl (by omega) (by decide) cw_X12_109 ⟨wd_800, ws_31⟩ rfl (ckT_s e34) rfl (Nat.le_of_ble_eq_true rfl) ?_
      refine a_aload_n (q := 2) dX12_walkTemplate_72 rfl rfl ?_
      refine a_iconst (v := 0) dX12_walkTemplate_73 (by decide) ?_
      obtain ⟨h35, e36, hf⟩ := obd hf
      refine o_pfI dX12_walkTemplate_74 lk_X12_113 (⟨_, rfl, Or.inl rfl⟩) rfl e36 ?_
      refine a_aload_n (q := 3) dX12_walkTemplate_77 rfl rfl ?_
      obtain ⟨v37, e38, hf⟩ := obd hf
      refine o_gfI dX12_walkTemplate_78 lk_X12_68 rfl e38 ?_
      refine a_iload (q := 0) dX12_walkTemplate_81 rfl ?_
      refine a_icmp_eq (tgt := 92) dX12_walkTemplate_83 (by decide) (fun c => ?_) (fun c => ?_)
      · have hf := ifp c hf
        exact AW.sub [3] rfl (hj92 _ hf)
      · have hf := ifn c hf
        refine a_aload_n (q := 3) dX12_walkTemplate_86 rfl rfl ?_
        refine a_iconst (v := 0) dX12_walkTemplate_87 (by decide) ?_
        refine a_iconst (v := 3) dX12_walkTemplate_88 (by decide) ?_
        obtain ⟨_, e41, hf⟩ := obd hf
        obtain ⟨h40, e39, hf⟩ := obd hf
        refine a_callV (as := [.int 0, .int 3]) (np := 2) (ci := 11) (st := []) (sX12_fail E (D - 1) (by omega) e39) dX12_walkTemplate_89 rfl (by omega) (by decide) cw_X12_95 ⟨wd_770, ws_29⟩ rfl (ckT_s e41) rfl (Nat.le_of_ble_eq_true rfl) ?_
        exact AW.sub [3] rfl (hj92 _ hf)
  · have hf := ifp c hf
    refine a_aload_n (q := 0) dX12_walkTemplate_15 rfl rfl ?_
    refine a_iconst (v := 0) dX12_walkTemplate_16 (by decide) ?_
    refine a_bipush (v := 7) dX12_walkTemplate_17 (by decide) ?_
    obtain ⟨_, e44, hf⟩ := obd hf
    obtain ⟨h43, e42, hf⟩ := obd hf
    refine a_callV (as := [.int 0, .int 7]) (np := 2) (ci := 11) (st := []) (sX12_fail E (D - 1) (by omega) e42) dX12_walkTemplate_19 rfl (by omega) (by decide) cw_X12_95 ⟨wd_770, ws_29⟩ rfl (ckT_s e44) rfl (Nat.le_of_ble_eq_true rfl) ?_
    obtain rfl := Option.some.inj hf
    exact a_return dX12_walkTemplate_22 rfl
set_option maxHeartbeats 4000000 in
set_option maxRecDepth 100000 in
theorem sX12_walkAll_l22 (E : gE) (D : Nat) (hD : 7 ≤ D) {g : gG1} (hg : gG1_ok E (D - 1) g) {rz : Option Value} {h0 hz : hp} : ∀ (n : Nat) (x0 : Nat) (x2 : Int32) (x3 : Int32) (x4 : Nat) (h : hp) (hq : hp), fX12_walkAll_l22 g n x0 x2 x3 x4 h = some hq → (AW E yX12_walkAll cX12_walkAll (Option.none : Option Jvm.ClassFile.FieldType) 5 D rz h0 hz 51 [(0, .ref x0), (3, .int x3)] [] hq) → AW E yX12_walkAll cX12_walkAll (Option.none : Option Jvm.ClassFile.FieldType) 5 D rz h0 hz 22 [(0, .ref x0), (2, .int x2), (3, .int x3), (4, .ref x4)] [] h := by
  intro n
  induction n with
  | zero =>
    intro x0 x2 x3 x4 h hq hf _
    rw [fX12_walkAll_l22] at hf
    cases hf
  | succ n ih =>
    intro x0 x2 x3 x4 h hq hf hk0
    rw [fX12_walkAll_l22] at hf
    refine a_aload (q := 3) dX12_walkAll_22 rfl ?_
    refine a_ifnull (tgt := 51) dX12_walkAll_24 (by decide) (fun c => ?_) (fun c => ?_)
    · have hf := ifp c hf
      obtain rfl := Option.some.inj hf
      exact AW.sub [0, 2] rfl (hk0)
    · have hf := ifn c hf
      refine a_aload_n (q := 0) dX12_walkAll_27 rfl rfl ?_
      obtain ⟨v1, e2, hf⟩ := obd hf
      refine o_gfI dX12_walkAll_28 lk_X12_81 rfl e2 ?_
      refine a_if_ne (tgt := 51) dX12_walkAll_31 (by decide) (fun c => ?_) (fun c => ?_)
      · have hf := ifn c hf
        obtain rfl := Option.some.inj hf
        exact AW.sub [0, 2] rfl (hk0)
      · have hf := ifp c hf
        refine a_aload_n (q := 0) dX12_walkAll_34 rfl rfl ?_
        refine a_aload (q := 3) dX12_walkAll_35 rfl ?_
        refine a_iload_n (q := 1) dX12_walkAll_37 rfl rfl ?_
        obtain ⟨_, e5, hf⟩ := obd hf
        obtain ⟨h4, e3, hf⟩ := obd hf
        refine a_callV (as := [.ref x4, .int x2]) (np := 2) (ci := 11) (st := []) ((hg.2.2.1) _ _ _ _ _ e3) dX12_walkAll_38 rfl (by omega) (by decide) cw_X12_134 ⟨wd_804, ws_32⟩ rfl (ckT_s e5) rfl (Nat.le_of_ble_eq_true rfl) ?_
        refine a_aload (q := 3) dX12_walkAll_41 rfl ?_
        obtain ⟨v6, e7, hf⟩ := obd hf
        refine o_gfR dX12_walkAll_43 lk_X12_137 rfl e7 ?_
        refine a_astore (lv1 := [(4, .ref v6), (0, .ref x0), (2, .int x2), (3, .int x3)]) dX12_walkAll_46 (by decide) rfl ?_
        refine a_goto (tgt := 22) dX12_walkAll_48 (by decide) ?_
        exact AW.sub [1, 2, 3, 0] rfl (ih _ _ _ _ _ _ hf hk0)
set_option maxHeartbeats 4000000 in
set_option maxRecDepth 100000 in
theorem sX12_walkAll_b (E : gE) (D : Nat) (hD : 7 ≤ D) {g : gG1} (hg : gG1_ok E (D - 1) g) {a0 : Nat} {a1 : Nat} {a2 : Int32} {h hz : hp} (hf : fX12_walkAll_b g a0 a1 a2 h = some hz) : MC E yX12_walkAll cX12_walkAll (Option.none : Option Jvm.ClassFile.FieldType) 5 D [.ref a0, .ref a1, .int a2] h none hz := by
  refine MC.of (by decide +kernel) (Nat.le_of_ble_eq_true rfl) rfl ?_
  unfold fX12_walkAll_b at hf
  show AW E yX12_walkAll cX12_walkAll (Option.none : Option Jvm.ClassFile.FieldType) 5 D none h hz 0 [(0, .ref a0), (1, .ref a1), (2, .int a2)] [] h
  refine a_iload_n (q := 2) dX12_walkAll_0 rfl rfl ?_
  refine a_bipush (v := 48) dX12_walkAll_1 (by decide) ?_
  refine a_icmp_lt (tgt := 14) dX12_walkAll_3 (by decide) (fun c => ?_) (fun c => ?_)
  · have hf := ifp c hf
    refine a_aload_n (q := 0) dX12_walkAll_14 rfl rfl ?_
    obtain ⟨v1, e2, hf⟩ := obd hf
    refine o_gfI dX12_walkAll_15 lk_X12_131 rfl e2 ?_
    refine a_istore_n (lv1 := [(3, .int v1), (0, .ref a0), (1, .ref a1), (2, .int a2)]) dX12_walkAll_18 rfl (by decide) rfl ?_
    refine a_aload_n (q := 2) dX12_walkAll_19 rfl rfl ?_
    refine a_astore (lv1 := [(4, .ref a1), (3, .int v1), (0, .ref a0), (1, .ref a1), (2, .int a2)]) dX12_walkAll_20 (by decide) rfl ?_
    obtain ⟨h4, e3, hf⟩ := obd hf
    refine AW.sub [2, 4, 1, 0] rfl (sX12_walkAll_l22 E D hD hg _ _ _ _ _ _ _ e3 ?_)
    refine a_aload_n (q := 0) dX12_walkAll_51 rfl rfl ?_
    refine a_iload_n (q := 1) dX12_walkAll_52 rfl rfl ?_
    obtain ⟨_, e7, hf⟩ := obd hf
    obtain ⟨h6, e5, hf⟩ := obd hf
    refine a_callV (as := [.int v1]) (np := 1) (ci := 11) (st := []) (sX12_giveBack E (D - 1) (by omega) e5) dX12_walkAll_53 rfl (by omega) (by decide) cw_X12_142 ⟨wd_979, ws_59⟩ rfl (ckT_s e7) rfl (Nat.le_of_ble_eq_true rfl) ?_
    obtain rfl := Option.some.inj hf
    exact a_return dX12_walkAll_56 rfl
  · have hf := ifn c hf
    refine a_aload_n (q := 0) dX12_walkAll_6 rfl rfl ?_
    refine a_iconst (v := 0) dX12_walkAll_7 (by decide) ?_
    refine a_bipush (v := 7) dX12_walkAll_8 (by decide) ?_
    obtain ⟨_, e10, hf⟩ := obd hf
    obtain ⟨h9, e8, hf⟩ := obd hf
    refine a_callV (as := [.int 0, .int 7]) (np := 2) (ci := 11) (st := []) (sX12_fail E (D - 1) (by omega) e8) dX12_walkAll_10 rfl (by omega) (by decide) cw_X12_95 ⟨wd_770, ws_29⟩ rfl (ckT_s e10) rfl (Nat.le_of_ble_eq_true rfl) ?_
    obtain rfl := Option.some.inj hf
    exact a_return dX12_walkAll_13 rfl
set_option maxHeartbeats 4000000 in
set_option maxRecDepth 100000 in
theorem sX12_walkOne_b (E : gE) (D : Nat) (hD : 7 ≤ D) {g : gG1} (hg : gG1_ok E (D - 1) g) {a0 : Nat} {a1 : Nat} {a2 : Int32} {h hz : hp} (hf : fX12_walkOne_b g a0 a1 a2 h = some hz) : MC E yX12_walkOne cX12_walkOne (Option.none : Option Jvm.ClassFile.FieldType) 3 D [.ref a0, .ref a1, .int a2] h none hz := by
  refine MC.of (by decide +kernel) (Nat.le_of_ble_eq_true rfl) rfl ?_
  unfold fX12_walkOne_b at hf
  show AW E yX12_walkOne cX12_walkOne (Option.none : Option Jvm.ClassFile.FieldType) 3 D none h hz 0 [(0, .ref a0), (1, .ref a1), (2, .int a2)] [] h
  refine a_aload_n (q := 1) dX12_walkOne_0 rfl rfl ?_
  obtain ⟨v1, e2, hf⟩ := obd hf
  refine o_gfI dX12_walkOne_1 lk_X12_145 rfl e2 ?_
  refine a_if_ne (tgt := 35) dX12_walkOne_4 (by decide) (fun c => ?_) (fun c => ?_)
  · have hf := ifn c hf
    refine a_aload_n (q := 0) dX12_walkOne_35 rfl rfl ?_
    obtain ⟨v3, e4, hf⟩ := obd hf
    refine o_gfI dX12_walkOne_36 lk_X12_71 rfl e4 ?_
    refine a_sipush (v := 300) dX12_walkOne_39 (by decide) ?_
    refine a_icmp_lt (tgt := 56) dX12_walkOne_42 (by decide) (fun c => ?_) (fun c => ?_)
    · have hf := ifp c hf
      refine a_aload_n (q := 0) dX12_walkOne_56 rfl rfl ?_
      refine a_aload_n (q := 0) dX12_walkOne_57 rfl rfl ?_
      obtain ⟨v5, e6, hf⟩ := obd hf
      refine o_gfI dX12_walkOne_58 lk_X12_71 rfl e6 ?_
      refine a_iconst (v := 1) dX12_walkOne_61 (by decide) ?_
      refine a_iadd dX12_walkOne_62 ?_
      obtain ⟨h7, e8, hf⟩ := obd hf
      refine o_pfI dX12_walkOne_63 lk_X12_71 (⟨_, rfl, Or.inl rfl⟩) rfl e8 ?_
      refine a_aload_n (q := 1) dX12_walkOne_66 rfl rfl ?_
      obtain ⟨v9, e10, hf⟩ := obd hf
      refine o_gfI dX12_walkOne_67 lk_X12_145 rfl e10 ?_
      by_cases c70_0 : v9 = 1
      · have hf := ifp c70_0 hf
        refine a_tblIn (k := 1) (off := 42) (tgt := 112) dX12_walkOne_70 c70_0 (by decide) (by decide) rfl (by decide) ?_
        refine a_aload_n (q := 0) dX12_walkOne_112 rfl rfl ?_
        obtain ⟨v11, e12, hf⟩ := obd hf
        refine o_gfI dX12_walkOne_113 lk_X12_77 rfl e12 ?_
        refine a_if_ne (tgt := 124) dX12_walkOne_116 (by decide) (fun c => ?_) (fun c => ?_)
        · have hf := ifn c hf
          obtain rfl := Option.some.inj hf
          exact a_return dX12_walkOne_124 rfl
        · have hf := ifp c hf
          refine a_aload_n (q := 0) dX12_walkOne_119 rfl rfl ?_
          refine a_aload_n (q := 1) dX12_walkOne_120 rfl rfl ?_
          obtain ⟨_, e15, hf⟩ := obd hf
          obtain ⟨h14, e13, hf⟩ := obd hf
          refine a_callV (as := [.ref a1]) (np := 1) (ci := 11) (st := []) (sX12_putValue E (D - 1) (by omega) e13) dX12_walkOne_121 rfl (by omega) (by decide) cw_X12_161 ⟨wd_816, ws_34⟩ rfl (ckT_s e15) rfl (Nat.le_of_ble_eq_true rfl) ?_
          obtain rfl := Option.some.inj hf
          exact a_return dX12_walkOne_124 rfl
      have hf := ifn c70_0 hf
      by_cases c70_1 : v9 = 2
      · have hf := ifp c70_1 hf
        refine a_tblIn (k := 2) (off := 68) (tgt := 138) dX12_walkOne_70 c70_1 (by decide) (by decide) rfl (by decide) ?_
        refine a_aload_n (q := 0) dX12_walkOne_138 rfl rfl ?_
        obtain ⟨v16, e17, hf⟩ := obd hf
        refine o_gfI dX12_walkOne_139 lk_X12_77 rfl e17 ?_
        refine a_if_eq (tgt := 154) dX12_walkOne_142 (by decide) (fun c => ?_) (fun c => ?_)
        · have hf := ifp c hf
          refine a_aload_n (q := 0) dX12_walkOne_154 rfl rfl ?_
          refine a_aload_n (q := 1) dX12_walkOne_155 rfl rfl ?_
          refine a_iload_n (q := 2) dX12_walkOne_156 rfl rfl ?_
          obtain ⟨_, e20, hf⟩ := obd hf
          obtain ⟨h19, e18, hf⟩ := obd hf
          refine a_callV (as := [.ref a1, .int a2]) (np := 2) (ci := 11) (st := []) ((hg.2.2.2.2.2.1) _ _ _ _ _ e18) dX12_walkOne_157 rfl (by omega) (by decide) cw_X12_171 ⟨wd_942, ws_52⟩ rfl (ckT_s e20) rfl (Nat.le_of_ble_eq_true rfl) ?_
          obtain rfl := Option.some.inj hf
          exact a_return dX12_walkOne_160 rfl
        · have hf := ifn c hf
          refine a_aload_n (q := 0) dX12_walkOne_145 rfl rfl ?_
          refine a_aload_n (q := 1) dX12_walkOne_146 rfl rfl ?_
          refine a_iload_n (q := 2) dX12_walkOne_147 rfl rfl ?_
          obtain ⟨_, e23, hf⟩ := obd hf
          obtain ⟨h22, e21, hf⟩ := obd hf
          refine a_callV (as := [.ref a1, .int a2]) (np := 2) (ci := 11) (st := []) ((hg.2.2.2.1) _ _ _ _ _ e21) dX12_walkOne_148 rfl (by omega) (by decide) cw_X12_168 ⟨wd_938, ws_51⟩ rfl (ckT_s e23) rfl (Nat.le_of_ble_eq_true rfl) ?_
          refine a_goto (tgt := 160) dX12_walkOne_151 (by decide) ?_
          obtain rfl := Option.some.inj hf
          exact a_return dX12_walkOne_160 rfl
      have hf := ifn c70_1 hf
      by_cases c70_2 : v9 = 3
      · have hf := ifp c70_2 hf
        refine a_tblIn (k := 3) (off := 91) (tgt := 161) dX12_walkOne_70 c70_2 (by decide) (by decide) rfl (by decide) ?_
        refine a_aload_n (q := 0) dX12_walkOne_161 rfl rfl ?_
        obtain ⟨v24, e25, hf⟩ := obd hf
        refine o_gfI dX12_walkOne_162 lk_X12_77 rfl e25 ?_
        refine a_if_eq (tgt := 177) dX12_walkOne_165 (by decide) (fun c => ?_) (fun c => ?_)
        · have hf := ifp c hf
          refine a_aload_n (q := 0) dX12_walkOne_177 rfl rfl ?_
          refine a_aload_n (q := 1) dX12_walkOne_178 rfl rfl ?_
          refine a_iload_n (q := 2) dX12_walkOne_179 rfl rfl ?_
          obtain ⟨_, e28, hf⟩ := obd hf
          obtain ⟨h27, e26, hf⟩ := obd hf
          refine a_callV (as := [.ref a1, .int a2]) (np := 2) (ci := 11) (st := []) ((hg.2.2.2.2.2.2.1) _ _ _ _ _ e26) dX12_walkOne_180 rfl (by omega) (by decide) cw_X12_177 ⟨wd_970, ws_57⟩ rfl (ckT_s e28) rfl (Nat.le_of_ble_eq_true rfl) ?_
          obtain rfl := Option.some.inj hf
          exact a_return dX12_walkOne_183 rfl
        · have hf := ifn c hf
          refine a_aload_n (q := 0) dX12_walkOne_168 rfl rfl ?_
          refine a_aload_n (q := 1) dX12_walkOne_169 rfl rfl ?_
          refine a_iload_n (q := 2) dX12_walkOne_170 rfl rfl ?_
          obtain ⟨_, e31, hf⟩ := obd hf
          obtain ⟨h30, e29, hf⟩ := obd hf
          refine a_callV (as := [.ref a1, .int a2]) (np := 2) (ci := 11) (st := []) ((hg.2.2.2.2.1) _ _ _ _ _ e29) dX12_walkOne_171 rfl (by omega) (by decide) cw_X12_174 ⟨wd_966, ws_56⟩ rfl (ckT_s e31) rfl (Nat.le_of_ble_eq_true rfl) ?_
          refine a_goto (tgt := 183) dX12_walkOne_174 (by decide) ?_
          obtain rfl := Option.some.inj hf
          exact a_return dX12_walkOne_183 rfl
      have hf := ifn c70_2 hf
      by_cases c70_3 : v9 = 7
      · have hf := ifp c70_3 hf
        refine a_tblIn (k := 7) (off := 55) (tgt := 125) dX12_walkOne_70 c70_3 (by decide) (by decide) rfl (by decide) ?_
        refine a_aload_n (q := 0) dX12_walkOne_125 rfl rfl ?_
        obtain ⟨v32, e33, hf⟩ := obd hf
        refine o_gfI dX12_walkOne_126 lk_X12_77 rfl e33 ?_
        refine a_if_ne (tgt := 137) dX12_walkOne_129 (by decide) (fun c => ?_) (fun c => ?_)
        · have hf := ifn c hf
          obtain rfl := Option.some.inj hf
          exact a_return dX12_walkOne_137 rfl
        · have hf := ifp c hf
          refine a_aload_n (q := 0) dX12_walkOne_132 rfl rfl ?_
          refine a_aload_n (q := 1) dX12_walkOne_133 rfl rfl ?_
          obtain ⟨_, e36, hf⟩ := obd hf
          obtain ⟨h35, e34, hf⟩ := obd hf
          refine a_callV (as := [.ref a1]) (np := 1) (ci := 11) (st := []) (sX12_tellName E (D - 1) (by omega) e34) dX12_walkOne_134 rfl (by omega) (by decide) cw_X12_165 ⟨wd_930, ws_49⟩ rfl (ckT_s e36) rfl (Nat.le_of_ble_eq_true rfl) ?_
          obtain rfl := Option.some.inj hf
          exact a_return dX12_walkOne_137 rfl
      have hf := ifn c70_3 hf
      have t70_0 := lv_neT (a := 1) c70_0 rfl
      have t70_1 := lv_neT (a := 2) c70_1 rfl
      have t70_2 := lv_neT (a := 3) c70_2 rfl
      have t70_3 := lv_neT (a := 7) c70_3 rfl
      by_cases c70_d0 : v9 = 4
      · refine a_tblIn (k := 4) (off := 114) (tgt := 184) dX12_walkOne_70 c70_d0 (by decide) (by decide) rfl (by decide) ?_
        refine a_aload_n (q := 0) dX12_walkOne_184 rfl rfl ?_
        refine a_aload_n (q := 1) dX12_walkOne_185 rfl rfl ?_
        refine a_iload_n (q := 2) dX12_walkOne_186 rfl rfl ?_
        obtain ⟨_, e39, hf⟩ := obd hf
        obtain ⟨h38, e37, hf⟩ := obd hf
        refine a_callV (as := [.ref a1, .int a2]) (np := 2) (ci := 11) (st := []) ((hg.2.2.2.2.2.2.2.1) _ _ _ _ _ e37) dX12_walkOne_187 rfl (by omega) (by decide) cw_X12_180 ⟨wd_983, ws_60⟩ rfl (ckT_s e39) rfl (Nat.le_of_ble_eq_true rfl) ?_
        obtain rfl := Option.some.inj hf
        exact a_return dX12_walkOne_190 rfl
      have t70_d0 := lv_neT (a := 4) c70_d0 rfl
      by_cases c70_d1 : v9 = 5
      · refine a_tblIn (k := 5) (off := 114) (tgt := 184) dX12_walkOne_70 c70_d1 (by decide) (by decide) rfl (by decide) ?_
        refine a_aload_n (q := 0) dX12_walkOne_184 rfl rfl ?_
        refine a_aload_n (q := 1) dX12_walkOne_185 rfl rfl ?_
        refine a_iload_n (q := 2) dX12_walkOne_186 rfl rfl ?_
        obtain ⟨_, e39, hf⟩ := obd hf
        obtain ⟨h38, e37, hf⟩ := obd hf
        refine a_callV (as := [.ref a1, .int a2]) (np := 2) (ci := 11) (st := []) ((hg.2.2.2.2.2.2.2.1) _ _ _ _ _ e37) dX12_walkOne_187 rfl (by omega) (by decide) cw_X12_180 ⟨wd_983, ws_60⟩ rfl (ckT_s e39) rfl (Nat.le_of_ble_eq_true rfl) ?_
        obtain rfl := Option.some.inj hf
        exact a_return dX12_walkOne_190 rfl
      have t70_d1 := lv_neT (a := 5) c70_d1 rfl
      by_cases c70_d2 : v9 = 6
      · refine a_tblIn (k := 6) (off := 114) (tgt := 184) dX12_walkOne_70 c70_d2 (by decide) (by decide) rfl (by decide) ?_
        refine a_aload_n (q := 0) dX12_walkOne_184 rfl rfl ?_
        refine a_aload_n (q := 1) dX12_walkOne_185 rfl rfl ?_
        refine a_iload_n (q := 2) dX12_walkOne_186 rfl rfl ?_
        obtain ⟨_, e39, hf⟩ := obd hf
        obtain ⟨h38, e37, hf⟩ := obd hf
        refine a_callV (as := [.ref a1, .int a2]) (np := 2) (ci := 11) (st := []) ((hg.2.2.2.2.2.2.2.1) _ _ _ _ _ e37) dX12_walkOne_187 rfl (by omega) (by decide) cw_X12_180 ⟨wd_983, ws_60⟩ rfl (ckT_s e39) rfl (Nat.le_of_ble_eq_true rfl) ?_
        obtain rfl := Option.some.inj hf
        exact a_return dX12_walkOne_190 rfl
      have t70_d2 := lv_neT (a := 6) c70_d2 rfl
      refine a_tblOut (tgt := 184) dX12_walkOne_70 (by omega) (by decide) ?_
      refine a_aload_n (q := 0) dX12_walkOne_184 rfl rfl ?_
      refine a_aload_n (q := 1) dX12_walkOne_185 rfl rfl ?_
      refine a_iload_n (q := 2) dX12_walkOne_186 rfl rfl ?_
      obtain ⟨_, e39, hf⟩ := obd hf
      obtain ⟨h38, e37, hf⟩ := obd hf
      refine a_callV (as := [.ref a1, .int a2]) (np := 2) (ci := 11) (st := []) ((hg.2.2.2.2.2.2.2.1) _ _ _ _ _ e37) dX12_walkOne_187 rfl (by omega) (by decide) cw_X12_180 ⟨wd_983, ws_60⟩ rfl (ckT_s e39) rfl (Nat.le_of_ble_eq_true rfl) ?_
      obtain rfl := Option.some.inj hf
      exact a_return dX12_walkOne_190 rfl
    · have hf := ifn c hf
      refine a_aload_n (q := 0) dX12_walkOne_45 rfl rfl ?_
      refine a_aload_n (q := 1) dX12_walkOne_46 rfl rfl ?_
      obtain ⟨v40, e41, hf⟩ := obd hf
      refine o_gfI dX12_walkOne_47 lk_X12_151 rfl e41 ?_
      refine a_bipush (v := 6) dX12_walkOne_50 (by decide) ?_
      obtain ⟨_, e44, hf⟩ := obd hf
      obtain ⟨h43, e42, hf⟩ := obd hf
      refine a_callV (as := [.int v40, .int 6]) (np := 2) (ci := 11) (st := []) (sX12_fail E (D - 1) (by omega) e42) dX12_walkOne_52 rfl (by omega) (by decide) cw_X12_95 ⟨wd_770, ws_29⟩ rfl (ckT_s e44) rfl (Nat.le_of_ble_eq_true rfl) ?_
      obtain rfl := Option.some.inj hf
      exact a_return dX12_walkOne_55 rfl
  · have hf := ifp c hf
    refine a_aload_n (q := 0) dX12_walkOne_7 rfl rfl ?_
    refine a_aload_n (q := 1) dX12_walkOne_8 rfl rfl ?_
    obtain ⟨v45, e46, hf⟩ := obd hf
    refine o_gfI dX12_walkOne_9 lk_X12_148 rfl e46 ?_
    refine a_aload_n (q := 1) dX12_walkOne_12 rfl rfl ?_
    obtain ⟨v47, e48, hf⟩ := obd hf
    refine o_gfI dX12_walkOne_13 lk_X12_151 rfl e48 ?_
    obtain ⟨_, e51, hf⟩ := obd hf
    obtain ⟨h50, e49, hf⟩ := obd hf
    refine a_callV (as := [.int v45, .int v47]) (np := 2) (ci := 11) (st := []) (sX12_putByte E (D - 1) (by omega) e49) dX12_walkOne_16 rfl (by omega) (by decide) cw_X12_154 ⟨wd_808, ws_33⟩ rfl (ckT_s e51) rfl (Nat.le_of_ble_eq_true rfl) ?_
    refine a_aload_n (q := 0) dX12_walkOne_19 rfl rfl ?_
    refine a_aload_n (q := 0) dX12_walkOne_20 rfl rfl ?_
    obtain ⟨v52, e53, hf⟩ := obd hf
    refine o_gfI dX12_walkOne_21 lk_X12_68 rfl e53 ?_
    refine a_aload_n (q := 1) dX12_walkOne_24 rfl rfl ?_
    obtain ⟨v54, e55, hf⟩ := obd hf
    refine o_gfI dX12_walkOne_25 lk_X12_148 rfl e55 ?_
    obtain ⟨v57, h58, e56, hf⟩ := ob2 hf
    refine a_callS (as := [.int v52, .int v54]) (np := 2) (st := [.ref a0]) (sX12_behind E (D - 1) (by omega) e56) dX12_walkOne_28 rfl (by omega) (by decide) cw_X12_157 wd_812 rfl (Nat.le_of_ble_eq_true rfl) ?_
    obtain ⟨h59, e60, hf⟩ := obd hf
    refine o_pfI dX12_walkOne_31 lk_X12_68 (⟨_, rfl, Or.inl rfl⟩) rfl e60 ?_
    obtain rfl := Option.some.inj hf
    exact a_return dX12_walkOne_34 rfl
set_option maxHeartbeats 4000000 in
set_option maxRecDepth 100000 in
theorem sX12_lookIntoBranch_b (E : gE) (D : Nat) (hD : 7 ≤ D) {g : gG1} (hg : gG1_ok E (D - 1) g) {a0 : Nat} {a1 : Nat} {a2 : Int32} {h hz : hp} (hf : fX12_lookIntoBranch_b g a0 a1 a2 h = some hz) : MC E yX12_lookIntoBranch cX12_lookIntoBranch (Option.none : Option Jvm.ClassFile.FieldType) 5 D [.ref a0, .ref a1, .int a2] h none hz := by
  refine MC.of (by decide +kernel) (Nat.le_of_ble_eq_true rfl) rfl ?_
  unfold fX12_lookIntoBranch_b at hf
  show AW E yX12_lookIntoBranch cX12_lookIntoBranch (Option.none : Option Jvm.ClassFile.FieldType) 5 D none h hz 0 [(0, .ref a0), (1, .ref a1), (2, .int a2)] [] h
  refine a_aload_n (q := 0) dX12_lookIntoBranch_0 rfl rfl ?_
  obtain ⟨v1, e2, hf⟩ := obd hf
  refine o_gfI dX12_lookIntoBranch_1 lk_X12_68 rfl e2 ?_
  refine a_istore_n (lv1 := [(3, .int v1), (0, .ref a0), (1, .ref a1), (2, .int a2)]) dX12_lookIntoBranch_4 rfl (by decide) rfl ?_
  refine a_aload_n (q := 1) dX12_lookIntoBranch_5 rfl rfl ?_
  refine a_aload_n (q := 2) dX12_lookIntoBranch_6 rfl rfl ?_
  obtain ⟨v3, e4, hf⟩ := obd hf
  refine o_gfR dX12_lookIntoBranch_7 lk_X12_183 rfl e4 ?_
  refine a_iload_n (q := 3) dX12_lookIntoBranch_10 rfl rfl ?_
  refine a_iconst (v := 1) dX12_lookIntoBranch_11 (by decide) ?_
  refine a_iadd dX12_lookIntoBranch_12 ?_
  obtain ⟨_, e7, hf⟩ := obd hf
  obtain ⟨h6, e5, hf⟩ := obd hf
  refine a_callV (as := [.ref v3, .int (a2 + 1)]) (np := 2) (ci := 11) (st := []) ((hg.2.1) _ _ _ _ _ e5) dX12_lookIntoBranch_13 rfl (by omega) (by decide) cw_X12_109 ⟨wd_800, ws_31⟩ rfl (ckT_s e7) rfl (Nat.le_of_ble_eq_true rfl) ?_
  refine a_aload_n (q := 1) dX12_lookIntoBranch_16 rfl rfl ?_
  obtain ⟨v8, e9, hf⟩ := obd hf
  refine o_gfI dX12_lookIntoBranch_17 lk_X12_68 rfl e9 ?_
  refine a_istore (lv1 := [(4, .int v8), (3, .int v1), (0, .ref a0), (1, .ref a1), (2, .int a2)]) dX12_lookIntoBranch_20 (by decide) rfl ?_
  refine a_aload_n (q := 2) dX12_lookIntoBranch_22 rfl rfl ?_
  refine a_iload_n (q := 1) dX12_lookIntoBranch_23 rfl rfl ?_
  obtain ⟨h10, e11, hf⟩ := obd hf
  refine o_pfI dX12_lookIntoBranch_24 lk_X12_68 (⟨_, rfl, Or.inl rfl⟩) rfl e11 ?_
  refine a_aload_n (q := 2) dX12_lookIntoBranch_27 rfl rfl ?_
  refine a_aload_n (q := 3) dX12_lookIntoBranch_28 rfl rfl ?_
  obtain ⟨v12, e13, hf⟩ := obd hf
  refine o_gfR dX12_lookIntoBranch_29 lk_X12_186 rfl e13 ?_
  refine a_iload_n (q := 4) dX12_lookIntoBranch_32 rfl rfl ?_
  refine a_iconst (v := 1) dX12_lookIntoBranch_33 (by decide) ?_
  refine a_iadd dX12_lookIntoBranch_34 ?_
  obtain ⟨_, e16, hf⟩ := obd hf
  obtain ⟨h15, e14, hf⟩ := obd hf
  refine a_callV (as := [.ref v12, .int (a2 + 1)]) (np := 2) (ci := 11) (st := []) ((hg.2.1) _ _ _ _ _ e14) dX12_lookIntoBranch_35 rfl (by omega) (by decide) cw_X12_109 ⟨wd_800, ws_31⟩ rfl (ckT_s e16) rfl (Nat.le_of_ble_eq_true rfl) ?_
  refine a_aload_n (q := 2) dX12_lookIntoBranch_38 rfl rfl ?_
  obtain ⟨v17, e18, hf⟩ := obd hf
  refine o_gfI dX12_lookIntoBranch_39 lk_X12_68 rfl e18 ?_
  refine a_iload (q := 0) dX12_lookIntoBranch_42 rfl ?_
  refine a_icmp_eq (tgt := 56) dX12_lookIntoBranch_44 (by decide) (fun c => ?_) (fun c => ?_)
  · have hf := ifp c hf
    obtain rfl := Option.some.inj hf
    exact a_return dX12_lookIntoBranch_56 rfl
  · have hf := ifn c hf
    refine a_aload_n (q := 2) dX12_lookIntoBranch_47 rfl rfl ?_
    refine a_aload_n (q := 3) dX12_lookIntoBranch_48 rfl rfl ?_
    obtain ⟨v19, e20, hf⟩ := obd hf
    refine o_gfI dX12_lookIntoBranch_49 lk_X12_151 rfl e20 ?_
    refine a_iconst (v := 3) dX12_lookIntoBranch_52 (by decide) ?_
    obtain ⟨_, e23, hf⟩ := obd hf
    obtain ⟨h22, e21, hf⟩ := obd hf
    refine a_callV (as := [.int v19, .int 3]) (np := 2) (ci := 11) (st := []) (sX12_fail E (D - 1) (by omega) e21) dX12_lookIntoBranch_53 rfl (by omega) (by decide) cw_X12_95 ⟨wd_770, ws_29⟩ rfl (ckT_s e23) rfl (Nat.le_of_ble_eq_true rfl) ?_
    obtain rfl := Option.some.inj hf
    exact a_return dX12_lookIntoBranch_56 rfl
set_option maxHeartbeats 4000000 in
set_option maxRecDepth 100000 in
theorem sX12_lookIntoLoop_b (E : gE) (D : Nat) (hD : 7 ≤ D) {g : gG1} (hg : gG1_ok E (D - 1) g) {a0 : Nat} {a1 : Nat} {a2 : Int32} {h hz : hp} (hf : fX12_lookIntoLoop_b g a0 a1 a2 h = some hz) : MC E yX12_lookIntoLoop cX12_lookIntoLoop (Option.none : Option Jvm.ClassFile.FieldType) 4 D [.ref a0, .ref a1, .int a2] h none hz := by
  refine MC.of (by decide +kernel) (Nat.le_of_ble_eq_true rfl) rfl ?_
  unfold fX12_lookIntoLoop_b at hf
  show AW E yX12_lookIntoLoop cX12_lookIntoLoop (Option.none : Option Jvm.ClassFile.FieldType) 4 D none h hz 0 [(0, .ref a0), (1, .ref a1), (2, .int a2)] [] h
  refine a_aload_n (q := 0) dX12_lookIntoLoop_0 rfl rfl ?_
  obtain ⟨v1, e2, hf⟩ := obd hf
  refine o_gfI dX12_lookIntoLoop_1 lk_X12_68 rfl e2 ?_
  refine a_istore_n (lv1 := [(3, .int v1), (0, .ref a0), (1, .ref a1), (2, .int a2)]) dX12_lookIntoLoop_4 rfl (by decide) rfl ?_
  refine a_aload_n (q := 1) dX12_lookIntoLoop_5 rfl rfl ?_
  refine a_aload_n (q := 2) dX12_lookIntoLoop_6 rfl rfl ?_
  obtain ⟨v3, e4, hf⟩ := obd hf
  refine o_gfR dX12_lookIntoLoop_7 lk_X12_183 rfl e4 ?_
  refine a_iload_n (q := 3) dX12_lookIntoLoop_10 rfl rfl ?_
  refine a_iconst (v := 1) dX12_lookIntoLoop_11 (by decide) ?_
  refine a_iadd dX12_lookIntoLoop_12 ?_
  obtain ⟨_, e7, hf⟩ := obd hf
  obtain ⟨h6, e5, hf⟩ := obd hf
  refine a_callV (as := [.ref v3, .int (a2 + 1)]) (np := 2) (ci := 11) (st := []) ((hg.2.1) _ _ _ _ _ e5) dX12_lookIntoLoop_13 rfl (by omega) (by decide) cw_X12_109 ⟨wd_800, ws_31⟩ rfl (ckT_s e7) rfl (Nat.le_of_ble_eq_true rfl) ?_
  refine a_aload_n (q := 1) dX12_lookIntoLoop_16 rfl rfl ?_
  obtain ⟨v8, e9, hf⟩ := obd hf
  refine o_gfI dX12_lookIntoLoop_17 lk_X12_68 rfl e9 ?_
  refine a_iload_n (q := 0) dX12_lookIntoLoop_20 rfl rfl ?_
  obtain ⟨k33, ek33, hf⟩ := jn_s hf
  have hj33 : ∀ (h33j : hp), k33 h33j = some hz → AW E yX12_lookIntoLoop cX12_lookIntoLoop (Option.none : Option Jvm.ClassFile.FieldType) 4 D none h hz 33 [(0, .ref a0), (1, .ref a1), (2, .int a2), (3, .int v1)] [] h33j := by
    intro h33j hf
    rw [ek33] at hf
    clear ek33
    refine a_aload_n (q := 0) dX12_lookIntoLoop_33 rfl rfl ?_
    refine a_aload_n (q := 1) dX12_lookIntoLoop_34 rfl rfl ?_
    obtain ⟨v10, e11, hf⟩ := obd hf
    refine o_gfR dX12_lookIntoLoop_35 lk_X12_186 rfl e11 ?_
    refine a_iload_n (q := 2) dX12_lookIntoLoop_38 rfl rfl ?_
    refine a_iconst (v := 1) dX12_lookIntoLoop_39 (by decide) ?_
    refine a_iadd dX12_lookIntoLoop_40 ?_
    obtain ⟨_, e14, hf⟩ := obd hf
    obtain ⟨h13, e12, hf⟩ := obd hf
    refine a_callV (as := [.ref v10, .int (a2 + 1)]) (np := 2) (ci := 11) (st := []) ((hg.2.1) _ _ _ _ _ e12) dX12_lookIntoLoop_41 rfl (by omega) (by decide) cw_X12_109 ⟨wd_800, ws_31⟩ rfl (ckT_s e14) rfl (Nat.le_of_ble_eq_true rfl) ?_
    refine a_aload_n (q := 0) dX12_lookIntoLoop_44 rfl rfl ?_
    obtain ⟨v15, e16, hf⟩ := obd hf
    refine o_gfI dX12_lookIntoLoop_45 lk_X12_68 rfl e16 ?_
    refine a_iload_n (q := 3) dX12_lookIntoLoop_48 rfl rfl ?_
    refine a_icmp_eq (tgt := 61) dX12_lookIntoLoop_49 (by decide) (fun c => ?_) (fun c => ?_)
    · have hf := ifp c hf
      obtain rfl := Option.some.inj hf
      exact a_return dX12_lookIntoLoop_61 rfl
    · have hf := ifn c hf
      refine a_aload_n (q := 0) dX12_lookIntoLoop_52 rfl rfl ?_
      refine a_aload_n (q := 1) dX12_lookIntoLoop_53 rfl rfl ?_
      obtain ⟨v17, e18, hf⟩ := obd hf
      refine o_gfI dX12_lookIntoLoop_54 lk_X12_151 rfl e18 ?_
      refine a_iconst (v := 3) dX12_lookIntoLoop_57 (by decide) ?_
      obtain ⟨_, e21, hf⟩ := obd hf
      obtain ⟨h20, e19, hf⟩ := obd hf
      refine a_callV (as := [.int v17, .int 3]) (np := 2) (ci := 11) (st := []) (sX12_fail E (D - 1) (by omega) e19) dX12_lookIntoLoop_58 rfl (by omega) (by decide) cw_X12_95 ⟨wd_770, ws_29⟩ rfl (ckT_s e21) rfl (Nat.le_of_ble_eq_true rfl) ?_
      obtain rfl := Option.some.inj hf
      exact a_return dX12_lookIntoLoop_61 rfl
  clear ek33
  refine a_icmp_eq (tgt := 33) dX12_lookIntoLoop_21 (by decide) (fun c => ?_) (fun c => ?_)
  · have hf := ifp c hf
    exact AW.sub [1, 2, 3, 0] rfl (hj33 _ hf)
  · have hf := ifn c hf
    refine a_aload_n (q := 1) dX12_lookIntoLoop_24 rfl rfl ?_
    refine a_aload_n (q := 2) dX12_lookIntoLoop_25 rfl rfl ?_
    obtain ⟨v22, e23, hf⟩ := obd hf
    refine o_gfI dX12_lookIntoLoop_26 lk_X12_151 rfl e23 ?_
    refine a_iconst (v := 3) dX12_lookIntoLoop_29 (by decide) ?_
    obtain ⟨_, e26, hf⟩ := obd hf
    obtain ⟨h25, e24, hf⟩ := obd hf
    refine a_callV (as := [.int v22, .int 3]) (np := 2) (ci := 11) (st := []) (sX12_fail E (D - 1) (by omega) e24) dX12_lookIntoLoop_30 rfl (by omega) (by decide) cw_X12_95 ⟨wd_770, ws_29⟩ rfl (ckT_s e26) rfl (Nat.le_of_ble_eq_true rfl) ?_
    exact AW.sub [1, 2, 3, 0] rfl (hj33 _ hf)
set_option maxHeartbeats 4000000 in
set_option maxRecDepth 100000 in
theorem sX12_walkBranch_b (E : gE) (D : Nat) (hD : 7 ≤ D) {g : gG1} (hg : gG1_ok E (D - 1) g) {a0 : Nat} {a1 : Nat} {a2 : Int32} {h hz : hp} (hf : fX12_walkBranch_b g a0 a1 a2 h = some hz) : MC E yX12_walkBranch cX12_walkBranch (Option.none : Option Jvm.ClassFile.FieldType) 4 D [.ref a0, .ref a1, .int a2] h none hz := by
  refine MC.of (by decide +kernel) (Nat.le_of_ble_eq_true rfl) rfl ?_
  unfold fX12_walkBranch_b at hf
  show AW E yX12_walkBranch cX12_walkBranch (Option.none : Option Jvm.ClassFile.FieldType) 4 D none h hz 0 [(0, .ref a0), (1, .ref a1), (2, .int a2)] [] h
  refine a_aload_n (q := 0) dX12_walkBranch_0 rfl rfl ?_
  refine a_aload_n (q := 1) dX12_walkBranch_1 rfl rfl ?_
  obtain ⟨_, e4, hf⟩ := obd hf
  obtain ⟨v2, h3, e1, hf⟩ := ob2 hf
  refine a_callV (as := [.ref a1]) (np := 1) (ci := 11) (st := []) (sX12_holds E (D - 1) (by omega) e1) dX12_walkBranch_2 rfl (by omega) (by decide) cw_X12_189 ⟨wd_946, ws_53⟩ rfl (ckT_s e4) rfl (Nat.le_of_ble_eq_true rfl) ?_
  refine a_istore_n (lv1 := [(3, .int v2), (0, .ref a0), (1, .ref a1), (2, .int a2)]) dX12_walkBranch_5 rfl (by decide) rfl ?_
  refine a_aload_n (q := 1) dX12_walkBranch_6 rfl rfl ?_
  obtain ⟨v5, e6, hf⟩ := obd hf
  refine o_gfI dX12_walkBranch_7 lk_X12_81 rfl e6 ?_
  refine a_if_ne (tgt := 35) dX12_walkBranch_10 (by decide) (fun c => ?_) (fun c => ?_)
  · have hf := ifn c hf
    obtain rfl := Option.some.inj hf
    exact a_return dX12_walkBranch_35 rfl
  · have hf := ifp c hf
    refine a_aload_n (q := 1) dX12_walkBranch_13 rfl rfl ?_
    refine a_iload_n (q := 0) dX12_walkBranch_14 rfl rfl ?_
    obtain ⟨k29, ek29, hf⟩ := jn_s hf
    have hj29 : ∀ (s29_0 : Nat) (h29j : hp), k29 s29_0 h29j = some hz → AW E yX12_walkBranch cX12_walkBranch (Option.none : Option Jvm.ClassFile.FieldType) 4 D none h hz 29 [(2, .int a2)] [.ref s29_0, .ref a0] h29j := by
      intro s29_0 h29j hf
      rw [ek29] at hf
      clear ek29
      refine a_iload_n (q := 0) dX12_walkBranch_29 rfl rfl ?_
      refine a_iconst (v := 1) dX12_walkBranch_30 (by decide) ?_
      refine a_iadd dX12_walkBranch_31 ?_
      obtain ⟨_, e9, hf⟩ := obd hf
      obtain ⟨h8, e7, hf⟩ := obd hf
      refine a_callV (as := [.ref s29_0, .int (a2 + 1)]) (np := 2) (ci := 11) (st := []) ((hg.2.1) _ _ _ _ _ e7) dX12_walkBranch_32 rfl (by omega) (by decide) cw_X12_109 ⟨wd_800, ws_31⟩ rfl (ckT_s e9) rfl (Nat.le_of_ble_eq_true rfl) ?_
      obtain rfl := Option.some.inj hf
      exact a_return dX12_walkBranch_35 rfl
    clear ek29
    refine a_if_eq (tgt := 25) dX12_walkBranch_15 (by decide) (fun c => ?_) (fun c => ?_)
    · have hf := ifp c hf
      refine a_aload_n (q := 2) dX12_walkBranch_25 rfl rfl ?_
      obtain ⟨v10, e11, hf⟩ := obd hf
      refine o_gfR dX12_walkBranch_26 lk_X12_186 rfl e11 ?_
      exact AW.sub [3] rfl (hj29 _ _ hf)
    · have hf := ifn c hf
      refine a_aload_n (q := 2) dX12_walkBranch_18 rfl rfl ?_
      obtain ⟨v12, e13, hf⟩ := obd hf
      refine o_gfR dX12_walkBranch_19 lk_X12_183 rfl e13 ?_
      refine a_goto (tgt := 29) dX12_walkBranch_22 (by decide) ?_
      exact AW.sub [3] rfl (hj29 _ _ hf)
set_option maxHeartbeats 4000000 in
set_option maxRecDepth 100000 in
theorem sX12_walkLoop_l87 (E : gE) (D : Nat) (hD : 7 ≤ D) {g : gG1} (hg : gG1_ok E (D - 1) g) {rz : Option Value} {h0 hz : hp} : ∀ (n : Nat) (x0 : Nat) (x1 : Nat) (x2 : Int32) (x3 : Nat) (x4 : Int32) (x5 : Int32) (h : hp) (hq : hp), fX12_walkLoop_l87 g n x0 x1 x2 x3 x4 x5 h = some hq → (AW E yX12_walkLoop cX12_walkLoop (Option.none : Option Jvm.ClassFile.FieldType) 7 D rz h0 hz 163 [(0, .ref x0), (4, .int x4)] [] hq) → AW E yX12_walkLoop cX12_walkLoop (Option.none : Option Jvm.ClassFile.FieldType) 7 D rz h0 hz 87 [(0, .ref x0), (1, .ref x1), (2, .int x2), (3, .ref x3), (4, .int x4), (5, .int x5)] [] h := by
  intro n
  induction n with
  | zero =>
    intro x0 x1 x2 x3 x4 x5 h hq hf _
    rw [fX12_walkLoop_l87] at hf
    cases hf
  | succ n ih =>
    intro x0 x1 x2 x3 x4 x5 h hq hf hk0
    rw [fX12_walkLoop_l87] at hf
    refine a_iload (q := 5) dX12_walkLoop_87 rfl ?_
    refine a_aload_n (q := 3) dX12_walkLoop_89 rfl rfl ?_
    obtain ⟨v1, e2, hf⟩ := obd hf
    refine o_gfI dX12_walkLoop_90 lk_X12_207 rfl e2 ?_
    refine a_icmp_ge (tgt := 163) dX12_walkLoop_93 (by decide) (fun c => ?_) (fun c => ?_)
    · have hf := ifp c hf
      obtain rfl := Option.some.inj hf
      exact AW.sub [0, 4] rfl (hk0)
    · have hf := ifn c hf
      refine a_aload_n (q := 0) dX12_walkLoop_96 rfl rfl ?_
      obtain ⟨v3, e4, hf⟩ := obd hf
      refine o_gfI dX12_walkLoop_97 lk_X12_81 rfl e4 ?_
      refine a_if_ne (tgt := 163) dX12_walkLoop_100 (by decide) (fun c => ?_) (fun c => ?_)
      · have hf := ifn c hf
        obtain rfl := Option.some.inj hf
        exact AW.sub [0, 4] rfl (hk0)
      · have hf := ifp c hf
        refine a_aload_n (q := 0) dX12_walkLoop_103 rfl rfl ?_
        obtain ⟨v5, e6, hf⟩ := obd hf
        refine o_gfI dX12_walkLoop_104 lk_X12_131 rfl e6 ?_
        refine a_istore (lv1 := [(6, .int v5), (0, .ref x0), (1, .ref x1), (2, .int x2), (3, .ref x3), (4, .int x4), (5, .int x5)]) dX12_walkLoop_107 (by decide) rfl ?_
        refine a_aload_n (q := 1) dX12_walkLoop_109 rfl rfl ?_
        obtain ⟨v7, e8, hf⟩ := obd hf
        refine o_gfR dX12_walkLoop_110 lk_X12_24 rfl e8 ?_
        refine a_aload_n (q := 4) dX12_walkLoop_113 rfl rfl ?_
        refine a_iload (q := 6) dX12_walkLoop_114 rfl ?_
        obtain ⟨_, e12, hf⟩ := obd hf
        obtain ⟨v10, h11, e9, hf⟩ := ob2 hf
        refine a_callV (as := [.int x5]) (np := 1) (ci := 10) (st := [.ref v7]) (sX11_at E (D - 1) (by omega) e9) dX12_walkLoop_116 rfl (by omega) (by decide) cw_X12_210 ⟨wd_338, wd_339⟩ rfl (ckT_s e12) rfl (Nat.le_of_ble_eq_true rfl) ?_
        obtain ⟨_, e15, hf⟩ := obd hf
        obtain ⟨h14, e13, hf⟩ := obd hf
        refine a_callV (as := [.int v10]) (np := 1) (ci := 10) (st := []) (sX11_becomeInt E (D - 1) (by omega) e13) dX12_walkLoop_119 rfl (by omega) (by decide) cw_X12_214 ⟨wd_284, wd_285⟩ rfl (ckT_s e15) rfl (Nat.le_of_ble_eq_true rfl) ?_
        refine a_aload_n (q := 1) dX12_walkLoop_122 rfl rfl ?_
        refine a_aload_n (q := 2) dX12_walkLoop_123 rfl rfl ?_
        obtain ⟨v16, e17, hf⟩ := obd hf
        refine o_gfI dX12_walkLoop_124 lk_X12_148 rfl e17 ?_
        refine a_aload_n (q := 1) dX12_walkLoop_127 rfl rfl ?_
        obtain ⟨v18, e19, hf⟩ := obd hf
        refine o_gfR dX12_walkLoop_128 lk_X12_24 rfl e19 ?_
        obtain ⟨_, e22, hf⟩ := obd hf
        obtain ⟨h21, e20, hf⟩ := obd hf
        refine a_callV (as := [.int v16, .ref v18]) (np := 2) (ci := 11) (st := []) (sX12_giveName E (D - 1) (by omega) e20) dX12_walkLoop_131 rfl (by omega) (by decide) cw_X12_217 ⟨wd_934, ws_50⟩ rfl (ckT_s e22) rfl (Nat.le_of_ble_eq_true rfl) ?_
        refine a_aload_n (q := 1) dX12_walkLoop_134 rfl rfl ?_
        refine a_iload (q := 6) dX12_walkLoop_135 rfl ?_
        obtain ⟨h23, e24, hf⟩ := obd hf
        refine o_pfI dX12_walkLoop_137 lk_X12_74 (⟨_, rfl, Or.inl rfl⟩) rfl e24 ?_
        refine a_aload_n (q := 1) dX12_walkLoop_140 rfl rfl ?_
        refine a_aload_n (q := 2) dX12_walkLoop_141 rfl rfl ?_
        obtain ⟨v25, e26, hf⟩ := obd hf
        refine o_gfR dX12_walkLoop_142 lk_X12_183 rfl e26 ?_
        refine a_iload_n (q := 3) dX12_walkLoop_145 rfl rfl ?_
        refine a_iconst (v := 1) dX12_walkLoop_146 (by decide) ?_
        refine a_iadd dX12_walkLoop_147 ?_
        obtain ⟨_, e29, hf⟩ := obd hf
        obtain ⟨h28, e27, hf⟩ := obd hf
        refine a_callV (as := [.ref v25, .int (x2 + 1)]) (np := 2) (ci := 11) (st := []) ((hg.2.1) _ _ _ _ _ e27) dX12_walkLoop_148 rfl (by omega) (by decide) cw_X12_109 ⟨wd_800, ws_31⟩ rfl (ckT_s e29) rfl (Nat.le_of_ble_eq_true rfl) ?_
        refine a_aload_n (q := 1) dX12_walkLoop_151 rfl rfl ?_
        refine a_iload (q := 0) dX12_walkLoop_152 rfl ?_
        obtain ⟨_, e32, hf⟩ := obd hf
        obtain ⟨h31, e30, hf⟩ := obd hf
        refine a_callV (as := [.int v5]) (np := 1) (ci := 11) (st := []) (sX12_giveBack E (D - 1) (by omega) e30) dX12_walkLoop_154 rfl (by omega) (by decide) cw_X12_142 ⟨wd_979, ws_59⟩ rfl (ckT_s e32) rfl (Nat.le_of_ble_eq_true rfl) ?_
        refine a_iinc (q := 6) (v := (x5 + 1)) (lv1 := [(5, .int (x5 + 1)), (6, .int v5), (0, .ref x0), (1, .ref x1), (2, .int x2), (3, .ref x3), (4, .int x4)]) dX12_walkLoop_157 rfl (by rfl) (by decide) rfl ?_
        refine a_goto (tgt := 87) dX12_walkLoop_160 (by decide) ?_
        exact AW.sub [2, 3, 4, 5, 6, 0] rfl (ih _ _ _ _ _ _ _ _ hf hk0)
set_option maxHeartbeats 4000000 in
set_option maxRecDepth 100000 in
theorem sX12_walkLoop_b (E : gE) (D : Nat) (hD : 7 ≤ D) {g : gG1} (hg : gG1_ok E (D - 1) g) {a0 : Nat} {a1 : Nat} {a2 : Int32} {h hz : hp} (hf : fX12_walkLoop_b g a0 a1 a2 h = some hz) : MC E yX12_walkLoop cX12_walkLoop (Option.none : Option Jvm.ClassFile.FieldType) 7 D [.ref a0, .ref a1, .int a2] h none hz := by
  refine MC.of (by decide +kernel) (Nat.le_of_ble_eq_true rfl) rfl ?_
  unfold fX12_walkLoop_b at hf
  show AW E yX12_walkLoop cX12_walkLoop (Option.none : Option Jvm.ClassFile.FieldType) 7 D none h hz 0 [(0, .ref a0), (1, .ref a1), (2, .int a2)] [] h
  refine a_aload_n (q := 0) dX12_walkLoop_0 rfl rfl ?_
  refine a_iload_n (q := 2) dX12_walkLoop_1 rfl rfl ?_
  obtain ⟨_, e4, hf⟩ := obd hf
  obtain ⟨v2, h3, e1, hf⟩ := ob2 hf
  refine a_callV (as := [.int a2]) (np := 1) (ci := 11) (st := []) (sX12_listAt E (D - 1) (by omega) e1) dX12_walkLoop_2 rfl (by omega) (by decide) cw_X12_193 ⟨wd_974, ws_58⟩ rfl (ckT_s e4) rfl (Nat.le_of_ble_eq_true rfl) ?_
  refine a_astore_n (lv1 := [(3, .ref v2), (0, .ref a0), (1, .ref a1), (2, .int a2)]) dX12_walkLoop_5 rfl (by decide) rfl ?_
  refine a_aload_n (q := 0) dX12_walkLoop_6 rfl rfl ?_
  refine a_ifnonnull (tgt := 21) dX12_walkLoop_7 (by decide) (fun c => ?_) (fun c => ?_)
  · have hf := ifn c hf
    refine a_aload_n (q := 1) dX12_walkLoop_21 rfl rfl ?_
    refine a_aload_n (q := 2) dX12_walkLoop_22 rfl rfl ?_
    obtain ⟨v5, e6, hf⟩ := obd hf
    refine o_gfR dX12_walkLoop_23 lk_X12_197 rfl e6 ?_
    refine a_aload_n (q := 0) dX12_walkLoop_26 rfl rfl ?_
    refine a_aload_n (q := 2) dX12_walkLoop_27 rfl rfl ?_
    obtain ⟨v7, e8, hf⟩ := obd hf
    refine o_gfI dX12_walkLoop_28 lk_X12_151 rfl e8 ?_
    obtain ⟨_, e11, hf⟩ := obd hf
    obtain ⟨h10, e9, hf⟩ := obd hf
    refine a_callV (as := [.ref v5, .ref v2, .int v7]) (np := 3) (ci := 11) (st := []) (sX12_workOut E (D - 1) (by omega) e9) dX12_walkLoop_31 rfl (by omega) (by decide) cw_X12_200 ⟨wd_820, ws_35⟩ rfl (ckT_s e11) rfl (Nat.le_of_ble_eq_true rfl) ?_
    refine a_aload_n (q := 1) dX12_walkLoop_34 rfl rfl ?_
    obtain ⟨v12, e13, hf⟩ := obd hf
    refine o_gfI dX12_walkLoop_35 lk_X12_81 rfl e13 ?_
    refine a_if_eq (tgt := 42) dX12_walkLoop_38 (by decide) (fun c => ?_) (fun c => ?_)
    · have hf := ifp c hf
      refine a_aload_n (q := 0) dX12_walkLoop_42 rfl rfl ?_
      obtain ⟨v14, e15, hf⟩ := obd hf
      refine o_gfI dX12_walkLoop_43 lk_X12_204 rfl e15 ?_
      refine a_iconst (v := 4) dX12_walkLoop_46 (by decide) ?_
      refine a_icmp_eq (tgt := 60) dX12_walkLoop_47 (by decide) (fun c => ?_) (fun c => ?_)
      · have hf := ifp c hf
        refine a_aload_n (q := 0) dX12_walkLoop_60 rfl rfl ?_
        obtain ⟨v16, e17, hf⟩ := obd hf
        refine o_gfI dX12_walkLoop_61 lk_X12_207 rfl e17 ?_
        obtain ⟨k78, ek78, hf⟩ := jn_s hf
        have hj78 : ∀ (h78j : hp), k78 h78j = some hz → AW E yX12_walkLoop cX12_walkLoop (Option.none : Option Jvm.ClassFile.FieldType) 7 D none h hz 78 [(0, .ref a0), (1, .ref a1), (2, .int a2), (3, .ref v2)] [] h78j := by
          intro h78j hf
          rw [ek78] at hf
          clear ek78
          refine a_aload_n (q := 0) dX12_walkLoop_78 rfl rfl ?_
          obtain ⟨v18, e19, hf⟩ := obd hf
          refine o_gfI dX12_walkLoop_79 lk_X12_74 rfl e19 ?_
          refine a_istore (lv1 := [(4, .int v18), (0, .ref a0), (1, .ref a1), (2, .int a2), (3, .ref v2)]) dX12_walkLoop_82 (by decide) rfl ?_
          refine a_iconst (v := 0) dX12_walkLoop_84 (by decide) ?_
          refine a_istore (lv1 := [(5, .int 0), (4, .int v18), (0, .ref a0), (1, .ref a1), (2, .int a2), (3, .ref v2)]) dX12_walkLoop_85 (by decide) rfl ?_
          obtain ⟨h21, e20, hf⟩ := obd hf
          refine AW.sub [2, 3, 4, 5, 1, 0] rfl (sX12_walkLoop_l87 E D hD hg _ _ _ _ _ _ _ _ _ e20 ?_)
          refine a_aload_n (q := 0) dX12_walkLoop_163 rfl rfl ?_
          refine a_iload (q := 1) dX12_walkLoop_164 rfl ?_
          obtain ⟨h22, e23, hf⟩ := obd hf
          refine o_pfI dX12_walkLoop_166 lk_X12_74 (⟨_, rfl, Or.inl rfl⟩) rfl e23 ?_
          obtain rfl := Option.some.inj hf
          exact a_return dX12_walkLoop_169 rfl
        clear ek78
        refine a_if_ne (tgt := 78) dX12_walkLoop_64 (by decide) (fun c => ?_) (fun c => ?_)
        · have hf := ifn c hf
          exact AW.sub [1, 2, 3, 0] rfl (hj78 _ hf)
        · have hf := ifp c hf
          refine a_aload_n (q := 1) dX12_walkLoop_67 rfl rfl ?_
          refine a_aload_n (q := 2) dX12_walkLoop_68 rfl rfl ?_
          obtain ⟨v24, e25, hf⟩ := obd hf
          refine o_gfR dX12_walkLoop_69 lk_X12_186 rfl e25 ?_
          refine a_iload_n (q := 3) dX12_walkLoop_72 rfl rfl ?_
          refine a_iconst (v := 1) dX12_walkLoop_73 (by decide) ?_
          refine a_iadd dX12_walkLoop_74 ?_
          obtain ⟨_, e28, hf⟩ := obd hf
          obtain ⟨h27, e26, hf⟩ := obd hf
          refine a_callV (as := [.ref v24, .int (a2 + 1)]) (np := 2) (ci := 11) (st := []) ((hg.2.1) _ _ _ _ _ e26) dX12_walkLoop_75 rfl (by omega) (by decide) cw_X12_109 ⟨wd_800, ws_31⟩ rfl (ckT_s e28) rfl (Nat.le_of_ble_eq_true rfl) ?_
          exact AW.sub [1, 2, 3, 0] rfl (hj78 _ hf)
      · have hf := ifn c hf
        refine a_aload_n (q := 1) dX12_walkLoop_50 rfl rfl ?_
        refine a_aload_n (q := 2) dX12_walkLoop_51 rfl rfl ?_
        obtain ⟨v29, e30, hf⟩ := obd hf
        refine o_gfI dX12_walkLoop_52 lk_X12_151 rfl e30 ?_
        refine a_iconst (v := 2) dX12_walkLoop_55 (by decide) ?_
        obtain ⟨_, e33, hf⟩ := obd hf
        obtain ⟨h32, e31, hf⟩ := obd hf
        refine a_callV (as := [.int v29, .int 2]) (np := 2) (ci := 11) (st := []) (sX12_fail E (D - 1) (by omega) e31) dX12_walkLoop_56 rfl (by omega) (by decide) cw_X12_95 ⟨wd_770, ws_29⟩ rfl (ckT_s e33) rfl (Nat.le_of_ble_eq_true rfl) ?_
        obtain rfl := Option.some.inj hf
        exact a_return dX12_walkLoop_59 rfl
    · have hf := ifn c hf
      obtain rfl := Option.some.inj hf
      exact a_return dX12_walkLoop_41 rfl
  · have hf := ifp c hf
    refine a_aload_n (q := 1) dX12_walkLoop_10 rfl rfl ?_
    refine a_aload_n (q := 2) dX12_walkLoop_11 rfl rfl ?_
    obtain ⟨v34, e35, hf⟩ := obd hf
    refine o_gfI dX12_walkLoop_12 lk_X12_151 rfl e35 ?_
    refine a_bipush (v := 7) dX12_walkLoop_15 (by decide) ?_
    obtain ⟨_, e38, hf⟩ := obd hf
    obtain ⟨h37, e36, hf⟩ := obd hf
    refine a_callV (as := [.int v34, .int 7]) (np := 2) (ci := 11) (st := []) (sX12_fail E (D - 1) (by omega) e36) dX12_walkLoop_17 rfl (by omega) (by decide) cw_X12_95 ⟨wd_770, ws_29⟩ rfl (ckT_s e38) rfl (Nat.le_of_ble_eq_true rfl) ?_
    obtain rfl := Option.some.inj hf
    exact a_return dX12_walkLoop_20 rfl
set_option maxHeartbeats 4000000 in
set_option maxRecDepth 100000 in
theorem sX12_walkElsewhere_b (E : gE) (D : Nat) (hD : 7 ≤ D) {g : gG1} (hg : gG1_ok E (D - 1) g) {a0 : Nat} {a1 : Nat} {a2 : Int32} {h hz : hp} (hf : fX12_walkElsewhere_b g a0 a1 a2 h = some hz) : MC E yX12_walkElsewhere cX12_walkElsewhere (Option.none : Option Jvm.ClassFile.FieldType) 4 D [.ref a0, .ref a1, .int a2] h none hz := by
  refine MC.of (by decide +kernel) (Nat.le_of_ble_eq_true rfl) rfl ?_
  unfold fX12_walkElsewhere_b at hf
  show AW E yX12_walkElsewhere cX12_walkElsewhere (Option.none : Option Jvm.ClassFile.FieldType) 4 D none h hz 0 [(0, .ref a0), (1, .ref a1), (2, .int a2)] [] h
  refine a_aload_n (q := 0) dX12_walkElsewhere_0 rfl rfl ?_
  obtain ⟨v1, e2, hf⟩ := obd hf
  refine o_gfI dX12_walkElsewhere_1 lk_X12_65 rfl e2 ?_
  refine a_bipush (v := 8) dX12_walkElsewhere_4 (by decide) ?_
  obtain ⟨k26, ek26, hf⟩ := jn_s hf
  have hj26 : ∀ (h26j : hp), k26 h26j = some hz → AW E yX12_walkElsewhere cX12_walkElsewhere (Option.none : Option Jvm.ClassFile.FieldType) 4 D none h hz 26 [(0, .ref a0), (1, .ref a1)] [] h26j := by
    intro h26j hf
    rw [ek26] at hf
    clear ek26
    refine a_aload_n (q := 0) dX12_walkElsewhere_26 rfl rfl ?_
    refine a_aload_n (q := 1) dX12_walkElsewhere_27 rfl rfl ?_
    obtain ⟨v3, e4, hf⟩ := obd hf
    refine o_gfI dX12_walkElsewhere_28 lk_X12_151 rfl e4 ?_
    refine a_bipush (v := 7) dX12_walkElsewhere_31 (by decide) ?_
    obtain ⟨_, e7, hf⟩ := obd hf
    obtain ⟨h6, e5, hf⟩ := obd hf
    refine a_callV (as := [.int v3, .int 7]) (np := 2) (ci := 11) (st := []) (sX12_fail E (D - 1) (by omega) e5) dX12_walkElsewhere_33 rfl (by omega) (by decide) cw_X12_95 ⟨wd_770, ws_29⟩ rfl (ckT_s e7) rfl (Nat.le_of_ble_eq_true rfl) ?_
    obtain rfl := Option.some.inj hf
    exact a_return dX12_walkElsewhere_36 rfl
  clear ek26
  refine a_icmp_ge (tgt := 26) dX12_walkElsewhere_6 (by decide) (fun c => ?_) (fun c => ?_)
  · have hf := ifp c hf
    exact AW.sub [0, 1] rfl (hj26 _ hf)
  · have hf := ifn c hf
    refine a_aload_n (q := 0) dX12_walkElsewhere_9 rfl rfl ?_
    obtain ⟨v8, e9, hf⟩ := obd hf
    refine o_gfI dX12_walkElsewhere_10 lk_X12_61 rfl e9 ?_
    refine a_iconst (v := 1) dX12_walkElsewhere_13 (by decide) ?_
    refine a_isub dX12_walkElsewhere_14 ?_
    refine a_aload_n (q := 0) dX12_walkElsewhere_15 rfl rfl ?_
    obtain ⟨v10, e11, hf⟩ := obd hf
    refine o_gfR dX12_walkElsewhere_16 lk_X12_13 rfl e11 ?_
    obtain ⟨v12, e13, hf⟩ := obd hf
    refine o_aln dX12_walkElsewhere_19 (by decide) e13 ?_
    obtain ⟨v15, h16, e14, hf⟩ := ob2 hf
    refine a_callS (as := [.int (v8 - 1), .int v12]) (np := 2) (st := []) (sX13_among E (D - 1) (by omega) e14) dX12_walkElsewhere_20 rfl (by omega) (by decide) cw_X12_91 wd_268 rfl (Nat.le_of_ble_eq_true rfl) ?_
    refine a_if_ne (tgt := 37) dX12_walkElsewhere_23 (by decide) (fun c => ?_) (fun c => ?_)
    · have hf := ifn c hf
      refine a_aload_n (q := 0) dX12_walkElsewhere_37 rfl rfl ?_
      obtain ⟨v17, e18, hf⟩ := obd hf
      refine o_gfR dX12_walkElsewhere_38 lk_X12_13 rfl e18 ?_
      refine a_aload_n (q := 0) dX12_walkElsewhere_41 rfl rfl ?_
      obtain ⟨v19, e20, hf⟩ := obd hf
      refine o_gfI dX12_walkElsewhere_42 lk_X12_61 rfl e20 ?_
      refine a_iconst (v := 1) dX12_walkElsewhere_45 (by decide) ?_
      refine a_isub dX12_walkElsewhere_46 ?_
      obtain ⟨v21, e22, hf⟩ := obd hf
      refine o_alR dX12_walkElsewhere_47 (by decide) e22 ?_
      refine a_astore_n (lv1 := [(3, .ref v21), (0, .ref a0), (1, .ref a1), (2, .int a2)]) dX12_walkElsewhere_48 rfl (by decide) rfl ?_
      refine a_aload_n (q := 1) dX12_walkElsewhere_49 rfl rfl ?_
      refine a_aload_n (q := 1) dX12_walkElsewhere_50 rfl rfl ?_
      obtain ⟨v23, e24, hf⟩ := obd hf
      refine o_gfI dX12_walkElsewhere_51 lk_X12_65 rfl e24 ?_
      refine a_iconst (v := 1) dX12_walkElsewhere_54 (by decide) ?_
      refine a_iadd dX12_walkElsewhere_55 ?_
      obtain ⟨h25, e26, hf⟩ := obd hf
      refine o_pfI dX12_walkElsewhere_56 lk_X12_65 (⟨_, rfl, Or.inl rfl⟩) rfl e26 ?_
      refine a_aload_n (q := 2) dX12_walkElsewhere_59 rfl rfl ?_
      obtain ⟨v27, e28, hf⟩ := obd hf
      refine o_gfI dX12_walkElsewhere_60 lk_X12_145 rfl e28 ?_
      refine a_bipush (v := 6) dX12_walkElsewhere_63 (by decide) ?_
      obtain ⟨k122, ek122, hf⟩ := jn_s hf
      have hj122 : ∀ (h122j : hp), k122 h122j = some hz → AW E yX12_walkElsewhere cX12_walkElsewhere (Option.none : Option Jvm.ClassFile.FieldType) 4 D none h hz 122 [(0, .ref a0)] [] h122j := by
        intro h122j hf
        rw [ek122] at hf
        clear ek122
        refine a_aload_n (q := 0) dX12_walkElsewhere_122 rfl rfl ?_
        refine a_aload_n (q := 0) dX12_walkElsewhere_123 rfl rfl ?_
        obtain ⟨v29, e30, hf⟩ := obd hf
        refine o_gfI dX12_walkElsewhere_124 lk_X12_65 rfl e30 ?_
        refine a_iconst (v := 1) dX12_walkElsewhere_127 (by decide) ?_
        refine a_isub dX12_walkElsewhere_128 ?_
        obtain ⟨h31, e32, hf⟩ := obd hf
        refine o_pfI dX12_walkElsewhere_129 lk_X12_65 (⟨_, rfl, Or.inl rfl⟩) rfl e32 ?_
        obtain rfl := Option.some.inj hf
        exact a_return dX12_walkElsewhere_132 rfl
      clear ek122
      refine a_icmp_ne (tgt := 90) dX12_walkElsewhere_65 (by decide) (fun c => ?_) (fun c => ?_)
      · have hf := ifn c hf
        refine a_aload_n (q := 2) dX12_walkElsewhere_90 rfl rfl ?_
        obtain ⟨v33, e34, hf⟩ := obd hf
        refine o_gfI dX12_walkElsewhere_91 lk_X12_145 rfl e34 ?_
        refine a_iconst (v := 4) dX12_walkElsewhere_94 (by decide) ?_
        refine a_icmp_ne (tgt := 109) dX12_walkElsewhere_95 (by decide) (fun c => ?_) (fun c => ?_)
        · have hf := ifn c hf
          refine a_aload_n (q := 1) dX12_walkElsewhere_109 rfl rfl ?_
          refine a_aload_n (q := 0) dX12_walkElsewhere_110 rfl rfl ?_
          refine a_aload_n (q := 2) dX12_walkElsewhere_111 rfl rfl ?_
          refine a_aload_n (q := 0) dX12_walkElsewhere_112 rfl rfl ?_
          obtain ⟨v35, e36, hf⟩ := obd hf
          refine o_gfI dX12_walkElsewhere_113 lk_X12_113 rfl e36 ?_
          refine a_iconst (v := 1) dX12_walkElsewhere_116 (by decide) ?_
          refine a_iadd dX12_walkElsewhere_117 ?_
          refine a_iload_n (q := 3) dX12_walkElsewhere_118 rfl rfl ?_
          obtain ⟨_, e39, hf⟩ := obd hf
          obtain ⟨h38, e37, hf⟩ := obd hf
          refine a_callV (as := [.ref v21, .ref a1, .int (v35 + 1), .int a2]) (np := 4) (ci := 11) (st := []) ((hg.2.2.2.2.2.2.2.2) _ _ _ _ _ _ _ e37) dX12_walkElsewhere_119 rfl (by omega) (by decide) cw_X12_224 ⟨wd_988, ws_61⟩ rfl (ckT_s e39) rfl (Nat.le_of_ble_eq_true rfl) ?_
          exact AW.sub [1] rfl (hj122 _ hf)
        · have hf := ifp c hf
          refine a_aload_n (q := 1) dX12_walkElsewhere_98 rfl rfl ?_
          refine a_aload_n (q := 0) dX12_walkElsewhere_99 rfl rfl ?_
          refine a_aload_n (q := 2) dX12_walkElsewhere_100 rfl rfl ?_
          refine a_iconst (v := 0) dX12_walkElsewhere_101 (by decide) ?_
          refine a_iload_n (q := 3) dX12_walkElsewhere_102 rfl rfl ?_
          obtain ⟨_, e42, hf⟩ := obd hf
          obtain ⟨h41, e40, hf⟩ := obd hf
          refine a_callV (as := [.ref v21, .ref a1, .int 0, .int a2]) (np := 4) (ci := 11) (st := []) ((hg.2.2.2.2.2.2.2.2) _ _ _ _ _ _ _ e40) dX12_walkElsewhere_103 rfl (by omega) (by decide) cw_X12_224 ⟨wd_988, ws_61⟩ rfl (ckT_s e42) rfl (Nat.le_of_ble_eq_true rfl) ?_
          refine a_goto (tgt := 122) dX12_walkElsewhere_106 (by decide) ?_
          exact AW.sub [1] rfl (hj122 _ hf)
      · have hf := ifp c hf
        refine a_aload_n (q := 0) dX12_walkElsewhere_68 rfl rfl ?_
        refine a_aload_n (q := 2) dX12_walkElsewhere_69 rfl rfl ?_
        obtain ⟨v43, e44, hf⟩ := obd hf
        refine o_gfI dX12_walkElsewhere_70 lk_X12_151 rfl e44 ?_
        obtain ⟨h45, e46, hf⟩ := obd hf
        refine o_pfI dX12_walkElsewhere_73 lk_X12_84 (⟨_, rfl, Or.inl rfl⟩) rfl e46 ?_
        refine a_aload_n (q := 1) dX12_walkElsewhere_76 rfl rfl ?_
        refine a_aload_n (q := 2) dX12_walkElsewhere_77 rfl rfl ?_
        obtain ⟨v47, e48, hf⟩ := obd hf
        refine o_gfI dX12_walkElsewhere_78 lk_X12_148 rfl e48 ?_
        refine a_iload_n (q := 3) dX12_walkElsewhere_81 rfl rfl ?_
        refine a_iconst (v := 1) dX12_walkElsewhere_82 (by decide) ?_
        refine a_iadd dX12_walkElsewhere_83 ?_
        obtain ⟨_, e51, hf⟩ := obd hf
        obtain ⟨h50, e49, hf⟩ := obd hf
        refine a_callV (as := [.int v47, .int (a2 + 1)]) (np := 2) (ci := 11) (st := []) ((hg.1) _ _ _ _ _ e49) dX12_walkElsewhere_84 rfl (by omega) (by decide) cw_X12_221 ⟨wd_765, ws_28⟩ rfl (ckT_s e51) rfl (Nat.le_of_ble_eq_true rfl) ?_
        refine a_goto (tgt := 122) dX12_walkElsewhere_87 (by decide) ?_
        exact AW.sub [1] rfl (hj122 _ hf)
    · have hf := ifp c hf
      exact AW.sub [0, 1] rfl (hj26 _ hf)
set_option maxHeartbeats 4000000 in
set_option maxRecDepth 100000 in
theorem sX12_walkBlock_l43 (E : gE) (D : Nat) (hD : 7 ≤ D) {g : gG1} (hg : gG1_ok E (D - 1) g) {rz : Option Value} {h0 hz : hp} : ∀ (n : Nat) (x0 : Nat) (x1 : Nat) (x2 : Nat) (x4 : Int32) (x5 : Int32) (x6 : Int32) (x7 : Int32) (x8 : Int32) (x9 : Nat) (x10 : Int32) (h : hp) (m9 : Nat) (hq : hp), fX12_walkBlock_l43 g n x0 x1 x2 x4 x5 x6 x7 x8 x9 x10 h = some (m9, hq) → (AW E yX12_walkBlock cX12_walkBlock (Option.none : Option Jvm.ClassFile.FieldType) 12 D rz h0 hz 107 [(0, .ref x0), (1, .ref x1), (2, .ref x2), (4, .int x4), (5, .int x5), (6, .int x6), (7, .int x7), (8, .int x8), (9, .ref m9)] [] hq) → AW E yX12_walkBlock cX12_walkBlock (Option.none : Option Jvm.ClassFile.FieldType) 12 D rz h0 hz 43 [(0, .ref x0), (1, .ref x1), (2, .ref x2), (4, .int x4), (5, .int x5), (6, .int x6), (7, .int x7), (8, .int x8), (9, .ref x9), (10, .int x10)] [] h := by
  intro n
  induction n with
  | zero =>
    intro x0 x1 x2 x4 x5 x6 x7 x8 x9 x10 h m9 hq hf _
    rw [fX12_walkBlock_l43] at hf
    cases hf
  | succ n ih =>
    intro x0 x1 x2 x4 x5 x6 x7 x8 x9 x10 h m9 hq hf hk0
    rw [fX12_walkBlock_l43] at hf
    refine a_iload (q := 9) dX12_walkBlock_43 rfl ?_
    refine a_aload_n (q := 1) dX12_walkBlock_45 rfl rfl ?_
    obtain ⟨v1, e2, hf⟩ := obd hf
    refine o_gfI dX12_walkBlock_46 lk_X12_231 rfl e2 ?_
    refine a_icmp_ge (tgt := 107) dX12_walkBlock_49 (by decide) (fun c => ?_) (fun c => ?_)
    · have hf := ifp c hf
      obtain ⟨rfl, rfl⟩ := oc2 hf
      exact AW.sub [0, 1, 2, 3, 4, 5, 6, 7, 8] rfl (hk0)
    · have hf := ifn c hf
      refine a_aload (q := 8) dX12_walkBlock_52 rfl ?_
      refine a_ifnonnull (tgt := 107) dX12_walkBlock_54 (by decide) (fun c => ?_) (fun c => ?_)
      · have hf := ifn c hf
        obtain ⟨rfl, rfl⟩ := oc2 hf
        exact AW.sub [0, 1, 2, 3, 4, 5, 6, 7, 8] rfl (hk0)
      · have hf := ifp c hf
        refine a_aload_n (q := 0) dX12_walkBlock_57 rfl rfl ?_
        obtain ⟨v3, e4, hf⟩ := obd hf
        refine o_gfR dX12_walkBlock_58 lk_X12_50 rfl e4 ?_
        refine a_aload_n (q := 1) dX12_walkBlock_61 rfl rfl ?_
        refine a_iload (q := 9) dX12_walkBlock_62 rfl ?_
        obtain ⟨_, e8, hf⟩ := obd hf
        obtain ⟨v6, h7, e5, hf⟩ := ob2 hf
        refine a_callV (as := [.int x10]) (np := 1) (ci := 0) (st := [.ref v3]) (sX1_at E (D - 1) (by omega) e5) dX12_walkBlock_64 rfl (by omega) (by decide) cw_X12_232 ⟨wd_777, wd_778⟩ rfl (ckT_s e8) rfl (Nat.le_of_ble_eq_true rfl) ?_
        obtain ⟨_, e12, hf⟩ := obd hf
        obtain ⟨v10, h11, e9, hf⟩ := ob2 hf
        refine a_callV (as := [.int v6]) (np := 1) (ci := 8) (st := []) (sX9_held E (D - 1) (by omega) e9) dX12_walkBlock_67 rfl (by omega) (by decide) cw_X12_122 ⟨wd_743, wd_744⟩ rfl (ckT_s e12) rfl (Nat.le_of_ble_eq_true rfl) ?_
        refine a_astore (lv1 := [(11, .ref v10), (0, .ref x0), (1, .ref x1), (2, .ref x2), (4, .int x4), (5, .int x5), (6, .int x6), (7, .int x7), (8, .int x8), (9, .ref x9), (10, .int x10)]) dX12_walkBlock_70 (by decide) rfl ?_
        refine a_aload (q := 0) dX12_walkBlock_72 rfl ?_
        obtain ⟨k88, ek88, hf⟩ := jn_s hf
        have hj88 : ∀ (s88_0 : Nat) (h88j : hp), k88 s88_0 h88j = some (m9, hq) → AW E yX12_walkBlock cX12_walkBlock (Option.none : Option Jvm.ClassFile.FieldType) 12 D rz h0 hz 88 [(0, .ref x0), (1, .ref x1), (2, .ref x2), (4, .int x4), (5, .int x5), (6, .int x6), (7, .int x7), (8, .int x8), (10, .int x10)] [.ref s88_0] h88j := by
          intro s88_0 h88j hf
          rw [ek88] at hf
          clear ek88
          refine a_astore (lv1 := [(9, .ref s88_0), (0, .ref x0), (1, .ref x1), (2, .ref x2), (4, .int x4), (5, .int x5), (6, .int x6), (7, .int x7), (8, .int x8), (10, .int x10)]) dX12_walkBlock_88 (by decide) rfl ?_
          refine a_aload (q := 0) dX12_walkBlock_90 rfl ?_
          refine a_ifnull (tgt := 101) dX12_walkBlock_92 (by decide) (fun c => ?_) (fun c => ?_)
          · have hf := ifp c hf
            refine a_iinc (q := 9) (v := (x10 + 1)) (lv1 := [(10, .int (x10 + 1)), (9, .ref s88_0), (0, .ref x0), (1, .ref x1), (2, .ref x2), (4, .int x4), (5, .int x5), (6, .int x6), (7, .int x7), (8, .int x8)]) dX12_walkBlock_101 rfl (by rfl) (by decide) rfl ?_
            refine a_goto (tgt := 43) dX12_walkBlock_104 (by decide) ?_
            exact AW.sub [2, 3, 4, 5, 6, 7, 8, 9, 1, 0] rfl (ih _ _ _ _ _ _ _ _ _ _ _ _ _ hf hk0)
          · have hf := ifn c hf
            refine a_aload_n (q := 2) dX12_walkBlock_95 rfl rfl ?_
            refine a_iload (q := 9) dX12_walkBlock_96 rfl ?_
            obtain ⟨h13, e14, hf⟩ := obd hf
            refine o_pfI dX12_walkBlock_98 lk_X12_113 (⟨_, rfl, Or.inl rfl⟩) rfl e14 ?_
            refine a_iinc (q := 9) (v := (x10 + 1)) (lv1 := [(10, .int (x10 + 1)), (9, .ref s88_0), (0, .ref x0), (1, .ref x1), (2, .ref x2), (4, .int x4), (5, .int x5), (6, .int x6), (7, .int x7), (8, .int x8)]) dX12_walkBlock_101 rfl (by rfl) (by decide) rfl ?_
            refine a_goto (tgt := 43) dX12_walkBlock_104 (by decide) ?_
            exact AW.sub [2, 3, 4, 5, 6, 7, 8, 9, 1, 0] rfl (ih _ _ _ _ _ _ _ _ _ _ _ _ _ hf hk0)
        clear ek88
        refine a_ifnonnull (tgt := 81) dX12_walkBlock_74 (by decide) (fun c => ?_) (fun c => ?_)
        · have hf := ifn c hf
          refine a_aload (q := 0) dX12_walkBlock_81 rfl ?_
          refine a_iload (q := 8) dX12_walkBlock_83 rfl ?_
          obtain ⟨_, e18, hf⟩ := obd hf
          obtain ⟨v16, h17, e15, hf⟩ := ob2 hf
          refine a_callV (as := [.int x8]) (np := 1) (ci := 9) (st := []) (sX10_block E (D - 1) (by omega) e15) dX12_walkBlock_85 rfl (by omega) (by decide) cw_X12_233 ⟨wd_992, wd_993⟩ rfl (ckT_s e18) rfl (Nat.le_of_ble_eq_true rfl) ?_
          exact AW.sub [1, 2, 3, 4, 5, 6, 7, 8, 10] rfl (hj88 _ _ hf)
        · have hf := ifp c hf
          refine a_null dX12_walkBlock_77 ?_
          refine a_goto (tgt := 88) dX12_walkBlock_78 (by decide) ?_
          exact AW.sub [1, 2, 3, 4, 5, 6, 7, 8, 10] rfl (hj88 _ _ hf)
set_option maxHeartbeats 4000000 in
set_option maxRecDepth 100000 in
theorem sX12_walkBlock_b (E : gE) (D : Nat) (hD : 7 ≤ D) {g : gG1} (hg : gG1_ok E (D - 1) g) {a0 : Nat} {a1 : Nat} {a2 : Nat} {a3 : Int32} {a4 : Int32} {h hz : hp} (hf : fX12_walkBlock_b g a0 a1 a2 a3 a4 h = some hz) : MC E yX12_walkBlock cX12_walkBlock (Option.none : Option Jvm.ClassFile.FieldType) 12 D [.ref a0, .ref a1, .ref a2, .int a3, .int a4] h none hz := by
  refine MC.of (by decide +kernel) (Nat.le_of_ble_eq_true rfl) rfl ?_
  unfold fX12_walkBlock_b at hf
  show AW E yX12_walkBlock cX12_walkBlock (Option.none : Option Jvm.ClassFile.FieldType) 12 D none h hz 0 [(0, .ref a0), (1, .ref a1), (2, .ref a2), (3, .int a3), (4, .int a4)] [] h
  refine a_aload_n (q := 1) dX12_walkBlock_0 rfl rfl ?_
  obtain ⟨v1, e2, hf⟩ := obd hf
  refine o_gfI dX12_walkBlock_1 lk_X12_113 rfl e2 ?_
  refine a_istore (lv1 := [(5, .int v1), (0, .ref a0), (1, .ref a1), (2, .ref a2), (3, .int a3), (4, .int a4)]) dX12_walkBlock_4 (by decide) rfl ?_
  refine a_aload_n (q := 2) dX12_walkBlock_6 rfl rfl ?_
  obtain ⟨v3, e4, hf⟩ := obd hf
  refine o_gfI dX12_walkBlock_7 lk_X12_228 rfl e4 ?_
  refine a_istore (lv1 := [(6, .int v3), (5, .int v1), (0, .ref a0), (1, .ref a1), (2, .ref a2), (3, .int a3), (4, .int a4)]) dX12_walkBlock_10 (by decide) rfl ?_
  refine a_aload_n (q := 2) dX12_walkBlock_12 rfl rfl ?_
  obtain ⟨v5, e6, hf⟩ := obd hf
  refine o_gfI dX12_walkBlock_13 lk_X12_68 rfl e6 ?_
  refine a_istore (lv1 := [(7, .int v5), (6, .int v3), (5, .int v1), (0, .ref a0), (1, .ref a1), (2, .ref a2), (3, .int a3), (4, .int a4)]) dX12_walkBlock_16 (by decide) rfl ?_
  refine a_aload_n (q := 5) dX12_walkBlock_18 rfl rfl ?_
  obtain ⟨v7, e8, hf⟩ := obd hf
  refine o_gfI dX12_walkBlock_19 lk_X12_145 rfl e8 ?_
  refine a_iconst (v := 4) dX12_walkBlock_22 (by decide) ?_
  obtain ⟨k35, ek35, hf⟩ := jn_s hf
  have hj35 : ∀ (s35_0 : Int32) (h35j : hp), k35 s35_0 h35j = some hz → AW E yX12_walkBlock cX12_walkBlock (Option.none : Option Jvm.ClassFile.FieldType) 12 D none h hz 35 [(0, .ref a0), (1, .ref a1), (2, .ref a2), (3, .int a3), (4, .int a4), (5, .int v1), (6, .int v3), (7, .int v5)] [.int s35_0] h35j := by
    intro s35_0 h35j hf
    rw [ek35] at hf
    clear ek35
    refine a_istore (lv1 := [(8, .int s35_0), (0, .ref a0), (1, .ref a1), (2, .ref a2), (3, .int a3), (4, .int a4), (5, .int v1), (6, .int v3), (7, .int v5)]) dX12_walkBlock_35 (by decide) rfl ?_
    refine a_null dX12_walkBlock_37 ?_
    refine a_astore (lv1 := [(9, .ref 0), (8, .int s35_0), (0, .ref a0), (1, .ref a1), (2, .ref a2), (3, .int a3), (4, .int a4), (5, .int v1), (6, .int v3), (7, .int v5)]) dX12_walkBlock_38 (by decide) rfl ?_
    refine a_iload_n (q := 5) dX12_walkBlock_40 rfl rfl ?_
    refine a_istore (lv1 := [(10, .int a3), (9, .ref 0), (8, .int s35_0), (0, .ref a0), (1, .ref a1), (2, .ref a2), (3, .int a3), (4, .int a4), (5, .int v1), (6, .int v3), (7, .int v5)]) dX12_walkBlock_41 (by decide) rfl ?_
    obtain ⟨v11, h10, e9, hf⟩ := ob2 hf
    refine AW.sub [3, 4, 5, 7, 8, 9, 10, 2, 1, 0] rfl (sX12_walkBlock_l43 E D hD hg _ _ _ _ _ _ _ _ _ _ _ _ _ _ e9 ?_)
    refine a_aload (q := 8) dX12_walkBlock_107 rfl ?_
    refine a_ifnonnull (tgt := 123) dX12_walkBlock_109 (by decide) (fun c => ?_) (fun c => ?_)
    · have hf := ifn c hf
      refine a_aload_n (q := 1) dX12_walkBlock_123 rfl rfl ?_
      refine a_iload (q := 7) dX12_walkBlock_124 rfl ?_
      obtain ⟨h12, e13, hf⟩ := obd hf
      refine o_pfI dX12_walkBlock_126 lk_X12_228 (⟨_, rfl, Or.inl rfl⟩) rfl e13 ?_
      refine a_aload_n (q := 0) dX12_walkBlock_129 rfl rfl ?_
      refine a_aload (q := 8) dX12_walkBlock_130 rfl ?_
      obtain ⟨v14, e15, hf⟩ := obd hf
      refine o_gfR dX12_walkBlock_132 lk_X12_183 rfl e15 ?_
      refine a_iload (q := 3) dX12_walkBlock_135 rfl ?_
      refine a_iconst (v := 1) dX12_walkBlock_137 (by decide) ?_
      refine a_iadd dX12_walkBlock_138 ?_
      obtain ⟨_, e18, hf⟩ := obd hf
      obtain ⟨h17, e16, hf⟩ := obd hf
      refine a_callV (as := [.ref v14, .int (a4 + 1)]) (np := 2) (ci := 11) (st := []) ((hg.2.1) _ _ _ _ _ e16) dX12_walkBlock_139 rfl (by omega) (by decide) cw_X12_109 ⟨wd_800, ws_31⟩ rfl (ckT_s e18) rfl (Nat.le_of_ble_eq_true rfl) ?_
      refine a_aload_n (q := 1) dX12_walkBlock_142 rfl rfl ?_
      refine a_iload (q := 4) dX12_walkBlock_143 rfl ?_
      obtain ⟨h19, e20, hf⟩ := obd hf
      refine o_pfI dX12_walkBlock_145 lk_X12_113 (⟨_, rfl, Or.inl rfl⟩) rfl e20 ?_
      refine a_aload_n (q := 1) dX12_walkBlock_148 rfl rfl ?_
      refine a_iload (q := 5) dX12_walkBlock_149 rfl ?_
      obtain ⟨h21, e22, hf⟩ := obd hf
      refine o_pfI dX12_walkBlock_151 lk_X12_228 (⟨_, rfl, Or.inl rfl⟩) rfl e22 ?_
      refine a_aload_n (q := 0) dX12_walkBlock_154 rfl rfl ?_
      obtain ⟨v23, e24, hf⟩ := obd hf
      refine o_gfI dX12_walkBlock_155 lk_X12_68 rfl e24 ?_
      refine a_iload (q := 6) dX12_walkBlock_158 rfl ?_
      refine a_icmp_eq (tgt := 172) dX12_walkBlock_160 (by decide) (fun c => ?_) (fun c => ?_)
      · have hf := ifp c hf
        obtain rfl := Option.some.inj hf
        exact a_return dX12_walkBlock_172 rfl
      · have hf := ifn c hf
        refine a_aload_n (q := 0) dX12_walkBlock_163 rfl rfl ?_
        refine a_aload_n (q := 2) dX12_walkBlock_164 rfl rfl ?_
        obtain ⟨v25, e26, hf⟩ := obd hf
        refine o_gfI dX12_walkBlock_165 lk_X12_151 rfl e26 ?_
        refine a_iconst (v := 3) dX12_walkBlock_168 (by decide) ?_
        obtain ⟨_, e29, hf⟩ := obd hf
        obtain ⟨h28, e27, hf⟩ := obd hf
        refine a_callV (as := [.int v25, .int 3]) (np := 2) (ci := 11) (st := []) (sX12_fail E (D - 1) (by omega) e27) dX12_walkBlock_169 rfl (by omega) (by decide) cw_X12_95 ⟨wd_770, ws_29⟩ rfl (ckT_s e29) rfl (Nat.le_of_ble_eq_true rfl) ?_
        obtain rfl := Option.some.inj hf
        exact a_return dX12_walkBlock_172 rfl
    · have hf := ifp c hf
      refine a_aload_n (q := 0) dX12_walkBlock_112 rfl rfl ?_
      refine a_aload_n (q := 2) dX12_walkBlock_113 rfl rfl ?_
      obtain ⟨v30, e31, hf⟩ := obd hf
      refine o_gfI dX12_walkBlock_114 lk_X12_151 rfl e31 ?_
      refine a_bipush (v := 8) dX12_walkBlock_117 (by decide) ?_
      obtain ⟨_, e34, hf⟩ := obd hf
      obtain ⟨h33, e32, hf⟩ := obd hf
      refine a_callV (as := [.int v30, .int 8]) (np := 2) (ci := 11) (st := []) (sX12_fail E (D - 1) (by omega) e32) dX12_walkBlock_119 rfl (by omega) (by decide) cw_X12_95 ⟨wd_770, ws_29⟩ rfl (ckT_s e34) rfl (Nat.le_of_ble_eq_true rfl) ?_
      obtain rfl := Option.some.inj hf
      exact a_return dX12_walkBlock_122 rfl
  clear ek35
  refine a_icmp_ne (tgt := 33) dX12_walkBlock_23 (by decide) (fun c => ?_) (fun c => ?_)
  · have hf := ifn c hf
    refine a_iload (q := 1) dX12_walkBlock_33 rfl ?_
    exact AW.sub [3, 4, 5, 6, 7, 2, 1, 0] rfl (hj35 _ _ hf)
  · have hf := ifp c hf
    refine a_aload_n (q := 5) dX12_walkBlock_26 rfl rfl ?_
    obtain ⟨v35, e36, hf⟩ := obd hf
    refine o_gfI dX12_walkBlock_27 lk_X12_148 rfl e36 ?_
    refine a_goto (tgt := 35) dX12_walkBlock_30 (by decide) ?_
    exact AW.sub [3, 4, 5, 6, 7, 2, 1, 0] rfl (hj35 _ _ hf)
def G1 : Nat → gG1
  | 0 => ((fun _ _ _ _ => none), (fun _ _ _ _ => none), (fun _ _ _ _ => none), (fun _ _ _ _ => none), (fun _ _ _ _ => none), (fun _ _ _ _ => none), (fun _ _ _ _ => none), (fun _ _ _ _ => none), (fun _ _ _ _ _ _ => none))
  | n + 1 => (fX12_walkTemplate_b (G1 n), fX12_walkAll_b (G1 n), fX12_walkOne_b (G1 n), fX12_lookIntoBranch_b (G1 n), fX12_lookIntoLoop_b (G1 n), fX12_walkBranch_b (G1 n), fX12_walkLoop_b (G1 n), fX12_walkElsewhere_b (G1 n), fX12_walkBlock_b (G1 n))
theorem G1_ok (E : gE) : ∀ (n D : Nat), n + 7 ≤ D → gG1_ok E D (G1 n) := by
  intro n
  induction n with
  | zero =>
    intro D hD
    exact ⟨(fun _ _ _ _ _ hf => by cases hf), (fun _ _ _ _ _ hf => by cases hf), (fun _ _ _ _ _ hf => by cases hf), (fun _ _ _ _ _ hf => by cases hf), (fun _ _ _ _ _ hf => by cases hf), (fun _ _ _ _ _ hf => by cases hf), (fun _ _ _ _ _ hf => by cases hf), (fun _ _ _ _ _ hf => by cases hf), (fun _ _ _ _ _ _ _ hf => by cases hf)⟩
  | succ n ih =>
    intro D hD
    have hg := ih (D - 1) (by omega)
    exact ⟨(fun _ _ _ _ _ hf => sX12_walkTemplate_b E D (by omega) hg hf), (fun _ _ _ _ _ hf => sX12_walkAll_b E D (by omega) hg hf), (fun _ _ _ _ _ hf => sX12_walkOne_b E D (by omega) hg hf), (fun _ _ _ _ _ hf => sX12_lookIntoBranch_b E D (by omega) hg hf), (fun _ _ _ _ _ hf => sX12_lookIntoLoop_b E D (by omega) hg hf), (fun _ _ _ _ _ hf => sX12_walkBranch_b E D (by omega) hg hf), (fun _ _ _ _ _ hf => sX12_walkLoop_b E D (by omega) hg hf), (fun _ _ _ _ _ hf => sX12_walkElsewhere_b E D (by omega) hg hf), (fun _ _ _ _ _ _ _ hf => sX12_walkBlock_b E D (by omega) hg hf)⟩
def fX12_walkTemplate (a0 : Nat) (a1 : Int32) (a2 : Int32) (h : hp) : Option hp := (G1 400).1 a0 a1 a2 h
theorem sX12_walkTemplate (E : gE) (D : Nat) (hD : 407 ≤ D) {a0 : Nat} {a1 : Int32} {a2 : Int32} {h hz : hp} (hf : fX12_walkTemplate a0 a1 a2 h = some hz) : MC E yX12_walkTemplate cX12_walkTemplate (Option.none : Option Jvm.ClassFile.FieldType) 6 D [.ref a0, .int a1, .int a2] h none hz :=
  (G1_ok E 400 D (by omega)).1 _ _ _ _ _ hf
def fX12_walkAll (a0 : Nat) (a1 : Nat) (a2 : Int32) (h : hp) : Option hp := (G1 400).2.1 a0 a1 a2 h
theorem sX12_walkAll (E : gE) (D : Nat) (hD : 407 ≤ D) {a0 : Nat} {a1 : Nat} {a2 : Int32} {h hz : hp} (hf : fX12_walkAll a0 a1 a2 h = some hz) : MC E yX12_walkAll cX12_walkAll (Option.none : Option Jvm.ClassFile.FieldType) 5 D [.ref a0, .ref a1, .int a2] h none hz :=
  (G1_ok E 400 D (by omega)).2.1 _ _ _ _ _ hf
def fX12_walkOne (a0 : Nat) (a1 : Nat) (a2 : Int32) (h : hp) : Option hp := (G1 400).2.2.1 a0 a1 a2 h
theorem sX12_walkOne (E : gE) (D : Nat) (hD : 407 ≤ D) {a0 : Nat} {a1 : Nat} {a2 : Int32} {h hz : hp} (hf : fX12_walkOne a0 a1 a2 h = some hz) : MC E yX12_walkOne cX12_walkOne (Option.none : Option Jvm.ClassFile.FieldType) 3 D [.ref a0, .ref a1, .int a2] h none hz :=
  (G1_ok E 400 D (by omega)).2.2.1 _ _ _ _ _ hf
def fX12_lookIntoBranch (a0 : Nat) (a1 : Nat) (a2 : Int32) (h : hp) : Option hp := (G1 400).2.2.2.1 a0 a1 a2 h
theorem sX12_lookIntoBranch (E : gE) (D : Nat) (hD : 407 ≤ D) {a0 : Nat} {a1 : Nat} {a2 : Int32} {h hz : hp} (hf : fX12_lookIntoBranch a0 a1 a2 h = some hz) : MC E yX12_lookIntoBranch cX12_lookIntoBranch (Option.none : Option Jvm.ClassFile.FieldType) 5 D [.ref a0, .ref a1, .int a2] h none hz :=
  (G1_ok E 400 D (by omega)).2.2.2.1 _ _ _ _ _ hf
def fX12_lookIntoLoop (a0 : Nat) (a1 : Nat) (a2 : Int32) (h : hp) : Option hp := (G1 400).2.2.2.2.1 a0 a1 a2 h
theorem sX12_lookIntoLoop (E : gE) (D : Nat) (hD : 407 ≤ D) {a0 : Nat} {a1 : Nat} {a2 : Int32} {h hz : hp} (hf : fX12_lookIntoLoop a0 a1 a2 h = some hz) : MC E yX12_lookIntoLoop cX12_lookIntoLoop (Option.none : Option Jvm.ClassFile.FieldType) 4 D [.ref a0, .ref a1, .int a2] h none hz :=
  (G1_ok E 400 D (by omega)).2.2.2.2.1 _ _ _ _ _ hf
def fX12_walkBranch (a0 : Nat) (a1 : Nat) (a2 : Int32) (h : hp) : Option hp := (G1 400).2.2.2.2.2.1 a0 a1 a2 h
theorem sX12_walkBranch (E : gE) (D : Nat) (hD : 407 ≤ D) {a0 : Nat} {a1 : Nat} {a2 : Int32} {h hz : hp} (hf : fX12_walkBranch a0 a1 a2 h = some hz) : MC E yX12_walkBranch cX12_walkBranch (Option.none : Option Jvm.ClassFile.FieldType) 4 D [.ref a0, .ref a1, .int a2] h none hz :=
  (G1_ok E 400 D (by omega)).2.2.2.2.2.1 _ _ _ _ _ hf
def fX12_walkLoop (a0 : Nat) (a1 : Nat) (a2 : Int32) (h : hp) : Option hp := (G1 400).2.2.2.2.2.2.1 a0 a1 a2 h
theorem sX12_walkLoop (E : gE) (D : Nat) (hD : 407 ≤ D) {a0 : Nat} {a1 : Nat} {a2 : Int32} {h hz : hp} (hf : fX12_walkLoop a0 a1 a2 h = some hz) : MC E yX12_walkLoop cX12_walkLoop (Option.none : Option Jvm.ClassFile.FieldType) 7 D [.ref a0, .ref a1, .int a2] h none hz :=
  (G1_ok E 400 D (by omega)).2.2.2.2.2.2.1 _ _ _ _ _ hf
def fX12_walkElsewhere (a0 : Nat) (a1 : Nat) (a2 : Int32) (h : hp) : Option hp := (G1 400).2.2.2.2.2.2.2.1 a0 a1 a2 h
theorem sX12_walkElsewhere (E : gE) (D : Nat) (hD : 407 ≤ D) {a0 : Nat} {a1 : Nat} {a2 : Int32} {h hz : hp} (hf : fX12_walkElsewhere a0 a1 a2 h = some hz) : MC E yX12_walkElsewhere cX12_walkElsewhere (Option.none : Option Jvm.ClassFile.FieldType) 4 D [.ref a0, .ref a1, .int a2] h none hz :=
  (G1_ok E 400 D (by omega)).2.2.2.2.2.2.2.1 _ _ _ _ _ hf
def fX12_walkBlock (a0 : Nat) (a1 : Nat) (a2 : Nat) (a3 : Int32) (a4 : Int32) (h : hp) : Option hp := (G1 400).2.2.2.2.2.2.2.2 a0 a1 a2 a3 a4 h
theorem sX12_walkBlock (E : gE) (D : Nat) (hD : 407 ≤ D) {a0 : Nat} {a1 : Nat} {a2 : Nat} {a3 : Int32} {a4 : Int32} {h hz : hp} (hf : fX12_walkBlock a0 a1 a2 a3 a4 h = some hz) : MC E yX12_walkBlock cX12_walkBlock (Option.none : Option Jvm.ClassFile.FieldType) 12 D [.ref a0, .ref a1, .ref a2, .int a3, .int a4] h none hz :=
  (G1_ok E 400 D (by omega)).2.2.2.2.2.2.2.2 _ _ _ _ _ _ _ hf
