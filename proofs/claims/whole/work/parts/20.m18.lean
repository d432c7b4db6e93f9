abbrev gG3 : Type := (Nat → Int32 → Int32 → Int32 → Int32 → Int32 → hp → Option (Int32 × hp)) × (Nat → Int32 → Int32 → Int32 → Int32 → Int32 → hp → Option hp) × (Nat → Int32 → Int32 → Int32 → Int32 → Int32 → hp → Option (Int32 × hp)) × (Nat → Int32 → Int32 → Int32 → Int32 → Int32 → hp → Option (Int32 × hp)) × (Nat → Int32 → Int32 → Int32 → Int32 → Int32 → hp → Option (Int32 × hp)) × (Nat → Int32 → Int32 → Int32 → Int32 → Int32 → Int32 → hp → Option hp) × (Nat → Int32 → Int32 → Int32 → Int32 → Int32 → Int32 → hp → Option (Int32 × hp)) × (Nat → Int32 → Int32 → Int32 → hp → Option (Int32 × hp)) × (Nat → Int32 → Int32 → hp → Option hp)
def gG3_ok (E : gE) (D : Nat) (g : gG3) : Prop :=
  (∀ (a0 : Nat) (a1 : Int32) (a2 : Int32) (a3 : Int32) (a4 : Int32) (a5 : Int32) (h : hp) (v0 : Int32) (hz : hp), g.1 a0 a1 a2 a3 a4 a5 h = some (v0, hz) → MC E yX14_run cX14_run (Option.some Jvm.ClassFile.FieldType.int) 10 D [.ref a0, .int a1, .int a2, .int a3, .int a4, .int a5] h (some (.int v0)) hz) ∧
  (∀ (a0 : Nat) (a1 : Int32) (a2 : Int32) (a3 : Int32) (a4 : Int32) (a5 : Int32) (h : hp) (hz : hp), g.2.1 a0 a1 a2 a3 a4 a5 h = some hz → MC E yX14_runs cX14_runs (Option.none : Option Jvm.ClassFile.FieldType) 6 D [.ref a0, .int a1, .int a2, .int a3, .int a4, .int a5] h none hz) ∧
  (∀ (a0 : Nat) (a1 : Int32) (a2 : Int32) (a3 : Int32) (a4 : Int32) (a5 : Int32) (h : hp) (v0 : Int32) (hz : hp), g.2.2.1 a0 a1 a2 a3 a4 a5 h = some (v0, hz) → MC E yX14_piece cX14_piece (Option.some Jvm.ClassFile.FieldType.int) 8 D [.ref a0, .int a1, .int a2, .int a3, .int a4, .int a5] h (some (.int v0)) hz) ∧
  (∀ (a0 : Nat) (a1 : Int32) (a2 : Int32) (a3 : Int32) (a4 : Int32) (a5 : Int32) (h : hp) (v0 : Int32) (hz : hp), g.2.2.2.1 a0 a1 a2 a3 a4 a5 h = some (v0, hz) → MC E yX14_branches cX14_branches (Option.some Jvm.ClassFile.FieldType.int) 15 D [.ref a0, .int a1, .int a2, .int a3, .int a4, .int a5] h (some (.int v0)) hz) ∧
  (∀ (a0 : Nat) (a1 : Int32) (a2 : Int32) (a3 : Int32) (a4 : Int32) (a5 : Int32) (h : hp) (v0 : Int32) (hz : hp), g.2.2.2.2.1 a0 a1 a2 a3 a4 a5 h = some (v0, hz) → MC E yX14_loop cX14_loop (Option.some Jvm.ClassFile.FieldType.int) 16 D [.ref a0, .int a1, .int a2, .int a3, .int a4, .int a5] h (some (.int v0)) hz) ∧
  (∀ (a0 : Nat) (a1 : Int32) (a2 : Int32) (a3 : Int32) (a4 : Int32) (a5 : Int32) (a6 : Int32) (h : hp) (hz : hp), g.2.2.2.2.2.1 a0 a1 a2 a3 a4 a5 a6 h = some hz → MC E yX14_turns cX14_turns (Option.none : Option Jvm.ClassFile.FieldType) 9 D [.ref a0, .int a1, .int a2, .int a3, .int a4, .int a5, .int a6] h none hz) ∧
  (∀ (a0 : Nat) (a1 : Int32) (a2 : Int32) (a3 : Int32) (a4 : Int32) (a5 : Int32) (a6 : Int32) (h : hp) (v0 : Int32) (hz : hp), g.2.2.2.2.2.2.1 a0 a1 a2 a3 a4 a5 a6 h = some (v0, hz) → MC E yX14_block cX14_block (Option.some Jvm.ClassFile.FieldType.int) 10 D [.ref a0, .int a1, .int a2, .int a3, .int a4, .int a5, .int a6] h (some (.int v0)) hz) ∧
  (∀ (a0 : Nat) (a1 : Int32) (a2 : Int32) (a3 : Int32) (h : hp) (v0 : Int32) (hz : hp), g.2.2.2.2.2.2.2.1 a0 a1 a2 a3 h = some (v0, hz) → MC E yX14_part cX14_part (Option.some Jvm.ClassFile.FieldType.int) 6 D [.ref a0, .int a1, .int a2, .int a3] h (some (.int v0)) hz) ∧
  (∀ (a0 : Nat) (a1 : Int32) (a2 : Int32) (h : hp) (hz : hp), g.2.2.2.2.2.2.2.2 a0 a1 a2 h = some hz → MC E yX14_prints cX14_prints (Option.none : Option Jvm.ClassFile.FieldType) 4 D [.ref a0, .int a1, .int a2] h none hz)
def fX14_run_l16 (g : gG3) : Nat → Nat → Int32 → Int32 → Int32 → Int32 → Int32 → Int32 → hp → Option (Nat × Int32 × hp)
  | 0, _, _, _, _, _, _, _, _ => none
  | n + 1, x0, x1, x2, x4, x5, x6, x7, h =>
    (gfI h x0 13 43).bind fun v1 =>
    if v1 = 0 then (
      (gfR h x0 13 9).bind fun v3 =>
      (alI h v3 x6).bind fun v5 =>
      if v5 ≤ x7 then (
        some (1, x7, h)
      ) else (
        (ckT h x0 13).bind fun _ =>
        bd2 (fX14_byteAt x0 x6 x7 h) fun v8 h9 =>
        if v8 = 123 then (
          (ckT h9 x0 13).bind fun _ =>
          bd2 (fX14_byteAt x0 x6 (x7 + 1) h9) fun v28 h29 =>
          if v28 = 47 then (
            some (0, x7, h29)
          ) else (
            if v28 = 58 then (
              some (0, x7, h29)
            ) else (
              (ckT h29 x0 13).bind fun _ =>
              bd2 (g.2.2.1 x0 x1 x2 x7 x4 x5 h29) fun v32 h33 =>
              fX14_run_l16 g n x0 x1 x2 x4 x5 x6 v32 h33
            )
          )
        ) else (
          (gfI h9 x0 13 42).bind fun v11 =>
          jn (fun (h129j : hp) => (
            (ckT h129j x0 13).bind fun _ =>
            (fX14_goesOnBy x0 v8 h129j).bind fun h14 =>
            fX14_run_l16 g n x0 x1 x2 x4 x5 x6 (x7 + 1) h14
            : Option (Nat × Int32 × hp))) fun k129 =>
          if v11 = 0 then (
            (ckT h9 x0 13).bind fun _ =>
            bd2 (fX14_puts x0 v8 h9) fun v17 h18 =>
            if v17 = 0 then (
              (ckT h18 x0 13).bind fun _ =>
              bd2 (fX14_lineAt x0 x6 x7 h18) fun v21 h22 =>
              (ckT h22 x0 13).bind fun _ =>
              (fX14_faults x0 x1 x2 v21 5 h22).bind fun h25 =>
              k129 h25
            ) else (
              k129 h18
            )
          ) else (
            k129 h9
          )
        )
      )
    ) else (
      some (1, x7, h)
    )
def fX14_run_b (g : gG3) (a0 : Nat) (a1 : Int32) (a2 : Int32) (a3 : Int32) (a4 : Int32) (a5 : Int32) (h : hp) : Option (Int32 × hp) :=
  (gfR h a0 13 31).bind fun v1 =>
  (alI h v1 ((6 * a1) + a2)).bind fun v3 =>
  bd3 (fX14_run_l16 g FU a0 a1 a2 a4 a5 v3 a3 h) fun t8 v7 h6 =>
  if t8 = 0 then (
    some (v7, h6)
  ) else
  if t8 = 1 then (
    some (v7, h6)
  ) else none
def fX14_runs_b (g : gG3) (a0 : Nat) (a1 : Int32) (a2 : Int32) (a3 : Int32) (a4 : Int32) (a5 : Int32) (h : hp) : Option hp :=
  (ckT h a0 13).bind fun _ =>
  (fX14_keeps a0 h).bind fun h2 =>
  (ckT h2 a0 13).bind fun _ =>
  bd2 (g.1 a0 a1 a2 a3 a4 a5 h2) fun v5 h6 =>
  (ckT h6 a0 13).bind fun _ =>
  (fX14_comeBack a0 h6).bind fun h9 =>
  some h9
def fX14_piece_b (g : gG3) (a0 : Nat) (a1 : Int32) (a2 : Int32) (a3 : Int32) (a4 : Int32) (a5 : Int32) (h : hp) : Option (Int32 × hp) :=
  (gfR h a0 13 31).bind fun v1 =>
  (alI h v1 ((6 * a1) + a2)).bind fun v3 =>
  (ckT h a0 13).bind fun _ =>
  bd2 (fX14_byteAt a0 v3 (a3 + 1) h) fun v6 h7 =>
  if v6 = 60 then (
    some ((a3 + 4), h7)
  ) else (
    (gfI h7 a0 13 35).bind fun v9 =>
    if v9 = 300 then (
      (ckT h7 a0 13).bind fun _ =>
      bd2 (fX14_lineAt a0 v3 a3 h7) fun v52 h53 =>
      (ckT h53 a0 13).bind fun _ =>
      (fX14_faults a0 a1 a2 v52 6 h53).bind fun h56 =>
      some (a3, h56)
    ) else (
      (gfI h7 a0 13 35).bind fun v11 =>
      (pfI h7 a0 13 35 (v11 + 1)).bind fun h13 =>
      if v6 = 42 then (
        (ckT h13 a0 13).bind fun _ =>
        bd2 (g.2.2.2.2.1 a0 a1 a2 a3 a4 a5 h13) fun v16 h17 =>
        some (v16, h17)
      ) else (
      if v6 = 61 then (
        (ckT h13 a0 13).bind fun _ =>
        bd2 (fX14_byteAt a0 v3 (a3 + 2) h13) fun v20 h21 =>
        (ckT h21 a0 13).bind fun _ =>
        bd2 (fX14_endOf a0 v3 (a3 + 4) h21) fun v24 h25 =>
        (ckT h25 a0 13).bind fun _ =>
        bd2 (g.2.2.2.2.2.2.1 a0 a1 a2 a3 (v20 - 65) 0 (v24 + 3) h25) fun v28 h29 =>
        some (v28, h29)
      ) else (
      if v6 = 62 then (
        (ckT h13 a0 13).bind fun _ =>
        bd2 (g.2.2.2.2.2.2.2.1 a0 a1 a2 a3 h13) fun v32 h33 =>
        some (v32, h33)
      ) else (
      if v6 = 63 then (
        (ckT h13 a0 13).bind fun _ =>
        bd2 (g.2.2.2.1 a0 a1 a2 a3 a4 a5 h13) fun v36 h37 =>
        some (v36, h37)
      ) else (
      if v6 = 64 then (
        (ckT h13 a0 13).bind fun _ =>
        bd2 (fX14_assigns a0 a1 a2 a3 h13) fun v40 h41 =>
        some (v40, h41)
      ) else (
      if v6 = 94 then (
        (ckT h13 a0 13).bind fun _ =>
        bd2 (g.2.2.2.2.2.2.1 a0 a1 a2 a3 a5 (a4 + 1) (a3 + 3) h13) fun v44 h45 =>
        some (v44, h45)
      ) else (
        (ckT h13 a0 13).bind fun _ =>
        bd2 (fX14_value a0 a1 a2 a3 h13) fun v48 h49 =>
        some (v48, h49)
      ))))))
    )
  )
def fX14_branches_b (g : gG3) (a0 : Nat) (a1 : Int32) (a2 : Int32) (a3 : Int32) (a4 : Int32) (a5 : Int32) (h : hp) : Option (Int32 × hp) :=
  (gfR h a0 13 31).bind fun v1 =>
  (alI h v1 ((6 * a1) + a2)).bind fun v3 =>
  (pfI h a0 13 17 (a3 + 2)).bind fun h5 =>
  (gfI h5 a0 13 42).bind fun v7 =>
  jn (fun (s37_0 : Int32) (h37j : hp) => (
    if s37_0 = 0 then (
      (gfI h37j a0 13 18).bind fun v9 =>
      (ckT h37j a0 13).bind fun _ =>
      bd2 (fX14_closes a0 v3 a3 h37j) fun v12 h13 =>
      (ckT h13 a0 13).bind fun _ =>
      bd2 (fX14_endOf a0 v3 v12 h13) fun v16 h17 =>
      (ckT h17 a0 13).bind fun _ =>
      bd2 (fX14_byteAt a0 v3 (v16 + 1) h17) fun v20 h21 =>
      jn (fun (s106_0 : Int32) (h106j : hp) => (
        jn (fun (s128_0 : Int32) (h128j : hp) => (
          (gfI h128j a0 13 23).bind fun v23 =>
          (gfI h128j a0 13 42).bind fun v25 =>
          jn (fun (h160j : hp) => (
            (gfI h160j a0 13 23).bind fun v27 =>
            (gfI h160j a0 13 42).bind fun v29 =>
            jn (fun (h179j : hp) => (
              jn (fun (h210j : hp) => (
                (gfI h210j a0 13 42).bind fun v31 =>
                jn (fun (h247j : hp) => (
                  some ((s128_0 + 3), h247j)
                  : Option (Int32 × hp))) fun k247 =>
                if v31 = 0 then (
                  k247 h210j
                ) else (
                  (gfI h210j a0 13 43).bind fun v33 =>
                  if v33 = 0 then (
                    (gfI h210j a0 13 23).bind fun v35 =>
                    if v35 = v27 then (
                      k247 h210j
                    ) else (
                      (ckT h210j a0 13).bind fun _ =>
                      bd2 (fX14_lineAt a0 v3 a3 h210j) fun v38 h39 =>
                      (ckT h39 a0 13).bind fun _ =>
                      (fX14_faults a0 a1 a2 v38 3 h39).bind fun h42 =>
                      k247 h42
                    )
                  ) else (
                    k247 h210j
                  )
                )
                : Option (Int32 × hp))) fun k210 =>
              if s106_0 = 0 then (
                k210 h179j
              ) else (
                (gfI h179j a0 13 42).bind fun v44 =>
                jn (fun (h196j : hp) => (
                  (ckT h196j a0 13).bind fun _ =>
                  (g.2.1 a0 a1 a2 (v16 + 3) a4 a5 h196j).bind fun h47 =>
                  k210 h47
                  : Option (Int32 × hp))) fun k196 =>
                if v44 = 0 then (
                  if v9 = 0 then (
                    k196 h179j
                  ) else (
                    k210 h179j
                  )
                ) else (
                  k196 h179j
                )
              )
              : Option (Int32 × hp))) fun k179 =>
            if v29 = 0 then (
              k179 h160j
            ) else (
              (pfI h160j a0 13 23 v23).bind fun h49 =>
              k179 h49
            )
            : Option (Int32 × hp))) fun k160 =>
          jn (fun (h148j : hp) => (
            (ckT h148j a0 13).bind fun _ =>
            (g.2.1 a0 a1 a2 v12 a4 a5 h148j).bind fun h52 =>
            k160 h52
            : Option (Int32 × hp))) fun k148 =>
          if v25 = 0 then (
            if v9 = 0 then (
              k160 h128j
            ) else (
              k148 h128j
            )
          ) else (
            k148 h128j
          )
          : Option (Int32 × hp))) fun k128 =>
        if s106_0 = 0 then (
          k128 v16 h106j
        ) else (
          (ckT h106j a0 13).bind fun _ =>
          bd2 (fX14_endOf a0 v3 (v16 + 3) h106j) fun v55 h56 =>
          k128 v55 h56
        )
        : Option (Int32 × hp))) fun k106 =>
      if v20 = 58 then (
        k106 1 h21
      ) else (
        k106 0 h21
      )
    ) else (
      (ckT h37j a0 13).bind fun _ =>
      bd2 (fX14_lineAt a0 v3 a3 h37j) fun v59 h60 =>
      (ckT h60 a0 13).bind fun _ =>
      (fX14_faults a0 a1 a2 v59 s37_0 h60).bind fun h63 =>
      some (a3, h63)
    )
    : Option (Int32 × hp))) fun k37 =>
  if v7 = 0 then (
    (ckT h5 a0 13).bind fun _ =>
    bd2 (fX14_condition a0 v3 h5) fun v66 h67 =>
    k37 v66 h67
  ) else (
    k37 0 h5
  )
def fX14_loop_b (g : gG3) (a0 : Nat) (a1 : Int32) (a2 : Int32) (a3 : Int32) (a4 : Int32) (a5 : Int32) (h : hp) : Option (Int32 × hp) :=
  (gfR h a0 13 31).bind fun v1 =>
  (alI h v1 ((6 * a1) + a2)).bind fun v3 =>
  (ckT h a0 13).bind fun _ =>
  bd2 (fX14_byteAt a0 v3 (a3 + 2) h) fun v6 h7 =>
  (pfI h7 a0 13 17 (a3 + 4)).bind fun h9 =>
  (gfI h9 a0 13 42).bind fun v11 =>
  jn (fun (s53_0 : Int32) (h53j : hp) => (
    jn (fun (p81_8 : Int32) (h81j : hp) => (
      if p81_8 = 0 then (
        (ckT h81j a0 13).bind fun _ =>
        bd2 (fX14_closes a0 v3 a3 h81j) fun v14 h15 =>
        (ckT h15 a0 13).bind fun _ =>
        bd2 (fX14_endOf a0 v3 v14 h15) fun v18 h19 =>
        (ckT h19 a0 13).bind fun _ =>
        bd2 (fX14_byteAt a0 v3 (v18 + 1) h19) fun v22 h23 =>
        jn (fun (s142_0 : Int32) (h142j : hp) => (
          jn (fun (s164_0 : Int32) (h164j : hp) => (
            (gfI h164j a0 13 23).bind fun v25 =>
            (ckT h164j a0 13).bind fun _ =>
            bd2 (fX14_lineAt a0 v3 a3 h164j) fun v28 h29 =>
            (gfI h29 a0 13 42).bind fun v31 =>
            jn (fun (s203_0 : Int32) (h203j : hp) => (
              (gfI h203j a0 13 42).bind fun v33 =>
              jn (fun (h251j : hp) => (
                jn (fun (h299j : hp) => (
                  some ((s164_0 + 3), h299j)
                  : Option (Int32 × hp))) fun k299 =>
                if s142_0 = 0 then (
                  k299 h251j
                ) else (
                  (gfI h251j a0 13 43).bind fun v35 =>
                  if v35 = 0 then (
                    (gfI h251j a0 13 42).bind fun v37 =>
                    jn (fun (h275j : hp) => (
                      (ckT h275j a0 13).bind fun _ =>
                      (g.2.1 a0 a1 a2 (v18 + 3) a4 a5 h275j).bind fun h40 =>
                      (ckT h40 a0 13).bind fun _ =>
                      (fX14_endsAsAhead a0 a1 a2 v28 v25 h40).bind fun h43 =>
                      k299 h43
                      : Option (Int32 × hp))) fun k275 =>
                    if v37 = 0 then (
                      if s203_0 = 0 then (
                        k299 h251j
                      ) else (
                        k275 h251j
                      )
                    ) else (
                      k275 h251j
                    )
                  ) else (
                    k299 h251j
                  )
                )
                : Option (Int32 × hp))) fun k251 =>
              if v33 = 0 then (
                (ckT h203j a0 13).bind fun _ =>
                (g.2.2.2.2.2.1 a0 a1 a2 v14 a4 a5 (v6 - 97) h203j).bind fun h46 =>
                k251 h46
              ) else (
                (ckT h203j a0 13).bind fun _ =>
                (g.2.1 a0 a1 a2 v14 a4 a5 h203j).bind fun h49 =>
                (ckT h49 a0 13).bind fun _ =>
                (fX14_endsAsAhead a0 a1 a2 v28 v25 h49).bind fun h52 =>
                k251 h52
              )
              : Option (Int32 × hp))) fun k203 =>
            jn (fun (h202j : hp) => (
              k203 0 h202j
              : Option (Int32 × hp))) fun k202 =>
            if v31 = 0 then (
              (gfR h29 a0 13 2).bind fun v54 =>
              (alI h29 v54 8).bind fun v56 =>
              if v56 = 0 then (
                k203 1 h29
              ) else (
                k202 h29
              )
            ) else (
              k202 h29
            )
            : Option (Int32 × hp))) fun k164 =>
          if s142_0 = 0 then (
            k164 v18 h142j
          ) else (
            (ckT h142j a0 13).bind fun _ =>
            bd2 (fX14_endOf a0 v3 (v18 + 3) h142j) fun v59 h60 =>
            k164 v59 h60
          )
          : Option (Int32 × hp))) fun k142 =>
        if v22 = 58 then (
          k142 1 h23
        ) else (
          k142 0 h23
        )
      ) else (
        (ckT h81j a0 13).bind fun _ =>
        bd2 (fX14_lineAt a0 v3 a3 h81j) fun v63 h64 =>
        (ckT h64 a0 13).bind fun _ =>
        (fX14_faults a0 a1 a2 v63 p81_8 h64).bind fun h67 =>
        some (a3, h67)
      )
      : Option (Int32 × hp))) fun k81 =>
    if s53_0 = 0 then (
      (gfI h53j a0 13 42).bind fun v69 =>
      if v69 = 0 then (
        (gfR h53j a0 13 0).bind fun v71 =>
        (alI h53j v71 8).bind fun v73 =>
        if v73 = 4 then (
          k81 s53_0 h53j
        ) else (
          k81 2 h53j
        )
      ) else (
        k81 s53_0 h53j
      )
    ) else (
      k81 s53_0 h53j
    )
    : Option (Int32 × hp))) fun k53 =>
  if v11 = 0 then (
    (ckT h9 a0 13).bind fun _ =>
    bd2 (fX14_worksOut a0 v3 8 h9) fun v76 h77 =>
    k53 v76 h77
  ) else (
    k53 0 h9
  )
def fX14_turns_l12 (g : gG3) : Nat → Nat → Int32 → Int32 → Int32 → Int32 → Int32 → Int32 → Int32 → Int32 → hp → Option hp
  | 0, _, _, _, _, _, _, _, _, _, _ => none
  | n + 1, x0, x1, x2, x3, x4, x5, x6, x7, x8, h =>
    if x7 ≤ x8 then (
      some (h)
    ) else (
      (gfR h x0 13 40).bind fun v1 =>
      (gfI h x0 13 37).bind fun v3 =>
      (gfR h x0 13 3).bind fun v5 =>
      (alI h v5 (128 + x8)).bind fun v7 =>
      (asI h v1 ((6 * v3) + x8) v7).bind fun h9 =>
      fX14_turns_l12 g n x0 x1 x2 x3 x4 x5 x6 x7 (x8 + 1) h9
    )
def fX14_turns_l64 (g : gG3) : Nat → Nat → Int32 → Int32 → Int32 → Int32 → Int32 → Int32 → Int32 → Int32 → hp → Option hp
  | 0, _, _, _, _, _, _, _, _, _, _ => none
  | n + 1, x0, x1, x2, x3, x4, x5, x6, x7, x8, h =>
    if x7 ≤ x8 then (
      some (h)
    ) else (
      (gfI h x0 13 43).bind fun v1 =>
      if v1 = 0 then (
        (ckT h x0 13).bind fun _ =>
        (fX14_keeps x0 h).bind fun h4 =>
        (gfR h4 x0 13 39).bind fun v6 =>
        (gfI h4 x0 13 37).bind fun v8 =>
        (asI h4 v6 (v8 - 1) x8).bind fun h10 =>
        (gfR h10 x0 13 40).bind fun v12 =>
        (gfI h10 x0 13 37).bind fun v14 =>
        (alI h10 v12 ((6 * (v14 - 1)) + x8)).bind fun v16 =>
        (ckT h10 x0 13).bind fun _ =>
        (fX14_isInt x0 x6 v16 h10).bind fun h19 =>
        (ckT h19 x0 13).bind fun _ =>
        bd2 (g.1 x0 x1 x2 x3 x4 x5 h19) fun v22 h23 =>
        (ckT h23 x0 13).bind fun _ =>
        (fX14_comeBack x0 h23).bind fun h26 =>
        fX14_turns_l64 g n x0 x1 x2 x3 x4 x5 x6 x7 (x8 + 1) h26
      ) else (
        some (h)
      )
    )
def fX14_turns_b (g : gG3) (a0 : Nat) (a1 : Int32) (a2 : Int32) (a3 : Int32) (a4 : Int32) (a5 : Int32) (a6 : Int32) (h : hp) : Option hp :=
  (gfR h a0 13 2).bind fun v1 =>
  (alI h v1 8).bind fun v3 =>
  (fX14_turns_l12 g FU a0 a1 a2 a3 a4 a5 a6 v3 0 h).bind fun h6 =>
  (gfI h6 a0 13 37).bind fun v7 =>
  (pfI h6 a0 13 37 (v7 + 1)).bind fun h9 =>
  (fX14_turns_l64 g FU a0 a1 a2 a3 a4 a5 a6 v3 0 h9).bind fun h12 =>
  (gfI h12 a0 13 37).bind fun v13 =>
  (pfI h12 a0 13 37 (v13 - 1)).bind fun h15 =>
  some h15
def fX14_block_b (g : gG3) (a0 : Nat) (a1 : Int32) (a2 : Int32) (a3 : Int32) (a4 : Int32) (a5 : Int32) (a6 : Int32) (h : hp) : Option (Int32 × hp) :=
  (gfR h a0 13 31).bind fun v1 =>
  (alI h v1 ((6 * a1) + a2)).bind fun v3 =>
  (ckT h a0 13).bind fun _ =>
  bd2 (fX14_lineAt a0 v3 a3 h) fun v6 h7 =>
  (ckT h7 a0 13).bind fun _ =>
  bd2 (fX14_blockFrom a0 a1 a5 a4 h7) fun v10 h11 =>
  (gfI h11 a0 13 36).bind fun v13 =>
  jn (fun (h43j : hp) => (
    (gfI h43j a0 13 36).bind fun v15 =>
    jn (fun (s64_0 : Int32) (h64j : hp) => (
      (ckT h64j a0 13).bind fun _ =>
      (fX14_faults a0 a1 a2 v6 s64_0 h64j).bind fun h18 =>
      some (a3, h18)
      : Option (Int32 × hp))) fun k64 =>
    if v15 = 8 then (
      k64 7 h43j
    ) else (
      k64 8 h43j
    )
    : Option (Int32 × hp))) fun k43 =>
  if v13 = 8 then (
    k43 h11
  ) else (
    if 0 ≤ v10 then (
      (gfI h11 a0 13 23).bind fun v20 =>
      (gfI h11 a0 13 36).bind fun v22 =>
      (pfI h11 a0 13 36 (v22 + 1)).bind fun h24 =>
      (gfR h24 a0 13 31).bind fun v26 =>
      (alI h24 v26 ((6 * a1) + v10)).bind fun v28 =>
      (ckT h24 a0 13).bind fun _ =>
      bd2 (fX14_blockAt a0 v28 a4 h24) fun v31 h32 =>
      (ckT h32 a0 13).bind fun _ =>
      (g.2.1 a0 a1 v10 v31 v10 a4 h32).bind fun h35 =>
      (gfI h35 a0 13 36).bind fun v37 =>
      (pfI h35 a0 13 36 (v37 - 1)).bind fun h39 =>
      (ckT h39 a0 13).bind fun _ =>
      (fX14_endsAsAhead a0 a1 a2 v6 v20 h39).bind fun h42 =>
      some (a6, h42)
    ) else (
      k43 h11
    )
  )
def fX14_part_b (g : gG3) (a0 : Nat) (a1 : Int32) (a2 : Int32) (a3 : Int32) (h : hp) : Option (Int32 × hp) :=
  (gfR h a0 13 31).bind fun v1 =>
  (alI h v1 ((6 * a1) + a2)).bind fun v3 =>
  (ckT h a0 13).bind fun _ =>
  bd2 (fX14_lineAt a0 v3 a3 h) fun v6 h7 =>
  (gfI h7 a0 13 36).bind fun v9 =>
  if v9 = 8 then (
    (ckT h7 a0 13).bind fun _ =>
    (fX14_faults a0 a1 a2 v6 7 h7).bind fun h35 =>
    some (a3, h35)
  ) else (
    (gfI h7 a0 13 36).bind fun v11 =>
    (pfI h7 a0 13 36 (v11 + 1)).bind fun h13 =>
    (gfR h13 a0 13 33).bind fun v15 =>
    (asI h13 v15 a1 a2).bind fun h17 =>
    (gfR h17 a0 13 34).bind fun v19 =>
    (asI h17 v19 a1 v6).bind fun h21 =>
    (ckT h21 a0 13).bind fun _ =>
    bd2 (fX14_byteAt a0 v3 (a3 + 2) h21) fun v24 h25 =>
    (ckT h25 a0 13).bind fun _ =>
    (g.2.2.2.2.2.2.2.2 a0 (a1 + 1) (v24 - 48) h25).bind fun h28 =>
    (gfI h28 a0 13 36).bind fun v30 =>
    (pfI h28 a0 13 36 (v30 - 1)).bind fun h32 =>
    some ((a3 + 4), h32)
  )
def fX14_prints_b (g : gG3) (a0 : Nat) (a1 : Int32) (a2 : Int32) (h : hp) : Option hp :=
  (ckT h a0 13).bind fun _ =>
  bd2 (fX14_isChained a0 a1 a2 h) fun v2 h3 =>
  if v2 = 0 then (
    some h3
  ) else (
    (gfI h3 a0 13 23).bind fun v5 =>
    (gfR h3 a0 13 32).bind fun v7 =>
    (alI h3 v7 a1).bind fun v9 =>
    (ckT h3 a0 13).bind fun _ =>
    (g.2.1 a0 a1 (v9 - 1) 0 (-1) (-1) h3).bind fun h12 =>
    (ckT h12 a0 13).bind fun _ =>
    (fX14_endsAsAhead a0 a1 0 0 v5 h12).bind fun h15 =>
    some h15
  )
set_option maxHeartbeats 4000000 in
set_option maxRecDepth 100000 in
theorem sX14_run_l16 (E : gE) (D : Nat) (hD : 8 ≤ D) {g : gG3} (hg : gG3_ok E (D - 1) g) {rz : Option Value} {h0 hz : hp} : ∀ (n : Nat) (x0 : Nat) (x1 : Int32) (x2 : Int32) (x4 : Int32) (x5 : Int32) (x6 : Int32) (x7 : Int32) (h : hp) (tq : Nat) (m7 : Int32) (hq : hp), fX14_run_l16 g n x0 x1 x2 x4 x5 x6 x7 h = some (tq, m7, hq) → (tq = 0 → AW E yX14_run cX14_run (Option.some Jvm.ClassFile.FieldType.int) 10 D rz h0 hz 78 [(7, .int m7)] [] hq) → (tq = 1 → AW E yX14_run cX14_run (Option.some Jvm.ClassFile.FieldType.int) 10 D rz h0 hz 141 [(7, .int m7)] [] hq) → AW E yX14_run cX14_run (Option.some Jvm.ClassFile.FieldType.int) 10 D rz h0 hz 16 [(0, .ref x0), (1, .int x1), (2, .int x2), (4, .int x4), (5, .int x5), (6, .int x6), (7, .int x7)] [] h := by
  intro n
  induction n with
  | zero =>
    intro x0 x1 x2 x4 x5 x6 x7 h tq m7 hq hf _ _
    rw [fX14_run_l16] at hf
    cases hf
  | succ n ih =>
    intro x0 x1 x2 x4 x5 x6 x7 h tq m7 hq hf hk0 hk1
    rw [fX14_run_l16] at hf
    refine a_aload_n (q := 0) dX14_run_16 rfl rfl ?_
    obtain ⟨v1, e2, hf⟩ := obd hf
    refine o_gfI dX14_run_17 lk_X14_409 rfl e2 ?_
    refine a_if_ne (tgt := 141) dX14_run_20 (by decide) (fun c => ?_) (fun c => ?_)
    · have hf := ifn c hf
      obtain ⟨rfl, rfl, rfl⟩ := oc3 hf
      exact AW.sub [6] rfl (hk1 rfl)
    · have hf := ifp c hf
      refine a_iload (q := 6) dX14_run_23 rfl ?_
      refine a_aload_n (q := 0) dX14_run_25 rfl rfl ?_
      obtain ⟨v3, e4, hf⟩ := obd hf
      refine o_gfR dX14_run_26 lk_X14_37 rfl e4 ?_
      refine a_iload (q := 5) dX14_run_29 rfl ?_
      obtain ⟨v5, e6, hf⟩ := obd hf
      refine o_alI dX14_run_31 e6 ?_
      refine a_icmp_ge (tgt := 141) dX14_run_32 (by decide) (fun c => ?_) (fun c => ?_)
      · have hf := ifp c hf
        obtain ⟨rfl, rfl, rfl⟩ := oc3 hf
        exact AW.sub [6] rfl (hk1 rfl)
      · have hf := ifn c hf
        refine a_aload_n (q := 0) dX14_run_35 rfl rfl ?_
        refine a_iload (q := 5) dX14_run_36 rfl ?_
        refine a_iload (q := 6) dX14_run_38 rfl ?_
        obtain ⟨_, e10, hf⟩ := obd hf
        obtain ⟨v8, h9, e7, hf⟩ := ob2 hf
        refine a_callV (as := [.int x6, .int x7]) (np := 2) (ci := 13) (st := []) (sX14_byteAt E (D - 1) (by omega) e7) dX14_run_40 rfl (by omega) (by decide) cw_X14_344 ⟨wd_1487, ws_93⟩ rfl (ckT_s e10) rfl (Nat.le_of_ble_eq_true rfl) ?_
        refine a_istore (lv1 := [(8, .int v8), (0, .ref x0), (1, .int x1), (2, .int x2), (4, .int x4), (5, .int x5), (6, .int x6), (7, .int x7)]) dX14_run_43 (by decide) rfl ?_
        refine a_iload (q := 0) dX14_run_45 rfl ?_
        refine a_bipush (v := 123) dX14_run_47 (by decide) ?_
        refine a_icmp_ne (tgt := 98) dX14_run_49 (by decide) (fun c => ?_) (fun c => ?_)
        · have hf := ifn c hf
          refine a_aload_n (q := 1) dX14_run_98 rfl rfl ?_
          obtain ⟨v11, e12, hf⟩ := obd hf
          refine o_gfI dX14_run_99 lk_X14_423 rfl e12 ?_
          obtain ⟨k129, ek129, hf⟩ := jn_s hf
          have hj129 : ∀ (h129j : hp), k129 h129j = some (tq, m7, hq) → AW E yX14_run cX14_run (Option.some Jvm.ClassFile.FieldType.int) 10 D rz h0 hz 129 [(0, .ref x0), (1, .int x1), (2, .int x2), (4, .int x4), (5, .int x5), (6, .int x6), (7, .int x7), (8, .int v8)] [] h129j := by
            intro h129j hf
            rw [ek129] at hf
            clear ek129
            refine a_aload_n (q := 0) dX14_run_129 rfl rfl ?_
            refine a_iload (q := 7) dX14_run_130 rfl ?_
            obtain ⟨_, e15, hf⟩ := obd hf
            obtain ⟨h14, e13, hf⟩ := obd hf
            refine a_callV (as := [.int v8]) (np := 1) (ci := 13) (st := []) (sX14_goesOnBy E (D - 1) (by omega) e13) dX14_run_132 rfl (by omega) (by decide) cw_X14_426 ⟨wd_1700, ws_136⟩ rfl (ckT_s e15) rfl (Nat.le_of_ble_eq_true rfl) ?_
            refine a_iinc (q := 6) (v := (x7 + 1)) (lv1 := [(7, .int (x7 + 1)), (0, .ref x0), (1, .int x1), (2, .int x2), (4, .int x4), (5, .int x5), (6, .int x6), (8, .int v8)]) dX14_run_135 rfl (by rfl) (by decide) rfl ?_
            refine a_goto (tgt := 16) dX14_run_138 (by decide) ?_
            exact AW.sub [1, 2, 3, 4, 5, 6, 0] rfl (ih _ _ _ _ _ _ _ _ _ _ _ hf hk0 hk1)
          clear ek129
          refine a_if_ne (tgt := 129) dX14_run_102 (by decide) (fun c => ?_) (fun c => ?_)
          · have hf := ifn c hf
            exact AW.sub [1, 2, 3, 4, 5, 6, 7, 0] rfl (hj129 _ hf)
          · have hf := ifp c hf
            refine a_aload_n (q := 1) dX14_run_105 rfl rfl ?_
            refine a_iload (q := 0) dX14_run_106 rfl ?_
            obtain ⟨_, e19, hf⟩ := obd hf
            obtain ⟨v17, h18, e16, hf⟩ := ob2 hf
            refine a_callV (as := [.int v8]) (np := 1) (ci := 13) (st := []) (sX14_puts E (D - 1) (by omega) e16) dX14_run_108 rfl (by omega) (by decide) cw_X14_391 ⟨wd_1688, ws_133⟩ rfl (ckT_s e19) rfl (Nat.le_of_ble_eq_true rfl) ?_
            refine a_if_ne (tgt := 129) dX14_run_111 (by decide) (fun c => ?_) (fun c => ?_)
            · have hf := ifn c hf
              exact AW.sub [1, 2, 3, 4, 5, 6, 7, 0] rfl (hj129 _ hf)
            · have hf := ifp c hf
              refine a_aload_n (q := 1) dX14_run_114 rfl rfl ?_
              refine a_iload_n (q := 2) dX14_run_115 rfl rfl ?_
              refine a_iload_n (q := 3) dX14_run_116 rfl rfl ?_
              refine a_aload_n (q := 1) dX14_run_117 rfl rfl ?_
              refine a_iload (q := 6) dX14_run_118 rfl ?_
              refine a_iload (q := 7) dX14_run_120 rfl ?_
              obtain ⟨_, e23, hf⟩ := obd hf
              obtain ⟨v21, h22, e20, hf⟩ := ob2 hf
              refine a_callV (as := [.int x6, .int x7]) (np := 2) (ci := 13) (st := [.int x2, .int x1, .ref x0]) (sX14_lineAt E (D - 1) (by omega) e20) dX14_run_122 rfl (by omega) (by decide) cw_X14_329 ⟨wd_1427, ws_80⟩ rfl (ckT_s e23) rfl (Nat.le_of_ble_eq_true rfl) ?_
              refine a_iconst (v := 5) dX14_run_125 (by decide) ?_
              obtain ⟨_, e26, hf⟩ := obd hf
              obtain ⟨h25, e24, hf⟩ := obd hf
              refine a_callV (as := [.int x1, .int x2, .int v21, .int 5]) (np := 4) (ci := 13) (st := []) (sX14_faults E (D - 1) (by omega) e24) dX14_run_126 rfl (by omega) (by decide) cw_X14_415 ⟨wd_1463, ws_87⟩ rfl (ckT_s e26) rfl (Nat.le_of_ble_eq_true rfl) ?_
              exact AW.sub [1, 2, 3, 4, 5, 6, 7, 0] rfl (hj129 _ hf)
        · have hf := ifp c hf
          refine a_aload_n (q := 1) dX14_run_52 rfl rfl ?_
          refine a_iload (q := 6) dX14_run_53 rfl ?_
          refine a_iload (q := 7) dX14_run_55 rfl ?_
          refine a_iconst (v := 1) dX14_run_57 (by decide) ?_
          refine a_iadd dX14_run_58 ?_
          obtain ⟨_, e30, hf⟩ := obd hf
          obtain ⟨v28, h29, e27, hf⟩ := ob2 hf
          refine a_callV (as := [.int x6, .int (x7 + 1)]) (np := 2) (ci := 13) (st := []) (sX14_byteAt E (D - 1) (by omega) e27) dX14_run_59 rfl (by omega) (by decide) cw_X14_344 ⟨wd_1487, ws_93⟩ rfl (ckT_s e30) rfl (Nat.le_of_ble_eq_true rfl) ?_
          refine a_istore (lv1 := [(9, .int v28), (8, .int v8), (0, .ref x0), (1, .int x1), (2, .int x2), (4, .int x4), (5, .int x5), (6, .int x6), (7, .int x7)]) dX14_run_62 (by decide) rfl ?_
          refine a_iload (q := 0) dX14_run_64 rfl ?_
          refine a_bipush (v := 47) dX14_run_66 (by decide) ?_
          refine a_icmp_eq (tgt := 78) dX14_run_68 (by decide) (fun c => ?_) (fun c => ?_)
          · have hf := ifp c hf
            obtain ⟨rfl, rfl, rfl⟩ := oc3 hf
            exact AW.sub [8] rfl (hk0 rfl)
          · have hf := ifn c hf
            refine a_iload (q := 0) dX14_run_71 rfl ?_
            refine a_bipush (v := 58) dX14_run_73 (by decide) ?_
            refine a_icmp_ne (tgt := 81) dX14_run_75 (by decide) (fun c => ?_) (fun c => ?_)
            · have hf := ifn c hf
              refine a_aload_n (q := 2) dX14_run_81 rfl rfl ?_
              refine a_iload_n (q := 3) dX14_run_82 rfl rfl ?_
              refine a_iload_n (q := 4) dX14_run_83 rfl rfl ?_
              refine a_iload (q := 8) dX14_run_84 rfl ?_
              refine a_iload (q := 5) dX14_run_86 rfl ?_
              refine a_iload (q := 6) dX14_run_88 rfl ?_
              obtain ⟨_, e34, hf⟩ := obd hf
              obtain ⟨v32, h33, e31, hf⟩ := ob2 hf
              refine a_callV (as := [.int x1, .int x2, .int x7, .int x4, .int x5]) (np := 5) (ci := 13) (st := []) ((hg.2.2.1) _ _ _ _ _ _ _ _ _ e31) dX14_run_90 rfl (by omega) (by decide) cw_X14_419 ⟨wd_1491, ws_94⟩ rfl (ckT_s e34) rfl (Nat.le_of_ble_eq_true rfl) ?_
              refine a_istore (lv1 := [(7, .int v32), (9, .int v28), (8, .int v8), (0, .ref x0), (1, .int x1), (2, .int x2), (4, .int x4), (5, .int x5), (6, .int x6)]) dX14_run_93 (by decide) rfl ?_
              refine a_goto (tgt := 16) dX14_run_95 (by decide) ?_
              exact AW.sub [3, 4, 5, 6, 7, 8, 0] rfl (ih _ _ _ _ _ _ _ _ _ _ _ hf hk0 hk1)
            · have hf := ifp c hf
              obtain ⟨rfl, rfl, rfl⟩ := oc3 hf
              exact AW.sub [8] rfl (hk0 rfl)
set_option maxHeartbeats 4000000 in
set_option maxRecDepth 100000 in
theorem sX14_run_b (E : gE) (D : Nat) (hD : 8 ≤ D) {g : gG3} (hg : gG3_ok E (D - 1) g) {a0 : Nat} {a1 : Int32} {a2 : Int32} {a3 : Int32} {a4 : Int32} {a5 : Int32} {h hz : hp} {v0 : Int32} (hf : fX14_run_b g a0 a1 a2 a3 a4 a5 h = some (v0, hz)) : MC E yX14_run cX14_run (Option.some Jvm.ClassFile.FieldType.int) 10 D [.ref a0, .int a1, .int a2, .int a3, .int a4, .int a5] h (some (.int v0)) hz := by
  refine MC.of (by decide +kernel) (Nat.le_of_ble_eq_true rfl) rfl ?_
  unfold fX14_run_b at hf
  show AW E yX14_run cX14_run (Option.some Jvm.ClassFile.FieldType.int) 10 D (some (.int v0)) h hz 0 [(0, .ref a0), (1, .int a1), (2, .int a2), (3, .int a3), (4, .int a4), (5, .int a5)] [] h
  refine a_aload_n (q := 0) dX14_run_0 rfl rfl ?_
  obtain ⟨v1, e2, hf⟩ := obd hf
  refine o_gfR dX14_run_1 lk_X14_68 rfl e2 ?_
  refine a_bipush (v := 6) dX14_run_4 (by decide) ?_
  refine a_iload_n (q := 1) dX14_run_6 rfl rfl ?_
  refine a_imul dX14_run_7 ?_
  refine a_iload_n (q := 2) dX14_run_8 rfl rfl ?_
  refine a_iadd dX14_run_9 ?_
  obtain ⟨v3, e4, hf⟩ := obd hf
  refine o_alI dX14_run_10 e4 ?_
  refine a_istore (lv1 := [(6, .int v3), (0, .ref a0), (1, .int a1), (2, .int a2), (3, .int a3), (4, .int a4), (5, .int a5)]) dX14_run_11 (by decide) rfl ?_
  refine a_iload_n (q := 4) dX14_run_13 rfl rfl ?_
  refine a_istore (lv1 := [(7, .int a3), (6, .int v3), (0, .ref a0), (1, .int a1), (2, .int a2), (3, .int a3), (4, .int a4), (5, .int a5)]) dX14_run_14 (by decide) rfl ?_
  obtain ⟨t8, v7, h6, e5, hf⟩ := ob3 hf
  refine AW.sub [2, 3, 4, 6, 7, 1, 0] rfl (sX14_run_l16 E D hD hg _ _ _ _ _ _ _ _ _ _ _ _ e5 (fun c => ?_) (fun c => ?_))
  · have hf := ifp c hf
    refine a_iload (q := 0) dX14_run_78 rfl ?_
    obtain ⟨rfl, rfl⟩ := oc2 hf
    exact a_ireturn dX14_run_80 rfl
  · have hf := ifn (by rw [c]; decide) hf
    have hf := ifp c hf
    refine a_iload (q := 0) dX14_run_141 rfl ?_
    obtain ⟨rfl, rfl⟩ := oc2 hf
    exact a_ireturn dX14_run_143 rfl
set_option maxHeartbeats 4000000 in
set_option maxRecDepth 100000 in
theorem sX14_runs_b (E : gE) (D : Nat) (hD : 8 ≤ D) {g : gG3} (hg : gG3_ok E (D - 1) g) {a0 : Nat} {a1 : Int32} {a2 : Int32} {a3 : Int32} {a4 : Int32} {a5 : Int32} {h hz : hp} (hf : fX14_runs_b g a0 a1 a2 a3 a4 a5 h = some hz) : MC E yX14_runs cX14_runs (Option.none : Option Jvm.ClassFile.FieldType) 6 D [.ref a0, .int a1, .int a2, .int a3, .int a4, .int a5] h none hz := by
  refine MC.of (by decide +kernel) (Nat.le_of_ble_eq_true rfl) rfl ?_
  unfold fX14_runs_b at hf
  show AW E yX14_runs cX14_runs (Option.none : Option Jvm.ClassFile.FieldType) 6 D none h hz 0 [(0, .ref a0), (1, .int a1), (2, .int a2), (3, .int a3), (4, .int a4), (5, .int a5)] [] h
  refine a_aload_n (q := 0) dX14_runs_0 rfl rfl ?_
  obtain ⟨_, e3, hf⟩ := obd hf
  obtain ⟨h2, e1, hf⟩ := obd hf
  refine a_callV (as := []) (np := 0) (ci := 13) (st := []) (sX14_keeps E (D - 1) (by omega) e1) dX14_runs_1 rfl (by omega) (by decide) cw_X14_429 ⟨wd_1479, ws_91⟩ rfl (ckT_s e3) rfl (Nat.le_of_ble_eq_true rfl) ?_
  refine a_aload_n (q := 0) dX14_runs_4 rfl rfl ?_
  refine a_iload_n (q := 1) dX14_runs_5 rfl rfl ?_
  refine a_iload_n (q := 2) dX14_runs_6 rfl rfl ?_
  refine a_iload_n (q := 3) dX14_runs_7 rfl rfl ?_
  refine a_iload (q := 4) dX14_runs_8 rfl ?_
  refine a_iload (q := 5) dX14_runs_10 rfl ?_
  obtain ⟨_, e7, hf⟩ := obd hf
  obtain ⟨v5, h6, e4, hf⟩ := ob2 hf
  refine a_callV (as := [.int a1, .int a2, .int a3, .int a4, .int a5]) (np := 5) (ci := 13) (st := []) ((hg.1) _ _ _ _ _ _ _ _ _ e4) dX14_runs_12 rfl (by omega) (by decide) cw_X14_432 ⟨wd_1483, ws_92⟩ rfl (ckT_s e7) rfl (Nat.le_of_ble_eq_true rfl) ?_
  refine a_pop dX14_runs_15 rfl ?_
  refine a_aload_n (q := 0) dX14_runs_16 rfl rfl ?_
  obtain ⟨_, e10, hf⟩ := obd hf
  obtain ⟨h9, e8, hf⟩ := obd hf
  refine a_callV (as := []) (np := 0) (ci := 13) (st := []) (sX14_comeBack E (D - 1) (by omega) e8) dX14_runs_17 rfl (by omega) (by decide) cw_X14_435 ⟨wd_1634, ws_121⟩ rfl (ckT_s e10) rfl (Nat.le_of_ble_eq_true rfl) ?_
  obtain rfl := Option.some.inj hf
  exact a_return dX14_runs_20 rfl
set_option maxHeartbeats 4000000 in
set_option maxRecDepth 100000 in
theorem sX14_piece_b (E : gE) (D : Nat) (hD : 8 ≤ D) {g : gG3} (hg : gG3_ok E (D - 1) g) {a0 : Nat} {a1 : Int32} {a2 : Int32} {a3 : Int32} {a4 : Int32} {a5 : Int32} {h hz : hp} {v0 : Int32} (hf : fX14_piece_b g a0 a1 a2 a3 a4 a5 h = some (v0, hz)) : MC E yX14_piece cX14_piece (Option.some Jvm.ClassFile.FieldType.int) 8 D [.ref a0, .int a1, .int a2, .int a3, .int a4, .int a5] h (some (.int v0)) hz := by
  refine MC.of (by decide +kernel) (Nat.le_of_ble_eq_true rfl) rfl ?_
  unfold fX14_piece_b at hf
  show AW E yX14_piece cX14_piece (Option.some Jvm.ClassFile.FieldType.int) 8 D (some (.int v0)) h hz 0 [(0, .ref a0), (1, .int a1), (2, .int a2), (3, .int a3), (4, .int a4), (5, .int a5)] [] h
  refine a_aload_n (q := 0) dX14_piece_0 rfl rfl ?_
  obtain ⟨v1, e2, hf⟩ := obd hf
  refine o_gfR dX14_piece_1 lk_X14_68 rfl e2 ?_
  refine a_bipush (v := 6) dX14_piece_4 (by decide) ?_
  refine a_iload_n (q := 1) dX14_piece_6 rfl rfl ?_
  refine a_imul dX14_piece_7 ?_
  refine a_iload_n (q := 2) dX14_piece_8 rfl rfl ?_
  refine a_iadd dX14_piece_9 ?_
  obtain ⟨v3, e4, hf⟩ := obd hf
  refine o_alI dX14_piece_10 e4 ?_
  refine a_istore (lv1 := [(6, .int v3), (0, .ref a0), (1, .int a1), (2, .int a2), (3, .int a3), (4, .int a4), (5, .int a5)]) dX14_piece_11 (by decide) rfl ?_
  refine a_aload_n (q := 1) dX14_piece_13 rfl rfl ?_
  refine a_iload (q := 0) dX14_piece_14 rfl ?_
  refine a_iload_n (q := 4) dX14_piece_16 rfl rfl ?_
  refine a_iconst (v := 1) dX14_piece_17 (by decide) ?_
  refine a_iadd dX14_piece_18 ?_
  obtain ⟨_, e8, hf⟩ := obd hf
  obtain ⟨v6, h7, e5, hf⟩ := ob2 hf
  refine a_callV (as := [.int v3, .int (a3 + 1)]) (np := 2) (ci := 13) (st := []) (sX14_byteAt E (D - 1) (by omega) e5) dX14_piece_19 rfl (by omega) (by decide) cw_X14_344 ⟨wd_1487, ws_93⟩ rfl (ckT_s e8) rfl (Nat.le_of_ble_eq_true rfl) ?_
  refine a_istore (lv1 := [(7, .int v6), (6, .int v3), (0, .ref a0), (1, .int a1), (2, .int a2), (3, .int a3), (4, .int a4), (5, .int a5)]) dX14_piece_22 (by decide) rfl ?_
  refine a_iload (q := 0) dX14_piece_24 rfl ?_
  refine a_bipush (v := 60) dX14_piece_26 (by decide) ?_
  refine a_icmp_ne (tgt := 35) dX14_piece_28 (by decide) (fun c => ?_) (fun c => ?_)
  · have hf := ifn c hf
    refine a_aload_n (q := 2) dX14_piece_35 rfl rfl ?_
    obtain ⟨v9, e10, hf⟩ := obd hf
    refine o_gfI dX14_piece_36 lk_X14_438 rfl e10 ?_
    refine a_sipush (v := 300) dX14_piece_39 (by decide) ?_
    refine a_icmp_ne (tgt := 62) dX14_piece_42 (by decide) (fun c => ?_) (fun c => ?_)
    · have hf := ifn c hf
      refine a_aload_n (q := 2) dX14_piece_62 rfl rfl ?_
      refine a_dup dX14_piece_63 rfl ?_
      obtain ⟨v11, e12, hf⟩ := obd hf
      refine o_gfI dX14_piece_64 lk_X14_438 rfl e12 ?_
      refine a_iconst (v := 1) dX14_piece_67 (by decide) ?_
      refine a_iadd dX14_piece_68 ?_
      obtain ⟨h13, e14, hf⟩ := obd hf
      refine o_pfI dX14_piece_69 lk_X14_438 (⟨_, rfl, Or.inl rfl⟩) rfl e14 ?_
      refine a_iload (q := 0) dX14_piece_72 rfl ?_
      by_cases c74_0 : v6 = 42
      · have hf := ifp c74_0 hf
        refine a_lookIn (k := 42) (off := 70) (tgt := 144) dX14_piece_74 c74_0 (by decide) rfl (by decide) ?_
        refine a_aload_n (q := 2) dX14_piece_144 rfl rfl ?_
        refine a_iload_n (q := 3) dX14_piece_145 rfl rfl ?_
        refine a_iload_n (q := 4) dX14_piece_146 rfl rfl ?_
        refine a_iload_n (q := 5) dX14_piece_147 rfl rfl ?_
        refine a_iload (q := 6) dX14_piece_148 rfl ?_
        refine a_iload (q := 7) dX14_piece_150 rfl ?_
        obtain ⟨_, e18, hf⟩ := obd hf
        obtain ⟨v16, h17, e15, hf⟩ := ob2 hf
        refine a_callV (as := [.int a1, .int a2, .int a3, .int a4, .int a5]) (np := 5) (ci := 13) (st := []) ((hg.2.2.2.2.1) _ _ _ _ _ _ _ _ _ e15) dX14_piece_152 rfl (by omega) (by decide) cw_X14_444 ⟨wd_1622, ws_118⟩ rfl (ckT_s e18) rfl (Nat.le_of_ble_eq_true rfl) ?_
        obtain ⟨rfl, rfl⟩ := oc2 hf
        exact a_ireturn dX14_piece_155 rfl
      have hf := ifn c74_0 hf
      by_cases c74_1 : v6 = 61
      · have hf := ifp c74_1 hf
        refine a_lookIn (k := 61) (off := 82) (tgt := 156) dX14_piece_74 c74_1 (by decide) rfl (by decide) ?_
        refine a_aload_n (q := 2) dX14_piece_156 rfl rfl ?_
        refine a_iload_n (q := 3) dX14_piece_157 rfl rfl ?_
        refine a_iload_n (q := 4) dX14_piece_158 rfl rfl ?_
        refine a_iload_n (q := 5) dX14_piece_159 rfl rfl ?_
        refine a_aload_n (q := 2) dX14_piece_160 rfl rfl ?_
        refine a_iload (q := 1) dX14_piece_161 rfl ?_
        refine a_iload_n (q := 5) dX14_piece_163 rfl rfl ?_
        refine a_iconst (v := 2) dX14_piece_164 (by decide) ?_
        refine a_iadd dX14_piece_165 ?_
        obtain ⟨_, e22, hf⟩ := obd hf
        obtain ⟨v20, h21, e19, hf⟩ := ob2 hf
        refine a_callV (as := [.int v3, .int (a3 + 2)]) (np := 2) (ci := 13) (st := [.int a3, .int a2, .int a1, .ref a0]) (sX14_byteAt E (D - 1) (by omega) e19) dX14_piece_166 rfl (by omega) (by decide) cw_X14_344 ⟨wd_1487, ws_93⟩ rfl (ckT_s e22) rfl (Nat.le_of_ble_eq_true rfl) ?_
        refine a_bipush (v := 65) dX14_piece_169 (by decide) ?_
        refine a_isub dX14_piece_171 ?_
        refine a_iconst (v := 0) dX14_piece_172 (by decide) ?_
        refine a_aload_n (q := 2) dX14_piece_173 rfl rfl ?_
        refine a_iload (q := 1) dX14_piece_174 rfl ?_
        refine a_iload_n (q := 5) dX14_piece_176 rfl rfl ?_
        refine a_iconst (v := 4) dX14_piece_177 (by decide) ?_
        refine a_iadd dX14_piece_178 ?_
        obtain ⟨_, e26, hf⟩ := obd hf
        obtain ⟨v24, h25, e23, hf⟩ := ob2 hf
        refine a_callV (as := [.int v3, .int (a3 + 4)]) (np := 2) (ci := 13) (st := [.int 0, .int (v20 - 65), .int a3, .int a2, .int a1, .ref a0]) (sX14_endOf E (D - 1) (by omega) e23) dX14_piece_179 rfl (by omega) (by decide) cw_X14_447 ⟨wd_1618, ws_117⟩ rfl (ckT_s e26) rfl (Nat.le_of_ble_eq_true rfl) ?_
        refine a_iconst (v := 3) dX14_piece_182 (by decide) ?_
        refine a_iadd dX14_piece_183 ?_
        obtain ⟨_, e30, hf⟩ := obd hf
        obtain ⟨v28, h29, e27, hf⟩ := ob2 hf
        refine a_callV (as := [.int a1, .int a2, .int a3, .int (v20 - 65), .int 0, .int (v24 + 3)]) (np := 6) (ci := 13) (st := []) ((hg.2.2.2.2.2.2.1) _ _ _ _ _ _ _ _ _ _ e27) dX14_piece_184 rfl (by omega) (by decide) cw_X14_450 ⟨wd_1638, ws_122⟩ rfl (ckT_s e30) rfl (Nat.le_of_ble_eq_true rfl) ?_
        obtain ⟨rfl, rfl⟩ := oc2 hf
        exact a_ireturn dX14_piece_187 rfl
      have hf := ifn c74_1 hf
      by_cases c74_2 : v6 = 62
      · have hf := ifp c74_2 hf
        refine a_lookIn (k := 62) (off := 131) (tgt := 205) dX14_piece_74 c74_2 (by decide) rfl (by decide) ?_
        refine a_aload_n (q := 2) dX14_piece_205 rfl rfl ?_
        refine a_iload_n (q := 3) dX14_piece_206 rfl rfl ?_
        refine a_iload_n (q := 4) dX14_piece_207 rfl rfl ?_
        refine a_iload_n (q := 5) dX14_piece_208 rfl rfl ?_
        obtain ⟨_, e34, hf⟩ := obd hf
        obtain ⟨v32, h33, e31, hf⟩ := ob2 hf
        refine a_callV (as := [.int a1, .int a2, .int a3]) (np := 3) (ci := 13) (st := []) ((hg.2.2.2.2.2.2.2.1) _ _ _ _ _ _ _ e31) dX14_piece_209 rfl (by omega) (by decide) cw_X14_454 ⟨wd_1650, ws_125⟩ rfl (ckT_s e34) rfl (Nat.le_of_ble_eq_true rfl) ?_
        obtain ⟨rfl, rfl⟩ := oc2 hf
        exact a_ireturn dX14_piece_212 rfl
      have hf := ifn c74_2 hf
      by_cases c74_3 : v6 = 63
      · have hf := ifp c74_3 hf
        refine a_lookIn (k := 63) (off := 58) (tgt := 132) dX14_piece_74 c74_3 (by decide) rfl (by decide) ?_
        refine a_aload_n (q := 2) dX14_piece_132 rfl rfl ?_
        refine a_iload_n (q := 3) dX14_piece_133 rfl rfl ?_
        refine a_iload_n (q := 4) dX14_piece_134 rfl rfl ?_
        refine a_iload_n (q := 5) dX14_piece_135 rfl rfl ?_
        refine a_iload (q := 6) dX14_piece_136 rfl ?_
        refine a_iload (q := 7) dX14_piece_138 rfl ?_
        obtain ⟨_, e38, hf⟩ := obd hf
        obtain ⟨v36, h37, e35, hf⟩ := ob2 hf
        refine a_callV (as := [.int a1, .int a2, .int a3, .int a4, .int a5]) (np := 5) (ci := 13) (st := []) ((hg.2.2.2.1) _ _ _ _ _ _ _ _ _ e35) dX14_piece_140 rfl (by omega) (by decide) cw_X14_441 ⟨wd_1495, ws_95⟩ rfl (ckT_s e38) rfl (Nat.le_of_ble_eq_true rfl) ?_
        obtain ⟨rfl, rfl⟩ := oc2 hf
        exact a_ireturn dX14_piece_143 rfl
      have hf := ifn c74_3 hf
      by_cases c74_4 : v6 = 64
      · have hf := ifp c74_4 hf
        refine a_lookIn (k := 64) (off := 139) (tgt := 213) dX14_piece_74 c74_4 (by decide) rfl (by decide) ?_
        refine a_aload_n (q := 2) dX14_piece_213 rfl rfl ?_
        refine a_iload_n (q := 3) dX14_piece_214 rfl rfl ?_
        refine a_iload_n (q := 4) dX14_piece_215 rfl rfl ?_
        refine a_iload_n (q := 5) dX14_piece_216 rfl rfl ?_
        obtain ⟨_, e42, hf⟩ := obd hf
        obtain ⟨v40, h41, e39, hf⟩ := ob2 hf
        refine a_callV (as := [.int a1, .int a2, .int a3]) (np := 3) (ci := 13) (st := []) (sX14_assigns E (D - 1) (by omega) e39) dX14_piece_217 rfl (by omega) (by decide) cw_X14_456 ⟨wd_1654, ws_126⟩ rfl (ckT_s e42) rfl (Nat.le_of_ble_eq_true rfl) ?_
        obtain ⟨rfl, rfl⟩ := oc2 hf
        exact a_ireturn dX14_piece_220 rfl
      have hf := ifn c74_4 hf
      by_cases c74_5 : v6 = 94
      · have hf := ifp c74_5 hf
        refine a_lookIn (k := 94) (off := 114) (tgt := 188) dX14_piece_74 c74_5 (by decide) rfl (by decide) ?_
        refine a_aload_n (q := 2) dX14_piece_188 rfl rfl ?_
        refine a_iload_n (q := 3) dX14_piece_189 rfl rfl ?_
        refine a_iload_n (q := 4) dX14_piece_190 rfl rfl ?_
        refine a_iload_n (q := 5) dX14_piece_191 rfl rfl ?_
        refine a_iload (q := 7) dX14_piece_192 rfl ?_
        refine a_iload (q := 6) dX14_piece_194 rfl ?_
        refine a_iconst (v := 1) dX14_piece_196 (by decide) ?_
        refine a_iadd dX14_piece_197 ?_
        refine a_iload_n (q := 5) dX14_piece_198 rfl rfl ?_
        refine a_iconst (v := 3) dX14_piece_199 (by decide) ?_
        refine a_iadd dX14_piece_200 ?_
        obtain ⟨_, e46, hf⟩ := obd hf
        obtain ⟨v44, h45, e43, hf⟩ := ob2 hf
        refine a_callV (as := [.int a1, .int a2, .int a3, .int a5, .int (a4 + 1), .int (a3 + 3)]) (np := 6) (ci := 13) (st := []) ((hg.2.2.2.2.2.2.1) _ _ _ _ _ _ _ _ _ _ e43) dX14_piece_201 rfl (by omega) (by decide) cw_X14_450 ⟨wd_1638, ws_122⟩ rfl (ckT_s e46) rfl (Nat.le_of_ble_eq_true rfl) ?_
        obtain ⟨rfl, rfl⟩ := oc2 hf
        exact a_ireturn dX14_piece_204 rfl
      have hf := ifn c74_5 hf
      refine a_look (off := 147) (tgt := 221) dX14_piece_74 (by decide) ((lv_osw c74_0 rfl).trans ((lv_osw c74_1 rfl).trans ((lv_osw c74_2 rfl).trans ((lv_osw c74_3 rfl).trans ((lv_osw c74_4 rfl).trans ((lv_osw c74_5 rfl).trans rfl)))))) (by decide) ?_
      refine a_aload_n (q := 2) dX14_piece_221 rfl rfl ?_
      refine a_iload_n (q := 3) dX14_piece_222 rfl rfl ?_
      refine a_iload_n (q := 4) dX14_piece_223 rfl rfl ?_
      refine a_iload_n (q := 5) dX14_piece_224 rfl rfl ?_
      obtain ⟨_, e50, hf⟩ := obd hf
      obtain ⟨v48, h49, e47, hf⟩ := ob2 hf
      refine a_callV (as := [.int a1, .int a2, .int a3]) (np := 3) (ci := 13) (st := []) (sX14_value E (D - 1) (by omega) e47) dX14_piece_225 rfl (by omega) (by decide) cw_X14_459 ⟨wd_1658, ws_127⟩ rfl (ckT_s e50) rfl (Nat.le_of_ble_eq_true rfl) ?_
      obtain ⟨rfl, rfl⟩ := oc2 hf
      exact a_ireturn dX14_piece_228 rfl
    · have hf := ifp c hf
      refine a_aload_n (q := 2) dX14_piece_45 rfl rfl ?_
      refine a_iload_n (q := 3) dX14_piece_46 rfl rfl ?_
      refine a_iload_n (q := 4) dX14_piece_47 rfl rfl ?_
      refine a_aload_n (q := 2) dX14_piece_48 rfl rfl ?_
      refine a_iload (q := 1) dX14_piece_49 rfl ?_
      refine a_iload_n (q := 5) dX14_piece_51 rfl rfl ?_
      obtain ⟨_, e54, hf⟩ := obd hf
      obtain ⟨v52, h53, e51, hf⟩ := ob2 hf
      refine a_callV (as := [.int v3, .int a3]) (np := 2) (ci := 13) (st := [.int a2, .int a1, .ref a0]) (sX14_lineAt E (D - 1) (by omega) e51) dX14_piece_52 rfl (by omega) (by decide) cw_X14_329 ⟨wd_1427, ws_80⟩ rfl (ckT_s e54) rfl (Nat.le_of_ble_eq_true rfl) ?_
      refine a_bipush (v := 6) dX14_piece_55 (by decide) ?_
      obtain ⟨_, e57, hf⟩ := obd hf
      obtain ⟨h56, e55, hf⟩ := obd hf
      refine a_callV (as := [.int a1, .int a2, .int v52, .int 6]) (np := 4) (ci := 13) (st := []) (sX14_faults E (D - 1) (by omega) e55) dX14_piece_57 rfl (by omega) (by decide) cw_X14_415 ⟨wd_1463, ws_87⟩ rfl (ckT_s e57) rfl (Nat.le_of_ble_eq_true rfl) ?_
      refine a_iload_n (q := 5) dX14_piece_60 rfl rfl ?_
      obtain ⟨rfl, rfl⟩ := oc2 hf
      exact a_ireturn dX14_piece_61 rfl
  · have hf := ifp c hf
    refine a_iload_n (q := 5) dX14_piece_31 rfl rfl ?_
    refine a_iconst (v := 4) dX14_piece_32 (by decide) ?_
    refine a_iadd dX14_piece_33 ?_
    obtain ⟨rfl, rfl⟩ := oc2 hf
    exact a_ireturn dX14_piece_34 rfl
set_option maxHeartbeats 4000000 in
set_option maxRecDepth 100000 in
theorem sX14_branches_b (E : gE) (D : Nat) (hD : 8 ≤ D) {g : gG3} (hg : gG3_ok E (D - 1) g) {a0 : Nat} {a1 : Int32} {a2 : Int32} {a3 : Int32} {a4 : Int32} {a5 : Int32} {h hz : hp} {v0 : Int32} (hf : fX14_branches_b g a0 a1 a2 a3 a4 a5 h = some (v0, hz)) : MC E yX14_branches cX14_branches (Option.some Jvm.ClassFile.FieldType.int) 15 D [.ref a0, .int a1, .int a2, .int a3, .int a4, .int a5] h (some (.int v0)) hz := by
  refine MC.of (by decide +kernel) (Nat.le_of_ble_eq_true rfl) rfl ?_
  unfold fX14_branches_b at hf
  show AW E yX14_branches cX14_branches (Option.some Jvm.ClassFile.FieldType.int) 15 D (some (.int v0)) h hz 0 [(0, .ref a0), (1, .int a1), (2, .int a2), (3, .int a3), (4, .int a4), (5, .int a5)] [] h
  refine a_aload_n (q := 0) dX14_branches_0 rfl rfl ?_
  obtain ⟨v1, e2, hf⟩ := obd hf
  refine o_gfR dX14_branches_1 lk_X14_68 rfl e2 ?_
  refine a_bipush (v := 6) dX14_branches_4 (by decide) ?_
  refine a_iload_n (q := 1) dX14_branches_6 rfl rfl ?_
  refine a_imul dX14_branches_7 ?_
  refine a_iload_n (q := 2) dX14_branches_8 rfl rfl ?_
  refine a_iadd dX14_branches_9 ?_
  obtain ⟨v3, e4, hf⟩ := obd hf
  refine o_alI dX14_branches_10 e4 ?_
  refine a_istore (lv1 := [(6, .int v3), (0, .ref a0), (1, .int a1), (2, .int a2), (3, .int a3), (4, .int a4), (5, .int a5)]) dX14_branches_11 (by decide) rfl ?_
  refine a_aload_n (q := 1) dX14_branches_13 rfl rfl ?_
  refine a_iload_n (q := 4) dX14_branches_14 rfl rfl ?_
  refine a_iconst (v := 2) dX14_branches_15 (by decide) ?_
  refine a_iadd dX14_branches_16 ?_
  obtain ⟨h5, e6, hf⟩ := obd hf
  refine o_pfI dX14_branches_17 lk_X14_341 (⟨_, rfl, Or.inl rfl⟩) rfl e6 ?_
  refine a_aload_n (q := 1) dX14_branches_20 rfl rfl ?_
  obtain ⟨v7, e8, hf⟩ := obd hf
  refine o_gfI dX14_branches_21 lk_X14_423 rfl e8 ?_
  obtain ⟨k37, ek37, hf⟩ := jn_s hf
  have hj37 : ∀ (s37_0 : Int32) (h37j : hp), k37 s37_0 h37j = some (v0, hz) → AW E yX14_branches cX14_branches (Option.some Jvm.ClassFile.FieldType.int) 15 D (some (.int v0)) h hz 37 [(0, .ref a0), (1, .int a1), (2, .int a2), (3, .int a3), (4, .int a4), (5, .int a5), (6, .int v3)] [.int s37_0] h37j := by
    intro s37_0 h37j hf
    rw [ek37] at hf
    clear ek37
    refine a_istore (lv1 := [(7, .int s37_0), (0, .ref a0), (1, .int a1), (2, .int a2), (3, .int a3), (4, .int a4), (5, .int a5), (6, .int v3)]) dX14_branches_37 (by decide) rfl ?_
    refine a_iload (q := 0) dX14_branches_39 rfl ?_
    refine a_if_eq (tgt := 61) dX14_branches_41 (by decide) (fun c => ?_) (fun c => ?_)
    · have hf := ifp c hf
      refine a_aload_n (q := 1) dX14_branches_61 rfl rfl ?_
      obtain ⟨v9, e10, hf⟩ := obd hf
      refine o_gfI dX14_branches_62 lk_X14_368 rfl e10 ?_
      refine a_istore (lv1 := [(8, .int v9), (7, .int s37_0), (0, .ref a0), (1, .int a1), (2, .int a2), (3, .int a3), (4, .int a4), (5, .int a5), (6, .int v3)]) dX14_branches_65 (by decide) rfl ?_
      refine a_aload_n (q := 2) dX14_branches_67 rfl rfl ?_
      refine a_iload (q := 8) dX14_branches_68 rfl ?_
      refine a_iload_n (q := 5) dX14_branches_70 rfl rfl ?_
      obtain ⟨_, e14, hf⟩ := obd hf
      obtain ⟨v12, h13, e11, hf⟩ := ob2 hf
      refine a_callV (as := [.int v3, .int a3]) (np := 2) (ci := 13) (st := []) (sX14_closes E (D - 1) (by omega) e11) dX14_branches_71 rfl (by omega) (by decide) cw_X14_465 ⟨wd_1614, ws_116⟩ rfl (ckT_s e14) rfl (Nat.le_of_ble_eq_true rfl) ?_
      refine a_istore (lv1 := [(9, .int v12), (8, .int v9), (7, .int s37_0), (0, .ref a0), (1, .int a1), (2, .int a2), (3, .int a3), (4, .int a4), (5, .int a5), (6, .int v3)]) dX14_branches_74 (by decide) rfl ?_
      refine a_aload_n (q := 3) dX14_branches_76 rfl rfl ?_
      refine a_iload (q := 9) dX14_branches_77 rfl ?_
      refine a_iload (q := 0) dX14_branches_79 rfl ?_
      obtain ⟨_, e18, hf⟩ := obd hf
      obtain ⟨v16, h17, e15, hf⟩ := ob2 hf
      refine a_callV (as := [.int v3, .int v12]) (np := 2) (ci := 13) (st := []) (sX14_endOf E (D - 1) (by omega) e15) dX14_branches_81 rfl (by omega) (by decide) cw_X14_447 ⟨wd_1618, ws_117⟩ rfl (ckT_s e18) rfl (Nat.le_of_ble_eq_true rfl) ?_
      refine a_istore (lv1 := [(10, .int v16), (9, .int v12), (8, .int v9), (7, .int s37_0), (0, .ref a0), (1, .int a1), (2, .int a2), (3, .int a3), (4, .int a4), (5, .int a5), (6, .int v3)]) dX14_branches_84 (by decide) rfl ?_
      refine a_aload_n (q := 4) dX14_branches_86 rfl rfl ?_
      refine a_iload (q := 10) dX14_branches_87 rfl ?_
      refine a_iload (q := 0) dX14_branches_89 rfl ?_
      refine a_iconst (v := 1) dX14_branches_91 (by decide) ?_
      refine a_iadd dX14_branches_92 ?_
      obtain ⟨_, e22, hf⟩ := obd hf
      obtain ⟨v20, h21, e19, hf⟩ := ob2 hf
      refine a_callV (as := [.int v3, .int (v16 + 1)]) (np := 2) (ci := 13) (st := []) (sX14_byteAt E (D - 1) (by omega) e19) dX14_branches_93 rfl (by omega) (by decide) cw_X14_344 ⟨wd_1487, ws_93⟩ rfl (ckT_s e22) rfl (Nat.le_of_ble_eq_true rfl) ?_
      refine a_bipush (v := 58) dX14_branches_96 (by decide) ?_
      obtain ⟨k106, ek106, hf⟩ := jn_s hf
      have hj106 : ∀ (s106_0 : Int32) (h106j : hp), k106 s106_0 h106j = some (v0, hz) → AW E yX14_branches cX14_branches (Option.some Jvm.ClassFile.FieldType.int) 15 D (some (.int v0)) h hz 106 [(0, .ref a0), (1, .int a1), (2, .int a2), (3, .int a3), (4, .int a4), (5, .int a5), (6, .int v3), (8, .int v9), (9, .int v12), (10, .int v16)] [.int s106_0] h106j := by
        intro s106_0 h106j hf
        rw [ek106] at hf
        clear ek106
        refine a_istore (lv1 := [(11, .int s106_0), (0, .ref a0), (1, .int a1), (2, .int a2), (3, .int a3), (4, .int a4), (5, .int a5), (6, .int v3), (8, .int v9), (9, .int v12), (10, .int v16)]) dX14_branches_106 (by decide) rfl ?_
        refine a_iload (q := 0) dX14_branches_108 rfl ?_
        obtain ⟨k128, ek128, hf⟩ := jn_s hf
        have hj128 : ∀ (s128_0 : Int32) (h128j : hp), k128 s128_0 h128j = some (v0, hz) → AW E yX14_branches cX14_branches (Option.some Jvm.ClassFile.FieldType.int) 15 D (some (.int v0)) h hz 128 [(0, .ref a0), (1, .int a1), (2, .int a2), (3, .int a3), (4, .int a4), (5, .int a5), (6, .int v3), (8, .int v9), (9, .int v12), (10, .int v16), (11, .int s106_0)] [.int s128_0] h128j := by
          intro s128_0 h128j hf
          rw [ek128] at hf
          clear ek128
          refine a_istore (lv1 := [(12, .int s128_0), (0, .ref a0), (1, .int a1), (2, .int a2), (3, .int a3), (4, .int a4), (5, .int a5), (6, .int v3), (8, .int v9), (9, .int v12), (10, .int v16), (11, .int s106_0)]) dX14_branches_128 (by decide) rfl ?_
          refine a_aload_n (q := 1) dX14_branches_130 rfl rfl ?_
          obtain ⟨v23, e24, hf⟩ := obd hf
          refine o_gfI dX14_branches_131 lk_X14_384 rfl e24 ?_
          refine a_istore (lv1 := [(13, .int v23), (12, .int s128_0), (0, .ref a0), (1, .int a1), (2, .int a2), (3, .int a3), (4, .int a4), (5, .int a5), (6, .int v3), (8, .int v9), (9, .int v12), (10, .int v16), (11, .int s106_0)]) dX14_branches_134 (by decide) rfl ?_
          refine a_aload_n (q := 2) dX14_branches_136 rfl rfl ?_
          obtain ⟨v25, e26, hf⟩ := obd hf
          refine o_gfI dX14_branches_137 lk_X14_423 rfl e26 ?_
          obtain ⟨k160, ek160, hf⟩ := jn_s hf
          have hj160 : ∀ (h160j : hp), k160 h160j = some (v0, hz) → AW E yX14_branches cX14_branches (Option.some Jvm.ClassFile.FieldType.int) 15 D (some (.int v0)) h hz 160 [(0, .ref a0), (1, .int a1), (2, .int a2), (3, .int a3), (4, .int a4), (5, .int a5), (6, .int v3), (8, .int v9), (10, .int v16), (11, .int s106_0), (12, .int s128_0), (13, .int v23)] [] h160j := by
            intro h160j hf
            rw [ek160] at hf
            clear ek160
            refine a_aload_n (q := 0) dX14_branches_160 rfl rfl ?_
            obtain ⟨v27, e28, hf⟩ := obd hf
            refine o_gfI dX14_branches_161 lk_X14_384 rfl e28 ?_
            refine a_istore (lv1 := [(14, .int v27), (0, .ref a0), (1, .int a1), (2, .int a2), (3, .int a3), (4, .int a4), (5, .int a5), (6, .int v3), (8, .int v9), (10, .int v16), (11, .int s106_0), (12, .int s128_0), (13, .int v23)]) dX14_branches_164 (by decide) rfl ?_
            refine a_aload_n (q := 1) dX14_branches_166 rfl rfl ?_
            obtain ⟨v29, e30, hf⟩ := obd hf
            refine o_gfI dX14_branches_167 lk_X14_423 rfl e30 ?_
            obtain ⟨k179, ek179, hf⟩ := jn_s hf
            have hj179 : ∀ (h179j : hp), k179 h179j = some (v0, hz) → AW E yX14_branches cX14_branches (Option.some Jvm.ClassFile.FieldType.int) 15 D (some (.int v0)) h hz 179 [(0, .ref a0), (1, .int a1), (2, .int a2), (3, .int a3), (4, .int a4), (5, .int a5), (6, .int v3), (8, .int v9), (10, .int v16), (11, .int s106_0), (12, .int s128_0), (14, .int v27)] [] h179j := by
              intro h179j hf
              rw [ek179] at hf
              clear ek179
              refine a_iload (q := 9) dX14_branches_179 rfl ?_
              obtain ⟨k210, ek210, hf⟩ := jn_s hf
              have hj210 : ∀ (h210j : hp), k210 h210j = some (v0, hz) → AW E yX14_branches cX14_branches (Option.some Jvm.ClassFile.FieldType.int) 15 D (some (.int v0)) h hz 210 [(0, .ref a0), (1, .int a1), (2, .int a2), (3, .int a3), (6, .int v3), (12, .int s128_0), (14, .int v27)] [] h210j := by
                intro h210j hf
                rw [ek210] at hf
                clear ek210
                refine a_aload_n (q := 0) dX14_branches_210 rfl rfl ?_
                obtain ⟨v31, e32, hf⟩ := obd hf
                refine o_gfI dX14_branches_211 lk_X14_423 rfl e32 ?_
                obtain ⟨k247, ek247, hf⟩ := jn_s hf
                have hj247 : ∀ (h247j : hp), k247 h247j = some (v0, hz) → AW E yX14_branches cX14_branches (Option.some Jvm.ClassFile.FieldType.int) 15 D (some (.int v0)) h hz 247 [(12, .int s128_0)] [] h247j := by
                  intro h247j hf
                  rw [ek247] at hf
                  clear ek247
                  refine a_iload (q := 0) dX14_branches_247 rfl ?_
                  refine a_iconst (v := 3) dX14_branches_249 (by decide) ?_
                  refine a_iadd dX14_branches_250 ?_
                  obtain ⟨rfl, rfl⟩ := oc2 hf
                  exact a_ireturn dX14_branches_251 rfl
                clear ek247
                refine a_if_eq (tgt := 247) dX14_branches_214 (by decide) (fun c => ?_) (fun c => ?_)
                · have hf := ifp c hf
                  exact AW.sub [5] rfl (hj247 _ hf)
                · have hf := ifn c hf
                  refine a_aload_n (q := 0) dX14_branches_217 rfl rfl ?_
                  obtain ⟨v33, e34, hf⟩ := obd hf
                  refine o_gfI dX14_branches_218 lk_X14_409 rfl e34 ?_
                  refine a_if_ne (tgt := 247) dX14_branches_221 (by decide) (fun c => ?_) (fun c => ?_)
                  · have hf := ifn c hf
                    exact AW.sub [5] rfl (hj247 _ hf)
                  · have hf := ifp c hf
                    refine a_aload_n (q := 0) dX14_branches_224 rfl rfl ?_
                    obtain ⟨v35, e36, hf⟩ := obd hf
                    refine o_gfI dX14_branches_225 lk_X14_384 rfl e36 ?_
                    refine a_iload (q := 6) dX14_branches_228 rfl ?_
                    refine a_icmp_eq (tgt := 247) dX14_branches_230 (by decide) (fun c => ?_) (fun c => ?_)
                    · have hf := ifp c hf
                      exact AW.sub [5] rfl (hj247 _ hf)
                    · have hf := ifn c hf
                      refine a_aload_n (q := 0) dX14_branches_233 rfl rfl ?_
                      refine a_iload_n (q := 1) dX14_branches_234 rfl rfl ?_
                      refine a_iload_n (q := 2) dX14_branches_235 rfl rfl ?_
                      refine a_aload_n (q := 0) dX14_branches_236 rfl rfl ?_
                      refine a_iload (q := 4) dX14_branches_237 rfl ?_
                      refine a_iload_n (q := 3) dX14_branches_239 rfl rfl ?_
                      obtain ⟨_, e40, hf⟩ := obd hf
                      obtain ⟨v38, h39, e37, hf⟩ := ob2 hf
                      refine a_callV (as := [.int v3, .int a3]) (np := 2) (ci := 13) (st := [.int a2, .int a1, .ref a0]) (sX14_lineAt E (D - 1) (by omega) e37) dX14_branches_240 rfl (by omega) (by decide) cw_X14_329 ⟨wd_1427, ws_80⟩ rfl (ckT_s e40) rfl (Nat.le_of_ble_eq_true rfl) ?_
                      refine a_iconst (v := 3) dX14_branches_243 (by decide) ?_
                      obtain ⟨_, e43, hf⟩ := obd hf
                      obtain ⟨h42, e41, hf⟩ := obd hf
                      refine a_callV (as := [.int a1, .int a2, .int v38, .int 3]) (np := 4) (ci := 13) (st := []) (sX14_faults E (D - 1) (by omega) e41) dX14_branches_244 rfl (by omega) (by decide) cw_X14_415 ⟨wd_1463, ws_87⟩ rfl (ckT_s e43) rfl (Nat.le_of_ble_eq_true rfl) ?_
                      exact AW.sub [5] rfl (hj247 _ hf)
              clear ek210
              refine a_if_eq (tgt := 210) dX14_branches_181 (by decide) (fun c => ?_) (fun c => ?_)
              · have hf := ifp c hf
                exact AW.sub [0, 1, 2, 3, 6, 10, 11] rfl (hj210 _ hf)
              · have hf := ifn c hf
                refine a_aload_n (q := 0) dX14_branches_184 rfl rfl ?_
                obtain ⟨v44, e45, hf⟩ := obd hf
                refine o_gfI dX14_branches_185 lk_X14_423 rfl e45 ?_
                obtain ⟨k196, ek196, hf⟩ := jn_s hf
                have hj196 : ∀ (h196j : hp), k196 h196j = some (v0, hz) → AW E yX14_branches cX14_branches (Option.some Jvm.ClassFile.FieldType.int) 15 D (some (.int v0)) h hz 196 [(0, .ref a0), (1, .int a1), (2, .int a2), (3, .int a3), (4, .int a4), (5, .int a5), (6, .int v3), (10, .int v16), (12, .int s128_0), (14, .int v27)] [] h196j := by
                  intro h196j hf
                  rw [ek196] at hf
                  clear ek196
                  refine a_aload_n (q := 0) dX14_branches_196 rfl rfl ?_
                  refine a_iload_n (q := 1) dX14_branches_197 rfl rfl ?_
                  refine a_iload_n (q := 2) dX14_branches_198 rfl rfl ?_
                  refine a_iload (q := 7) dX14_branches_199 rfl ?_
                  refine a_iconst (v := 3) dX14_branches_201 (by decide) ?_
                  refine a_iadd dX14_branches_202 ?_
                  refine a_iload (q := 4) dX14_branches_203 rfl ?_
                  refine a_iload (q := 5) dX14_branches_205 rfl ?_
                  obtain ⟨_, e48, hf⟩ := obd hf
                  obtain ⟨h47, e46, hf⟩ := obd hf
                  refine a_callV (as := [.int a1, .int a2, .int (v16 + 3), .int a4, .int a5]) (np := 5) (ci := 13) (st := []) ((hg.2.1) _ _ _ _ _ _ _ _ e46) dX14_branches_207 rfl (by omega) (by decide) cw_X14_468 ⟨wd_1475, ws_90⟩ rfl (ckT_s e48) rfl (Nat.le_of_ble_eq_true rfl) ?_
                  exact AW.sub [0, 1, 2, 3, 6, 8, 9] rfl (hj210 _ hf)
                clear ek196
                refine a_if_ne (tgt := 196) dX14_branches_188 (by decide) (fun c => ?_) (fun c => ?_)
                · have hf := ifn c hf
                  exact AW.sub [0, 1, 2, 3, 4, 5, 6, 8, 10, 11] rfl (hj196 _ hf)
                · have hf := ifp c hf
                  refine a_iload (q := 7) dX14_branches_191 rfl ?_
                  refine a_if_ne (tgt := 210) dX14_branches_193 (by decide) (fun c => ?_) (fun c => ?_)
                  · have hf := ifn c hf
                    exact AW.sub [0, 1, 2, 3, 6, 10, 11] rfl (hj210 _ hf)
                  · have hf := ifp c hf
                    exact AW.sub [0, 1, 2, 3, 4, 5, 6, 8, 10, 11] rfl (hj196 _ hf)
            clear ek179
            refine a_if_eq (tgt := 179) dX14_branches_170 (by decide) (fun c => ?_) (fun c => ?_)
            · have hf := ifp c hf
              exact AW.sub [1, 2, 3, 4, 5, 6, 7, 8, 9, 10, 11, 0] rfl (hj179 _ hf)
            · have hf := ifn c hf
              refine a_aload_n (q := 1) dX14_branches_173 rfl rfl ?_
              refine a_iload (q := 12) dX14_branches_174 rfl ?_
              obtain ⟨h49, e50, hf⟩ := obd hf
              refine o_pfI dX14_branches_176 lk_X14_384 (⟨_, rfl, Or.inl rfl⟩) rfl e50 ?_
              exact AW.sub [1, 2, 3, 4, 5, 6, 7, 8, 9, 10, 11, 0] rfl (hj179 _ hf)
          clear ek160
          obtain ⟨k148, ek148, hf⟩ := jn_s hf
          have hj148 : ∀ (h148j : hp), k148 h148j = some (v0, hz) → AW E yX14_branches cX14_branches (Option.some Jvm.ClassFile.FieldType.int) 15 D (some (.int v0)) h hz 148 [(0, .ref a0), (1, .int a1), (2, .int a2), (3, .int a3), (4, .int a4), (5, .int a5), (6, .int v3), (8, .int v9), (9, .int v12), (10, .int v16), (11, .int s106_0), (12, .int s128_0), (13, .int v23)] [] h148j := by
            intro h148j hf
            rw [ek148] at hf
            clear ek148
            refine a_aload_n (q := 0) dX14_branches_148 rfl rfl ?_
            refine a_iload_n (q := 1) dX14_branches_149 rfl rfl ?_
            refine a_iload_n (q := 2) dX14_branches_150 rfl rfl ?_
            refine a_iload (q := 8) dX14_branches_151 rfl ?_
            refine a_iload (q := 4) dX14_branches_153 rfl ?_
            refine a_iload (q := 5) dX14_branches_155 rfl ?_
            obtain ⟨_, e53, hf⟩ := obd hf
            obtain ⟨h52, e51, hf⟩ := obd hf
            refine a_callV (as := [.int a1, .int a2, .int v12, .int a4, .int a5]) (np := 5) (ci := 13) (st := []) ((hg.2.1) _ _ _ _ _ _ _ _ e51) dX14_branches_157 rfl (by omega) (by decide) cw_X14_468 ⟨wd_1475, ws_90⟩ rfl (ckT_s e53) rfl (Nat.le_of_ble_eq_true rfl) ?_
            exact AW.sub [0, 1, 2, 3, 4, 5, 6, 7, 9, 10, 11, 12] rfl (hj160 _ hf)
          clear ek148
          refine a_if_ne (tgt := 148) dX14_branches_140 (by decide) (fun c => ?_) (fun c => ?_)
          · have hf := ifn c hf
            exact AW.sub [2, 3, 4, 5, 6, 7, 8, 9, 10, 11, 12, 1, 0] rfl (hj148 _ hf)
          · have hf := ifp c hf
            refine a_iload (q := 9) dX14_branches_143 rfl ?_
            refine a_if_eq (tgt := 160) dX14_branches_145 (by decide) (fun c => ?_) (fun c => ?_)
            · have hf := ifp c hf
              exact AW.sub [2, 3, 4, 5, 6, 7, 8, 9, 11, 12, 1, 0] rfl (hj160 _ hf)
            · have hf := ifn c hf
              exact AW.sub [2, 3, 4, 5, 6, 7, 8, 9, 10, 11, 12, 1, 0] rfl (hj148 _ hf)
        clear ek128
        refine a_if_eq (tgt := 126) dX14_branches_110 (by decide) (fun c => ?_) (fun c => ?_)
        · have hf := ifp c hf
          refine a_iload (q := 10) dX14_branches_126 rfl ?_
          exact AW.sub [1, 2, 3, 4, 5, 6, 7, 8, 9, 10, 0] rfl (hj128 _ _ hf)
        · have hf := ifn c hf
          refine a_aload_n (q := 1) dX14_branches_113 rfl rfl ?_
          refine a_iload (q := 7) dX14_branches_114 rfl ?_
          refine a_iload (q := 10) dX14_branches_116 rfl ?_
          refine a_iconst (v := 3) dX14_branches_118 (by decide) ?_
          refine a_iadd dX14_branches_119 ?_
          obtain ⟨_, e57, hf⟩ := obd hf
          obtain ⟨v55, h56, e54, hf⟩ := ob2 hf
          refine a_callV (as := [.int v3, .int (v16 + 3)]) (np := 2) (ci := 13) (st := []) (sX14_endOf E (D - 1) (by omega) e54) dX14_branches_120 rfl (by omega) (by decide) cw_X14_447 ⟨wd_1618, ws_117⟩ rfl (ckT_s e57) rfl (Nat.le_of_ble_eq_true rfl) ?_
          refine a_goto (tgt := 128) dX14_branches_123 (by decide) ?_
          exact AW.sub [1, 2, 3, 4, 5, 6, 7, 8, 9, 10, 0] rfl (hj128 _ _ hf)
      clear ek106
      refine a_icmp_ne (tgt := 105) dX14_branches_98 (by decide) (fun c => ?_) (fun c => ?_)
      · have hf := ifn c hf
        refine a_iconst (v := 0) dX14_branches_105 (by decide) ?_
        exact AW.sub [4, 5, 6, 7, 8, 9, 10, 2, 1, 0] rfl (hj106 _ _ hf)
      · have hf := ifp c hf
        refine a_iconst (v := 1) dX14_branches_101 (by decide) ?_
        refine a_goto (tgt := 106) dX14_branches_102 (by decide) ?_
        exact AW.sub [4, 5, 6, 7, 8, 9, 10, 2, 1, 0] rfl (hj106 _ _ hf)
    · have hf := ifn c hf
      refine a_aload_n (q := 1) dX14_branches_44 rfl rfl ?_
      refine a_iload_n (q := 2) dX14_branches_45 rfl rfl ?_
      refine a_iload_n (q := 3) dX14_branches_46 rfl rfl ?_
      refine a_aload_n (q := 1) dX14_branches_47 rfl rfl ?_
      refine a_iload (q := 7) dX14_branches_48 rfl ?_
      refine a_iload_n (q := 4) dX14_branches_50 rfl rfl ?_
      obtain ⟨_, e61, hf⟩ := obd hf
      obtain ⟨v59, h60, e58, hf⟩ := ob2 hf
      refine a_callV (as := [.int v3, .int a3]) (np := 2) (ci := 13) (st := [.int a2, .int a1, .ref a0]) (sX14_lineAt E (D - 1) (by omega) e58) dX14_branches_51 rfl (by omega) (by decide) cw_X14_329 ⟨wd_1427, ws_80⟩ rfl (ckT_s e61) rfl (Nat.le_of_ble_eq_true rfl) ?_
      refine a_iload (q := 0) dX14_branches_54 rfl ?_
      obtain ⟨_, e64, hf⟩ := obd hf
      obtain ⟨h63, e62, hf⟩ := obd hf
      refine a_callV (as := [.int a1, .int a2, .int v59, .int s37_0]) (np := 4) (ci := 13) (st := []) (sX14_faults E (D - 1) (by omega) e62) dX14_branches_56 rfl (by omega) (by decide) cw_X14_415 ⟨wd_1463, ws_87⟩ rfl (ckT_s e64) rfl (Nat.le_of_ble_eq_true rfl) ?_
      refine a_iload_n (q := 4) dX14_branches_59 rfl rfl ?_
      obtain ⟨rfl, rfl⟩ := oc2 hf
      exact a_ireturn dX14_branches_60 rfl
  clear ek37
  refine a_if_eq (tgt := 31) dX14_branches_24 (by decide) (fun c => ?_) (fun c => ?_)
  · have hf := ifp c hf
    refine a_aload_n (q := 1) dX14_branches_31 rfl rfl ?_
    refine a_iload (q := 0) dX14_branches_32 rfl ?_
    obtain ⟨_, e68, hf⟩ := obd hf
    obtain ⟨v66, h67, e65, hf⟩ := ob2 hf
    refine a_callV (as := [.int v3]) (np := 1) (ci := 13) (st := []) (sX14_condition E (D - 1) (by omega) e65) dX14_branches_34 rfl (by omega) (by decide) cw_X14_462 ⟨wd_1499, ws_96⟩ rfl (ckT_s e68) rfl (Nat.le_of_ble_eq_true rfl) ?_
    exact AW.sub [1, 2, 3, 4, 5, 6, 0] rfl (hj37 _ _ hf)
  · have hf := ifn c hf
    refine a_iconst (v := 0) dX14_branches_27 (by decide) ?_
    refine a_goto (tgt := 37) dX14_branches_28 (by decide) ?_
    exact AW.sub [1, 2, 3, 4, 5, 6, 0] rfl (hj37 _ _ hf)
set_option maxHeartbeats 4000000 in
set_option maxRecDepth 100000 in
theorem sX14_loop_b (E : gE) (D : Nat) (hD : 8 ≤ D) {g : gG3} (hg : gG3_ok E (D - 1) g) {a0 : Nat} {a1 : Int32} {a2 : Int32} {a3 : Int32} {a4 : Int32} {a5 : Int32} {h hz : hp} {v0 : Int32} (hf : fX14_loop_b g a0 a1 a2 a3 a4 a5 h = some (v0, hz)) : MC E yX14_loop cX14_loop (Option.some Jvm.ClassFile.FieldType.int) 16 D [.ref a0, .int a1, .int a2, .int a3, .int a4, .int a5] h (some (.int v0)) hz := by
  refine MC.of (by decide +kernel) (Nat.le_of_ble_eq_true rfl) rfl ?_
  unfold fX14_loop_b at hf
  show AW E yX14_loop cX14_loop (Option.some Jvm.ClassFile.FieldType.int) 16 D (some (.int v0)) h hz 0 [(0, .ref a0), (1, .int a1), (2, .int a2), (3, .int a3), (4, .int a4), (5, .int a5)] [] h
  refine a_aload_n (q := 0) dX14_loop_0 rfl rfl ?_
  obtain ⟨v1, e2, hf⟩ := obd hf
  refine o_gfR dX14_loop_1 lk_X14_68 rfl e2 ?_
  refine a_bipush (v := 6) dX14_loop_4 (by decide) ?_
  refine a_iload_n (q := 1) dX14_loop_6 rfl rfl ?_
  refine a_imul dX14_loop_7 ?_
  refine a_iload_n (q := 2) dX14_loop_8 rfl rfl ?_
  refine a_iadd dX14_loop_9 ?_
  obtain ⟨v3, e4, hf⟩ := obd hf
  refine o_alI dX14_loop_10 e4 ?_
  refine a_istore (lv1 := [(6, .int v3), (0, .ref a0), (1, .int a1), (2, .int a2), (3, .int a3), (4, .int a4), (5, .int a5)]) dX14_loop_11 (by decide) rfl ?_
  refine a_aload_n (q := 1) dX14_loop_13 rfl rfl ?_
  refine a_iload (q := 0) dX14_loop_14 rfl ?_
  refine a_iload_n (q := 4) dX14_loop_16 rfl rfl ?_
  refine a_iconst (v := 2) dX14_loop_17 (by decide) ?_
  refine a_iadd dX14_loop_18 ?_
  obtain ⟨_, e8, hf⟩ := obd hf
  obtain ⟨v6, h7, e5, hf⟩ := ob2 hf
  refine a_callV (as := [.int v3, .int (a3 + 2)]) (np := 2) (ci := 13) (st := []) (sX14_byteAt E (D - 1) (by omega) e5) dX14_loop_19 rfl (by omega) (by decide) cw_X14_344 ⟨wd_1487, ws_93⟩ rfl (ckT_s e8) rfl (Nat.le_of_ble_eq_true rfl) ?_
  refine a_bipush (v := 97) dX14_loop_22 (by decide) ?_
  refine a_isub dX14_loop_24 ?_
  refine a_istore (lv1 := [(7, .int (v6 - 97)), (6, .int v3), (0, .ref a0), (1, .int a1), (2, .int a2), (3, .int a3), (4, .int a4), (5, .int a5)]) dX14_loop_25 (by decide) rfl ?_
  refine a_aload_n (q := 2) dX14_loop_27 rfl rfl ?_
  refine a_iload_n (q := 5) dX14_loop_28 rfl rfl ?_
  refine a_iconst (v := 4) dX14_loop_29 (by decide) ?_
  refine a_iadd dX14_loop_30 ?_
  obtain ⟨h9, e10, hf⟩ := obd hf
  refine o_pfI dX14_loop_31 lk_X14_341 (⟨_, rfl, Or.inl rfl⟩) rfl e10 ?_
  refine a_aload_n (q := 2) dX14_loop_34 rfl rfl ?_
  obtain ⟨v11, e12, hf⟩ := obd hf
  refine o_gfI dX14_loop_35 lk_X14_423 rfl e12 ?_
  obtain ⟨k53, ek53, hf⟩ := jn_s hf
  have hj53 : ∀ (s53_0 : Int32) (h53j : hp), k53 s53_0 h53j = some (v0, hz) → AW E yX14_loop cX14_loop (Option.some Jvm.ClassFile.FieldType.int) 16 D (some (.int v0)) h hz 53 [(0, .ref a0), (1, .int a1), (2, .int a2), (3, .int a3), (4, .int a4), (5, .int a5), (6, .int v3), (7, .int (v6 - 97))] [.int s53_0] h53j := by
    intro s53_0 h53j hf
    rw [ek53] at hf
    clear ek53
    refine a_istore (lv1 := [(8, .int s53_0), (0, .ref a0), (1, .int a1), (2, .int a2), (3, .int a3), (4, .int a4), (5, .int a5), (6, .int v3), (7, .int (v6 - 97))]) dX14_loop_53 (by decide) rfl ?_
    refine a_iload (q := 0) dX14_loop_55 rfl ?_
    obtain ⟨k81, ek81, hf⟩ := jn_s hf
    have hj81 : ∀ (p81_8 : Int32) (h81j : hp), k81 p81_8 h81j = some (v0, hz) → AW E yX14_loop cX14_loop (Option.some Jvm.ClassFile.FieldType.int) 16 D (some (.int v0)) h hz 81 [(0, .ref a0), (1, .int a1), (2, .int a2), (3, .int a3), (4, .int a4), (5, .int a5), (6, .int v3), (7, .int (v6 - 97)), (8, .int p81_8)] [] h81j := by
      intro p81_8 h81j hf
      rw [ek81] at hf
      clear ek81
      refine a_iload (q := 8) dX14_loop_81 rfl ?_
      refine a_if_eq (tgt := 103) dX14_loop_83 (by decide) (fun c => ?_) (fun c => ?_)
      · have hf := ifp c hf
        refine a_aload_n (q := 0) dX14_loop_103 rfl rfl ?_
        refine a_iload (q := 6) dX14_loop_104 rfl ?_
        refine a_iload_n (q := 3) dX14_loop_106 rfl rfl ?_
        obtain ⟨_, e16, hf⟩ := obd hf
        obtain ⟨v14, h15, e13, hf⟩ := ob2 hf
        refine a_callV (as := [.int v3, .int a3]) (np := 2) (ci := 13) (st := []) (sX14_closes E (D - 1) (by omega) e13) dX14_loop_107 rfl (by omega) (by decide) cw_X14_465 ⟨wd_1614, ws_116⟩ rfl (ckT_s e16) rfl (Nat.le_of_ble_eq_true rfl) ?_
        refine a_istore (lv1 := [(9, .int v14), (0, .ref a0), (1, .int a1), (2, .int a2), (3, .int a3), (4, .int a4), (5, .int a5), (6, .int v3), (7, .int (v6 - 97)), (8, .int p81_8)]) dX14_loop_110 (by decide) rfl ?_
        refine a_aload_n (q := 1) dX14_loop_112 rfl rfl ?_
        refine a_iload (q := 7) dX14_loop_113 rfl ?_
        refine a_iload (q := 0) dX14_loop_115 rfl ?_
        obtain ⟨_, e20, hf⟩ := obd hf
        obtain ⟨v18, h19, e17, hf⟩ := ob2 hf
        refine a_callV (as := [.int v3, .int v14]) (np := 2) (ci := 13) (st := []) (sX14_endOf E (D - 1) (by omega) e17) dX14_loop_117 rfl (by omega) (by decide) cw_X14_447 ⟨wd_1618, ws_117⟩ rfl (ckT_s e20) rfl (Nat.le_of_ble_eq_true rfl) ?_
        refine a_istore (lv1 := [(10, .int v18), (9, .int v14), (0, .ref a0), (1, .int a1), (2, .int a2), (3, .int a3), (4, .int a4), (5, .int a5), (6, .int v3), (7, .int (v6 - 97)), (8, .int p81_8)]) dX14_loop_120 (by decide) rfl ?_
        refine a_aload_n (q := 2) dX14_loop_122 rfl rfl ?_
        refine a_iload (q := 8) dX14_loop_123 rfl ?_
        refine a_iload (q := 0) dX14_loop_125 rfl ?_
        refine a_iconst (v := 1) dX14_loop_127 (by decide) ?_
        refine a_iadd dX14_loop_128 ?_
        obtain ⟨_, e24, hf⟩ := obd hf
        obtain ⟨v22, h23, e21, hf⟩ := ob2 hf
        refine a_callV (as := [.int v3, .int (v18 + 1)]) (np := 2) (ci := 13) (st := []) (sX14_byteAt E (D - 1) (by omega) e21) dX14_loop_129 rfl (by omega) (by decide) cw_X14_344 ⟨wd_1487, ws_93⟩ rfl (ckT_s e24) rfl (Nat.le_of_ble_eq_true rfl) ?_
        refine a_bipush (v := 58) dX14_loop_132 (by decide) ?_
        obtain ⟨k142, ek142, hf⟩ := jn_s hf
        have hj142 : ∀ (s142_0 : Int32) (h142j : hp), k142 s142_0 h142j = some (v0, hz) → AW E yX14_loop cX14_loop (Option.some Jvm.ClassFile.FieldType.int) 16 D (some (.int v0)) h hz 142 [(0, .ref a0), (1, .int a1), (2, .int a2), (3, .int a3), (4, .int a4), (5, .int a5), (6, .int v3), (7, .int (v6 - 97)), (9, .int v14), (10, .int v18)] [.int s142_0] h142j := by
          intro s142_0 h142j hf
          rw [ek142] at hf
          clear ek142
          refine a_istore (lv1 := [(11, .int s142_0), (0, .ref a0), (1, .int a1), (2, .int a2), (3, .int a3), (4, .int a4), (5, .int a5), (6, .int v3), (7, .int (v6 - 97)), (9, .int v14), (10, .int v18)]) dX14_loop_142 (by decide) rfl ?_
          refine a_iload (q := 0) dX14_loop_144 rfl ?_
          obtain ⟨k164, ek164, hf⟩ := jn_s hf
          have hj164 : ∀ (s164_0 : Int32) (h164j : hp), k164 s164_0 h164j = some (v0, hz) → AW E yX14_loop cX14_loop (Option.some Jvm.ClassFile.FieldType.int) 16 D (some (.int v0)) h hz 164 [(0, .ref a0), (1, .int a1), (2, .int a2), (3, .int a3), (4, .int a4), (5, .int a5), (6, .int v3), (7, .int (v6 - 97)), (9, .int v14), (10, .int v18), (11, .int s142_0)] [.int s164_0] h164j := by
            intro s164_0 h164j hf
            rw [ek164] at hf
            clear ek164
            refine a_istore (lv1 := [(12, .int s164_0), (0, .ref a0), (1, .int a1), (2, .int a2), (3, .int a3), (4, .int a4), (5, .int a5), (6, .int v3), (7, .int (v6 - 97)), (9, .int v14), (10, .int v18), (11, .int s142_0)]) dX14_loop_164 (by decide) rfl ?_
            refine a_aload_n (q := 1) dX14_loop_166 rfl rfl ?_
            obtain ⟨v25, e26, hf⟩ := obd hf
            refine o_gfI dX14_loop_167 lk_X14_384 rfl e26 ?_
            refine a_istore (lv1 := [(13, .int v25), (12, .int s164_0), (0, .ref a0), (1, .int a1), (2, .int a2), (3, .int a3), (4, .int a4), (5, .int a5), (6, .int v3), (7, .int (v6 - 97)), (9, .int v14), (10, .int v18), (11, .int s142_0)]) dX14_loop_170 (by decide) rfl ?_
            refine a_aload_n (q := 2) dX14_loop_172 rfl rfl ?_
            refine a_iload (q := 8) dX14_loop_173 rfl ?_
            refine a_iload_n (q := 5) dX14_loop_175 rfl rfl ?_
            obtain ⟨_, e30, hf⟩ := obd hf
            obtain ⟨v28, h29, e27, hf⟩ := ob2 hf
            refine a_callV (as := [.int v3, .int a3]) (np := 2) (ci := 13) (st := []) (sX14_lineAt E (D - 1) (by omega) e27) dX14_loop_176 rfl (by omega) (by decide) cw_X14_329 ⟨wd_1427, ws_80⟩ rfl (ckT_s e30) rfl (Nat.le_of_ble_eq_true rfl) ?_
            refine a_istore (lv1 := [(14, .int v28), (13, .int v25), (12, .int s164_0), (0, .ref a0), (1, .int a1), (2, .int a2), (3, .int a3), (4, .int a4), (5, .int a5), (6, .int v3), (7, .int (v6 - 97)), (9, .int v14), (10, .int v18), (11, .int s142_0)]) dX14_loop_179 (by decide) rfl ?_
            refine a_aload_n (q := 3) dX14_loop_181 rfl rfl ?_
            obtain ⟨v31, e32, hf⟩ := obd hf
            refine o_gfI dX14_loop_182 lk_X14_423 rfl e32 ?_
            obtain ⟨k203, ek203, hf⟩ := jn_s hf
            have hj203 : ∀ (s203_0 : Int32) (h203j : hp), k203 s203_0 h203j = some (v0, hz) → AW E yX14_loop cX14_loop (Option.some Jvm.ClassFile.FieldType.int) 16 D (some (.int v0)) h hz 203 [(0, .ref a0), (1, .int a1), (2, .int a2), (4, .int a4), (5, .int a5), (7, .int (v6 - 97)), (9, .int v14), (10, .int v18), (11, .int s142_0), (12, .int s164_0), (13, .int v25), (14, .int v28)] [.int s203_0] h203j := by
              intro s203_0 h203j hf
              rw [ek203] at hf
              clear ek203
              refine a_istore (lv1 := [(15, .int s203_0), (0, .ref a0), (1, .int a1), (2, .int a2), (4, .int a4), (5, .int a5), (7, .int (v6 - 97)), (9, .int v14), (10, .int v18), (11, .int s142_0), (12, .int s164_0), (13, .int v25), (14, .int v28)]) dX14_loop_203 (by decide) rfl ?_
              refine a_aload_n (q := 1) dX14_loop_205 rfl rfl ?_
              obtain ⟨v33, e34, hf⟩ := obd hf
              refine o_gfI dX14_loop_206 lk_X14_423 rfl e34 ?_
              obtain ⟨k251, ek251, hf⟩ := jn_s hf
              have hj251 : ∀ (h251j : hp), k251 h251j = some (v0, hz) → AW E yX14_loop cX14_loop (Option.some Jvm.ClassFile.FieldType.int) 16 D (some (.int v0)) h hz 251 [(0, .ref a0), (1, .int a1), (2, .int a2), (4, .int a4), (5, .int a5), (10, .int v18), (11, .int s142_0), (12, .int s164_0), (13, .int v25), (14, .int v28), (15, .int s203_0)] [] h251j := by
                intro h251j hf
                rw [ek251] at hf
                clear ek251
                refine a_iload (q := 6) dX14_loop_251 rfl ?_
                obtain ⟨k299, ek299, hf⟩ := jn_s hf
                have hj299 : ∀ (h299j : hp), k299 h299j = some (v0, hz) → AW E yX14_loop cX14_loop (Option.some Jvm.ClassFile.FieldType.int) 16 D (some (.int v0)) h hz 299 [(12, .int s164_0)] [] h299j := by
                  intro h299j hf
                  rw [ek299] at hf
                  clear ek299
                  refine a_iload (q := 0) dX14_loop_299 rfl ?_
                  refine a_iconst (v := 3) dX14_loop_301 (by decide) ?_
                  refine a_iadd dX14_loop_302 ?_
                  obtain ⟨rfl, rfl⟩ := oc2 hf
                  exact a_ireturn dX14_loop_303 rfl
                clear ek299
                refine a_if_eq (tgt := 299) dX14_loop_253 (by decide) (fun c => ?_) (fun c => ?_)
                · have hf := ifp c hf
                  exact AW.sub [7] rfl (hj299 _ hf)
                · have hf := ifn c hf
                  refine a_aload_n (q := 0) dX14_loop_256 rfl rfl ?_
                  obtain ⟨v35, e36, hf⟩ := obd hf
                  refine o_gfI dX14_loop_257 lk_X14_409 rfl e36 ?_
                  refine a_if_ne (tgt := 299) dX14_loop_260 (by decide) (fun c => ?_) (fun c => ?_)
                  · have hf := ifn c hf
                    exact AW.sub [7] rfl (hj299 _ hf)
                  · have hf := ifp c hf
                    refine a_aload_n (q := 0) dX14_loop_263 rfl rfl ?_
                    obtain ⟨v37, e38, hf⟩ := obd hf
                    refine o_gfI dX14_loop_264 lk_X14_423 rfl e38 ?_
                    obtain ⟨k275, ek275, hf⟩ := jn_s hf
                    have hj275 : ∀ (h275j : hp), k275 h275j = some (v0, hz) → AW E yX14_loop cX14_loop (Option.some Jvm.ClassFile.FieldType.int) 16 D (some (.int v0)) h hz 275 [(0, .ref a0), (1, .int a1), (2, .int a2), (4, .int a4), (5, .int a5), (10, .int v18), (12, .int s164_0), (13, .int v25), (14, .int v28)] [] h275j := by
                      intro h275j hf
                      rw [ek275] at hf
                      clear ek275
                      refine a_aload_n (q := 0) dX14_loop_275 rfl rfl ?_
                      refine a_iload_n (q := 1) dX14_loop_276 rfl rfl ?_
                      refine a_iload_n (q := 2) dX14_loop_277 rfl rfl ?_
                      refine a_iload (q := 5) dX14_loop_278 rfl ?_
                      refine a_iconst (v := 3) dX14_loop_280 (by decide) ?_
                      refine a_iadd dX14_loop_281 ?_
                      refine a_iload (q := 3) dX14_loop_282 rfl ?_
                      refine a_iload (q := 4) dX14_loop_284 rfl ?_
                      obtain ⟨_, e41, hf⟩ := obd hf
                      obtain ⟨h40, e39, hf⟩ := obd hf
                      refine a_callV (as := [.int a1, .int a2, .int (v18 + 3), .int a4, .int a5]) (np := 5) (ci := 13) (st := []) ((hg.2.1) _ _ _ _ _ _ _ _ e39) dX14_loop_286 rfl (by omega) (by decide) cw_X14_468 ⟨wd_1475, ws_90⟩ rfl (ckT_s e41) rfl (Nat.le_of_ble_eq_true rfl) ?_
                      refine a_aload_n (q := 0) dX14_loop_289 rfl rfl ?_
                      refine a_iload_n (q := 1) dX14_loop_290 rfl rfl ?_
                      refine a_iload_n (q := 2) dX14_loop_291 rfl rfl ?_
                      refine a_iload (q := 8) dX14_loop_292 rfl ?_
                      refine a_iload (q := 7) dX14_loop_294 rfl ?_
                      obtain ⟨_, e44, hf⟩ := obd hf
                      obtain ⟨h43, e42, hf⟩ := obd hf
                      refine a_callV (as := [.int a1, .int a2, .int v28, .int v25]) (np := 4) (ci := 13) (st := []) (sX14_endsAsAhead E (D - 1) (by omega) e42) dX14_loop_296 rfl (by omega) (by decide) cw_X14_472 ⟨wd_1626, ws_119⟩ rfl (ckT_s e44) rfl (Nat.le_of_ble_eq_true rfl) ?_
                      exact AW.sub [6] rfl (hj299 _ hf)
                    clear ek275
                    refine a_if_ne (tgt := 275) dX14_loop_267 (by decide) (fun c => ?_) (fun c => ?_)
                    · have hf := ifn c hf
                      exact AW.sub [0, 1, 2, 3, 4, 5, 7, 8, 9] rfl (hj275 _ hf)
                    · have hf := ifp c hf
                      refine a_iload (q := 10) dX14_loop_270 rfl ?_
                      refine a_if_eq (tgt := 299) dX14_loop_272 (by decide) (fun c => ?_) (fun c => ?_)
                      · have hf := ifp c hf
                        exact AW.sub [7] rfl (hj299 _ hf)
                      · have hf := ifn c hf
                        exact AW.sub [0, 1, 2, 3, 4, 5, 7, 8, 9] rfl (hj275 _ hf)
              clear ek251
              refine a_if_eq (tgt := 237) dX14_loop_209 (by decide) (fun c => ?_) (fun c => ?_)
              · have hf := ifp c hf
                refine a_aload_n (q := 1) dX14_loop_237 rfl rfl ?_
                refine a_iload_n (q := 2) dX14_loop_238 rfl rfl ?_
                refine a_iload_n (q := 3) dX14_loop_239 rfl rfl ?_
                refine a_iload (q := 7) dX14_loop_240 rfl ?_
                refine a_iload (q := 4) dX14_loop_242 rfl ?_
                refine a_iload (q := 5) dX14_loop_244 rfl ?_
                refine a_iload (q := 6) dX14_loop_246 rfl ?_
                obtain ⟨_, e47, hf⟩ := obd hf
                obtain ⟨h46, e45, hf⟩ := obd hf
                refine a_callV (as := [.int a1, .int a2, .int v14, .int a4, .int a5, .int (v6 - 97)]) (np := 6) (ci := 13) (st := []) ((hg.2.2.2.2.2.1) _ _ _ _ _ _ _ _ _ e45) dX14_loop_248 rfl (by omega) (by decide) cw_X14_475 ⟨wd_1630, ws_120⟩ rfl (ckT_s e47) rfl (Nat.le_of_ble_eq_true rfl) ?_
                exact AW.sub [1, 2, 3, 4, 5, 8, 9, 10, 11, 12, 0] rfl (hj251 _ hf)
              · have hf := ifn c hf
                refine a_aload_n (q := 1) dX14_loop_212 rfl rfl ?_
                refine a_iload_n (q := 2) dX14_loop_213 rfl rfl ?_
                refine a_iload_n (q := 3) dX14_loop_214 rfl rfl ?_
                refine a_iload (q := 7) dX14_loop_215 rfl ?_
                refine a_iload (q := 4) dX14_loop_217 rfl ?_
                refine a_iload (q := 5) dX14_loop_219 rfl ?_
                obtain ⟨_, e50, hf⟩ := obd hf
                obtain ⟨h49, e48, hf⟩ := obd hf
                refine a_callV (as := [.int a1, .int a2, .int v14, .int a4, .int a5]) (np := 5) (ci := 13) (st := []) ((hg.2.1) _ _ _ _ _ _ _ _ e48) dX14_loop_221 rfl (by omega) (by decide) cw_X14_468 ⟨wd_1475, ws_90⟩ rfl (ckT_s e50) rfl (Nat.le_of_ble_eq_true rfl) ?_
                refine a_aload_n (q := 1) dX14_loop_224 rfl rfl ?_
                refine a_iload_n (q := 2) dX14_loop_225 rfl rfl ?_
                refine a_iload_n (q := 3) dX14_loop_226 rfl rfl ?_
                refine a_iload (q := 12) dX14_loop_227 rfl ?_
                refine a_iload (q := 11) dX14_loop_229 rfl ?_
                obtain ⟨_, e53, hf⟩ := obd hf
                obtain ⟨h52, e51, hf⟩ := obd hf
                refine a_callV (as := [.int a1, .int a2, .int v28, .int v25]) (np := 4) (ci := 13) (st := []) (sX14_endsAsAhead E (D - 1) (by omega) e51) dX14_loop_231 rfl (by omega) (by decide) cw_X14_472 ⟨wd_1626, ws_119⟩ rfl (ckT_s e53) rfl (Nat.le_of_ble_eq_true rfl) ?_
                refine a_goto (tgt := 251) dX14_loop_234 (by decide) ?_
                exact AW.sub [1, 2, 3, 4, 5, 8, 9, 10, 11, 12, 0] rfl (hj251 _ hf)
            clear ek203
            obtain ⟨k202, ek202, hf⟩ := jn_s hf
            have hj202 : ∀ (h202j : hp), k202 h202j = some (v0, hz) → AW E yX14_loop cX14_loop (Option.some Jvm.ClassFile.FieldType.int) 16 D (some (.int v0)) h hz 202 [(0, .ref a0), (1, .int a1), (2, .int a2), (4, .int a4), (5, .int a5), (7, .int (v6 - 97)), (9, .int v14), (10, .int v18), (11, .int s142_0), (12, .int s164_0), (13, .int v25), (14, .int v28)] [] h202j := by
              intro h202j hf
              rw [ek202] at hf
              clear ek202
              refine a_iconst (v := 0) dX14_loop_202 (by decide) ?_
              exact hj203 _ _ hf
            clear ek202
            refine a_if_ne (tgt := 202) dX14_loop_185 (by decide) (fun c => ?_) (fun c => ?_)
            · have hf := ifn c hf
              exact AW.sub [3, 4, 5, 7, 8, 10, 11, 12, 13, 2, 1, 0] rfl (hj202 _ hf)
            · have hf := ifp c hf
              refine a_aload_n (q := 3) dX14_loop_188 rfl rfl ?_
              obtain ⟨v54, e55, hf⟩ := obd hf
              refine o_gfR dX14_loop_189 lk_X14_18 rfl e55 ?_
              refine a_bipush (v := 8) dX14_loop_192 (by decide) ?_
              obtain ⟨v56, e57, hf⟩ := obd hf
              refine o_alI dX14_loop_194 e57 ?_
              refine a_if_ne (tgt := 202) dX14_loop_195 (by decide) (fun c => ?_) (fun c => ?_)
              · have hf := ifn c hf
                exact AW.sub [3, 4, 5, 7, 8, 10, 11, 12, 13, 2, 1, 0] rfl (hj202 _ hf)
              · have hf := ifp c hf
                refine a_iconst (v := 1) dX14_loop_198 (by decide) ?_
                refine a_goto (tgt := 203) dX14_loop_199 (by decide) ?_
                exact AW.sub [3, 4, 5, 7, 8, 10, 11, 12, 13, 2, 1, 0] rfl (hj203 _ _ hf)
          clear ek164
          refine a_if_eq (tgt := 162) dX14_loop_146 (by decide) (fun c => ?_) (fun c => ?_)
          · have hf := ifp c hf
            refine a_iload (q := 10) dX14_loop_162 rfl ?_
            exact AW.sub [1, 2, 3, 4, 5, 6, 7, 8, 9, 10, 0] rfl (hj164 _ _ hf)
          · have hf := ifn c hf
            refine a_aload_n (q := 1) dX14_loop_149 rfl rfl ?_
            refine a_iload (q := 7) dX14_loop_150 rfl ?_
            refine a_iload (q := 10) dX14_loop_152 rfl ?_
            refine a_iconst (v := 3) dX14_loop_154 (by decide) ?_
            refine a_iadd dX14_loop_155 ?_
            obtain ⟨_, e61, hf⟩ := obd hf
            obtain ⟨v59, h60, e58, hf⟩ := ob2 hf
            refine a_callV (as := [.int v3, .int (v18 + 3)]) (np := 2) (ci := 13) (st := []) (sX14_endOf E (D - 1) (by omega) e58) dX14_loop_156 rfl (by omega) (by decide) cw_X14_447 ⟨wd_1618, ws_117⟩ rfl (ckT_s e61) rfl (Nat.le_of_ble_eq_true rfl) ?_
            refine a_goto (tgt := 164) dX14_loop_159 (by decide) ?_
            exact AW.sub [1, 2, 3, 4, 5, 6, 7, 8, 9, 10, 0] rfl (hj164 _ _ hf)
        clear ek142
        refine a_icmp_ne (tgt := 141) dX14_loop_134 (by decide) (fun c => ?_) (fun c => ?_)
        · have hf := ifn c hf
          refine a_iconst (v := 0) dX14_loop_141 (by decide) ?_
          exact AW.sub [2, 3, 4, 5, 6, 7, 8, 9, 1, 0] rfl (hj142 _ _ hf)
        · have hf := ifp c hf
          refine a_iconst (v := 1) dX14_loop_137 (by decide) ?_
          refine a_goto (tgt := 142) dX14_loop_138 (by decide) ?_
          exact AW.sub [2, 3, 4, 5, 6, 7, 8, 9, 1, 0] rfl (hj142 _ _ hf)
      · have hf := ifn c hf
        refine a_aload_n (q := 0) dX14_loop_86 rfl rfl ?_
        refine a_iload_n (q := 1) dX14_loop_87 rfl rfl ?_
        refine a_iload_n (q := 2) dX14_loop_88 rfl rfl ?_
        refine a_aload_n (q := 0) dX14_loop_89 rfl rfl ?_
        refine a_iload (q := 6) dX14_loop_90 rfl ?_
        refine a_iload_n (q := 3) dX14_loop_92 rfl rfl ?_
        obtain ⟨_, e65, hf⟩ := obd hf
        obtain ⟨v63, h64, e62, hf⟩ := ob2 hf
        refine a_callV (as := [.int v3, .int a3]) (np := 2) (ci := 13) (st := [.int a2, .int a1, .ref a0]) (sX14_lineAt E (D - 1) (by omega) e62) dX14_loop_93 rfl (by omega) (by decide) cw_X14_329 ⟨wd_1427, ws_80⟩ rfl (ckT_s e65) rfl (Nat.le_of_ble_eq_true rfl) ?_
        refine a_iload (q := 8) dX14_loop_96 rfl ?_
        obtain ⟨_, e68, hf⟩ := obd hf
        obtain ⟨h67, e66, hf⟩ := obd hf
        refine a_callV (as := [.int a1, .int a2, .int v63, .int p81_8]) (np := 4) (ci := 13) (st := []) (sX14_faults E (D - 1) (by omega) e66) dX14_loop_98 rfl (by omega) (by decide) cw_X14_415 ⟨wd_1463, ws_87⟩ rfl (ckT_s e68) rfl (Nat.le_of_ble_eq_true rfl) ?_
        refine a_iload_n (q := 3) dX14_loop_101 rfl rfl ?_
        obtain ⟨rfl, rfl⟩ := oc2 hf
        exact a_ireturn dX14_loop_102 rfl
    clear ek81
    refine a_if_ne (tgt := 81) dX14_loop_57 (by decide) (fun c => ?_) (fun c => ?_)
    · have hf := ifn c hf
      exact AW.sub [1, 2, 3, 4, 5, 6, 7, 8, 0] rfl (hj81 _ _ hf)
    · have hf := ifp c hf
      refine a_aload_n (q := 1) dX14_loop_60 rfl rfl ?_
      obtain ⟨v69, e70, hf⟩ := obd hf
      refine o_gfI dX14_loop_61 lk_X14_423 rfl e70 ?_
      refine a_if_ne (tgt := 81) dX14_loop_64 (by decide) (fun c => ?_) (fun c => ?_)
      · have hf := ifn c hf
        exact AW.sub [1, 2, 3, 4, 5, 6, 7, 8, 0] rfl (hj81 _ _ hf)
      · have hf := ifp c hf
        refine a_aload_n (q := 1) dX14_loop_67 rfl rfl ?_
        obtain ⟨v71, e72, hf⟩ := obd hf
        refine o_gfR dX14_loop_68 lk_X14_11 rfl e72 ?_
        refine a_bipush (v := 8) dX14_loop_71 (by decide) ?_
        obtain ⟨v73, e74, hf⟩ := obd hf
        refine o_alI dX14_loop_73 e74 ?_
        refine a_iconst (v := 4) dX14_loop_74 (by decide) ?_
        refine a_icmp_eq (tgt := 81) dX14_loop_75 (by decide) (fun c => ?_) (fun c => ?_)
        · have hf := ifp c hf
          exact AW.sub [1, 2, 3, 4, 5, 6, 7, 8, 0] rfl (hj81 _ _ hf)
        · have hf := ifn c hf
          refine a_iconst (v := 2) dX14_loop_78 (by decide) ?_
          refine a_istore (lv1 := [(8, .int 2), (0, .ref a0), (1, .int a1), (2, .int a2), (3, .int a3), (4, .int a4), (5, .int a5), (6, .int v3), (7, .int (v6 - 97))]) dX14_loop_79 (by decide) rfl ?_
          exact AW.sub [1, 2, 3, 4, 5, 6, 7, 8, 0] rfl (hj81 _ _ hf)
  clear ek53
  refine a_if_eq (tgt := 45) dX14_loop_38 (by decide) (fun c => ?_) (fun c => ?_)
  · have hf := ifp c hf
    refine a_aload_n (q := 2) dX14_loop_45 rfl rfl ?_
    refine a_iload (q := 1) dX14_loop_46 rfl ?_
    refine a_bipush (v := 8) dX14_loop_48 (by decide) ?_
    obtain ⟨_, e78, hf⟩ := obd hf
    obtain ⟨v76, h77, e75, hf⟩ := ob2 hf
    refine a_callV (as := [.int v3, .int 8]) (np := 2) (ci := 13) (st := []) (sX14_worksOut E (D - 1) (by omega) e75) dX14_loop_50 rfl (by omega) (by decide) cw_X14_362 ⟨wd_1503, ws_97⟩ rfl (ckT_s e78) rfl (Nat.le_of_ble_eq_true rfl) ?_
    exact AW.sub [2, 3, 4, 5, 6, 7, 1, 0] rfl (hj53 _ _ hf)
  · have hf := ifn c hf
    refine a_iconst (v := 0) dX14_loop_41 (by decide) ?_
    refine a_goto (tgt := 53) dX14_loop_42 (by decide) ?_
    exact AW.sub [2, 3, 4, 5, 6, 7, 1, 0] rfl (hj53 _ _ hf)
set_option maxHeartbeats 4000000 in
set_option maxRecDepth 100000 in
theorem sX14_turns_l12 (E : gE) (D : Nat) (hD : 8 ≤ D) {g : gG3} (hg : gG3_ok E (D - 1) g) {rz : Option Value} {h0 hz : hp} : ∀ (n : Nat) (x0 : Nat) (x1 : Int32) (x2 : Int32) (x3 : Int32) (x4 : Int32) (x5 : Int32) (x6 : Int32) (x7 : Int32) (x8 : Int32) (h : hp) (hq : hp), fX14_turns_l12 g n x0 x1 x2 x3 x4 x5 x6 x7 x8 h = some hq → (AW E yX14_turns cX14_turns (Option.none : Option Jvm.ClassFile.FieldType) 9 D rz h0 hz 51 [(0, .ref x0), (1, .int x1), (2, .int x2), (3, .int x3), (4, .int x4), (5, .int x5), (6, .int x6), (7, .int x7)] [] hq) → AW E yX14_turns cX14_turns (Option.none : Option Jvm.ClassFile.FieldType) 9 D rz h0 hz 12 [(0, .ref x0), (1, .int x1), (2, .int x2), (3, .int x3), (4, .int x4), (5, .int x5), (6, .int x6), (7, .int x7), (8, .int x8)] [] h := by
  intro n
  induction n with
  | zero =>
    intro x0 x1 x2 x3 x4 x5 x6 x7 x8 h hq hf _
    rw [fX14_turns_l12] at hf
    cases hf
  | succ n ih =>
    intro x0 x1 x2 x3 x4 x5 x6 x7 x8 h hq hf hk0
    rw [fX14_turns_l12] at hf
    refine a_iload (q := 8) dX14_turns_12 rfl ?_
    refine a_iload (q := 7) dX14_turns_14 rfl ?_
    refine a_icmp_ge (tgt := 51) dX14_turns_16 (by decide) (fun c => ?_) (fun c => ?_)
    · have hf := ifp c hf
      obtain rfl := Option.some.inj hf
      exact AW.sub [0, 1, 2, 3, 4, 5, 6, 7] rfl (hk0)
    · have hf := ifn c hf
      refine a_aload_n (q := 0) dX14_turns_19 rfl rfl ?_
      obtain ⟨v1, e2, hf⟩ := obd hf
      refine o_gfR dX14_turns_20 lk_X14_83 rfl e2 ?_
      refine a_bipush (v := 6) dX14_turns_23 (by decide) ?_
      refine a_aload_n (q := 0) dX14_turns_25 rfl rfl ?_
      obtain ⟨v3, e4, hf⟩ := obd hf
      refine o_gfI dX14_turns_26 lk_X14_350 rfl e4 ?_
      refine a_imul dX14_turns_29 ?_
      refine a_iload (q := 8) dX14_turns_30 rfl ?_
      refine a_iadd dX14_turns_32 ?_
      refine a_aload_n (q := 0) dX14_turns_33 rfl rfl ?_
      obtain ⟨v5, e6, hf⟩ := obd hf
      refine o_gfR dX14_turns_34 lk_X14_21 rfl e6 ?_
      refine a_sipush (v := 128) dX14_turns_37 (by decide) ?_
      refine a_iload (q := 8) dX14_turns_40 rfl ?_
      refine a_iadd dX14_turns_42 ?_
      obtain ⟨v7, e8, hf⟩ := obd hf
      refine o_alI dX14_turns_43 e8 ?_
      obtain ⟨h9, e10, hf⟩ := obd hf
      refine o_asI dX14_turns_44 e10 ?_
      refine a_iinc (q := 8) (v := (x8 + 1)) (lv1 := [(8, .int (x8 + 1)), (0, .ref x0), (1, .int x1), (2, .int x2), (3, .int x3), (4, .int x4), (5, .int x5), (6, .int x6), (7, .int x7)]) dX14_turns_45 rfl (by rfl) (by decide) rfl ?_
      refine a_goto (tgt := 12) dX14_turns_48 (by decide) ?_
      exact AW.sub [1, 2, 3, 4, 5, 6, 7, 8, 0] rfl (ih _ _ _ _ _ _ _ _ _ _ _ hf hk0)
set_option maxHeartbeats 4000000 in
set_option maxRecDepth 100000 in
theorem sX14_turns_l64 (E : gE) (D : Nat) (hD : 8 ≤ D) {g : gG3} (hg : gG3_ok E (D - 1) g) {rz : Option Value} {h0 hz : hp} : ∀ (n : Nat) (x0 : Nat) (x1 : Int32) (x2 : Int32) (x3 : Int32) (x4 : Int32) (x5 : Int32) (x6 : Int32) (x7 : Int32) (x8 : Int32) (h : hp) (hq : hp), fX14_turns_l64 g n x0 x1 x2 x3 x4 x5 x6 x7 x8 h = some hq → (AW E yX14_turns cX14_turns (Option.none : Option Jvm.ClassFile.FieldType) 9 D rz h0 hz 140 [(0, .ref x0)] [] hq) → AW E yX14_turns cX14_turns (Option.none : Option Jvm.ClassFile.FieldType) 9 D rz h0 hz 64 [(0, .ref x0), (1, .int x1), (2, .int x2), (3, .int x3), (4, .int x4), (5, .int x5), (6, .int x6), (7, .int x7), (8, .int x8)] [] h := by
  intro n
  induction n with
  | zero =>
    intro x0 x1 x2 x3 x4 x5 x6 x7 x8 h hq hf _
    rw [fX14_turns_l64] at hf
    cases hf
  | succ n ih =>
    intro x0 x1 x2 x3 x4 x5 x6 x7 x8 h hq hf hk0
    rw [fX14_turns_l64] at hf
    refine a_iload (q := 8) dX14_turns_64 rfl ?_
    refine a_iload (q := 7) dX14_turns_66 rfl ?_
    refine a_icmp_ge (tgt := 140) dX14_turns_68 (by decide) (fun c => ?_) (fun c => ?_)
    · have hf := ifp c hf
      obtain rfl := Option.some.inj hf
      exact AW.sub [0] rfl (hk0)
    · have hf := ifn c hf
      refine a_aload_n (q := 0) dX14_turns_71 rfl rfl ?_
      obtain ⟨v1, e2, hf⟩ := obd hf
      refine o_gfI dX14_turns_72 lk_X14_409 rfl e2 ?_
      refine a_if_ne (tgt := 140) dX14_turns_75 (by decide) (fun c => ?_) (fun c => ?_)
      · have hf := ifn c hf
        obtain rfl := Option.some.inj hf
        exact AW.sub [0] rfl (hk0)
      · have hf := ifp c hf
        refine a_aload_n (q := 0) dX14_turns_78 rfl rfl ?_
        obtain ⟨_, e5, hf⟩ := obd hf
        obtain ⟨h4, e3, hf⟩ := obd hf
        refine a_callV (as := []) (np := 0) (ci := 13) (st := []) (sX14_keeps E (D - 1) (by omega) e3) dX14_turns_79 rfl (by omega) (by decide) cw_X14_429 ⟨wd_1479, ws_91⟩ rfl (ckT_s e5) rfl (Nat.le_of_ble_eq_true rfl) ?_
        refine a_aload_n (q := 0) dX14_turns_82 rfl rfl ?_
        obtain ⟨v6, e7, hf⟩ := obd hf
        refine o_gfR dX14_turns_83 lk_X14_80 rfl e7 ?_
        refine a_aload_n (q := 0) dX14_turns_86 rfl rfl ?_
        obtain ⟨v8, e9, hf⟩ := obd hf
        refine o_gfI dX14_turns_87 lk_X14_350 rfl e9 ?_
        refine a_iconst (v := 1) dX14_turns_90 (by decide) ?_
        refine a_isub dX14_turns_91 ?_
        refine a_iload (q := 8) dX14_turns_92 rfl ?_
        obtain ⟨h10, e11, hf⟩ := obd hf
        refine o_asI dX14_turns_94 e11 ?_
        refine a_aload_n (q := 0) dX14_turns_95 rfl rfl ?_
        refine a_iload (q := 6) dX14_turns_96 rfl ?_
        refine a_aload_n (q := 0) dX14_turns_98 rfl rfl ?_
        obtain ⟨v12, e13, hf⟩ := obd hf
        refine o_gfR dX14_turns_99 lk_X14_83 rfl e13 ?_
        refine a_bipush (v := 6) dX14_turns_102 (by decide) ?_
        refine a_aload_n (q := 0) dX14_turns_104 rfl rfl ?_
        obtain ⟨v14, e15, hf⟩ := obd hf
        refine o_gfI dX14_turns_105 lk_X14_350 rfl e15 ?_
        refine a_iconst (v := 1) dX14_turns_108 (by decide) ?_
        refine a_isub dX14_turns_109 ?_
        refine a_imul dX14_turns_110 ?_
        refine a_iload (q := 8) dX14_turns_111 rfl ?_
        refine a_iadd dX14_turns_113 ?_
        obtain ⟨v16, e17, hf⟩ := obd hf
        refine o_alI dX14_turns_114 e17 ?_
        obtain ⟨_, e20, hf⟩ := obd hf
        obtain ⟨h19, e18, hf⟩ := obd hf
        refine a_callV (as := [.int x6, .int v16]) (np := 2) (ci := 13) (st := []) (sX14_isInt E (D - 1) (by omega) e18) dX14_turns_115 rfl (by omega) (by decide) cw_X14_171 ⟨wd_1515, ws_100⟩ rfl (ckT_s e20) rfl (Nat.le_of_ble_eq_true rfl) ?_
        refine a_aload_n (q := 0) dX14_turns_118 rfl rfl ?_
        refine a_iload_n (q := 1) dX14_turns_119 rfl rfl ?_
        refine a_iload_n (q := 2) dX14_turns_120 rfl rfl ?_
        refine a_iload_n (q := 3) dX14_turns_121 rfl rfl ?_
        refine a_iload (q := 4) dX14_turns_122 rfl ?_
        refine a_iload (q := 5) dX14_turns_124 rfl ?_
        obtain ⟨_, e24, hf⟩ := obd hf
        obtain ⟨v22, h23, e21, hf⟩ := ob2 hf
        refine a_callV (as := [.int x1, .int x2, .int x3, .int x4, .int x5]) (np := 5) (ci := 13) (st := []) ((hg.1) _ _ _ _ _ _ _ _ _ e21) dX14_turns_126 rfl (by omega) (by decide) cw_X14_432 ⟨wd_1483, ws_92⟩ rfl (ckT_s e24) rfl (Nat.le_of_ble_eq_true rfl) ?_
        refine a_pop dX14_turns_129 rfl ?_
        refine a_aload_n (q := 0) dX14_turns_130 rfl rfl ?_
        obtain ⟨_, e27, hf⟩ := obd hf
        obtain ⟨h26, e25, hf⟩ := obd hf
        refine a_callV (as := []) (np := 0) (ci := 13) (st := []) (sX14_comeBack E (D - 1) (by omega) e25) dX14_turns_131 rfl (by omega) (by decide) cw_X14_435 ⟨wd_1634, ws_121⟩ rfl (ckT_s e27) rfl (Nat.le_of_ble_eq_true rfl) ?_
        refine a_iinc (q := 8) (v := (x8 + 1)) (lv1 := [(8, .int (x8 + 1)), (0, .ref x0), (1, .int x1), (2, .int x2), (3, .int x3), (4, .int x4), (5, .int x5), (6, .int x6), (7, .int x7)]) dX14_turns_134 rfl (by rfl) (by decide) rfl ?_
        refine a_goto (tgt := 64) dX14_turns_137 (by decide) ?_
        exact AW.sub [1, 2, 3, 4, 5, 6, 7, 8, 0] rfl (ih _ _ _ _ _ _ _ _ _ _ _ hf hk0)
set_option maxHeartbeats 4000000 in
set_option maxRecDepth 100000 in
theorem sX14_turns_b (E : gE) (D : Nat) (hD : 8 ≤ D) {g : gG3} (hg : gG3_ok E (D - 1) g) {a0 : Nat} {a1 : Int32} {a2 : Int32} {a3 : Int32} {a4 : Int32} {a5 : Int32} {a6 : Int32} {h hz : hp} (hf : fX14_turns_b g a0 a1 a2 a3 a4 a5 a6 h = some hz) : MC E yX14_turns cX14_turns (Option.none : Option Jvm.ClassFile.FieldType) 9 D [.ref a0, .int a1, .int a2, .int a3, .int a4, .int a5, .int a6] h none hz := by
  refine MC.of (by decide +kernel) (Nat.le_of_ble_eq_true rfl) rfl ?_
  unfold fX14_turns_b at hf
  show AW E yX14_turns cX14_turns (Option.none : Option Jvm.ClassFile.FieldType) 9 D none h hz 0 [(0, .ref a0), (1, .int a1), (2, .int a2), (3, .int a3), (4, .int a4), (5, .int a5), (6, .int a6)] [] h
  refine a_aload_n (q := 0) dX14_turns_0 rfl rfl ?_
  obtain ⟨v1, e2, hf⟩ := obd hf
  refine o_gfR dX14_turns_1 lk_X14_18 rfl e2 ?_
  refine a_bipush (v := 8) dX14_turns_4 (by decide) ?_
  obtain ⟨v3, e4, hf⟩ := obd hf
  refine o_alI dX14_turns_6 e4 ?_
  refine a_istore (lv1 := [(7, .int v3), (0, .ref a0), (1, .int a1), (2, .int a2), (3, .int a3), (4, .int a4), (5, .int a5), (6, .int a6)]) dX14_turns_7 (by decide) rfl ?_
  refine a_iconst (v := 0) dX14_turns_9 (by decide) ?_
  refine a_istore (lv1 := [(8, .int 0), (7, .int v3), (0, .ref a0), (1, .int a1), (2, .int a2), (3, .int a3), (4, .int a4), (5, .int a5), (6, .int a6)]) dX14_turns_10 (by decide) rfl ?_
  obtain ⟨h6, e5, hf⟩ := obd hf
  refine AW.sub [2, 3, 4, 5, 6, 7, 8, 1, 0] rfl (sX14_turns_l12 E D hD hg _ _ _ _ _ _ _ _ _ _ _ _ e5 ?_)
  refine a_aload_n (q := 0) dX14_turns_51 rfl rfl ?_
  refine a_dup dX14_turns_52 rfl ?_
  obtain ⟨v7, e8, hf⟩ := obd hf
  refine o_gfI dX14_turns_53 lk_X14_350 rfl e8 ?_
  refine a_iconst (v := 1) dX14_turns_56 (by decide) ?_
  refine a_iadd dX14_turns_57 ?_
  obtain ⟨h9, e10, hf⟩ := obd hf
  refine o_pfI dX14_turns_58 lk_X14_350 (⟨_, rfl, Or.inl rfl⟩) rfl e10 ?_
  refine a_iconst (v := 0) dX14_turns_61 (by decide) ?_
  refine a_istore (lv1 := [(8, .int 0), (0, .ref a0), (1, .int a1), (2, .int a2), (3, .int a3), (4, .int a4), (5, .int a5), (6, .int a6), (7, .int v3)]) dX14_turns_62 (by decide) rfl ?_
  obtain ⟨h12, e11, hf⟩ := obd hf
  refine AW.sub [1, 2, 3, 4, 5, 6, 7, 8, 0] rfl (sX14_turns_l64 E D hD hg _ _ _ _ _ _ _ _ _ _ _ _ e11 ?_)
  refine a_aload_n (q := 0) dX14_turns_140 rfl rfl ?_
  refine a_dup dX14_turns_141 rfl ?_
  obtain ⟨v13, e14, hf⟩ := obd hf
  refine o_gfI dX14_turns_142 lk_X14_350 rfl e14 ?_
  refine a_iconst (v := 1) dX14_turns_145 (by decide) ?_
  refine a_isub dX14_turns_146 ?_
  obtain ⟨h15, e16, hf⟩ := obd hf
  refine o_pfI dX14_turns_147 lk_X14_350 (⟨_, rfl, Or.inl rfl⟩) rfl e16 ?_
  obtain rfl := Option.some.inj hf
  exact a_return dX14_turns_150 rfl
set_option maxHeartbeats 4000000 in
set_option maxRecDepth 100000 in
theorem sX14_block_b (E : gE) (D : Nat) (hD : 8 ≤ D) {g : gG3} (hg : gG3_ok E (D - 1) g) {a0 : Nat} {a1 : Int32} {a2 : Int32} {a3 : Int32} {a4 : Int32} {a5 : Int32} {a6 : Int32} {h hz : hp} {v0 : Int32} (hf : fX14_block_b g a0 a1 a2 a3 a4 a5 a6 h = some (v0, hz)) : MC E yX14_block cX14_block (Option.some Jvm.ClassFile.FieldType.int) 10 D [.ref a0, .int a1, .int a2, .int a3, .int a4, .int a5, .int a6] h (some (.int v0)) hz := by
  refine MC.of (by decide +kernel) (Nat.le_of_ble_eq_true rfl) rfl ?_
  unfold fX14_block_b at hf
  show AW E yX14_block cX14_block (Option.some Jvm.ClassFile.FieldType.int) 10 D (some (.int v0)) h hz 0 [(0, .ref a0), (1, .int a1), (2, .int a2), (3, .int a3), (4, .int a4), (5, .int a5), (6, .int a6)] [] h
  refine a_aload_n (q := 0) dX14_block_0 rfl rfl ?_
  refine a_aload_n (q := 0) dX14_block_1 rfl rfl ?_
  obtain ⟨v1, e2, hf⟩ := obd hf
  refine o_gfR dX14_block_2 lk_X14_68 rfl e2 ?_
  refine a_bipush (v := 6) dX14_block_5 (by decide) ?_
  refine a_iload_n (q := 1) dX14_block_7 rfl rfl ?_
  refine a_imul dX14_block_8 ?_
  refine a_iload_n (q := 2) dX14_block_9 rfl rfl ?_
  refine a_iadd dX14_block_10 ?_
  obtain ⟨v3, e4, hf⟩ := obd hf
  refine o_alI dX14_block_11 e4 ?_
  refine a_iload_n (q := 3) dX14_block_12 rfl rfl ?_
  obtain ⟨_, e8, hf⟩ := obd hf
  obtain ⟨v6, h7, e5, hf⟩ := ob2 hf
  refine a_callV (as := [.int v3, .int a3]) (np := 2) (ci := 13) (st := []) (sX14_lineAt E (D - 1) (by omega) e5) dX14_block_13 rfl (by omega) (by decide) cw_X14_329 ⟨wd_1427, ws_80⟩ rfl (ckT_s e8) rfl (Nat.le_of_ble_eq_true rfl) ?_
  refine a_istore (lv1 := [(7, .int v6), (0, .ref a0), (1, .int a1), (2, .int a2), (3, .int a3), (4, .int a4), (5, .int a5), (6, .int a6)]) dX14_block_16 (by decide) rfl ?_
  refine a_aload_n (q := 1) dX14_block_18 rfl rfl ?_
  refine a_iload_n (q := 2) dX14_block_19 rfl rfl ?_
  refine a_iload (q := 6) dX14_block_20 rfl ?_
  refine a_iload (q := 5) dX14_block_22 rfl ?_
  obtain ⟨_, e12, hf⟩ := obd hf
  obtain ⟨v10, h11, e9, hf⟩ := ob2 hf
  refine a_callV (as := [.int a1, .int a5, .int a4]) (np := 3) (ci := 13) (st := []) (sX14_blockFrom E (D - 1) (by omega) e9) dX14_block_24 rfl (by omega) (by decide) cw_X14_479 ⟨wd_1642, ws_123⟩ rfl (ckT_s e12) rfl (Nat.le_of_ble_eq_true rfl) ?_
  refine a_istore (lv1 := [(8, .int v10), (7, .int v6), (0, .ref a0), (1, .int a1), (2, .int a2), (3, .int a3), (4, .int a4), (5, .int a5), (6, .int a6)]) dX14_block_27 (by decide) rfl ?_
  refine a_aload_n (q := 2) dX14_block_29 rfl rfl ?_
  obtain ⟨v13, e14, hf⟩ := obd hf
  refine o_gfI dX14_block_30 lk_X14_482 rfl e14 ?_
  refine a_bipush (v := 8) dX14_block_33 (by decide) ?_
  obtain ⟨k43, ek43, hf⟩ := jn_s hf
  have hj43 : ∀ (h43j : hp), k43 h43j = some (v0, hz) → AW E yX14_block cX14_block (Option.some Jvm.ClassFile.FieldType.int) 10 D (some (.int v0)) h hz 43 [(0, .ref a0), (1, .int a1), (2, .int a2), (3, .int a3), (7, .int v6)] [] h43j := by
    intro h43j hf
    rw [ek43] at hf
    clear ek43
    refine a_aload_n (q := 0) dX14_block_43 rfl rfl ?_
    refine a_iload_n (q := 1) dX14_block_44 rfl rfl ?_
    refine a_iload_n (q := 2) dX14_block_45 rfl rfl ?_
    refine a_iload (q := 4) dX14_block_46 rfl ?_
    refine a_aload_n (q := 0) dX14_block_48 rfl rfl ?_
    obtain ⟨v15, e16, hf⟩ := obd hf
    refine o_gfI dX14_block_49 lk_X14_482 rfl e16 ?_
    refine a_bipush (v := 8) dX14_block_52 (by decide) ?_
    obtain ⟨k64, ek64, hf⟩ := jn_s hf
    have hj64 : ∀ (s64_0 : Int32) (h64j : hp), k64 s64_0 h64j = some (v0, hz) → AW E yX14_block cX14_block (Option.some Jvm.ClassFile.FieldType.int) 10 D (some (.int v0)) h hz 64 [(3, .int a3)] [.int s64_0, .int v6, .int a2, .int a1, .ref a0] h64j := by
      intro s64_0 h64j hf
      rw [ek64] at hf
      clear ek64
      obtain ⟨_, e19, hf⟩ := obd hf
      obtain ⟨h18, e17, hf⟩ := obd hf
      refine a_callV (as := [.int a1, .int a2, .int v6, .int s64_0]) (np := 4) (ci := 13) (st := []) (sX14_faults E (D - 1) (by omega) e17) dX14_block_64 rfl (by omega) (by decide) cw_X14_415 ⟨wd_1463, ws_87⟩ rfl (ckT_s e19) rfl (Nat.le_of_ble_eq_true rfl) ?_
      refine a_iload_n (q := 0) dX14_block_67 rfl rfl ?_
      obtain ⟨rfl, rfl⟩ := oc2 hf
      exact a_ireturn dX14_block_68 rfl
    clear ek64
    refine a_icmp_ne (tgt := 62) dX14_block_54 (by decide) (fun c => ?_) (fun c => ?_)
    · have hf := ifn c hf
      refine a_bipush (v := 8) dX14_block_62 (by decide) ?_
      exact AW.sub [3] rfl (hj64 _ _ hf)
    · have hf := ifp c hf
      refine a_bipush (v := 7) dX14_block_57 (by decide) ?_
      refine a_goto (tgt := 64) dX14_block_59 (by decide) ?_
      exact AW.sub [3] rfl (hj64 _ _ hf)
  clear ek43
  refine a_icmp_eq (tgt := 43) dX14_block_35 (by decide) (fun c => ?_) (fun c => ?_)
  · have hf := ifp c hf
    exact AW.sub [2, 3, 4, 5, 1] rfl (hj43 _ hf)
  · have hf := ifn c hf
    refine a_iload (q := 0) dX14_block_38 rfl ?_
    refine a_if_ge (tgt := 69) dX14_block_40 (by decide) (fun c => ?_) (fun c => ?_)
    · have hf := ifp c hf
      refine a_aload_n (q := 2) dX14_block_69 rfl rfl ?_
      obtain ⟨v20, e21, hf⟩ := obd hf
      refine o_gfI dX14_block_70 lk_X14_384 rfl e21 ?_
      refine a_istore (lv1 := [(9, .int v20), (8, .int v10), (7, .int v6), (0, .ref a0), (1, .int a1), (2, .int a2), (3, .int a3), (4, .int a4), (5, .int a5), (6, .int a6)]) dX14_block_73 (by decide) rfl ?_
      refine a_aload_n (q := 3) dX14_block_75 rfl rfl ?_
      refine a_dup dX14_block_76 rfl ?_
      obtain ⟨v22, e23, hf⟩ := obd hf
      refine o_gfI dX14_block_77 lk_X14_482 rfl e23 ?_
      refine a_iconst (v := 1) dX14_block_80 (by decide) ?_
      refine a_iadd dX14_block_81 ?_
      obtain ⟨h24, e25, hf⟩ := obd hf
      refine o_pfI dX14_block_82 lk_X14_482 (⟨_, rfl, Or.inl rfl⟩) rfl e25 ?_
      refine a_aload_n (q := 3) dX14_block_85 rfl rfl ?_
      refine a_iload_n (q := 4) dX14_block_86 rfl rfl ?_
      refine a_iload (q := 1) dX14_block_87 rfl ?_
      refine a_aload_n (q := 3) dX14_block_89 rfl rfl ?_
      refine a_aload_n (q := 3) dX14_block_90 rfl rfl ?_
      obtain ⟨v26, e27, hf⟩ := obd hf
      refine o_gfR dX14_block_91 lk_X14_68 rfl e27 ?_
      refine a_bipush (v := 6) dX14_block_94 (by decide) ?_
      refine a_iload_n (q := 4) dX14_block_96 rfl rfl ?_
      refine a_imul dX14_block_97 ?_
      refine a_iload (q := 1) dX14_block_98 rfl ?_
      refine a_iadd dX14_block_100 ?_
      obtain ⟨v28, e29, hf⟩ := obd hf
      refine o_alI dX14_block_101 e29 ?_
      refine a_iload (q := 7) dX14_block_102 rfl ?_
      obtain ⟨_, e33, hf⟩ := obd hf
      obtain ⟨v31, h32, e30, hf⟩ := ob2 hf
      refine a_callV (as := [.int v28, .int a4]) (np := 2) (ci := 13) (st := [.int v10, .int a1, .ref a0]) (sX14_blockAt E (D - 1) (by omega) e30) dX14_block_104 rfl (by omega) (by decide) cw_X14_485 ⟨wd_1646, ws_124⟩ rfl (ckT_s e33) rfl (Nat.le_of_ble_eq_true rfl) ?_
      refine a_iload (q := 1) dX14_block_107 rfl ?_
      refine a_iload (q := 7) dX14_block_109 rfl ?_
      obtain ⟨_, e36, hf⟩ := obd hf
      obtain ⟨h35, e34, hf⟩ := obd hf
      refine a_callV (as := [.int a1, .int v10, .int v31, .int v10, .int a4]) (np := 5) (ci := 13) (st := []) ((hg.2.1) _ _ _ _ _ _ _ _ e34) dX14_block_111 rfl (by omega) (by decide) cw_X14_468 ⟨wd_1475, ws_90⟩ rfl (ckT_s e36) rfl (Nat.le_of_ble_eq_true rfl) ?_
      refine a_aload_n (q := 3) dX14_block_114 rfl rfl ?_
      refine a_dup dX14_block_115 rfl ?_
      obtain ⟨v37, e38, hf⟩ := obd hf
      refine o_gfI dX14_block_116 lk_X14_482 rfl e38 ?_
      refine a_iconst (v := 1) dX14_block_119 (by decide) ?_
      refine a_isub dX14_block_120 ?_
      obtain ⟨h39, e40, hf⟩ := obd hf
      refine o_pfI dX14_block_121 lk_X14_482 (⟨_, rfl, Or.inl rfl⟩) rfl e40 ?_
      refine a_aload_n (q := 3) dX14_block_124 rfl rfl ?_
      refine a_iload_n (q := 4) dX14_block_125 rfl rfl ?_
      refine a_iload_n (q := 5) dX14_block_126 rfl rfl ?_
      refine a_iload (q := 2) dX14_block_127 rfl ?_
      refine a_iload (q := 0) dX14_block_129 rfl ?_
      obtain ⟨_, e43, hf⟩ := obd hf
      obtain ⟨h42, e41, hf⟩ := obd hf
      refine a_callV (as := [.int a1, .int a2, .int v6, .int v20]) (np := 4) (ci := 13) (st := []) (sX14_endsAsAhead E (D - 1) (by omega) e41) dX14_block_131 rfl (by omega) (by decide) cw_X14_472 ⟨wd_1626, ws_119⟩ rfl (ckT_s e43) rfl (Nat.le_of_ble_eq_true rfl) ?_
      refine a_iload (q := 9) dX14_block_134 rfl ?_
      obtain ⟨rfl, rfl⟩ := oc2 hf
      exact a_ireturn dX14_block_136 rfl
    · have hf := ifn c hf
      exact AW.sub [2, 3, 4, 5, 1] rfl (hj43 _ hf)
set_option maxHeartbeats 4000000 in
set_option maxRecDepth 100000 in
theorem sX14_part_b (E : gE) (D : Nat) (hD : 8 ≤ D) {g : gG3} (hg : gG3_ok E (D - 1) g) {a0 : Nat} {a1 : Int32} {a2 : Int32} {a3 : Int32} {h hz : hp} {v0 : Int32} (hf : fX14_part_b g a0 a1 a2 a3 h = some (v0, hz)) : MC E yX14_part cX14_part (Option.some Jvm.ClassFile.FieldType.int) 6 D [.ref a0, .int a1, .int a2, .int a3] h (some (.int v0)) hz := by
  refine MC.of (by decide +kernel) (Nat.le_of_ble_eq_true rfl) rfl ?_
  unfold fX14_part_b at hf
  show AW E yX14_part cX14_part (Option.some Jvm.ClassFile.FieldType.int) 6 D (some (.int v0)) h hz 0 [(0, .ref a0), (1, .int a1), (2, .int a2), (3, .int a3)] [] h
  refine a_aload_n (q := 0) dX14_part_0 rfl rfl ?_
  obtain ⟨v1, e2, hf⟩ := obd hf
  refine o_gfR dX14_part_1 lk_X14_68 rfl e2 ?_
  refine a_bipush (v := 6) dX14_part_4 (by decide) ?_
  refine a_iload_n (q := 1) dX14_part_6 rfl rfl ?_
  refine a_imul dX14_part_7 ?_
  refine a_iload_n (q := 2) dX14_part_8 rfl rfl ?_
  refine a_iadd dX14_part_9 ?_
  obtain ⟨v3, e4, hf⟩ := obd hf
  refine o_alI dX14_part_10 e4 ?_
  refine a_istore (lv1 := [(4, .int v3), (0, .ref a0), (1, .int a1), (2, .int a2), (3, .int a3)]) dX14_part_11 (by decide) rfl ?_
  refine a_aload_n (q := 1) dX14_part_13 rfl rfl ?_
  refine a_iload (q := 0) dX14_part_14 rfl ?_
  refine a_iload_n (q := 4) dX14_part_16 rfl rfl ?_
  obtain ⟨_, e8, hf⟩ := obd hf
  obtain ⟨v6, h7, e5, hf⟩ := ob2 hf
  refine a_callV (as := [.int v3, .int a3]) (np := 2) (ci := 13) (st := []) (sX14_lineAt E (D - 1) (by omega) e5) dX14_part_17 rfl (by omega) (by decide) cw_X14_329 ⟨wd_1427, ws_80⟩ rfl (ckT_s e8) rfl (Nat.le_of_ble_eq_true rfl) ?_
  refine a_istore (lv1 := [(5, .int v6), (4, .int v3), (0, .ref a0), (1, .int a1), (2, .int a2), (3, .int a3)]) dX14_part_20 (by decide) rfl ?_
  refine a_aload_n (q := 2) dX14_part_22 rfl rfl ?_
  obtain ⟨v9, e10, hf⟩ := obd hf
  refine o_gfI dX14_part_23 lk_X14_482 rfl e10 ?_
  refine a_bipush (v := 8) dX14_part_26 (by decide) ?_
  refine a_icmp_ne (tgt := 43) dX14_part_28 (by decide) (fun c => ?_) (fun c => ?_)
  · have hf := ifn c hf
    refine a_aload_n (q := 2) dX14_part_43 rfl rfl ?_
    refine a_dup dX14_part_44 rfl ?_
    obtain ⟨v11, e12, hf⟩ := obd hf
    refine o_gfI dX14_part_45 lk_X14_482 rfl e12 ?_
    refine a_iconst (v := 1) dX14_part_48 (by decide) ?_
    refine a_iadd dX14_part_49 ?_
    obtain ⟨h13, e14, hf⟩ := obd hf
    refine o_pfI dX14_part_50 lk_X14_482 (⟨_, rfl, Or.inl rfl⟩) rfl e14 ?_
    refine a_aload_n (q := 2) dX14_part_53 rfl rfl ?_
    obtain ⟨v15, e16, hf⟩ := obd hf
    refine o_gfR dX14_part_54 lk_X14_74 rfl e16 ?_
    refine a_iload_n (q := 3) dX14_part_57 rfl rfl ?_
    refine a_iload_n (q := 4) dX14_part_58 rfl rfl ?_
    obtain ⟨h17, e18, hf⟩ := obd hf
    refine o_asI dX14_part_59 e18 ?_
    refine a_aload_n (q := 2) dX14_part_60 rfl rfl ?_
    obtain ⟨v19, e20, hf⟩ := obd hf
    refine o_gfR dX14_part_61 lk_X14_77 rfl e20 ?_
    refine a_iload_n (q := 3) dX14_part_64 rfl rfl ?_
    refine a_iload (q := 0) dX14_part_65 rfl ?_
    obtain ⟨h21, e22, hf⟩ := obd hf
    refine o_asI dX14_part_67 e22 ?_
    refine a_aload_n (q := 2) dX14_part_68 rfl rfl ?_
    refine a_iload_n (q := 3) dX14_part_69 rfl rfl ?_
    refine a_iconst (v := 1) dX14_part_70 (by decide) ?_
    refine a_iadd dX14_part_71 ?_
    refine a_aload_n (q := 2) dX14_part_72 rfl rfl ?_
    refine a_iload (q := 1) dX14_part_73 rfl ?_
    refine a_iload_n (q := 5) dX14_part_75 rfl rfl ?_
    refine a_iconst (v := 2) dX14_part_76 (by decide) ?_
    refine a_iadd dX14_part_77 ?_
    obtain ⟨_, e26, hf⟩ := obd hf
    obtain ⟨v24, h25, e23, hf⟩ := ob2 hf
    refine a_callV (as := [.int v3, .int (a3 + 2)]) (np := 2) (ci := 13) (st := [.int (a1 + 1), .ref a0]) (sX14_byteAt E (D - 1) (by omega) e23) dX14_part_78 rfl (by omega) (by decide) cw_X14_344 ⟨wd_1487, ws_93⟩ rfl (ckT_s e26) rfl (Nat.le_of_ble_eq_true rfl) ?_
    refine a_bipush (v := 48) dX14_part_81 (by decide) ?_
    refine a_isub dX14_part_83 ?_
    obtain ⟨_, e29, hf⟩ := obd hf
    obtain ⟨h28, e27, hf⟩ := obd hf
    refine a_callV (as := [.int (a1 + 1), .int (v24 - 48)]) (np := 2) (ci := 13) (st := []) ((hg.2.2.2.2.2.2.2.2) _ _ _ _ _ e27) dX14_part_84 rfl (by omega) (by decide) cw_X14_488 ⟨wd_1455, ws_85⟩ rfl (ckT_s e29) rfl (Nat.le_of_ble_eq_true rfl) ?_
    refine a_aload_n (q := 2) dX14_part_87 rfl rfl ?_
    refine a_dup dX14_part_88 rfl ?_
    obtain ⟨v30, e31, hf⟩ := obd hf
    refine o_gfI dX14_part_89 lk_X14_482 rfl e31 ?_
    refine a_iconst (v := 1) dX14_part_92 (by decide) ?_
    refine a_isub dX14_part_93 ?_
    obtain ⟨h32, e33, hf⟩ := obd hf
    refine o_pfI dX14_part_94 lk_X14_482 (⟨_, rfl, Or.inl rfl⟩) rfl e33 ?_
    refine a_iload_n (q := 5) dX14_part_97 rfl rfl ?_
    refine a_iconst (v := 4) dX14_part_98 (by decide) ?_
    refine a_iadd dX14_part_99 ?_
    obtain ⟨rfl, rfl⟩ := oc2 hf
    exact a_ireturn dX14_part_100 rfl
  · have hf := ifp c hf
    refine a_aload_n (q := 2) dX14_part_31 rfl rfl ?_
    refine a_iload_n (q := 3) dX14_part_32 rfl rfl ?_
    refine a_iload_n (q := 4) dX14_part_33 rfl rfl ?_
    refine a_iload (q := 0) dX14_part_34 rfl ?_
    refine a_bipush (v := 7) dX14_part_36 (by decide) ?_
    obtain ⟨_, e36, hf⟩ := obd hf
    obtain ⟨h35, e34, hf⟩ := obd hf
    refine a_callV (as := [.int a1, .int a2, .int v6, .int 7]) (np := 4) (ci := 13) (st := []) (sX14_faults E (D - 1) (by omega) e34) dX14_part_38 rfl (by omega) (by decide) cw_X14_415 ⟨wd_1463, ws_87⟩ rfl (ckT_s e36) rfl (Nat.le_of_ble_eq_true rfl) ?_
    refine a_iload_n (q := 5) dX14_part_41 rfl rfl ?_
    obtain ⟨rfl, rfl⟩ := oc2 hf
    exact a_ireturn dX14_part_42 rfl
set_option maxHeartbeats 4000000 in
set_option maxRecDepth 100000 in
theorem sX14_prints_b (E : gE) (D : Nat) (hD : 8 ≤ D) {g : gG3} (hg : gG3_ok E (D - 1) g) {a0 : Nat} {a1 : Int32} {a2 : Int32} {h hz : hp} (hf : fX14_prints_b g a0 a1 a2 h = some hz) : MC E yX14_prints cX14_prints (Option.none : Option Jvm.ClassFile.FieldType) 4 D [.ref a0, .int a1, .int a2] h none hz := by
  refine MC.of (by decide +kernel) (Nat.le_of_ble_eq_true rfl) rfl ?_
  unfold fX14_prints_b at hf
  show AW E yX14_prints cX14_prints (Option.none : Option Jvm.ClassFile.FieldType) 4 D none h hz 0 [(0, .ref a0), (1, .int a1), (2, .int a2)] [] h
  refine a_aload_n (q := 0) dX14_prints_0 rfl rfl ?_
  refine a_iload_n (q := 1) dX14_prints_1 rfl rfl ?_
  refine a_iload_n (q := 2) dX14_prints_2 rfl rfl ?_
  obtain ⟨_, e4, hf⟩ := obd hf
  obtain ⟨v2, h3, e1, hf⟩ := ob2 hf
  refine a_callV (as := [.int a1, .int a2]) (np := 2) (ci := 13) (st := []) (sX14_isChained E (D - 1) (by omega) e1) dX14_prints_3 rfl (by omega) (by decide) cw_X14_497 ⟨wd_1459, ws_86⟩ rfl (ckT_s e4) rfl (Nat.le_of_ble_eq_true rfl) ?_
  refine a_if_ne (tgt := 10) dX14_prints_6 (by decide) (fun c => ?_) (fun c => ?_)
  · have hf := ifn c hf
    refine a_aload_n (q := 0) dX14_prints_10 rfl rfl ?_
    obtain ⟨v5, e6, hf⟩ := obd hf
    refine o_gfI dX14_prints_11 lk_X14_384 rfl e6 ?_
    refine a_istore_n (lv1 := [(3, .int v5), (0, .ref a0), (1, .int a1), (2, .int a2)]) dX14_prints_14 rfl (by decide) rfl ?_
    refine a_aload_n (q := 1) dX14_prints_15 rfl rfl ?_
    refine a_iload_n (q := 2) dX14_prints_16 rfl rfl ?_
    refine a_aload_n (q := 1) dX14_prints_17 rfl rfl ?_
    obtain ⟨v7, e8, hf⟩ := obd hf
    refine o_gfR dX14_prints_18 lk_X14_71 rfl e8 ?_
    refine a_iload_n (q := 2) dX14_prints_21 rfl rfl ?_
    obtain ⟨v9, e10, hf⟩ := obd hf
    refine o_alI dX14_prints_22 e10 ?_
    refine a_iconst (v := 1) dX14_prints_23 (by decide) ?_
    refine a_isub dX14_prints_24 ?_
    refine a_iconst (v := 0) dX14_prints_25 (by decide) ?_
    refine a_iconst (v := (-1)) dX14_prints_26 (by decide) ?_
    refine a_iconst (v := (-1)) dX14_prints_27 (by decide) ?_
    obtain ⟨_, e13, hf⟩ := obd hf
    obtain ⟨h12, e11, hf⟩ := obd hf
    refine a_callV (as := [.int a1, .int (v9 - 1), .int 0, .int (-1), .int (-1)]) (np := 5) (ci := 13) (st := []) ((hg.2.1) _ _ _ _ _ _ _ _ e11) dX14_prints_28 rfl (by omega) (by decide) cw_X14_468 ⟨wd_1475, ws_90⟩ rfl (ckT_s e13) rfl (Nat.le_of_ble_eq_true rfl) ?_
    refine a_aload_n (q := 1) dX14_prints_31 rfl rfl ?_
    refine a_iload_n (q := 2) dX14_prints_32 rfl rfl ?_
    refine a_iconst (v := 0) dX14_prints_33 (by decide) ?_
    refine a_iconst (v := 0) dX14_prints_34 (by decide) ?_
    refine a_iload_n (q := 0) dX14_prints_35 rfl rfl ?_
    obtain ⟨_, e16, hf⟩ := obd hf
    obtain ⟨h15, e14, hf⟩ := obd hf
    refine a_callV (as := [.int a1, .int 0, .int 0, .int v5]) (np := 4) (ci := 13) (st := []) (sX14_endsAsAhead E (D - 1) (by omega) e14) dX14_prints_36 rfl (by omega) (by decide) cw_X14_472 ⟨wd_1626, ws_119⟩ rfl (ckT_s e16) rfl (Nat.le_of_ble_eq_true rfl) ?_
    obtain rfl := Option.some.inj hf
    exact a_return dX14_prints_39 rfl
  · have hf := ifp c hf
    obtain rfl := Option.some.inj hf
    exact a_return dX14_prints_9 rfl
def G3 : Nat → gG3
  | 0 => ((fun _ _ _ _ _ _ _ => none), (fun _ _ _ _ _ _ _ => none), (fun _ _ _ _ _ _ _ => none), (fun _ _ _ _ _ _ _ => none), (fun _ _ _ _ _ _ _ => none), (fun _ _ _ _ _ _ _ _ => none), (fun _ _ _ _ _ _ _ _ => none), (fun _ _ _ _ _ => none), (fun _ _ _ _ => none))
  | n + 1 => (fX14_run_b (G3 n), fX14_runs_b (G3 n), fX14_piece_b (G3 n), fX14_branches_b (G3 n), fX14_loop_b (G3 n), fX14_turns_b (G3 n), fX14_block_b (G3 n), fX14_part_b (G3 n), fX14_prints_b (G3 n))
theorem G3_ok (E : gE) : ∀ (n D : Nat), n + 8 ≤ D → gG3_ok E D (G3 n) := by
  intro n
  induction n with
  | zero =>
    intro D hD
    exact ⟨(fun _ _ _ _ _ _ _ _ _ hf => by cases hf), (fun _ _ _ _ _ _ _ _ hf => by cases hf), (fun _ _ _ _ _ _ _ _ _ hf => by cases hf), (fun _ _ _ _ _ _ _ _ _ hf => by cases hf), (fun _ _ _ _ _ _ _ _ _ hf => by cases hf), (fun _ _ _ _ _ _ _ _ _ hf => by cases hf), (fun _ _ _ _ _ _ _ _ _ _ hf => by cases hf), (fun _ _ _ _ _ _ _ hf => by cases hf), (fun _ _ _ _ _ hf => by cases hf)⟩
  | succ n ih =>
    intro D hD
    have hg := ih (D - 1) (by omega)
    exact ⟨(fun _ _ _ _ _ _ _ _ _ hf => sX14_run_b E D (by omega) hg hf), (fun _ _ _ _ _ _ _ _ hf => sX14_runs_b E D (by omega) hg hf), (fun _ _ _ _ _ _ _ _ _ hf => sX14_piece_b E D (by omega) hg hf), (fun _ _ _ _ _ _ _ _ _ hf => sX14_branches_b E D (by omega) hg hf), (fun _ _ _ _ _ _ _ _ _ hf => sX14_loop_b E D (by omega) hg hf), (fun _ _ _ _ _ _ _ _ _ hf => sX14_turns_b E D (by omega) hg hf), (fun _ _ _ _ _ _ _ _ _ _ hf => sX14_block_b E D (by omega) hg hf), (fun _ _ _ _ _ _ _ hf => sX14_part_b E D (by omega) hg hf), (fun _ _ _ _ _ hf => sX14_prints_b E D (by omega) hg hf)⟩
def fX14_run (a0 : Nat) (a1 : Int32) (a2 : Int32) (a3 : Int32) (a4 : Int32) (a5 : Int32) (h : hp) : Option (Int32 × hp) := (G3 400).1 a0 a1 a2 a3 a4 a5 h
theorem sX14_run (E : gE) (D : Nat) (hD : 408 ≤ D) {a0 : Nat} {a1 : Int32} {a2 : Int32} {a3 : Int32} {a4 : Int32} {a5 : Int32} {h hz : hp} {v0 : Int32} (hf : fX14_run a0 a1 a2 a3 a4 a5 h = some (v0, hz)) : MC E yX14_run cX14_run (Option.some Jvm.ClassFile.FieldType.int) 10 D [.ref a0, .int a1, .int a2, .int a3, .int a4, .int a5] h (some (.int v0)) hz :=
  (G3_ok E 400 D (by omega)).1 _ _ _ _ _ _ _ _ _ hf
def fX14_runs (a0 : Nat) (a1 : Int32) (a2 : Int32) (a3 : Int32) (a4 : Int32) (a5 : Int32) (h : hp) : Option hp := (G3 400).2.1 a0 a1 a2 a3 a4 a5 h
theorem sX14_runs (E : gE) (D : Nat) (hD : 408 ≤ D) {a0 : Nat} {a1 : Int32} {a2 : Int32} {a3 : Int32} {a4 : Int32} {a5 : Int32} {h hz : hp} (hf : fX14_runs a0 a1 a2 a3 a4 a5 h = some hz) : MC E yX14_runs cX14_runs (Option.none : Option Jvm.ClassFile.FieldType) 6 D [.ref a0, .int a1, .int a2, .int a3, .int a4, .int a5] h none hz :=
  (G3_ok E 400 D (by omega)).2.1 _ _ _ _ _ _ _ _ hf
def fX14_piece (a0 : Nat) (a1 : Int32) (a2 : Int32) (a3 : Int32) (a4 : Int32) (a5 : Int32) (h : hp) : Option (Int32 × hp) := (G3 400).2.2.1 a0 a1 a2 a3 a4 a5 h
theorem sX14_piece (E : gE) (D : Nat) (hD : 408 ≤ D) {a0 : Nat} {a1 : Int32} {a2 : Int32} {a3 : Int32} {a4 : Int32} {a5 : Int32} {h hz : hp} {v0 : Int32} (hf : fX14_piece a0 a1 a2 a3 a4 a5 h = some (v0, hz)) : MC E yX14_piece cX14_piece (Option.some Jvm.ClassFile.FieldType.int) 8 D [.ref a0, .int a1, .int a2, .int a3, .int a4, .int a5] h (some (.int v0)) hz :=
  (G3_ok E 400 D (by omega)).2.2.1 _ _ _ _ _ _ _ _ _ hf
def fX14_branches (a0 : Nat) (a1 : Int32) (a2 : Int32) (a3 : Int32) (a4 : Int32) (a5 : Int32) (h : hp) : Option (Int32 × hp) := (G3 400).2.2.2.1 a0 a1 a2 a3 a4 a5 h
theorem sX14_branches (E : gE) (D : Nat) (hD : 408 ≤ D) {a0 : Nat} {a1 : Int32} {a2 : Int32} {a3 : Int32} {a4 : Int32} {a5 : Int32} {h hz : hp} {v0 : Int32} (hf : fX14_branches a0 a1 a2 a3 a4 a5 h = some (v0, hz)) : MC E yX14_branches cX14_branches (Option.some Jvm.ClassFile.FieldType.int) 15 D [.ref a0, .int a1, .int a2, .int a3, .int a4, .int a5] h (some (.int v0)) hz :=
  (G3_ok E 400 D (by omega)).2.2.2.1 _ _ _ _ _ _ _ _ _ hf
def fX14_loop (a0 : Nat) (a1 : Int32) (a2 : Int32) (a3 : Int32) (a4 : Int32) (a5 : Int32) (h : hp) : Option (Int32 × hp) := (G3 400).2.2.2.2.1 a0 a1 a2 a3 a4 a5 h
theorem sX14_loop (E : gE) (D : Nat) (hD : 408 ≤ D) {a0 : Nat} {a1 : Int32} {a2 : Int32} {a3 : Int32} {a4 : Int32} {a5 : Int32} {h hz : hp} {v0 : Int32} (hf : fX14_loop a0 a1 a2 a3 a4 a5 h = some (v0, hz)) : MC E yX14_loop cX14_loop (Option.some Jvm.ClassFile.FieldType.int) 16 D [.ref a0, .int a1, .int a2, .int a3, .int a4, .int a5] h (some (.int v0)) hz :=
  (G3_ok E 400 D (by omega)).2.2.2.2.1 _ _ _ _ _ _ _ _ _ hf
def fX14_turns (a0 : Nat) (a1 : Int32) (a2 : Int32) (a3 : Int32) (a4 : Int32) (a5 : Int32) (a6 : Int32) (h : hp) : Option hp := (G3 400).2.2.2.2.2.1 a0 a1 a2 a3 a4 a5 a6 h
theorem sX14_turns (E : gE) (D : Nat) (hD : 408 ≤ D) {a0 : Nat} {a1 : Int32} {a2 : Int32} {a3 : Int32} {a4 : Int32} {a5 : Int32} {a6 : Int32} {h hz : hp} (hf : fX14_turns a0 a1 a2 a3 a4 a5 a6 h = some hz) : MC E yX14_turns cX14_turns (Option.none : Option Jvm.ClassFile.FieldType) 9 D [.ref a0, .int a1, .int a2, .int a3, .int a4, .int a5, .int a6] h none hz :=
  (G3_ok E 400 D (by omega)).2.2.2.2.2.1 _ _ _ _ _ _ _ _ _ hf
def fX14_block (a0 : Nat) (a1 : Int32) (a2 : Int32) (a3 : Int32) (a4 : Int32) (a5 : Int32) (a6 : Int32) (h : hp) : Option (Int32 × hp) := (G3 400).2.2.2.2.2.2.1 a0 a1 a2 a3 a4 a5 a6 h
theorem sX14_block (E : gE) (D : Nat) (hD : 408 ≤ D) {a0 : Nat} {a1 : Int32} {a2 : Int32} {a3 : Int32} {a4 : Int32} {a5 : Int32} {a6 : Int32} {h hz : hp} {v0 : Int32} (hf : fX14_block a0 a1 a2 a3 a4 a5 a6 h = some (v0, hz)) : MC E yX14_block cX14_block (Option.some Jvm.ClassFile.FieldType.int) 10 D [.ref a0, .int a1, .int a2, .int a3, .int a4, .int a5, .int a6] h (some (.int v0)) hz :=
  (G3_ok E 400 D (by omega)).2.2.2.2.2.2.1 _ _ _ _ _ _ _ _ _ _ hf
def fX14_part (a0 : Nat) (a1 : Int32) (a2 : Int32) (a3 : Int32) (h : hp) : Option (Int32 × hp) := (G3 400).2.2.2.2.2.2.2.1 a0 a1 a2 a3 h
theorem sX14_part (E : gE) (D : Nat) (hD : 408 ≤ D) {a0 : Nat} {a1 : Int32} {a2 : Int32} {a3 : Int32} {h hz : hp} {v0 : Int32} (hf : fX14_part a0 a1 a2 a3 h = some (v0, hz)) : MC E yX14_part cX14_part (Option.some Jvm.ClassFile.FieldType.int) 6 D [.ref a0, .int a1, .int a2, .int a3] h (some (.int v0)) hz :=
  (G3_ok E 400 D (by omega)).2.2.2.2.2.2.2.1 _ _ _ _ _ _ _ hf
def fX14_prints (a0 : Nat) (a1 : Int32) (a2 : Int32) (h : hp) : Option hp := (G3 400).2.2.2.2.2.2.2.2 a0 a1 a2 h
theorem sX14_prints (E : gE) (D : Nat) (hD : 408 ≤ D) {a0 : Nat} {a1 : Int32} {a2 : Int32} {h hz : hp} (hf : fX14_prints a0 a1 a2 h = some hz) : MC E yX14_prints cX14_prints (Option.none : Option Jvm.ClassFile.FieldType) 4 D [.ref a0, .int a1, .int a2] h none hz :=
  (G3_ok E 400 D (by omega)).2.2.2.2.2.2.2.2 _ _ _ _ _ hf
