def fX14_compared_l12 : Nat → Nat → Int32 → Int32 → Int32 → hp → Option (Nat × Int32 × hp)
  | 0, _, _, _, _, _ => none
  | n + 1, x0, x1, x2, x3, h =>
    (gfR h x0 13 2).bind fun v1 =>
    (alI h v1 x1).bind fun v3 =>
    if v3 ≤ x3 then (
      some (1, 0, h)
    ) else (
      (gfR h x0 13 2).bind fun v5 =>
      (alI h v5 x2).bind fun v7 =>
      if v7 ≤ x3 then (
        some (1, 0, h)
      ) else (
        (gfR h x0 13 3).bind fun v9 =>
        (alI h v9 ((16 * x1) + x3)).bind fun v11 =>
        (gfR h x0 13 3).bind fun v13 =>
        (alI h v13 ((16 * x2) + x3)).bind fun v15 =>
        if (v11 - v15) = 0 then (
          fX14_compared_l12 n x0 x1 x2 (x3 + 1) h
        ) else (
          some (0, (v11 - v15), h)
        )
      )
    )
def fX14_compared (a0 : Nat) (a1 : Int32) (a2 : Int32) (h : hp) : Option (Int32 × hp) :=
  (gfR h a0 13 0).bind fun v1 =>
  (alI h v1 a1).bind fun v3 =>
  if v3 = 3 then (
    bd3 (fX14_compared_l12 FU a0 a1 a2 0 h) fun t56 v55 h54 =>
    if t56 = 0 then (
      some (v55, h54)
    ) else
    if t56 = 1 then (
      (gfR h54 a0 13 2).bind fun v57 =>
      (alI h54 v57 a1).bind fun v59 =>
      (gfR h54 a0 13 2).bind fun v61 =>
      (alI h54 v61 a2).bind fun v63 =>
      some ((v59 - v63), h54)
    ) else none
  ) else (
    (gfR h a0 13 0).bind fun v5 =>
    (alI h v5 a1).bind fun v7 =>
    jn (fun (h145j : hp) => (
      (gfR h145j a0 13 0).bind fun v9 =>
      (alI h145j v9 a1).bind fun v11 =>
      jn (fun (s171_0 : UInt32) (h171j : hp) => (
        (gfR h171j a0 13 0).bind fun v13 =>
        (alI h171j v13 a2).bind fun v15 =>
        jn (fun (s198_0 : UInt32) (h198j : hp) => (
          if 0 ≤ (Op.cmpValue (FP.fcmp s171_0 s198_0) .g) then (
            if (Op.cmpValue (FP.fcmp s171_0 s198_0) .l) ≤ 0 then (
              some (0, h198j)
            ) else (
              some (1, h198j)
            )
          ) else (
            some ((-1), h198j)
          )
          : Option (Int32 × hp))) fun k198 =>
        if v15 = 1 then (
          (gfR h171j a0 13 1).bind fun v21 =>
          (alI h171j v21 a2).bind fun v23 =>
          k198 (FP.i2f v23) h171j
        ) else (
          (gfR h171j a0 13 4).bind fun v17 =>
          (alF h171j v17 a2).bind fun v19 =>
          k198 v19 h171j
        )
        : Option (Int32 × hp))) fun k171 =>
      if v11 = 1 then (
        (gfR h145j a0 13 1).bind fun v29 =>
        (alI h145j v29 a1).bind fun v31 =>
        k171 (FP.i2f v31) h145j
      ) else (
        (gfR h145j a0 13 4).bind fun v25 =>
        (alF h145j v25 a1).bind fun v27 =>
        k171 v27 h145j
      )
      : Option (Int32 × hp))) fun k145 =>
    if v7 = 1 then (
      (gfR h a0 13 0).bind fun v33 =>
      (alI h v33 a2).bind fun v35 =>
      if v35 = 1 then (
        (gfR h a0 13 1).bind fun v37 =>
        (alI h v37 a1).bind fun v39 =>
        (gfR h a0 13 1).bind fun v41 =>
        (alI h v41 a2).bind fun v43 =>
        if v43 ≤ v39 then (
          (gfR h a0 13 1).bind fun v45 =>
          (alI h v45 a1).bind fun v47 =>
          (gfR h a0 13 1).bind fun v49 =>
          (alI h v49 a2).bind fun v51 =>
          if v47 ≤ v51 then (
            some (0, h)
          ) else (
            some (1, h)
          )
        ) else (
          some ((-1), h)
        )
      ) else (
        k145 h
      )
    ) else (
      k145 h
    )
  )
set_option maxHeartbeats 4000000 in
set_option maxRecDepth 100000 in
theorem sX14_compared_l12 (E : gE) (D : Nat) (hD : 0 ≤ D) {rz : Option Value} {h0 hz : hp} : ∀ (n : Nat) (x0 : Nat) (x1 : Int32) (x2 : Int32) (x3 : Int32) (h : hp) (tq : Nat) (m4 : Int32) (hq : hp), fX14_compared_l12 n x0 x1 x2 x3 h = some (tq, m4, hq) → (tq = 0 → AW E yX14_compared cX14_compared (Option.some Jvm.ClassFile.FieldType.int) 5 D rz h0 hz 62 [(4, .int m4)] [] hq) → (tq = 1 → AW E yX14_compared cX14_compared (Option.some Jvm.ClassFile.FieldType.int) 5 D rz h0 hz 71 [(0, .ref x0), (1, .int x1), (2, .int x2)] [] hq) → AW E yX14_compared cX14_compared (Option.some Jvm.ClassFile.FieldType.int) 5 D rz h0 hz 12 [(0, .ref x0), (1, .int x1), (2, .int x2), (3, .int x3)] [] h := by
  intro n
  induction n with
  | zero =>
    intro x0 x1 x2 x3 h tq m4 hq hf _ _
    rw [fX14_compared_l12] at hf
    cases hf
  | succ n ih =>
    intro x0 x1 x2 x3 h tq m4 hq hf hk0 hk1
    rw [fX14_compared_l12] at hf
    refine a_iload_n (q := 3) dX14_compared_12 rfl rfl ?_
    refine a_aload_n (q := 0) dX14_compared_13 rfl rfl ?_
    obtain ⟨v1, e2, hf⟩ := obd hf
    refine o_gfR dX14_compared_14 lk_X14_18 rfl e2 ?_
    refine a_iload_n (q := 1) dX14_compared_17 rfl rfl ?_
    obtain ⟨v3, e4, hf⟩ := obd hf
    refine o_alI dX14_compared_18 e4 ?_
    refine a_icmp_ge (tgt := 71) dX14_compared_19 (by decide) (fun c => ?_) (fun c => ?_)
    · have hf := ifp c hf
      obtain ⟨rfl, rfl, rfl⟩ := oc3 hf
      exact AW.sub [0, 1, 2] rfl (hk1 rfl)
    · have hf := ifn c hf
      refine a_iload_n (q := 3) dX14_compared_22 rfl rfl ?_
      refine a_aload_n (q := 0) dX14_compared_23 rfl rfl ?_
      obtain ⟨v5, e6, hf⟩ := obd hf
      refine o_gfR dX14_compared_24 lk_X14_18 rfl e6 ?_
      refine a_iload_n (q := 2) dX14_compared_27 rfl rfl ?_
      obtain ⟨v7, e8, hf⟩ := obd hf
      refine o_alI dX14_compared_28 e8 ?_
      refine a_icmp_ge (tgt := 71) dX14_compared_29 (by decide) (fun c => ?_) (fun c => ?_)
      · have hf := ifp c hf
        obtain ⟨rfl, rfl, rfl⟩ := oc3 hf
        exact AW.sub [0, 1, 2] rfl (hk1 rfl)
      · have hf := ifn c hf
        refine a_aload_n (q := 0) dX14_compared_32 rfl rfl ?_
        obtain ⟨v9, e10, hf⟩ := obd hf
        refine o_gfR dX14_compared_33 lk_X14_21 rfl e10 ?_
        refine a_bipush (v := 16) dX14_compared_36 (by decide) ?_
        refine a_iload_n (q := 1) dX14_compared_38 rfl rfl ?_
        refine a_imul dX14_compared_39 ?_
        refine a_iload_n (q := 3) dX14_compared_40 rfl rfl ?_
        refine a_iadd dX14_compared_41 ?_
        obtain ⟨v11, e12, hf⟩ := obd hf
        refine o_alI dX14_compared_42 e12 ?_
        refine a_aload_n (q := 0) dX14_compared_43 rfl rfl ?_
        obtain ⟨v13, e14, hf⟩ := obd hf
        refine o_gfR dX14_compared_44 lk_X14_21 rfl e14 ?_
        refine a_bipush (v := 16) dX14_compared_47 (by decide) ?_
        refine a_iload_n (q := 2) dX14_compared_49 rfl rfl ?_
        refine a_imul dX14_compared_50 ?_
        refine a_iload_n (q := 3) dX14_compared_51 rfl rfl ?_
        refine a_iadd dX14_compared_52 ?_
        obtain ⟨v15, e16, hf⟩ := obd hf
        refine o_alI dX14_compared_53 e16 ?_
        refine a_isub dX14_compared_54 ?_
        refine a_istore (lv1 := [(4, .int (v11 - v15)), (0, .ref x0), (1, .int x1), (2, .int x2), (3, .int x3)]) dX14_compared_55 (by decide) rfl ?_
        refine a_iload (q := 0) dX14_compared_57 rfl ?_
        refine a_if_eq (tgt := 65) dX14_compared_59 (by decide) (fun c => ?_) (fun c => ?_)
        · have hf := ifp c hf
          refine a_iinc (q := 4) (v := (x3 + 1)) (lv1 := [(3, .int (x3 + 1)), (4, .int (v11 - v15)), (0, .ref x0), (1, .int x1), (2, .int x2)]) dX14_compared_65 rfl (by rfl) (by decide) rfl ?_
          refine a_goto (tgt := 12) dX14_compared_68 (by decide) ?_
          exact AW.sub [2, 3, 4, 0] rfl (ih _ _ _ _ _ _ _ _ hf hk0 hk1)
        · have hf := ifn c hf
          obtain ⟨rfl, rfl, rfl⟩ := oc3 hf
          exact AW.sub [0] rfl (hk0 rfl)
set_option maxHeartbeats 4000000 in
set_option maxRecDepth 100000 in
theorem sX14_compared (E : gE) (D : Nat) (hD : 0 ≤ D) {a0 : Nat} {a1 : Int32} {a2 : Int32} {h hz : hp} {v0 : Int32} (hf : fX14_compared a0 a1 a2 h = some (v0, hz)) : MC E yX14_compared cX14_compared (Option.some Jvm.ClassFile.FieldType.int) 5 D [.ref a0, .int a1, .int a2] h (some (.int v0)) hz := by
  refine MC.of (by decide +kernel) (Nat.le_of_ble_eq_true rfl) rfl ?_
  unfold fX14_compared at hf
  show AW E yX14_compared cX14_compared (Option.some Jvm.ClassFile.FieldType.int) 5 D (some (.int v0)) h hz 0 [(0, .ref a0), (1, .int a1), (2, .int a2)] [] h
  refine a_aload_n (q := 0) dX14_compared_0 rfl rfl ?_
  obtain ⟨v1, e2, hf⟩ := obd hf
  refine o_gfR dX14_compared_1 lk_X14_11 rfl e2 ?_
  refine a_iload_n (q := 1) dX14_compared_4 rfl rfl ?_
  obtain ⟨v3, e4, hf⟩ := obd hf
  refine o_alI dX14_compared_5 e4 ?_
  refine a_iconst (v := 3) dX14_compared_6 (by decide) ?_
  refine a_icmp_ne (tgt := 85) dX14_compared_7 (by decide) (fun c => ?_) (fun c => ?_)
  · have hf := ifn c hf
    refine a_aload_n (q := 0) dX14_compared_85 rfl rfl ?_
    obtain ⟨v5, e6, hf⟩ := obd hf
    refine o_gfR dX14_compared_86 lk_X14_11 rfl e6 ?_
    refine a_iload_n (q := 1) dX14_compared_89 rfl rfl ?_
    obtain ⟨v7, e8, hf⟩ := obd hf
    refine o_alI dX14_compared_90 e8 ?_
    refine a_iconst (v := 1) dX14_compared_91 (by decide) ?_
    obtain ⟨k145, ek145, hf⟩ := jn_s hf
    have hj145 : ∀ (h145j : hp), k145 h145j = some (v0, hz) → AW E yX14_compared cX14_compared (Option.some Jvm.ClassFile.FieldType.int) 5 D (some (.int v0)) h hz 145 [(0, .ref a0), (1, .int a1), (2, .int a2)] [] h145j := by
      intro h145j hf
      rw [ek145] at hf
      clear ek145
      refine a_aload_n (q := 0) dX14_compared_145 rfl rfl ?_
      obtain ⟨v9, e10, hf⟩ := obd hf
      refine o_gfR dX14_compared_146 lk_X14_11 rfl e10 ?_
      refine a_iload_n (q := 1) dX14_compared_149 rfl rfl ?_
      obtain ⟨v11, e12, hf⟩ := obd hf
      refine o_alI dX14_compared_150 e12 ?_
      refine a_iconst (v := 1) dX14_compared_151 (by decide) ?_
      obtain ⟨k171, ek171, hf⟩ := jn_s hf
      have hj171 : ∀ (s171_0 : UInt32) (h171j : hp), k171 s171_0 h171j = some (v0, hz) → AW E yX14_compared cX14_compared (Option.some Jvm.ClassFile.FieldType.int) 5 D (some (.int v0)) h hz 171 [(0, .ref a0), (2, .int a2)] [.float s171_0] h171j := by
        intro s171_0 h171j hf
        rw [ek171] at hf
        clear ek171
        refine a_fstore_n (lv1 := [(3, .float s171_0), (0, .ref a0), (2, .int a2)]) dX14_compared_171 rfl (by decide) rfl ?_
        refine a_aload_n (q := 1) dX14_compared_172 rfl rfl ?_
        obtain ⟨v13, e14, hf⟩ := obd hf
        refine o_gfR dX14_compared_173 lk_X14_11 rfl e14 ?_
        refine a_iload_n (q := 2) dX14_compared_176 rfl rfl ?_
        obtain ⟨v15, e16, hf⟩ := obd hf
        refine o_alI dX14_compared_177 e16 ?_
        refine a_iconst (v := 1) dX14_compared_178 (by decide) ?_
        obtain ⟨k198, ek198, hf⟩ := jn_s hf
        have hj198 : ∀ (s198_0 : UInt32) (h198j : hp), k198 s198_0 h198j = some (v0, hz) → AW E yX14_compared cX14_compared (Option.some Jvm.ClassFile.FieldType.int) 5 D (some (.int v0)) h hz 198 [(3, .float s171_0)] [.float s198_0] h198j := by
          intro s198_0 h198j hf
          rw [ek198] at hf
          clear ek198
          refine a_fstore (lv1 := [(4, .float s198_0), (3, .float s171_0)]) dX14_compared_198 (by decide) rfl ?_
          refine a_fload_n (q := 1) dX14_compared_200 rfl rfl ?_
          refine a_fload (q := 0) dX14_compared_201 rfl ?_
          refine a_fcmp dX14_compared_203 ?_
          refine a_if_ge (tgt := 211) dX14_compared_204 (by decide) (fun c => ?_) (fun c => ?_)
          · have hf := ifp c hf
            refine a_fload_n (q := 1) dX14_compared_211 rfl rfl ?_
            refine a_fload (q := 0) dX14_compared_212 rfl ?_
            refine a_fcmp dX14_compared_214 ?_
            refine a_if_le (tgt := 222) dX14_compared_215 (by decide) (fun c => ?_) (fun c => ?_)
            · have hf := ifp c hf
              refine a_iconst (v := 0) dX14_compared_222 (by decide) ?_
              obtain ⟨rfl, rfl⟩ := oc2 hf
              exact a_ireturn dX14_compared_223 rfl
            · have hf := ifn c hf
              refine a_iconst (v := 1) dX14_compared_218 (by decide) ?_
              refine a_goto (tgt := 223) dX14_compared_219 (by decide) ?_
              obtain ⟨rfl, rfl⟩ := oc2 hf
              exact a_ireturn dX14_compared_223 rfl
          · have hf := ifn c hf
            refine a_iconst (v := (-1)) dX14_compared_207 (by decide) ?_
            refine a_goto (tgt := 223) dX14_compared_208 (by decide) ?_
            obtain ⟨rfl, rfl⟩ := oc2 hf
            exact a_ireturn dX14_compared_223 rfl
        clear ek198
        refine a_icmp_ne (tgt := 192) dX14_compared_179 (by decide) (fun c => ?_) (fun c => ?_)
        · have hf := ifn c hf
          refine a_aload_n (q := 1) dX14_compared_192 rfl rfl ?_
          obtain ⟨v17, e18, hf⟩ := obd hf
          refine o_gfR dX14_compared_193 lk_X14_24 rfl e18 ?_
          refine a_iload_n (q := 2) dX14_compared_196 rfl rfl ?_
          obtain ⟨v19, e20, hf⟩ := obd hf
          refine o_alF dX14_compared_197 e20 ?_
          exact AW.sub [0] rfl (hj198 _ _ hf)
        · have hf := ifp c hf
          refine a_aload_n (q := 1) dX14_compared_182 rfl rfl ?_
          obtain ⟨v21, e22, hf⟩ := obd hf
          refine o_gfR dX14_compared_183 lk_X14_15 rfl e22 ?_
          refine a_iload_n (q := 2) dX14_compared_186 rfl rfl ?_
          obtain ⟨v23, e24, hf⟩ := obd hf
          refine o_alI dX14_compared_187 e24 ?_
          refine a_i2f dX14_compared_188 ?_
          refine a_goto (tgt := 198) dX14_compared_189 (by decide) ?_
          exact AW.sub [0] rfl (hj198 _ _ hf)
      clear ek171
      refine a_icmp_ne (tgt := 165) dX14_compared_152 (by decide) (fun c => ?_) (fun c => ?_)
      · have hf := ifn c hf
        refine a_aload_n (q := 0) dX14_compared_165 rfl rfl ?_
        obtain ⟨v25, e26, hf⟩ := obd hf
        refine o_gfR dX14_compared_166 lk_X14_24 rfl e26 ?_
        refine a_iload_n (q := 1) dX14_compared_169 rfl rfl ?_
        obtain ⟨v27, e28, hf⟩ := obd hf
        refine o_alF dX14_compared_170 e28 ?_
        exact AW.sub [0, 2] rfl (hj171 _ _ hf)
      · have hf := ifp c hf
        refine a_aload_n (q := 0) dX14_compared_155 rfl rfl ?_
        obtain ⟨v29, e30, hf⟩ := obd hf
        refine o_gfR dX14_compared_156 lk_X14_15 rfl e30 ?_
        refine a_iload_n (q := 1) dX14_compared_159 rfl rfl ?_
        obtain ⟨v31, e32, hf⟩ := obd hf
        refine o_alI dX14_compared_160 e32 ?_
        refine a_i2f dX14_compared_161 ?_
        refine a_goto (tgt := 171) dX14_compared_162 (by decide) ?_
        exact AW.sub [0, 2] rfl (hj171 _ _ hf)
    clear ek145
    refine a_icmp_ne (tgt := 145) dX14_compared_92 (by decide) (fun c => ?_) (fun c => ?_)
    · have hf := ifn c hf
      exact hj145 _ hf
    · have hf := ifp c hf
      refine a_aload_n (q := 0) dX14_compared_95 rfl rfl ?_
      obtain ⟨v33, e34, hf⟩ := obd hf
      refine o_gfR dX14_compared_96 lk_X14_11 rfl e34 ?_
      refine a_iload_n (q := 2) dX14_compared_99 rfl rfl ?_
      obtain ⟨v35, e36, hf⟩ := obd hf
      refine o_alI dX14_compared_100 e36 ?_
      refine a_iconst (v := 1) dX14_compared_101 (by decide) ?_
      refine a_icmp_ne (tgt := 145) dX14_compared_102 (by decide) (fun c => ?_) (fun c => ?_)
      · have hf := ifn c hf
        exact hj145 _ hf
      · have hf := ifp c hf
        refine a_aload_n (q := 0) dX14_compared_105 rfl rfl ?_
        obtain ⟨v37, e38, hf⟩ := obd hf
        refine o_gfR dX14_compared_106 lk_X14_15 rfl e38 ?_
        refine a_iload_n (q := 1) dX14_compared_109 rfl rfl ?_
        obtain ⟨v39, e40, hf⟩ := obd hf
        refine o_alI dX14_compared_110 e40 ?_
        refine a_aload_n (q := 0) dX14_compared_111 rfl rfl ?_
        obtain ⟨v41, e42, hf⟩ := obd hf
        refine o_gfR dX14_compared_112 lk_X14_15 rfl e42 ?_
        refine a_iload_n (q := 2) dX14_compared_115 rfl rfl ?_
        obtain ⟨v43, e44, hf⟩ := obd hf
        refine o_alI dX14_compared_116 e44 ?_
        refine a_icmp_ge (tgt := 124) dX14_compared_117 (by decide) (fun c => ?_) (fun c => ?_)
        · have hf := ifp c hf
          refine a_aload_n (q := 0) dX14_compared_124 rfl rfl ?_
          obtain ⟨v45, e46, hf⟩ := obd hf
          refine o_gfR dX14_compared_125 lk_X14_15 rfl e46 ?_
          refine a_iload_n (q := 1) dX14_compared_128 rfl rfl ?_
          obtain ⟨v47, e48, hf⟩ := obd hf
          refine o_alI dX14_compared_129 e48 ?_
          refine a_aload_n (q := 0) dX14_compared_130 rfl rfl ?_
          obtain ⟨v49, e50, hf⟩ := obd hf
          refine o_gfR dX14_compared_131 lk_X14_15 rfl e50 ?_
          refine a_iload_n (q := 2) dX14_compared_134 rfl rfl ?_
          obtain ⟨v51, e52, hf⟩ := obd hf
          refine o_alI dX14_compared_135 e52 ?_
          refine a_icmp_le (tgt := 143) dX14_compared_136 (by decide) (fun c => ?_) (fun c => ?_)
          · have hf := ifp c hf
            refine a_iconst (v := 0) dX14_compared_143 (by decide) ?_
            obtain ⟨rfl, rfl⟩ := oc2 hf
            exact a_ireturn dX14_compared_144 rfl
          · have hf := ifn c hf
            refine a_iconst (v := 1) dX14_compared_139 (by decide) ?_
            refine a_goto (tgt := 144) dX14_compared_140 (by decide) ?_
            obtain ⟨rfl, rfl⟩ := oc2 hf
            exact a_ireturn dX14_compared_144 rfl
        · have hf := ifn c hf
          refine a_iconst (v := (-1)) dX14_compared_120 (by decide) ?_
          refine a_goto (tgt := 144) dX14_compared_121 (by decide) ?_
          obtain ⟨rfl, rfl⟩ := oc2 hf
          exact a_ireturn dX14_compared_144 rfl
  · have hf := ifp c hf
    refine a_iconst (v := 0) dX14_compared_10 (by decide) ?_
    refine a_istore_n (lv1 := [(3, .int 0), (0, .ref a0), (1, .int a1), (2, .int a2)]) dX14_compared_11 rfl (by decide) rfl ?_
    obtain ⟨t56, v55, h54, e53, hf⟩ := ob3 hf
    refine AW.sub [1, 2, 3, 0] rfl (sX14_compared_l12 E D hD _ _ _ _ _ _ _ _ _ e53 (fun c => ?_) (fun c => ?_))
    · have hf := ifp c hf
      refine a_iload (q := 0) dX14_compared_62 rfl ?_
      obtain ⟨rfl, rfl⟩ := oc2 hf
      exact a_ireturn dX14_compared_64 rfl
    · have hf := ifn (by rw [c]; decide) hf
      have hf := ifp c hf
      refine a_aload_n (q := 0) dX14_compared_71 rfl rfl ?_
      obtain ⟨v57, e58, hf⟩ := obd hf
      refine o_gfR dX14_compared_72 lk_X14_18 rfl e58 ?_
      refine a_iload_n (q := 1) dX14_compared_75 rfl rfl ?_
      obtain ⟨v59, e60, hf⟩ := obd hf
      refine o_alI dX14_compared_76 e60 ?_
      refine a_aload_n (q := 0) dX14_compared_77 rfl rfl ?_
      obtain ⟨v61, e62, hf⟩ := obd hf
      refine o_gfR dX14_compared_78 lk_X14_18 rfl e62 ?_
      refine a_iload_n (q := 2) dX14_compared_81 rfl rfl ?_
      obtain ⟨v63, e64, hf⟩ := obd hf
      refine o_alI dX14_compared_82 e64 ?_
      refine a_isub dX14_compared_83 ?_
      obtain ⟨rfl, rfl⟩ := oc2 hf
      exact a_ireturn dX14_compared_84 rfl
def fX14_areComparable (a0 : Nat) (a1 : Int32) (a2 : Int32) (h : hp) : Option (Int32 × hp) :=
  (gfR h a0 13 0).bind fun v1 =>
  (alI h v1 a1).bind fun v3 =>
  jn (fun (s45_0 : Int32) (h45j : hp) => (
    if s45_0 = 0 then (
      (gfR h45j a0 13 0).bind fun v5 =>
      (alI h45j v5 a1).bind fun v7 =>
      if v7 = 3 then (
        (gfR h45j a0 13 0).bind fun v9 =>
        (alI h45j v9 a2).bind fun v11 =>
        if v11 = 3 then (
          some (1, h45j)
        ) else (
          some (0, h45j)
        )
      ) else (
        some (0, h45j)
      )
    ) else (
      some (1, h45j)
    )
    : Option (Int32 × hp))) fun k45 =>
  jn (fun (h44j : hp) => (
    k45 0 h44j
    : Option (Int32 × hp))) fun k44 =>
  jn (fun (h20j : hp) => (
    (gfR h20j a0 13 0).bind fun v13 =>
    (alI h20j v13 a2).bind fun v15 =>
    jn (fun (h40j : hp) => (
      k45 1 h40j
      : Option (Int32 × hp))) fun k40 =>
    if v15 = 1 then (
      k40 h20j
    ) else (
      (gfR h20j a0 13 0).bind fun v17 =>
      (alI h20j v17 a2).bind fun v19 =>
      if v19 = 2 then (
        k40 h20j
      ) else (
        k44 h20j
      )
    )
    : Option (Int32 × hp))) fun k20 =>
  if v3 = 1 then (
    k20 h
  ) else (
    (gfR h a0 13 0).bind fun v21 =>
    (alI h v21 a1).bind fun v23 =>
    if v23 = 2 then (
      k20 h
    ) else (
      k44 h
    )
  )
set_option maxHeartbeats 4000000 in
set_option maxRecDepth 100000 in
theorem sX14_areComparable (E : gE) (D : Nat) (hD : 0 ≤ D) {a0 : Nat} {a1 : Int32} {a2 : Int32} {h hz : hp} {v0 : Int32} (hf : fX14_areComparable a0 a1 a2 h = some (v0, hz)) : MC E yX14_areComparable cX14_areComparable (Option.some Jvm.ClassFile.FieldType.boolean) 4 D [.ref a0, .int a1, .int a2] h (some (.int v0)) hz := by
  refine MC.of (by decide +kernel) (Nat.le_of_ble_eq_true rfl) rfl ?_
  unfold fX14_areComparable at hf
  show AW E yX14_areComparable cX14_areComparable (Option.some Jvm.ClassFile.FieldType.boolean) 4 D (some (.int v0)) h hz 0 [(0, .ref a0), (1, .int a1), (2, .int a2)] [] h
  refine a_aload_n (q := 0) dX14_areComparable_0 rfl rfl ?_
  obtain ⟨v1, e2, hf⟩ := obd hf
  refine o_gfR dX14_areComparable_1 lk_X14_11 rfl e2 ?_
  refine a_iload_n (q := 1) dX14_areComparable_4 rfl rfl ?_
  obtain ⟨v3, e4, hf⟩ := obd hf
  refine o_alI dX14_areComparable_5 e4 ?_
  refine a_iconst (v := 1) dX14_areComparable_6 (by decide) ?_
  obtain ⟨k45, ek45, hf⟩ := jn_s hf
  have hj45 : ∀ (s45_0 : Int32) (h45j : hp), k45 s45_0 h45j = some (v0, hz) → AW E yX14_areComparable cX14_areComparable (Option.some Jvm.ClassFile.FieldType.boolean) 4 D (some (.int v0)) h hz 45 [(0, .ref a0), (1, .int a1), (2, .int a2)] [.int s45_0] h45j := by
    intro s45_0 h45j hf
    rw [ek45] at hf
    clear ek45
    refine a_istore_n (lv1 := [(3, .int s45_0), (0, .ref a0), (1, .int a1), (2, .int a2)]) dX14_areComparable_45 rfl (by decide) rfl ?_
    refine a_iload_n (q := 0) dX14_areComparable_46 rfl rfl ?_
    refine a_if_ne (tgt := 70) dX14_areComparable_47 (by decide) (fun c => ?_) (fun c => ?_)
    · have hf := ifn c hf
      refine a_iconst (v := 1) dX14_areComparable_70 (by decide) ?_
      refine a_goto (tgt := 75) dX14_areComparable_71 (by decide) ?_
      obtain ⟨rfl, rfl⟩ := oc2 hf
      exact a_zreturn dX14_areComparable_75 rfl (by decide)
    · have hf := ifp c hf
      refine a_aload_n (q := 1) dX14_areComparable_50 rfl rfl ?_
      obtain ⟨v5, e6, hf⟩ := obd hf
      refine o_gfR dX14_areComparable_51 lk_X14_11 rfl e6 ?_
      refine a_iload_n (q := 2) dX14_areComparable_54 rfl rfl ?_
      obtain ⟨v7, e8, hf⟩ := obd hf
      refine o_alI dX14_areComparable_55 e8 ?_
      refine a_iconst (v := 3) dX14_areComparable_56 (by decide) ?_
      refine a_icmp_ne (tgt := 74) dX14_areComparable_57 (by decide) (fun c => ?_) (fun c => ?_)
      · have hf := ifn c hf
        refine a_iconst (v := 0) dX14_areComparable_74 (by decide) ?_
        obtain ⟨rfl, rfl⟩ := oc2 hf
        exact a_zreturn dX14_areComparable_75 rfl (by decide)
      · have hf := ifp c hf
        refine a_aload_n (q := 1) dX14_areComparable_60 rfl rfl ?_
        obtain ⟨v9, e10, hf⟩ := obd hf
        refine o_gfR dX14_areComparable_61 lk_X14_11 rfl e10 ?_
        refine a_iload_n (q := 3) dX14_areComparable_64 rfl rfl ?_
        obtain ⟨v11, e12, hf⟩ := obd hf
        refine o_alI dX14_areComparable_65 e12 ?_
        refine a_iconst (v := 3) dX14_areComparable_66 (by decide) ?_
        refine a_icmp_ne (tgt := 74) dX14_areComparable_67 (by decide) (fun c => ?_) (fun c => ?_)
        · have hf := ifn c hf
          refine a_iconst (v := 0) dX14_areComparable_74 (by decide) ?_
          obtain ⟨rfl, rfl⟩ := oc2 hf
          exact a_zreturn dX14_areComparable_75 rfl (by decide)
        · have hf := ifp c hf
          refine a_iconst (v := 1) dX14_areComparable_70 (by decide) ?_
          refine a_goto (tgt := 75) dX14_areComparable_71 (by decide) ?_
          obtain ⟨rfl, rfl⟩ := oc2 hf
          exact a_zreturn dX14_areComparable_75 rfl (by decide)
  clear ek45
  obtain ⟨k44, ek44, hf⟩ := jn_s hf
  have hj44 : ∀ (h44j : hp), k44 h44j = some (v0, hz) → AW E yX14_areComparable cX14_areComparable (Option.some Jvm.ClassFile.FieldType.boolean) 4 D (some (.int v0)) h hz 44 [(0, .ref a0), (1, .int a1), (2, .int a2)] [] h44j := by
    intro h44j hf
    rw [ek44] at hf
    clear ek44
    refine a_iconst (v := 0) dX14_areComparable_44 (by decide) ?_
    exact hj45 _ _ hf
  clear ek44
  obtain ⟨k20, ek20, hf⟩ := jn_s hf
  have hj20 : ∀ (h20j : hp), k20 h20j = some (v0, hz) → AW E yX14_areComparable cX14_areComparable (Option.some Jvm.ClassFile.FieldType.boolean) 4 D (some (.int v0)) h hz 20 [(0, .ref a0), (1, .int a1), (2, .int a2)] [] h20j := by
    intro h20j hf
    rw [ek20] at hf
    clear ek20
    refine a_aload_n (q := 0) dX14_areComparable_20 rfl rfl ?_
    obtain ⟨v13, e14, hf⟩ := obd hf
    refine o_gfR dX14_areComparable_21 lk_X14_11 rfl e14 ?_
    refine a_iload_n (q := 2) dX14_areComparable_24 rfl rfl ?_
    obtain ⟨v15, e16, hf⟩ := obd hf
    refine o_alI dX14_areComparable_25 e16 ?_
    refine a_iconst (v := 1) dX14_areComparable_26 (by decide) ?_
    obtain ⟨k40, ek40, hf⟩ := jn_s hf
    have hj40 : ∀ (h40j : hp), k40 h40j = some (v0, hz) → AW E yX14_areComparable cX14_areComparable (Option.some Jvm.ClassFile.FieldType.boolean) 4 D (some (.int v0)) h hz 40 [(0, .ref a0), (1, .int a1), (2, .int a2)] [] h40j := by
      intro h40j hf
      rw [ek40] at hf
      clear ek40
      refine a_iconst (v := 1) dX14_areComparable_40 (by decide) ?_
      refine a_goto (tgt := 45) dX14_areComparable_41 (by decide) ?_
      exact hj45 _ _ hf
    clear ek40
    refine a_icmp_eq (tgt := 40) dX14_areComparable_27 (by decide) (fun c => ?_) (fun c => ?_)
    · have hf := ifp c hf
      exact hj40 _ hf
    · have hf := ifn c hf
      refine a_aload_n (q := 0) dX14_areComparable_30 rfl rfl ?_
      obtain ⟨v17, e18, hf⟩ := obd hf
      refine o_gfR dX14_areComparable_31 lk_X14_11 rfl e18 ?_
      refine a_iload_n (q := 2) dX14_areComparable_34 rfl rfl ?_
      obtain ⟨v19, e20, hf⟩ := obd hf
      refine o_alI dX14_areComparable_35 e20 ?_
      refine a_iconst (v := 2) dX14_areComparable_36 (by decide) ?_
      refine a_icmp_ne (tgt := 44) dX14_areComparable_37 (by decide) (fun c => ?_) (fun c => ?_)
      · have hf := ifn c hf
        exact hj44 _ hf
      · have hf := ifp c hf
        exact hj40 _ hf
  clear ek20
  refine a_icmp_eq (tgt := 20) dX14_areComparable_7 (by decide) (fun c => ?_) (fun c => ?_)
  · have hf := ifp c hf
    exact hj20 _ hf
  · have hf := ifn c hf
    refine a_aload_n (q := 0) dX14_areComparable_10 rfl rfl ?_
    obtain ⟨v21, e22, hf⟩ := obd hf
    refine o_gfR dX14_areComparable_11 lk_X14_11 rfl e22 ?_
    refine a_iload_n (q := 1) dX14_areComparable_14 rfl rfl ?_
    obtain ⟨v23, e24, hf⟩ := obd hf
    refine o_alI dX14_areComparable_15 e24 ?_
    refine a_iconst (v := 2) dX14_areComparable_16 (by decide) ?_
    refine a_icmp_ne (tgt := 44) dX14_areComparable_17 (by decide) (fun c => ?_) (fun c => ?_)
    · have hf := ifn c hf
      exact hj44 _ hf
    · have hf := ifp c hf
      exact hj20 _ hf
def fX14_condition (a0 : Nat) (a1 : Int32) (h : hp) : Option (Int32 × hp) :=
  (gfI h a0 13 17).bind fun v1 =>
  (ckT h a0 13).bind fun _ =>
  bd2 (fX14_byteAt a0 a1 v1 h) fun v4 h5 =>
  jn (fun (s19_0 : Int32) (h19j : hp) => (
    (gfI h19j a0 13 17).bind fun v7 =>
    jn (fun (s34_0 : Int32) (h34j : hp) => (
      (pfI h34j a0 13 17 (v7 + s34_0)).bind fun h9 =>
      (ckT h9 a0 13).bind fun _ =>
      bd2 (fX14_worksOut a0 a1 8 h9) fun v12 h13 =>
      if v12 = 0 then (
        (gfI h13 a0 13 17).bind fun v15 =>
        (ckT h13 a0 13).bind fun _ =>
        bd2 (fX14_byteAt a0 a1 v15 h13) fun v18 h19 =>
        (ckT h19 a0 13).bind fun _ =>
        bd2 (fX14_isTrue a0 8 h19) fun v22 h23 =>
        jn (fun (s79_0 : Int32) (h79j : hp) => (
          (pfZ h79j a0 13 18 s79_0).bind fun h25 =>
          jn (fun (h98j : hp) => (
            (gfI h98j a0 13 17).bind fun v27 =>
            (pfI h98j a0 13 17 (v27 + 1)).bind fun h29 =>
            (ckT h29 a0 13).bind fun _ =>
            bd2 (fX14_worksOut a0 a1 9 h29) fun v32 h33 =>
            if v32 = 0 then (
              (ckT h33 a0 13).bind fun _ =>
              bd2 (fX14_areComparable a0 8 9 h33) fun v36 h37 =>
              if v36 = 0 then (
                some (2, h37)
              ) else (
                (ckT h37 a0 13).bind fun _ =>
                bd2 (fX14_compared a0 8 9 h37) fun v40 h41 =>
                jn (fun (s176_0 : Int32) (h176j : hp) => (
                  (pfZ h176j a0 13 18 s176_0).bind fun h43 =>
                  some (0, h43)
                  : Option (Int32 × hp))) fun k176 =>
                if v18 = 60 then (
                  if 0 ≤ v40 then (
                    k176 0 h41
                  ) else (
                    k176 1 h41
                  )
                ) else (
                  if v40 = 0 then (
                    k176 1 h41
                  ) else (
                    k176 0 h41
                  )
                )
              )
            ) else (
              some (v32, h33)
            )
            : Option (Int32 × hp))) fun k98 =>
          if v18 = 60 then (
            k98 h25
          ) else (
            if v18 = 61 then (
              k98 h25
            ) else (
              some (0, h25)
            )
          )
          : Option (Int32 × hp))) fun k79 =>
        if v22 = s19_0 then (
          k79 0 h23
        ) else (
          k79 1 h23
        )
      ) else (
        some (v12, h13)
      )
      : Option (Int32 × hp))) fun k34 =>
    if s19_0 = 0 then (
      k34 0 h19j
    ) else (
      k34 1 h19j
    )
    : Option (Int32 × hp))) fun k19 =>
  if v4 = 33 then (
    k19 1 h5
  ) else (
    k19 0 h5
  )
set_option maxHeartbeats 4000000 in
set_option maxRecDepth 100000 in
theorem sX14_condition (E : gE) (D : Nat) (hD : 7 ≤ D) {a0 : Nat} {a1 : Int32} {h hz : hp} {v0 : Int32} (hf : fX14_condition a0 a1 h = some (v0, hz)) : MC E yX14_condition cX14_condition (Option.some Jvm.ClassFile.FieldType.int) 6 D [.ref a0, .int a1] h (some (.int v0)) hz := by
  refine MC.of (by decide +kernel) (Nat.le_of_ble_eq_true rfl) rfl ?_
  unfold fX14_condition at hf
  show AW E yX14_condition cX14_condition (Option.some Jvm.ClassFile.FieldType.int) 6 D (some (.int v0)) h hz 0 [(0, .ref a0), (1, .int a1)] [] h
  refine a_aload_n (q := 0) dX14_condition_0 rfl rfl ?_
  refine a_iload_n (q := 1) dX14_condition_1 rfl rfl ?_
  refine a_aload_n (q := 0) dX14_condition_2 rfl rfl ?_
  obtain ⟨v1, e2, hf⟩ := obd hf
  refine o_gfI dX14_condition_3 lk_X14_341 rfl e2 ?_
  obtain ⟨_, e6, hf⟩ := obd hf
  obtain ⟨v4, h5, e3, hf⟩ := ob2 hf
  refine a_callV (as := [.int a1, .int v1]) (np := 2) (ci := 13) (st := []) (sX14_byteAt E (D - 1) (by omega) e3) dX14_condition_6 rfl (by omega) (by decide) cw_X14_344 ⟨wd_1487, ws_93⟩ rfl (ckT_s e6) rfl (Nat.le_of_ble_eq_true rfl) ?_
  refine a_bipush (v := 33) dX14_condition_9 (by decide) ?_
  obtain ⟨k19, ek19, hf⟩ := jn_s hf
  have hj19 : ∀ (s19_0 : Int32) (h19j : hp), k19 s19_0 h19j = some (v0, hz) → AW E yX14_condition cX14_condition (Option.some Jvm.ClassFile.FieldType.int) 6 D (some (.int v0)) h hz 19 [(0, .ref a0), (1, .int a1)] [.int s19_0] h19j := by
    intro s19_0 h19j hf
    rw [ek19] at hf
    clear ek19
    refine a_istore_n (lv1 := [(2, .int s19_0), (0, .ref a0), (1, .int a1)]) dX14_condition_19 rfl (by decide) rfl ?_
    refine a_aload_n (q := 1) dX14_condition_20 rfl rfl ?_
    refine a_dup dX14_condition_21 rfl ?_
    obtain ⟨v7, e8, hf⟩ := obd hf
    refine o_gfI dX14_condition_22 lk_X14_341 rfl e8 ?_
    refine a_iload_n (q := 0) dX14_condition_25 rfl rfl ?_
    obtain ⟨k34, ek34, hf⟩ := jn_s hf
    have hj34 : ∀ (s34_0 : Int32) (h34j : hp), k34 s34_0 h34j = some (v0, hz) → AW E yX14_condition cX14_condition (Option.some Jvm.ClassFile.FieldType.int) 6 D (some (.int v0)) h hz 34 [(0, .ref a0), (1, .int a1), (2, .int s19_0)] [.int s34_0, .int v7, .ref a0] h34j := by
      intro s34_0 h34j hf
      rw [ek34] at hf
      clear ek34
      refine a_iadd dX14_condition_34 ?_
      obtain ⟨h9, e10, hf⟩ := obd hf
      refine o_pfI dX14_condition_35 lk_X14_341 (⟨_, rfl, Or.inl rfl⟩) rfl e10 ?_
      refine a_aload_n (q := 0) dX14_condition_38 rfl rfl ?_
      refine a_iload_n (q := 1) dX14_condition_39 rfl rfl ?_
      refine a_bipush (v := 8) dX14_condition_40 (by decide) ?_
      obtain ⟨_, e14, hf⟩ := obd hf
      obtain ⟨v12, h13, e11, hf⟩ := ob2 hf
      refine a_callV (as := [.int a1, .int 8]) (np := 2) (ci := 13) (st := []) (sX14_worksOut E (D - 1) (by omega) e11) dX14_condition_42 rfl (by omega) (by decide) cw_X14_362 ⟨wd_1503, ws_97⟩ rfl (ckT_s e14) rfl (Nat.le_of_ble_eq_true rfl) ?_
      refine a_istore_n (lv1 := [(3, .int v12), (0, .ref a0), (1, .int a1), (2, .int s19_0)]) dX14_condition_45 rfl (by decide) rfl ?_
      refine a_iload_n (q := 0) dX14_condition_46 rfl rfl ?_
      refine a_if_eq (tgt := 52) dX14_condition_47 (by decide) (fun c => ?_) (fun c => ?_)
      · have hf := ifp c hf
        refine a_aload_n (q := 1) dX14_condition_52 rfl rfl ?_
        refine a_iload_n (q := 2) dX14_condition_53 rfl rfl ?_
        refine a_aload_n (q := 1) dX14_condition_54 rfl rfl ?_
        obtain ⟨v15, e16, hf⟩ := obd hf
        refine o_gfI dX14_condition_55 lk_X14_341 rfl e16 ?_
        obtain ⟨_, e20, hf⟩ := obd hf
        obtain ⟨v18, h19, e17, hf⟩ := ob2 hf
        refine a_callV (as := [.int a1, .int v15]) (np := 2) (ci := 13) (st := []) (sX14_byteAt E (D - 1) (by omega) e17) dX14_condition_58 rfl (by omega) (by decide) cw_X14_344 ⟨wd_1487, ws_93⟩ rfl (ckT_s e20) rfl (Nat.le_of_ble_eq_true rfl) ?_
        refine a_istore (lv1 := [(4, .int v18), (3, .int v12), (0, .ref a0), (1, .int a1), (2, .int s19_0)]) dX14_condition_61 (by decide) rfl ?_
        refine a_aload_n (q := 2) dX14_condition_63 rfl rfl ?_
        refine a_aload_n (q := 2) dX14_condition_64 rfl rfl ?_
        refine a_bipush (v := 8) dX14_condition_65 (by decide) ?_
        obtain ⟨_, e24, hf⟩ := obd hf
        obtain ⟨v22, h23, e21, hf⟩ := ob2 hf
        refine a_callV (as := [.int 8]) (np := 1) (ci := 13) (st := [.ref a0]) (sX14_isTrue E (D - 1) (by omega) e21) dX14_condition_67 rfl (by omega) (by decide) cw_X14_365 ⟨wd_1602, ws_113⟩ rfl (ckT_s e24) rfl (Nat.le_of_ble_eq_true rfl) ?_
        refine a_iload_n (q := 4) dX14_condition_70 rfl rfl ?_
        obtain ⟨k79, ek79, hf⟩ := jn_s hf
        have hj79 : ∀ (s79_0 : Int32) (h79j : hp), k79 s79_0 h79j = some (v0, hz) → AW E yX14_condition cX14_condition (Option.some Jvm.ClassFile.FieldType.int) 6 D (some (.int v0)) h hz 79 [(0, .ref a0), (1, .int a1), (4, .int v18)] [.int s79_0, .ref a0] h79j := by
          intro s79_0 h79j hf
          rw [ek79] at hf
          clear ek79
          obtain ⟨h25, e26, hf⟩ := obd hf
          refine o_pfZ dX14_condition_79 lk_X14_368 (⟨_, rfl, Or.inl rfl⟩) rfl e26 ?_
          refine a_iload (q := 2) dX14_condition_82 rfl ?_
          refine a_bipush (v := 60) dX14_condition_84 (by decide) ?_
          obtain ⟨k98, ek98, hf⟩ := jn_s hf
          have hj98 : ∀ (h98j : hp), k98 h98j = some (v0, hz) → AW E yX14_condition cX14_condition (Option.some Jvm.ClassFile.FieldType.int) 6 D (some (.int v0)) h hz 98 [(0, .ref a0), (1, .int a1), (4, .int v18)] [] h98j := by
            intro h98j hf
            rw [ek98] at hf
            clear ek98
            refine a_aload_n (q := 0) dX14_condition_98 rfl rfl ?_
            refine a_dup dX14_condition_99 rfl ?_
            obtain ⟨v27, e28, hf⟩ := obd hf
            refine o_gfI dX14_condition_100 lk_X14_341 rfl e28 ?_
            refine a_iconst (v := 1) dX14_condition_103 (by decide) ?_
            refine a_iadd dX14_condition_104 ?_
            obtain ⟨h29, e30, hf⟩ := obd hf
            refine o_pfI dX14_condition_105 lk_X14_341 (⟨_, rfl, Or.inl rfl⟩) rfl e30 ?_
            refine a_aload_n (q := 0) dX14_condition_108 rfl rfl ?_
            refine a_iload_n (q := 1) dX14_condition_109 rfl rfl ?_
            refine a_bipush (v := 9) dX14_condition_110 (by decide) ?_
            obtain ⟨_, e34, hf⟩ := obd hf
            obtain ⟨v32, h33, e31, hf⟩ := ob2 hf
            refine a_callV (as := [.int a1, .int 9]) (np := 2) (ci := 13) (st := []) (sX14_worksOut E (D - 1) (by omega) e31) dX14_condition_112 rfl (by omega) (by decide) cw_X14_362 ⟨wd_1503, ws_97⟩ rfl (ckT_s e34) rfl (Nat.le_of_ble_eq_true rfl) ?_
            refine a_istore_n (lv1 := [(3, .int v32), (0, .ref a0), (1, .int a1), (4, .int v18)]) dX14_condition_115 rfl (by decide) rfl ?_
            refine a_iload_n (q := 0) dX14_condition_116 rfl rfl ?_
            refine a_if_eq (tgt := 122) dX14_condition_117 (by decide) (fun c => ?_) (fun c => ?_)
            · have hf := ifp c hf
              refine a_aload_n (q := 1) dX14_condition_122 rfl rfl ?_
              refine a_bipush (v := 8) dX14_condition_123 (by decide) ?_
              refine a_bipush (v := 9) dX14_condition_125 (by decide) ?_
              obtain ⟨_, e38, hf⟩ := obd hf
              obtain ⟨v36, h37, e35, hf⟩ := ob2 hf
              refine a_callV (as := [.int 8, .int 9]) (np := 2) (ci := 13) (st := []) (sX14_areComparable E (D - 1) (by omega) e35) dX14_condition_127 rfl (by omega) (by decide) cw_X14_372 ⟨wd_1606, ws_114⟩ rfl (ckT_s e38) rfl (Nat.le_of_ble_eq_true rfl) ?_
              refine a_if_ne (tgt := 135) dX14_condition_130 (by decide) (fun c => ?_) (fun c => ?_)
              · have hf := ifn c hf
                refine a_aload_n (q := 1) dX14_condition_135 rfl rfl ?_
                refine a_bipush (v := 8) dX14_condition_136 (by decide) ?_
                refine a_bipush (v := 9) dX14_condition_138 (by decide) ?_
                obtain ⟨_, e42, hf⟩ := obd hf
                obtain ⟨v40, h41, e39, hf⟩ := ob2 hf
                refine a_callV (as := [.int 8, .int 9]) (np := 2) (ci := 13) (st := []) (sX14_compared E (D - 1) (by omega) e39) dX14_condition_140 rfl (by omega) (by decide) cw_X14_375 ⟨wd_1610, ws_115⟩ rfl (ckT_s e42) rfl (Nat.le_of_ble_eq_true rfl) ?_
                refine a_istore (lv1 := [(5, .int v40), (3, .int v32), (0, .ref a0), (1, .int a1), (4, .int v18)]) dX14_condition_143 (by decide) rfl ?_
                refine a_aload_n (q := 2) dX14_condition_145 rfl rfl ?_
                refine a_iload (q := 4) dX14_condition_146 rfl ?_
                refine a_bipush (v := 60) dX14_condition_148 (by decide) ?_
                obtain ⟨k176, ek176, hf⟩ := jn_s hf
                have hj176 : ∀ (s176_0 : Int32) (h176j : hp), k176 s176_0 h176j = some (v0, hz) → AW E yX14_condition cX14_condition (Option.some Jvm.ClassFile.FieldType.int) 6 D (some (.int v0)) h hz 176 [] [.int s176_0, .ref a0] h176j := by
                  intro s176_0 h176j hf
                  rw [ek176] at hf
                  clear ek176
                  obtain ⟨h43, e44, hf⟩ := obd hf
                  refine o_pfZ dX14_condition_176 lk_X14_368 (⟨_, rfl, Or.inl rfl⟩) rfl e44 ?_
                  refine a_iconst (v := 0) dX14_condition_179 (by decide) ?_
                  obtain ⟨rfl, rfl⟩ := oc2 hf
                  exact a_ireturn dX14_condition_180 rfl
                clear ek176
                refine a_icmp_ne (tgt := 166) dX14_condition_150 (by decide) (fun c => ?_) (fun c => ?_)
                · have hf := ifn c hf
                  refine a_iload (q := 0) dX14_condition_166 rfl ?_
                  refine a_if_ne (tgt := 175) dX14_condition_168 (by decide) (fun c => ?_) (fun c => ?_)
                  · have hf := ifn c hf
                    refine a_iconst (v := 0) dX14_condition_175 (by decide) ?_
                    exact AW.sub [] rfl (hj176 _ _ hf)
                  · have hf := ifp c hf
                    refine a_iconst (v := 1) dX14_condition_171 (by decide) ?_
                    refine a_goto (tgt := 176) dX14_condition_172 (by decide) ?_
                    exact AW.sub [] rfl (hj176 _ _ hf)
                · have hf := ifp c hf
                  refine a_iload (q := 0) dX14_condition_153 rfl ?_
                  refine a_if_ge (tgt := 162) dX14_condition_155 (by decide) (fun c => ?_) (fun c => ?_)
                  · have hf := ifp c hf
                    refine a_iconst (v := 0) dX14_condition_162 (by decide) ?_
                    refine a_goto (tgt := 176) dX14_condition_163 (by decide) ?_
                    exact AW.sub [] rfl (hj176 _ _ hf)
                  · have hf := ifn c hf
                    refine a_iconst (v := 1) dX14_condition_158 (by decide) ?_
                    refine a_goto (tgt := 176) dX14_condition_159 (by decide) ?_
                    exact AW.sub [] rfl (hj176 _ _ hf)
              · have hf := ifp c hf
                refine a_iconst (v := 2) dX14_condition_133 (by decide) ?_
                obtain ⟨rfl, rfl⟩ := oc2 hf
                exact a_ireturn dX14_condition_134 rfl
            · have hf := ifn c hf
              refine a_iload_n (q := 0) dX14_condition_120 rfl rfl ?_
              obtain ⟨rfl, rfl⟩ := oc2 hf
              exact a_ireturn dX14_condition_121 rfl
          clear ek98
          refine a_icmp_eq (tgt := 98) dX14_condition_86 (by decide) (fun c => ?_) (fun c => ?_)
          · have hf := ifp c hf
            exact hj98 _ hf
          · have hf := ifn c hf
            refine a_iload (q := 2) dX14_condition_89 rfl ?_
            refine a_bipush (v := 61) dX14_condition_91 (by decide) ?_
            refine a_icmp_eq (tgt := 98) dX14_condition_93 (by decide) (fun c => ?_) (fun c => ?_)
            · have hf := ifp c hf
              exact hj98 _ hf
            · have hf := ifn c hf
              refine a_iconst (v := 0) dX14_condition_96 (by decide) ?_
              obtain ⟨rfl, rfl⟩ := oc2 hf
              exact a_ireturn dX14_condition_97 rfl
        clear ek79
        refine a_icmp_eq (tgt := 78) dX14_condition_71 (by decide) (fun c => ?_) (fun c => ?_)
        · have hf := ifp c hf
          refine a_iconst (v := 0) dX14_condition_78 (by decide) ?_
          exact AW.sub [2, 3, 0] rfl (hj79 _ _ hf)
        · have hf := ifn c hf
          refine a_iconst (v := 1) dX14_condition_74 (by decide) ?_
          refine a_goto (tgt := 79) dX14_condition_75 (by decide) ?_
          exact AW.sub [2, 3, 0] rfl (hj79 _ _ hf)
      · have hf := ifn c hf
        refine a_iload_n (q := 0) dX14_condition_50 rfl rfl ?_
        obtain ⟨rfl, rfl⟩ := oc2 hf
        exact a_ireturn dX14_condition_51 rfl
    clear ek34
    refine a_if_eq (tgt := 33) dX14_condition_26 (by decide) (fun c => ?_) (fun c => ?_)
    · have hf := ifp c hf
      refine a_iconst (v := 0) dX14_condition_33 (by decide) ?_
      exact AW.sub [1, 2, 0] rfl (hj34 _ _ hf)
    · have hf := ifn c hf
      refine a_iconst (v := 1) dX14_condition_29 (by decide) ?_
      refine a_goto (tgt := 34) dX14_condition_30 (by decide) ?_
      exact AW.sub [1, 2, 0] rfl (hj34 _ _ hf)
  clear ek19
  refine a_icmp_ne (tgt := 18) dX14_condition_11 (by decide) (fun c => ?_) (fun c => ?_)
  · have hf := ifn c hf
    refine a_iconst (v := 0) dX14_condition_18 (by decide) ?_
    exact hj19 _ _ hf
  · have hf := ifp c hf
    refine a_iconst (v := 1) dX14_condition_14 (by decide) ?_
    refine a_goto (tgt := 19) dX14_condition_15 (by decide) ?_
    exact hj19 _ _ hf
def fX14_isRoom (a0 : Nat) (h : hp) : Option (Int32 × hp) :=
  (gfI h a0 13 22).bind fun v1 =>
  (gfI h a0 13 24).bind fun v3 =>
  if v3 ≤ v1 then (
    some (0, h)
  ) else (
    some (1, h)
  )
set_option maxHeartbeats 4000000 in
set_option maxRecDepth 100000 in
theorem sX14_isRoom (E : gE) (D : Nat) (hD : 0 ≤ D) {a0 : Nat} {h hz : hp} {v0 : Int32} (hf : fX14_isRoom a0 h = some (v0, hz)) : MC E yX14_isRoom cX14_isRoom (Option.some Jvm.ClassFile.FieldType.boolean) 1 D [.ref a0] h (some (.int v0)) hz := by
  refine MC.of (by decide +kernel) (Nat.le_of_ble_eq_true rfl) rfl ?_
  unfold fX14_isRoom at hf
  show AW E yX14_isRoom cX14_isRoom (Option.some Jvm.ClassFile.FieldType.boolean) 1 D (some (.int v0)) h hz 0 [(0, .ref a0)] [] h
  refine a_aload_n (q := 0) dX14_isRoom_0 rfl rfl ?_
  obtain ⟨v1, e2, hf⟩ := obd hf
  refine o_gfI dX14_isRoom_1 lk_X14_378 rfl e2 ?_
  refine a_aload_n (q := 0) dX14_isRoom_4 rfl rfl ?_
  obtain ⟨v3, e4, hf⟩ := obd hf
  refine o_gfI dX14_isRoom_5 lk_X14_49 rfl e4 ?_
  refine a_icmp_ge (tgt := 15) dX14_isRoom_8 (by decide) (fun c => ?_) (fun c => ?_)
  · have hf := ifp c hf
    refine a_iconst (v := 0) dX14_isRoom_15 (by decide) ?_
    obtain ⟨rfl, rfl⟩ := oc2 hf
    exact a_zreturn dX14_isRoom_16 rfl (by decide)
  · have hf := ifn c hf
    refine a_iconst (v := 1) dX14_isRoom_11 (by decide) ?_
    refine a_goto (tgt := 16) dX14_isRoom_12 (by decide) ?_
    obtain ⟨rfl, rfl⟩ := oc2 hf
    exact a_zreturn dX14_isRoom_16 rfl (by decide)
def fX14_puts (a0 : Nat) (a1 : Int32) (h : hp) : Option (Int32 × hp) :=
  (ckT h a0 13).bind fun _ =>
  bd2 (fX14_isRoom a0 h) fun v2 h3 =>
  if v2 = 0 then (
    some (0, h3)
  ) else (
    (gfR h3 a0 13 20).bind fun v5 =>
    (gfI h3 a0 13 22).bind fun v7 =>
    (asI h3 v5 v7 a1).bind fun h9 =>
    (gfI h9 a0 13 22).bind fun v11 =>
    (pfI h9 a0 13 22 (v11 + 1)).bind fun h13 =>
    some (1, h13)
  )
set_option maxHeartbeats 4000000 in
set_option maxRecDepth 100000 in
theorem sX14_puts (E : gE) (D : Nat) (hD : 1 ≤ D) {a0 : Nat} {a1 : Int32} {h hz : hp} {v0 : Int32} (hf : fX14_puts a0 a1 h = some (v0, hz)) : MC E yX14_puts cX14_puts (Option.some Jvm.ClassFile.FieldType.boolean) 2 D [.ref a0, .int a1] h (some (.int v0)) hz := by
  refine MC.of (by decide +kernel) (Nat.le_of_ble_eq_true rfl) rfl ?_
  unfold fX14_puts at hf
  show AW E yX14_puts cX14_puts (Option.some Jvm.ClassFile.FieldType.boolean) 2 D (some (.int v0)) h hz 0 [(0, .ref a0), (1, .int a1)] [] h
  refine a_aload_n (q := 0) dX14_puts_0 rfl rfl ?_
  obtain ⟨_, e4, hf⟩ := obd hf
  obtain ⟨v2, h3, e1, hf⟩ := ob2 hf
  refine a_callV (as := []) (np := 0) (ci := 13) (st := []) (sX14_isRoom E (D - 1) (by omega) e1) dX14_puts_1 rfl (by omega) (by decide) cw_X14_381 ⟨wd_1692, ws_134⟩ rfl (ckT_s e4) rfl (Nat.le_of_ble_eq_true rfl) ?_
  refine a_if_ne (tgt := 9) dX14_puts_4 (by decide) (fun c => ?_) (fun c => ?_)
  · have hf := ifn c hf
    refine a_aload_n (q := 0) dX14_puts_9 rfl rfl ?_
    obtain ⟨v5, e6, hf⟩ := obd hf
    refine o_gfR dX14_puts_10 lk_X14_46 rfl e6 ?_
    refine a_aload_n (q := 0) dX14_puts_13 rfl rfl ?_
    obtain ⟨v7, e8, hf⟩ := obd hf
    refine o_gfI dX14_puts_14 lk_X14_378 rfl e8 ?_
    refine a_iload_n (q := 1) dX14_puts_17 rfl rfl ?_
    obtain ⟨h9, e10, hf⟩ := obd hf
    refine o_asI dX14_puts_18 e10 ?_
    refine a_aload_n (q := 0) dX14_puts_19 rfl rfl ?_
    refine a_dup dX14_puts_20 rfl ?_
    obtain ⟨v11, e12, hf⟩ := obd hf
    refine o_gfI dX14_puts_21 lk_X14_378 rfl e12 ?_
    refine a_iconst (v := 1) dX14_puts_24 (by decide) ?_
    refine a_iadd dX14_puts_25 ?_
    obtain ⟨h13, e14, hf⟩ := obd hf
    refine o_pfI dX14_puts_26 lk_X14_378 (⟨_, rfl, Or.inl rfl⟩) rfl e14 ?_
    refine a_iconst (v := 1) dX14_puts_29 (by decide) ?_
    obtain ⟨rfl, rfl⟩ := oc2 hf
    exact a_zreturn dX14_puts_30 rfl (by decide)
  · have hf := ifp c hf
    refine a_iconst (v := 0) dX14_puts_7 (by decide) ?_
    obtain ⟨rfl, rfl⟩ := oc2 hf
    exact a_zreturn dX14_puts_8 rfl (by decide)
def fX14_goesOnBy (a0 : Nat) (a1 : Int32) (h : hp) : Option hp :=
  (gfI h a0 13 23).bind fun v1 =>
  if v1 = 0 then (
    jn (fun (s29_0 : Int32) (h29j : hp) => (
      (pfI h29j a0 13 23 s29_0).bind fun h13 =>
      some h13
      : Option hp)) fun k29 =>
    if a1 = 60 then (
      k29 1 h
    ) else (
      if a1 = 96 then (
        k29 3 h
      ) else (
        k29 0 h
      )
    )
  ) else (
    (gfI h a0 13 23).bind fun v3 =>
    if v3 = 1 then (
      jn (fun (s65_0 : Int32) (h65j : hp) => (
        (pfI h65j a0 13 23 s65_0).bind fun h11 =>
        some h11
        : Option hp)) fun k65 =>
      if a1 = 62 then (
        k65 0 h
      ) else (
        if a1 = 34 then (
          k65 2 h
        ) else (
          k65 1 h
        )
      )
    ) else (
      (gfI h a0 13 23).bind fun v5 =>
      if v5 = 2 then (
        jn (fun (s91_0 : Int32) (h91j : hp) => (
          (pfI h91j a0 13 23 s91_0).bind fun h9 =>
          some h9
          : Option hp)) fun k91 =>
        if a1 = 34 then (
          k91 1 h
        ) else (
          k91 2 h
        )
      ) else (
        jn (fun (s109_0 : Int32) (h109j : hp) => (
          (pfI h109j a0 13 23 s109_0).bind fun h7 =>
          some h7
          : Option hp)) fun k109 =>
        if a1 = 96 then (
          k109 0 h
        ) else (
          k109 3 h
        )
      )
    )
  )
set_option maxHeartbeats 4000000 in
set_option maxRecDepth 100000 in
theorem sX14_goesOnBy (E : gE) (D : Nat) (hD : 0 ≤ D) {a0 : Nat} {a1 : Int32} {h hz : hp} (hf : fX14_goesOnBy a0 a1 h = some hz) : MC E yX14_goesOnBy cX14_goesOnBy (Option.none : Option Jvm.ClassFile.FieldType) 2 D [.ref a0, .int a1] h none hz := by
  refine MC.of (by decide +kernel) (Nat.le_of_ble_eq_true rfl) rfl ?_
  unfold fX14_goesOnBy at hf
  show AW E yX14_goesOnBy cX14_goesOnBy (Option.none : Option Jvm.ClassFile.FieldType) 2 D none h hz 0 [(0, .ref a0), (1, .int a1)] [] h
  refine a_aload_n (q := 0) dX14_goesOnBy_0 rfl rfl ?_
  obtain ⟨v1, e2, hf⟩ := obd hf
  refine o_gfI dX14_goesOnBy_1 lk_X14_384 rfl e2 ?_
  refine a_if_ne (tgt := 35) dX14_goesOnBy_4 (by decide) (fun c => ?_) (fun c => ?_)
  · have hf := ifn c hf
    refine a_aload_n (q := 0) dX14_goesOnBy_35 rfl rfl ?_
    obtain ⟨v3, e4, hf⟩ := obd hf
    refine o_gfI dX14_goesOnBy_36 lk_X14_384 rfl e4 ?_
    refine a_iconst (v := 1) dX14_goesOnBy_39 (by decide) ?_
    refine a_icmp_ne (tgt := 71) dX14_goesOnBy_40 (by decide) (fun c => ?_) (fun c => ?_)
    · have hf := ifn c hf
      refine a_aload_n (q := 0) dX14_goesOnBy_71 rfl rfl ?_
      obtain ⟨v5, e6, hf⟩ := obd hf
      refine o_gfI dX14_goesOnBy_72 lk_X14_384 rfl e6 ?_
      refine a_iconst (v := 2) dX14_goesOnBy_75 (by decide) ?_
      refine a_icmp_ne (tgt := 97) dX14_goesOnBy_76 (by decide) (fun c => ?_) (fun c => ?_)
      · have hf := ifn c hf
        refine a_aload_n (q := 0) dX14_goesOnBy_97 rfl rfl ?_
        refine a_iload_n (q := 1) dX14_goesOnBy_98 rfl rfl ?_
        refine a_bipush (v := 96) dX14_goesOnBy_99 (by decide) ?_
        obtain ⟨k109, ek109, hf⟩ := jn_s hf
        have hj109 : ∀ (s109_0 : Int32) (h109j : hp), k109 s109_0 h109j = some hz → AW E yX14_goesOnBy cX14_goesOnBy (Option.none : Option Jvm.ClassFile.FieldType) 2 D none h hz 109 [] [.int s109_0, .ref a0] h109j := by
          intro s109_0 h109j hf
          rw [ek109] at hf
          clear ek109
          obtain ⟨h7, e8, hf⟩ := obd hf
          refine o_pfI dX14_goesOnBy_109 lk_X14_384 (⟨_, rfl, Or.inl rfl⟩) rfl e8 ?_
          obtain rfl := Option.some.inj hf
          exact a_return dX14_goesOnBy_112 rfl
        clear ek109
        refine a_icmp_ne (tgt := 108) dX14_goesOnBy_101 (by decide) (fun c => ?_) (fun c => ?_)
        · have hf := ifn c hf
          refine a_iconst (v := 3) dX14_goesOnBy_108 (by decide) ?_
          exact AW.sub [] rfl (hj109 _ _ hf)
        · have hf := ifp c hf
          refine a_iconst (v := 0) dX14_goesOnBy_104 (by decide) ?_
          refine a_goto (tgt := 109) dX14_goesOnBy_105 (by decide) ?_
          exact AW.sub [] rfl (hj109 _ _ hf)
      · have hf := ifp c hf
        refine a_aload_n (q := 0) dX14_goesOnBy_79 rfl rfl ?_
        refine a_iload_n (q := 1) dX14_goesOnBy_80 rfl rfl ?_
        refine a_bipush (v := 34) dX14_goesOnBy_81 (by decide) ?_
        obtain ⟨k91, ek91, hf⟩ := jn_s hf
        have hj91 : ∀ (s91_0 : Int32) (h91j : hp), k91 s91_0 h91j = some hz → AW E yX14_goesOnBy cX14_goesOnBy (Option.none : Option Jvm.ClassFile.FieldType) 2 D none h hz 91 [] [.int s91_0, .ref a0] h91j := by
          intro s91_0 h91j hf
          rw [ek91] at hf
          clear ek91
          obtain ⟨h9, e10, hf⟩ := obd hf
          refine o_pfI dX14_goesOnBy_91 lk_X14_384 (⟨_, rfl, Or.inl rfl⟩) rfl e10 ?_
          refine a_goto (tgt := 112) dX14_goesOnBy_94 (by decide) ?_
          obtain rfl := Option.some.inj hf
          exact a_return dX14_goesOnBy_112 rfl
        clear ek91
        refine a_icmp_ne (tgt := 90) dX14_goesOnBy_83 (by decide) (fun c => ?_) (fun c => ?_)
        · have hf := ifn c hf
          refine a_iconst (v := 2) dX14_goesOnBy_90 (by decide) ?_
          exact AW.sub [] rfl (hj91 _ _ hf)
        · have hf := ifp c hf
          refine a_iconst (v := 1) dX14_goesOnBy_86 (by decide) ?_
          refine a_goto (tgt := 91) dX14_goesOnBy_87 (by decide) ?_
          exact AW.sub [] rfl (hj91 _ _ hf)
    · have hf := ifp c hf
      refine a_aload_n (q := 0) dX14_goesOnBy_43 rfl rfl ?_
      refine a_iload_n (q := 1) dX14_goesOnBy_44 rfl rfl ?_
      refine a_bipush (v := 62) dX14_goesOnBy_45 (by decide) ?_
      obtain ⟨k65, ek65, hf⟩ := jn_s hf
      have hj65 : ∀ (s65_0 : Int32) (h65j : hp), k65 s65_0 h65j = some hz → AW E yX14_goesOnBy cX14_goesOnBy (Option.none : Option Jvm.ClassFile.FieldType) 2 D none h hz 65 [] [.int s65_0, .ref a0] h65j := by
        intro s65_0 h65j hf
        rw [ek65] at hf
        clear ek65
        obtain ⟨h11, e12, hf⟩ := obd hf
        refine o_pfI dX14_goesOnBy_65 lk_X14_384 (⟨_, rfl, Or.inl rfl⟩) rfl e12 ?_
        refine a_goto (tgt := 112) dX14_goesOnBy_68 (by decide) ?_
        obtain rfl := Option.some.inj hf
        exact a_return dX14_goesOnBy_112 rfl
      clear ek65
      refine a_icmp_ne (tgt := 54) dX14_goesOnBy_47 (by decide) (fun c => ?_) (fun c => ?_)
      · have hf := ifn c hf
        refine a_iload_n (q := 1) dX14_goesOnBy_54 rfl rfl ?_
        refine a_bipush (v := 34) dX14_goesOnBy_55 (by decide) ?_
        refine a_icmp_ne (tgt := 64) dX14_goesOnBy_57 (by decide) (fun c => ?_) (fun c => ?_)
        · have hf := ifn c hf
          refine a_iconst (v := 1) dX14_goesOnBy_64 (by decide) ?_
          exact AW.sub [] rfl (hj65 _ _ hf)
        · have hf := ifp c hf
          refine a_iconst (v := 2) dX14_goesOnBy_60 (by decide) ?_
          refine a_goto (tgt := 65) dX14_goesOnBy_61 (by decide) ?_
          exact AW.sub [] rfl (hj65 _ _ hf)
      · have hf := ifp c hf
        refine a_iconst (v := 0) dX14_goesOnBy_50 (by decide) ?_
        refine a_goto (tgt := 65) dX14_goesOnBy_51 (by decide) ?_
        exact AW.sub [] rfl (hj65 _ _ hf)
  · have hf := ifp c hf
    refine a_aload_n (q := 0) dX14_goesOnBy_7 rfl rfl ?_
    refine a_iload_n (q := 1) dX14_goesOnBy_8 rfl rfl ?_
    refine a_bipush (v := 60) dX14_goesOnBy_9 (by decide) ?_
    obtain ⟨k29, ek29, hf⟩ := jn_s hf
    have hj29 : ∀ (s29_0 : Int32) (h29j : hp), k29 s29_0 h29j = some hz → AW E yX14_goesOnBy cX14_goesOnBy (Option.none : Option Jvm.ClassFile.FieldType) 2 D none h hz 29 [] [.int s29_0, .ref a0] h29j := by
      intro s29_0 h29j hf
      rw [ek29] at hf
      clear ek29
      obtain ⟨h13, e14, hf⟩ := obd hf
      refine o_pfI dX14_goesOnBy_29 lk_X14_384 (⟨_, rfl, Or.inl rfl⟩) rfl e14 ?_
      refine a_goto (tgt := 112) dX14_goesOnBy_32 (by decide) ?_
      obtain rfl := Option.some.inj hf
      exact a_return dX14_goesOnBy_112 rfl
    clear ek29
    refine a_icmp_ne (tgt := 18) dX14_goesOnBy_11 (by decide) (fun c => ?_) (fun c => ?_)
    · have hf := ifn c hf
      refine a_iload_n (q := 1) dX14_goesOnBy_18 rfl rfl ?_
      refine a_bipush (v := 96) dX14_goesOnBy_19 (by decide) ?_
      refine a_icmp_ne (tgt := 28) dX14_goesOnBy_21 (by decide) (fun c => ?_) (fun c => ?_)
      · have hf := ifn c hf
        refine a_iconst (v := 0) dX14_goesOnBy_28 (by decide) ?_
        exact AW.sub [] rfl (hj29 _ _ hf)
      · have hf := ifp c hf
        refine a_iconst (v := 3) dX14_goesOnBy_24 (by decide) ?_
        refine a_goto (tgt := 29) dX14_goesOnBy_25 (by decide) ?_
        exact AW.sub [] rfl (hj29 _ _ hf)
    · have hf := ifp c hf
      refine a_iconst (v := 1) dX14_goesOnBy_14 (by decide) ?_
      refine a_goto (tgt := 29) dX14_goesOnBy_15 (by decide) ?_
      exact AW.sub [] rfl (hj29 _ _ hf)
def fX14_isLetterOrFigure (a0 : Int32) (h : hp) : Option (Int32 × hp) :=
  bd2 (fX14_isIn (a0.toInt64) 48 57 h) fun v2 h3 =>
  if v2 = 0 then (
    bd2 (fX14_isIn (a0.toInt64) 97 122 h3) fun v5 h6 =>
    if v5 = 0 then (
      bd2 (fX14_isIn (a0.toInt64) 65 90 h6) fun v8 h9 =>
      if v8 = 0 then (
        some (0, h9)
      ) else (
        some (1, h9)
      )
    ) else (
      some (1, h6)
    )
  ) else (
    some (1, h3)
  )
set_option maxHeartbeats 4000000 in
set_option maxRecDepth 100000 in
theorem sX14_isLetterOrFigure (E : gE) (D : Nat) (hD : 1 ≤ D) {a0 : Int32} {h hz : hp} {v0 : Int32} (hf : fX14_isLetterOrFigure a0 h = some (v0, hz)) : MC E yX14_isLetterOrFigure cX14_isLetterOrFigure (Option.some Jvm.ClassFile.FieldType.boolean) 1 D [.int a0] h (some (.int v0)) hz := by
  refine MC.of (by decide +kernel) (Nat.le_of_ble_eq_true rfl) rfl ?_
  unfold fX14_isLetterOrFigure at hf
  show AW E yX14_isLetterOrFigure cX14_isLetterOrFigure (Option.some Jvm.ClassFile.FieldType.boolean) 1 D (some (.int v0)) h hz 0 [(0, .int a0)] [] h
  refine a_iload_n (q := 0) dX14_isLetterOrFigure_0 rfl rfl ?_
  refine a_i2l dX14_isLetterOrFigure_1 rfl ?_
  refine a_ldc2 (v := 48) dX14_isLetterOrFigure_2 wd_1385 ?_
  refine a_ldc2 (v := 57) dX14_isLetterOrFigure_5 wd_1386 ?_
  obtain ⟨v2, h3, e1, hf⟩ := ob2 hf
  refine a_callS (as := [.long (a0.toInt64), .long 48, .long 57]) (np := 3) (st := []) (sX14_isIn E (D - 1) (by omega) e1) dX14_isLetterOrFigure_8 rfl (by omega) (by decide) cw_X14_155 wd_1324 rfl (Nat.le_of_ble_eq_true rfl) ?_
  refine a_if_ne (tgt := 42) dX14_isLetterOrFigure_11 (by decide) (fun c => ?_) (fun c => ?_)
  · have hf := ifn c hf
    refine a_iconst (v := 1) dX14_isLetterOrFigure_42 (by decide) ?_
    refine a_goto (tgt := 47) dX14_isLetterOrFigure_43 (by decide) ?_
    obtain ⟨rfl, rfl⟩ := oc2 hf
    exact a_zreturn dX14_isLetterOrFigure_47 rfl (by decide)
  · have hf := ifp c hf
    refine a_iload_n (q := 0) dX14_isLetterOrFigure_14 rfl rfl ?_
    refine a_i2l dX14_isLetterOrFigure_15 rfl ?_
    refine a_ldc2 (v := 97) dX14_isLetterOrFigure_16 wd_1379 ?_
    refine a_ldc2 (v := 122) dX14_isLetterOrFigure_19 wd_1395 ?_
    obtain ⟨v5, h6, e4, hf⟩ := ob2 hf
    refine a_callS (as := [.long (a0.toInt64), .long 97, .long 122]) (np := 3) (st := []) (sX14_isIn E (D - 1) (by omega) e4) dX14_isLetterOrFigure_22 rfl (by omega) (by decide) cw_X14_155 wd_1324 rfl (Nat.le_of_ble_eq_true rfl) ?_
    refine a_if_ne (tgt := 42) dX14_isLetterOrFigure_25 (by decide) (fun c => ?_) (fun c => ?_)
    · have hf := ifn c hf
      refine a_iconst (v := 1) dX14_isLetterOrFigure_42 (by decide) ?_
      refine a_goto (tgt := 47) dX14_isLetterOrFigure_43 (by decide) ?_
      obtain ⟨rfl, rfl⟩ := oc2 hf
      exact a_zreturn dX14_isLetterOrFigure_47 rfl (by decide)
    · have hf := ifp c hf
      refine a_iload_n (q := 0) dX14_isLetterOrFigure_28 rfl rfl ?_
      refine a_i2l dX14_isLetterOrFigure_29 rfl ?_
      refine a_ldc2 (v := 65) dX14_isLetterOrFigure_30 wd_1684 ?_
      refine a_ldc2 (v := 90) dX14_isLetterOrFigure_33 wd_1685 ?_
      obtain ⟨v8, h9, e7, hf⟩ := ob2 hf
      refine a_callS (as := [.long (a0.toInt64), .long 65, .long 90]) (np := 3) (st := []) (sX14_isIn E (D - 1) (by omega) e7) dX14_isLetterOrFigure_36 rfl (by omega) (by decide) cw_X14_155 wd_1324 rfl (Nat.le_of_ble_eq_true rfl) ?_
      refine a_if_eq (tgt := 46) dX14_isLetterOrFigure_39 (by decide) (fun c => ?_) (fun c => ?_)
      · have hf := ifp c hf
        refine a_iconst (v := 0) dX14_isLetterOrFigure_46 (by decide) ?_
        obtain ⟨rfl, rfl⟩ := oc2 hf
        exact a_zreturn dX14_isLetterOrFigure_47 rfl (by decide)
      · have hf := ifn c hf
        refine a_iconst (v := 1) dX14_isLetterOrFigure_42 (by decide) ?_
        refine a_goto (tgt := 47) dX14_isLetterOrFigure_43 (by decide) ?_
        obtain ⟨rfl, rfl⟩ := oc2 hf
        exact a_zreturn dX14_isLetterOrFigure_47 rfl (by decide)
def fX14_putsNamed (a0 : Nat) (a1 : Int32) (h : hp) : Option (Int32 × hp) :=
  (ckT h a0 13).bind fun _ =>
  bd2 (fX14_puts a0 38 h) fun v2 h3 =>
  if v2 = 0 then (
    some (0, h3)
  ) else (
    (ckT h3 a0 13).bind fun _ =>
    bd2 (fX14_puts a0 a1 h3) fun v6 h7 =>
    if v6 = 0 then (
      some (0, h7)
    ) else (
      (ckT h7 a0 13).bind fun _ =>
      bd2 (fX14_puts a0 59 h7) fun v10 h11 =>
      if v10 = 0 then (
        some (0, h11)
      ) else (
        some (1, h11)
      )
    )
  )
set_option maxHeartbeats 4000000 in
set_option maxRecDepth 100000 in
theorem sX14_putsNamed (E : gE) (D : Nat) (hD : 2 ≤ D) {a0 : Nat} {a1 : Int32} {h hz : hp} {v0 : Int32} (hf : fX14_putsNamed a0 a1 h = some (v0, hz)) : MC E yX14_putsNamed cX14_putsNamed (Option.some Jvm.ClassFile.FieldType.boolean) 2 D [.ref a0, .int a1] h (some (.int v0)) hz := by
  refine MC.of (by decide +kernel) (Nat.le_of_ble_eq_true rfl) rfl ?_
  unfold fX14_putsNamed at hf
  show AW E yX14_putsNamed cX14_putsNamed (Option.some Jvm.ClassFile.FieldType.boolean) 2 D (some (.int v0)) h hz 0 [(0, .ref a0), (1, .int a1)] [] h
  refine a_aload_n (q := 0) dX14_putsNamed_0 rfl rfl ?_
  refine a_bipush (v := 38) dX14_putsNamed_1 (by decide) ?_
  obtain ⟨_, e4, hf⟩ := obd hf
  obtain ⟨v2, h3, e1, hf⟩ := ob2 hf
  refine a_callV (as := [.int 38]) (np := 1) (ci := 13) (st := []) (sX14_puts E (D - 1) (by omega) e1) dX14_putsNamed_3 rfl (by omega) (by decide) cw_X14_391 ⟨wd_1688, ws_133⟩ rfl (ckT_s e4) rfl (Nat.le_of_ble_eq_true rfl) ?_
  refine a_if_eq (tgt := 30) dX14_putsNamed_6 (by decide) (fun c => ?_) (fun c => ?_)
  · have hf := ifp c hf
    refine a_iconst (v := 0) dX14_putsNamed_30 (by decide) ?_
    obtain ⟨rfl, rfl⟩ := oc2 hf
    exact a_zreturn dX14_putsNamed_31 rfl (by decide)
  · have hf := ifn c hf
    refine a_aload_n (q := 0) dX14_putsNamed_9 rfl rfl ?_
    refine a_iload_n (q := 1) dX14_putsNamed_10 rfl rfl ?_
    obtain ⟨_, e8, hf⟩ := obd hf
    obtain ⟨v6, h7, e5, hf⟩ := ob2 hf
    refine a_callV (as := [.int a1]) (np := 1) (ci := 13) (st := []) (sX14_puts E (D - 1) (by omega) e5) dX14_putsNamed_11 rfl (by omega) (by decide) cw_X14_391 ⟨wd_1688, ws_133⟩ rfl (ckT_s e8) rfl (Nat.le_of_ble_eq_true rfl) ?_
    refine a_if_eq (tgt := 30) dX14_putsNamed_14 (by decide) (fun c => ?_) (fun c => ?_)
    · have hf := ifp c hf
      refine a_iconst (v := 0) dX14_putsNamed_30 (by decide) ?_
      obtain ⟨rfl, rfl⟩ := oc2 hf
      exact a_zreturn dX14_putsNamed_31 rfl (by decide)
    · have hf := ifn c hf
      refine a_aload_n (q := 0) dX14_putsNamed_17 rfl rfl ?_
      refine a_bipush (v := 59) dX14_putsNamed_18 (by decide) ?_
      obtain ⟨_, e12, hf⟩ := obd hf
      obtain ⟨v10, h11, e9, hf⟩ := ob2 hf
      refine a_callV (as := [.int 59]) (np := 1) (ci := 13) (st := []) (sX14_puts E (D - 1) (by omega) e9) dX14_putsNamed_20 rfl (by omega) (by decide) cw_X14_391 ⟨wd_1688, ws_133⟩ rfl (ckT_s e12) rfl (Nat.le_of_ble_eq_true rfl) ?_
      refine a_if_eq (tgt := 30) dX14_putsNamed_23 (by decide) (fun c => ?_) (fun c => ?_)
      · have hf := ifp c hf
        refine a_iconst (v := 0) dX14_putsNamed_30 (by decide) ?_
        obtain ⟨rfl, rfl⟩ := oc2 hf
        exact a_zreturn dX14_putsNamed_31 rfl (by decide)
      · have hf := ifn c hf
        refine a_iconst (v := 1) dX14_putsNamed_26 (by decide) ?_
        refine a_goto (tgt := 31) dX14_putsNamed_27 (by decide) ?_
        obtain ⟨rfl, rfl⟩ := oc2 hf
        exact a_zreturn dX14_putsNamed_31 rfl (by decide)
def fX14_putsEscaped (a0 : Nat) (a1 : Int32) (h : hp) : Option (Int32 × hp) :=
  (gfI h a0 13 23).bind fun v1 =>
  if v1 = 1 then (
    bd2 (fX14_isLetterOrFigure a1 h) fun v36 h37 =>
    jn (fun (s22_0 : Int32) (h22j : hp) => (
      (ckT h22j a0 13).bind fun _ =>
      bd2 (fX14_puts a0 s22_0 h22j) fun v39 h40 =>
      (zck v39).bind fun _ =>
      some (v39, h40)
      : Option (Int32 × hp))) fun k22 =>
    if v36 = 0 then (
      k22 95 h37
    ) else (
      k22 a1 h37
    )
  ) else (
    (gfI h a0 13 23).bind fun v3 =>
    if v3 = 3 then (
      jn (fun (h55j : hp) => (
        (ckT h55j a0 13).bind fun _ =>
        bd2 (fX14_puts a0 a1 h55j) fun v28 h29 =>
        if v28 = 0 then (
          some (0, h29)
        ) else (
          some (1, h29)
        )
        : Option (Int32 × hp))) fun k55 =>
      jn (fun (h46j : hp) => (
        (ckT h46j a0 13).bind fun _ =>
        bd2 (fX14_puts a0 92 h46j) fun v32 h33 =>
        if v32 = 0 then (
          some (0, h33)
        ) else (
          k55 h33
        )
        : Option (Int32 × hp))) fun k46 =>
      if a1 = 96 then (
        k46 h
      ) else (
        if a1 = 92 then (
          k46 h
        ) else (
          k55 h
        )
      )
    ) else (
      if a1 = 60 then (
        (ckT h a0 13).bind fun _ =>
        bd2 (fX14_putsNamed a0 108 h) fun v23 h24 =>
        (zck v23).bind fun _ =>
        some (v23, h24)
      ) else (
        if a1 = 38 then (
          (ckT h a0 13).bind fun _ =>
          bd2 (fX14_putsNamed a0 97 h) fun v18 h19 =>
          (zck v18).bind fun _ =>
          some (v18, h19)
        ) else (
          (gfI h a0 13 23).bind fun v5 =>
          jn (fun (h118j : hp) => (
            (ckT h118j a0 13).bind fun _ =>
            bd2 (fX14_puts a0 a1 h118j) fun v8 h9 =>
            (zck v8).bind fun _ =>
            some (v8, h9)
            : Option (Int32 × hp))) fun k118 =>
          if v5 = 2 then (
            if a1 = 34 then (
              (ckT h a0 13).bind fun _ =>
              bd2 (fX14_putsNamed a0 113 h) fun v13 h14 =>
              (zck v13).bind fun _ =>
              some (v13, h14)
            ) else (
              k118 h
            )
          ) else (
            k118 h
          )
        )
      )
    )
  )
set_option maxHeartbeats 4000000 in
set_option maxRecDepth 100000 in
theorem sX14_putsEscaped (E : gE) (D : Nat) (hD : 3 ≤ D) {a0 : Nat} {a1 : Int32} {h hz : hp} {v0 : Int32} (hf : fX14_putsEscaped a0 a1 h = some (v0, hz)) : MC E yX14_putsEscaped cX14_putsEscaped (Option.some Jvm.ClassFile.FieldType.boolean) 2 D [.ref a0, .int a1] h (some (.int v0)) hz := by
  refine MC.of (by decide +kernel) (Nat.le_of_ble_eq_true rfl) rfl ?_
  unfold fX14_putsEscaped at hf
  show AW E yX14_putsEscaped cX14_putsEscaped (Option.some Jvm.ClassFile.FieldType.boolean) 2 D (some (.int v0)) h hz 0 [(0, .ref a0), (1, .int a1)] [] h
  refine a_aload_n (q := 0) dX14_putsEscaped_0 rfl rfl ?_
  obtain ⟨v1, e2, hf⟩ := obd hf
  refine o_gfI dX14_putsEscaped_1 lk_X14_384 rfl e2 ?_
  refine a_iconst (v := 1) dX14_putsEscaped_4 (by decide) ?_
  refine a_icmp_ne (tgt := 26) dX14_putsEscaped_5 (by decide) (fun c => ?_) (fun c => ?_)
  · have hf := ifn c hf
    refine a_aload_n (q := 0) dX14_putsEscaped_26 rfl rfl ?_
    obtain ⟨v3, e4, hf⟩ := obd hf
    refine o_gfI dX14_putsEscaped_27 lk_X14_384 rfl e4 ?_
    refine a_iconst (v := 3) dX14_putsEscaped_30 (by decide) ?_
    refine a_icmp_ne (tgt := 69) dX14_putsEscaped_31 (by decide) (fun c => ?_) (fun c => ?_)
    · have hf := ifn c hf
      refine a_iload_n (q := 1) dX14_putsEscaped_69 rfl rfl ?_
      refine a_bipush (v := 60) dX14_putsEscaped_70 (by decide) ?_
      refine a_icmp_ne (tgt := 82) dX14_putsEscaped_72 (by decide) (fun c => ?_) (fun c => ?_)
      · have hf := ifn c hf
        refine a_iload_n (q := 1) dX14_putsEscaped_82 rfl rfl ?_
        refine a_bipush (v := 38) dX14_putsEscaped_83 (by decide) ?_
        refine a_icmp_ne (tgt := 95) dX14_putsEscaped_85 (by decide) (fun c => ?_) (fun c => ?_)
        · have hf := ifn c hf
          refine a_aload_n (q := 0) dX14_putsEscaped_95 rfl rfl ?_
          obtain ⟨v5, e6, hf⟩ := obd hf
          refine o_gfI dX14_putsEscaped_96 lk_X14_384 rfl e6 ?_
          refine a_iconst (v := 2) dX14_putsEscaped_99 (by decide) ?_
          obtain ⟨k118, ek118, hf⟩ := jn_s hf
          have hj118 : ∀ (h118j : hp), k118 h118j = some (v0, hz) → AW E yX14_putsEscaped cX14_putsEscaped (Option.some Jvm.ClassFile.FieldType.boolean) 2 D (some (.int v0)) h hz 118 [(0, .ref a0), (1, .int a1)] [] h118j := by
            intro h118j hf
            rw [ek118] at hf
            clear ek118
            refine a_aload_n (q := 0) dX14_putsEscaped_118 rfl rfl ?_
            refine a_iload_n (q := 1) dX14_putsEscaped_119 rfl rfl ?_
            obtain ⟨_, e10, hf⟩ := obd hf
            obtain ⟨v8, h9, e7, hf⟩ := ob2 hf
            refine a_callV (as := [.int a1]) (np := 1) (ci := 13) (st := []) (sX14_puts E (D - 1) (by omega) e7) dX14_putsEscaped_120 rfl (by omega) (by decide) cw_X14_391 ⟨wd_1688, ws_133⟩ rfl (ckT_s e10) rfl (Nat.le_of_ble_eq_true rfl) ?_
            obtain ⟨_, e11, hf⟩ := obd hf
            obtain ⟨rfl, rfl⟩ := oc2 hf
            exact a_zreturn dX14_putsEscaped_123 rfl (zck_s e11)
          clear ek118
          refine a_icmp_ne (tgt := 118) dX14_putsEscaped_100 (by decide) (fun c => ?_) (fun c => ?_)
          · have hf := ifn c hf
            exact hj118 _ hf
          · have hf := ifp c hf
            refine a_iload_n (q := 1) dX14_putsEscaped_103 rfl rfl ?_
            refine a_bipush (v := 34) dX14_putsEscaped_104 (by decide) ?_
            refine a_icmp_ne (tgt := 118) dX14_putsEscaped_106 (by decide) (fun c => ?_) (fun c => ?_)
            · have hf := ifn c hf
              exact hj118 _ hf
            · have hf := ifp c hf
              refine a_aload_n (q := 0) dX14_putsEscaped_109 rfl rfl ?_
              refine a_bipush (v := 113) dX14_putsEscaped_110 (by decide) ?_
              obtain ⟨_, e15, hf⟩ := obd hf
              obtain ⟨v13, h14, e12, hf⟩ := ob2 hf
              refine a_callV (as := [.int 113]) (np := 1) (ci := 13) (st := []) (sX14_putsNamed E (D - 1) (by omega) e12) dX14_putsEscaped_112 rfl (by omega) (by decide) cw_X14_397 ⟨wd_1696, ws_135⟩ rfl (ckT_s e15) rfl (Nat.le_of_ble_eq_true rfl) ?_
              refine a_goto (tgt := 123) dX14_putsEscaped_115 (by decide) ?_
              obtain ⟨_, e16, hf⟩ := obd hf
              obtain ⟨rfl, rfl⟩ := oc2 hf
              exact a_zreturn dX14_putsEscaped_123 rfl (zck_s e16)
        · have hf := ifp c hf
          refine a_aload_n (q := 0) dX14_putsEscaped_88 rfl rfl ?_
          refine a_bipush (v := 97) dX14_putsEscaped_89 (by decide) ?_
          obtain ⟨_, e20, hf⟩ := obd hf
          obtain ⟨v18, h19, e17, hf⟩ := ob2 hf
          refine a_callV (as := [.int 97]) (np := 1) (ci := 13) (st := []) (sX14_putsNamed E (D - 1) (by omega) e17) dX14_putsEscaped_91 rfl (by omega) (by decide) cw_X14_397 ⟨wd_1696, ws_135⟩ rfl (ckT_s e20) rfl (Nat.le_of_ble_eq_true rfl) ?_
          obtain ⟨_, e21, hf⟩ := obd hf
          obtain ⟨rfl, rfl⟩ := oc2 hf
          exact a_zreturn dX14_putsEscaped_94 rfl (zck_s e21)
      · have hf := ifp c hf
        refine a_aload_n (q := 0) dX14_putsEscaped_75 rfl rfl ?_
        refine a_bipush (v := 108) dX14_putsEscaped_76 (by decide) ?_
        obtain ⟨_, e25, hf⟩ := obd hf
        obtain ⟨v23, h24, e22, hf⟩ := ob2 hf
        refine a_callV (as := [.int 108]) (np := 1) (ci := 13) (st := []) (sX14_putsNamed E (D - 1) (by omega) e22) dX14_putsEscaped_78 rfl (by omega) (by decide) cw_X14_397 ⟨wd_1696, ws_135⟩ rfl (ckT_s e25) rfl (Nat.le_of_ble_eq_true rfl) ?_
        obtain ⟨_, e26, hf⟩ := obd hf
        obtain ⟨rfl, rfl⟩ := oc2 hf
        exact a_zreturn dX14_putsEscaped_81 rfl (zck_s e26)
    · have hf := ifp c hf
      refine a_iload_n (q := 1) dX14_putsEscaped_34 rfl rfl ?_
      refine a_bipush (v := 96) dX14_putsEscaped_35 (by decide) ?_
      obtain ⟨k55, ek55, hf⟩ := jn_s hf
      have hj55 : ∀ (h55j : hp), k55 h55j = some (v0, hz) → AW E yX14_putsEscaped cX14_putsEscaped (Option.some Jvm.ClassFile.FieldType.boolean) 2 D (some (.int v0)) h hz 55 [(0, .ref a0), (1, .int a1)] [] h55j := by
        intro h55j hf
        rw [ek55] at hf
        clear ek55
        refine a_aload_n (q := 0) dX14_putsEscaped_55 rfl rfl ?_
        refine a_iload_n (q := 1) dX14_putsEscaped_56 rfl rfl ?_
        obtain ⟨_, e30, hf⟩ := obd hf
        obtain ⟨v28, h29, e27, hf⟩ := ob2 hf
        refine a_callV (as := [.int a1]) (np := 1) (ci := 13) (st := []) (sX14_puts E (D - 1) (by omega) e27) dX14_putsEscaped_57 rfl (by omega) (by decide) cw_X14_391 ⟨wd_1688, ws_133⟩ rfl (ckT_s e30) rfl (Nat.le_of_ble_eq_true rfl) ?_
        refine a_if_eq (tgt := 67) dX14_putsEscaped_60 (by decide) (fun c => ?_) (fun c => ?_)
        · have hf := ifp c hf
          refine a_iconst (v := 0) dX14_putsEscaped_67 (by decide) ?_
          obtain ⟨rfl, rfl⟩ := oc2 hf
          exact a_zreturn dX14_putsEscaped_68 rfl (by decide)
        · have hf := ifn c hf
          refine a_iconst (v := 1) dX14_putsEscaped_63 (by decide) ?_
          refine a_goto (tgt := 68) dX14_putsEscaped_64 (by decide) ?_
          obtain ⟨rfl, rfl⟩ := oc2 hf
          exact a_zreturn dX14_putsEscaped_68 rfl (by decide)
      clear ek55
      obtain ⟨k46, ek46, hf⟩ := jn_s hf
      have hj46 : ∀ (h46j : hp), k46 h46j = some (v0, hz) → AW E yX14_putsEscaped cX14_putsEscaped (Option.some Jvm.ClassFile.FieldType.boolean) 2 D (some (.int v0)) h hz 46 [(0, .ref a0), (1, .int a1)] [] h46j := by
        intro h46j hf
        rw [ek46] at hf
        clear ek46
        refine a_aload_n (q := 0) dX14_putsEscaped_46 rfl rfl ?_
        refine a_bipush (v := 92) dX14_putsEscaped_47 (by decide) ?_
        obtain ⟨_, e34, hf⟩ := obd hf
        obtain ⟨v32, h33, e31, hf⟩ := ob2 hf
        refine a_callV (as := [.int 92]) (np := 1) (ci := 13) (st := []) (sX14_puts E (D - 1) (by omega) e31) dX14_putsEscaped_49 rfl (by omega) (by decide) cw_X14_391 ⟨wd_1688, ws_133⟩ rfl (ckT_s e34) rfl (Nat.le_of_ble_eq_true rfl) ?_
        refine a_if_eq (tgt := 67) dX14_putsEscaped_52 (by decide) (fun c => ?_) (fun c => ?_)
        · have hf := ifp c hf
          refine a_iconst (v := 0) dX14_putsEscaped_67 (by decide) ?_
          obtain ⟨rfl, rfl⟩ := oc2 hf
          exact a_zreturn dX14_putsEscaped_68 rfl (by decide)
        · have hf := ifn c hf
          exact hj55 _ hf
      clear ek46
      refine a_icmp_eq (tgt := 46) dX14_putsEscaped_37 (by decide) (fun c => ?_) (fun c => ?_)
      · have hf := ifp c hf
        exact hj46 _ hf
      · have hf := ifn c hf
        refine a_iload_n (q := 1) dX14_putsEscaped_40 rfl rfl ?_
        refine a_bipush (v := 92) dX14_putsEscaped_41 (by decide) ?_
        refine a_icmp_ne (tgt := 55) dX14_putsEscaped_43 (by decide) (fun c => ?_) (fun c => ?_)
        · have hf := ifn c hf
          exact hj55 _ hf
        · have hf := ifp c hf
          exact hj46 _ hf
  · have hf := ifp c hf
    refine a_aload_n (q := 0) dX14_putsEscaped_8 rfl rfl ?_
    refine a_iload_n (q := 1) dX14_putsEscaped_9 rfl rfl ?_
    obtain ⟨v36, h37, e35, hf⟩ := ob2 hf
    refine a_callS (as := [.int a1]) (np := 1) (st := [.ref a0]) (sX14_isLetterOrFigure E (D - 1) (by omega) e35) dX14_putsEscaped_10 rfl (by omega) (by decide) cw_X14_394 wd_1682 rfl (Nat.le_of_ble_eq_true rfl) ?_
    obtain ⟨k22, ek22, hf⟩ := jn_s hf
    have hj22 : ∀ (s22_0 : Int32) (h22j : hp), k22 s22_0 h22j = some (v0, hz) → AW E yX14_putsEscaped cX14_putsEscaped (Option.some Jvm.ClassFile.FieldType.boolean) 2 D (some (.int v0)) h hz 22 [] [.int s22_0, .ref a0] h22j := by
      intro s22_0 h22j hf
      rw [ek22] at hf
      clear ek22
      obtain ⟨_, e41, hf⟩ := obd hf
      obtain ⟨v39, h40, e38, hf⟩ := ob2 hf
      refine a_callV (as := [.int s22_0]) (np := 1) (ci := 13) (st := []) (sX14_puts E (D - 1) (by omega) e38) dX14_putsEscaped_22 rfl (by omega) (by decide) cw_X14_391 ⟨wd_1688, ws_133⟩ rfl (ckT_s e41) rfl (Nat.le_of_ble_eq_true rfl) ?_
      obtain ⟨_, e42, hf⟩ := obd hf
      obtain ⟨rfl, rfl⟩ := oc2 hf
      exact a_zreturn dX14_putsEscaped_25 rfl (zck_s e42)
    clear ek22
    refine a_if_eq (tgt := 20) dX14_putsEscaped_13 (by decide) (fun c => ?_) (fun c => ?_)
    · have hf := ifp c hf
      refine a_bipush (v := 95) dX14_putsEscaped_20 (by decide) ?_
      exact AW.sub [] rfl (hj22 _ _ hf)
    · have hf := ifn c hf
      refine a_iload_n (q := 1) dX14_putsEscaped_16 rfl rfl ?_
      refine a_goto (tgt := 22) dX14_putsEscaped_17 (by decide) ?_
      exact AW.sub [] rfl (hj22 _ _ hf)
def fX14_keeps_l68 : Nat → Nat → Int32 → Int32 → Int32 → hp → Option hp
  | 0, _, _, _, _, _ => none
  | n + 1, x0, x1, x2, x3, h =>
    if 16 ≤ x3 then (
      some (h)
    ) else (
      (gfR h x0 13 28).bind fun v1 =>
      (gfR h x0 13 3).bind fun v3 =>
      (alI h v3 ((16 * x1) + x3)).bind fun v5 =>
      (asI h v1 ((16 * x2) + x3) v5).bind fun h7 =>
      fX14_keeps_l68 n x0 x1 x2 (x3 + 1) h7
    )
def fX14_keeps_l2 : Nat → Nat → Int32 → hp → Option hp
  | 0, _, _, _ => none
  | n + 1, x0, x1, h =>
    if 8 ≤ x1 then (
      some (h)
    ) else (
      (gfI h x0 13 30).bind fun v1 =>
      (gfR h x0 13 25).bind fun v3 =>
      (gfR h x0 13 0).bind fun v5 =>
      (alI h v5 x1).bind fun v7 =>
      (asI h v3 ((8 * v1) + x1) v7).bind fun h9 =>
      (gfR h9 x0 13 26).bind fun v11 =>
      (gfR h9 x0 13 1).bind fun v13 =>
      (alI h9 v13 x1).bind fun v15 =>
      (asI h9 v11 ((8 * v1) + x1) v15).bind fun h17 =>
      (gfR h17 x0 13 27).bind fun v19 =>
      (gfR h17 x0 13 2).bind fun v21 =>
      (alI h17 v21 x1).bind fun v23 =>
      (asI h17 v19 ((8 * v1) + x1) v23).bind fun h25 =>
      (gfR h25 x0 13 29).bind fun v27 =>
      (gfR h25 x0 13 4).bind fun v29 =>
      (alF h25 v29 x1).bind fun v31 =>
      (asF h25 v27 ((8 * v1) + x1) v31).bind fun h33 =>
      (fX14_keeps_l68 FU x0 x1 ((8 * v1) + x1) 0 h33).bind fun h36 =>
      fX14_keeps_l2 n x0 (x1 + 1) h36
    )
def fX14_keeps (a0 : Nat) (h : hp) : Option hp :=
  (fX14_keeps_l2 FU a0 0 h).bind fun h2 =>
  (gfI h2 a0 13 30).bind fun v3 =>
  (pfI h2 a0 13 30 (v3 + 1)).bind fun h5 =>
  some h5
set_option maxHeartbeats 4000000 in
set_option maxRecDepth 100000 in
theorem sX14_keeps_l68 (E : gE) (D : Nat) (hD : 0 ≤ D) {rz : Option Value} {h0 hz : hp} : ∀ (n : Nat) (x0 : Nat) (x1 : Int32) (x2 : Int32) (x3 : Int32) (h : hp) (hq : hp), fX14_keeps_l68 n x0 x1 x2 x3 h = some hq → (AW E yX14_keeps cX14_keeps (Option.none : Option Jvm.ClassFile.FieldType) 4 D rz h0 hz 102 [(0, .ref x0), (1, .int x1)] [] hq) → AW E yX14_keeps cX14_keeps (Option.none : Option Jvm.ClassFile.FieldType) 4 D rz h0 hz 68 [(0, .ref x0), (1, .int x1), (2, .int x2), (3, .int x3)] [] h := by
  intro n
  induction n with
  | zero =>
    intro x0 x1 x2 x3 h hq hf _
    rw [fX14_keeps_l68] at hf
    cases hf
  | succ n ih =>
    intro x0 x1 x2 x3 h hq hf hk0
    rw [fX14_keeps_l68] at hf
    refine a_iload_n (q := 3) dX14_keeps_68 rfl rfl ?_
    refine a_bipush (v := 16) dX14_keeps_69 (by decide) ?_
    refine a_icmp_ge (tgt := 102) dX14_keeps_71 (by decide) (fun c => ?_) (fun c => ?_)
    · have hf := ifp c hf
      obtain rfl := Option.some.inj hf
      exact AW.sub [0, 1] rfl (hk0)
    · have hf := ifn c hf
      refine a_aload_n (q := 0) dX14_keeps_74 rfl rfl ?_
      obtain ⟨v1, e2, hf⟩ := obd hf
      refine o_gfR dX14_keeps_75 lk_X14_62 rfl e2 ?_
      refine a_bipush (v := 16) dX14_keeps_78 (by decide) ?_
      refine a_iload_n (q := 2) dX14_keeps_80 rfl rfl ?_
      refine a_imul dX14_keeps_81 ?_
      refine a_iload_n (q := 3) dX14_keeps_82 rfl rfl ?_
      refine a_iadd dX14_keeps_83 ?_
      refine a_aload_n (q := 0) dX14_keeps_84 rfl rfl ?_
      obtain ⟨v3, e4, hf⟩ := obd hf
      refine o_gfR dX14_keeps_85 lk_X14_21 rfl e4 ?_
      refine a_bipush (v := 16) dX14_keeps_88 (by decide) ?_
      refine a_iload_n (q := 1) dX14_keeps_90 rfl rfl ?_
      refine a_imul dX14_keeps_91 ?_
      refine a_iload_n (q := 3) dX14_keeps_92 rfl rfl ?_
      refine a_iadd dX14_keeps_93 ?_
      obtain ⟨v5, e6, hf⟩ := obd hf
      refine o_alI dX14_keeps_94 e6 ?_
      obtain ⟨h7, e8, hf⟩ := obd hf
      refine o_asI dX14_keeps_95 e8 ?_
      refine a_iinc (q := 3) (v := (x3 + 1)) (lv1 := [(3, .int (x3 + 1)), (0, .ref x0), (1, .int x1), (2, .int x2)]) dX14_keeps_96 rfl (by rfl) (by decide) rfl ?_
      refine a_goto (tgt := 68) dX14_keeps_99 (by decide) ?_
      exact AW.sub [1, 2, 3, 0] rfl (ih _ _ _ _ _ _ hf hk0)
set_option maxHeartbeats 4000000 in
set_option maxRecDepth 100000 in
theorem sX14_keeps_l2 (E : gE) (D : Nat) (hD : 0 ≤ D) {rz : Option Value} {h0 hz : hp} : ∀ (n : Nat) (x0 : Nat) (x1 : Int32) (h : hp) (hq : hp), fX14_keeps_l2 n x0 x1 h = some hq → (AW E yX14_keeps cX14_keeps (Option.none : Option Jvm.ClassFile.FieldType) 4 D rz h0 hz 108 [(0, .ref x0)] [] hq) → AW E yX14_keeps cX14_keeps (Option.none : Option Jvm.ClassFile.FieldType) 4 D rz h0 hz 2 [(0, .ref x0), (1, .int x1)] [] h := by
  intro n
  induction n with
  | zero =>
    intro x0 x1 h hq hf _
    rw [fX14_keeps_l2] at hf
    cases hf
  | succ n ih =>
    intro x0 x1 h hq hf hk0
    rw [fX14_keeps_l2] at hf
    refine a_iload_n (q := 1) dX14_keeps_2 rfl rfl ?_
    refine a_bipush (v := 8) dX14_keeps_3 (by decide) ?_
    refine a_icmp_ge (tgt := 108) dX14_keeps_5 (by decide) (fun c => ?_) (fun c => ?_)
    · have hf := ifp c hf
      obtain rfl := Option.some.inj hf
      exact AW.sub [0] rfl (hk0)
    · have hf := ifn c hf
      refine a_bipush (v := 8) dX14_keeps_8 (by decide) ?_
      refine a_aload_n (q := 0) dX14_keeps_10 rfl rfl ?_
      obtain ⟨v1, e2, hf⟩ := obd hf
      refine o_gfI dX14_keeps_11 lk_X14_400 rfl e2 ?_
      refine a_imul dX14_keeps_14 ?_
      refine a_iload_n (q := 1) dX14_keeps_15 rfl rfl ?_
      refine a_iadd dX14_keeps_16 ?_
      refine a_istore_n (lv1 := [(2, .int ((8 * v1) + x1)), (0, .ref x0), (1, .int x1)]) dX14_keeps_17 rfl (by decide) rfl ?_
      refine a_aload_n (q := 1) dX14_keeps_18 rfl rfl ?_
      obtain ⟨v3, e4, hf⟩ := obd hf
      refine o_gfR dX14_keeps_19 lk_X14_53 rfl e4 ?_
      refine a_iload_n (q := 0) dX14_keeps_22 rfl rfl ?_
      refine a_aload_n (q := 1) dX14_keeps_23 rfl rfl ?_
      obtain ⟨v5, e6, hf⟩ := obd hf
      refine o_gfR dX14_keeps_24 lk_X14_11 rfl e6 ?_
      refine a_iload_n (q := 2) dX14_keeps_27 rfl rfl ?_
      obtain ⟨v7, e8, hf⟩ := obd hf
      refine o_alI dX14_keeps_28 e8 ?_
      obtain ⟨h9, e10, hf⟩ := obd hf
      refine o_asI dX14_keeps_29 e10 ?_
      refine a_aload_n (q := 1) dX14_keeps_30 rfl rfl ?_
      obtain ⟨v11, e12, hf⟩ := obd hf
      refine o_gfR dX14_keeps_31 lk_X14_56 rfl e12 ?_
      refine a_iload_n (q := 0) dX14_keeps_34 rfl rfl ?_
      refine a_aload_n (q := 1) dX14_keeps_35 rfl rfl ?_
      obtain ⟨v13, e14, hf⟩ := obd hf
      refine o_gfR dX14_keeps_36 lk_X14_15 rfl e14 ?_
      refine a_iload_n (q := 2) dX14_keeps_39 rfl rfl ?_
      obtain ⟨v15, e16, hf⟩ := obd hf
      refine o_alI dX14_keeps_40 e16 ?_
      obtain ⟨h17, e18, hf⟩ := obd hf
      refine o_asI dX14_keeps_41 e18 ?_
      refine a_aload_n (q := 1) dX14_keeps_42 rfl rfl ?_
      obtain ⟨v19, e20, hf⟩ := obd hf
      refine o_gfR dX14_keeps_43 lk_X14_59 rfl e20 ?_
      refine a_iload_n (q := 0) dX14_keeps_46 rfl rfl ?_
      refine a_aload_n (q := 1) dX14_keeps_47 rfl rfl ?_
      obtain ⟨v21, e22, hf⟩ := obd hf
      refine o_gfR dX14_keeps_48 lk_X14_18 rfl e22 ?_
      refine a_iload_n (q := 2) dX14_keeps_51 rfl rfl ?_
      obtain ⟨v23, e24, hf⟩ := obd hf
      refine o_alI dX14_keeps_52 e24 ?_
      obtain ⟨h25, e26, hf⟩ := obd hf
      refine o_asI dX14_keeps_53 e26 ?_
      refine a_aload_n (q := 1) dX14_keeps_54 rfl rfl ?_
      obtain ⟨v27, e28, hf⟩ := obd hf
      refine o_gfR dX14_keeps_55 lk_X14_65 rfl e28 ?_
      refine a_iload_n (q := 0) dX14_keeps_58 rfl rfl ?_
      refine a_aload_n (q := 1) dX14_keeps_59 rfl rfl ?_
      obtain ⟨v29, e30, hf⟩ := obd hf
      refine o_gfR dX14_keeps_60 lk_X14_24 rfl e30 ?_
      refine a_iload_n (q := 2) dX14_keeps_63 rfl rfl ?_
      obtain ⟨v31, e32, hf⟩ := obd hf
      refine o_alF dX14_keeps_64 e32 ?_
      obtain ⟨h33, e34, hf⟩ := obd hf
      refine o_asF dX14_keeps_65 e34 ?_
      refine a_iconst (v := 0) dX14_keeps_66 (by decide) ?_
      refine a_istore_n (lv1 := [(3, .int 0), (2, .int ((8 * v1) + x1)), (0, .ref x0), (1, .int x1)]) dX14_keeps_67 rfl (by decide) rfl ?_
      obtain ⟨h36, e35, hf⟩ := obd hf
      refine AW.sub [2, 3, 1, 0] rfl (sX14_keeps_l68 E D hD _ _ _ _ _ _ _ e35 ?_)
      refine a_iinc (q := 1) (v := (x1 + 1)) (lv1 := [(1, .int (x1 + 1)), (0, .ref x0)]) dX14_keeps_102 rfl (by rfl) (by decide) rfl ?_
      refine a_goto (tgt := 2) dX14_keeps_105 (by decide) ?_
      exact AW.sub [1, 0] rfl (ih _ _ _ _ hf hk0)
set_option maxHeartbeats 4000000 in
set_option maxRecDepth 100000 in
theorem sX14_keeps (E : gE) (D : Nat) (hD : 0 ≤ D) {a0 : Nat} {h hz : hp} (hf : fX14_keeps a0 h = some hz) : MC E yX14_keeps cX14_keeps (Option.none : Option Jvm.ClassFile.FieldType) 4 D [.ref a0] h none hz := by
  refine MC.of (by decide +kernel) (Nat.le_of_ble_eq_true rfl) rfl ?_
  unfold fX14_keeps at hf
  show AW E yX14_keeps cX14_keeps (Option.none : Option Jvm.ClassFile.FieldType) 4 D none h hz 0 [(0, .ref a0)] [] h
  refine a_iconst (v := 0) dX14_keeps_0 (by decide) ?_
  refine a_istore_n (lv1 := [(1, .int 0), (0, .ref a0)]) dX14_keeps_1 rfl (by decide) rfl ?_
  obtain ⟨h2, e1, hf⟩ := obd hf
  refine AW.sub [1, 0] rfl (sX14_keeps_l2 E D hD _ _ _ _ _ e1 ?_)
  refine a_aload_n (q := 0) dX14_keeps_108 rfl rfl ?_
  refine a_dup dX14_keeps_109 rfl ?_
  obtain ⟨v3, e4, hf⟩ := obd hf
  refine o_gfI dX14_keeps_110 lk_X14_400 rfl e4 ?_
  refine a_iconst (v := 1) dX14_keeps_113 (by decide) ?_
  refine a_iadd dX14_keeps_114 ?_
  obtain ⟨h5, e6, hf⟩ := obd hf
  refine o_pfI dX14_keeps_115 lk_X14_400 (⟨_, rfl, Or.inl rfl⟩) rfl e6 ?_
  obtain rfl := Option.some.inj hf
  exact a_return dX14_keeps_118 rfl
