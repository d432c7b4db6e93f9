def fX14_init_l344 : Nat → Nat → Int32 → hp → Option hp
  | 0, _, _, _ => none
  | n + 1, x0, x1, h =>
    if 6 ≤ x1 then (
      some (h)
    ) else (
      (gfR h x0 13 9).bind fun v1 =>
      (asI h v1 x1 (-1)).bind fun h3 =>
      (gfR h3 x0 13 52).bind fun v5 =>
      (asI h3 v5 x1 (-1)).bind fun h7 =>
      (gfR h7 x0 13 48).bind fun v9 =>
      (asI h7 v9 x1 (-1)).bind fun h11 =>
      fX14_init_l344 n x0 (x1 + 1) h11
    )
def fX14_init (a0 : Nat) (h : hp) : Option hp :=
  (ckT h a0 13).bind fun _ =>
  bd2 (nwA h 0 10) fun v2 h3 =>
  (pfR h3 a0 13 0 v2).bind fun h5 =>
  bd2 (nwA h5 0 10) fun v7 h8 =>
  (pfR h8 a0 13 1 v7).bind fun h10 =>
  bd2 (nwA h10 0 10) fun v12 h13 =>
  (pfR h13 a0 13 2 v12).bind fun h15 =>
  bd2 (nwA h15 0 160) fun v17 h18 =>
  (pfR h18 a0 13 3 v17).bind fun h20 =>
  bd2 (nwA h20 1 10) fun v22 h23 =>
  (pfR h23 a0 13 4 v22).bind fun h25 =>
  bd2 (nwA h25 0 64) fun v27 h28 =>
  (pfR h28 a0 13 5 v27).bind fun h30 =>
  bd2 (nwA h30 0 160) fun v32 h33 =>
  (pfR h33 a0 13 7 v32).bind fun h35 =>
  bd2 (nwA h35 0 960) fun v37 h38 =>
  (pfR h38 a0 13 8 v37).bind fun h40 =>
  bd2 (nwA h40 0 6) fun v42 h43 =>
  (pfR h43 a0 13 9 v42).bind fun h45 =>
  (gfR h45 a0 13 7).bind fun v47 =>
  (pfR h45 a0 13 11 v47).bind fun h49 =>
  bd2 (nwA h49 0 400) fun v51 h52 =>
  (pfR h52 a0 13 19 v51).bind fun h54 =>
  bd2 (nwA h54 0 400) fun v56 h57 =>
  (pfR h57 a0 13 20 v56).bind fun h59 =>
  (pfI h59 a0 13 24 200).bind fun h61 =>
  bd2 (nwA h61 0 640) fun v63 h64 =>
  (pfR h64 a0 13 25 v63).bind fun h66 =>
  bd2 (nwA h66 0 640) fun v68 h69 =>
  (pfR h69 a0 13 26 v68).bind fun h71 =>
  bd2 (nwA h71 0 640) fun v73 h74 =>
  (pfR h74 a0 13 27 v73).bind fun h76 =>
  bd2 (nwA h76 0 10240) fun v78 h79 =>
  (pfR h79 a0 13 28 v78).bind fun h81 =>
  bd2 (nwA h81 1 640) fun v83 h84 =>
  (pfR h84 a0 13 29 v83).bind fun h86 =>
  bd2 (nwA h86 0 72) fun v88 h89 =>
  (pfR h89 a0 13 31 v88).bind fun h91 =>
  bd2 (nwA h91 0 12) fun v93 h94 =>
  (pfR h94 a0 13 32 v93).bind fun h96 =>
  bd2 (nwA h96 0 12) fun v98 h99 =>
  (pfR h99 a0 13 33 v98).bind fun h101 =>
  bd2 (nwA h101 0 12) fun v103 h104 =>
  (pfR h104 a0 13 34 v103).bind fun h106 =>
  bd2 (nwA h106 0 80) fun v108 h109 =>
  (pfR h109 a0 13 39 v108).bind fun h111 =>
  bd2 (nwA h111 0 480) fun v113 h114 =>
  (pfR h114 a0 13 40 v113).bind fun h116 =>
  bd2 (nwA h116 0 80) fun v118 h119 =>
  (pfR h119 a0 13 41 v118).bind fun h121 =>
  bd2 (nwA h121 0 128) fun v123 h124 =>
  (pfR h124 a0 13 44 v123).bind fun h126 =>
  bd2 (nwA h126 0 128) fun v128 h129 =>
  (pfR h129 a0 13 45 v128).bind fun h131 =>
  bd2 (nwA h131 0 128) fun v133 h134 =>
  (pfR h134 a0 13 46 v133).bind fun h136 =>
  bd2 (nwA h136 0 6) fun v138 h139 =>
  (pfR h139 a0 13 48 v138).bind fun h141 =>
  bd2 (nwA h141 0 6) fun v143 h144 =>
  (pfR h144 a0 13 49 v143).bind fun h146 =>
  bd2 (nwA h146 0 360) fun v148 h149 =>
  (pfR h149 a0 13 50 v148).bind fun h151 =>
  bd2 (nwA h151 1 360) fun v153 h154 =>
  (pfR h154 a0 13 51 v153).bind fun h156 =>
  bd2 (nwA h156 0 6) fun v158 h159 =>
  (pfR h159 a0 13 52 v158).bind fun h161 =>
  bd2 (nwA h161 0 960) fun v163 h164 =>
  (pfR h164 a0 13 53 v163).bind fun h166 =>
  bd2 (nwA h166 0 400) fun v168 h169 =>
  (pfR h169 a0 13 54 v168).bind fun h171 =>
  bd2 (nwA h171 0 8) fun v173 h174 =>
  (pfR h174 a0 13 55 v173).bind fun h176 =>
  bd2 (nwA h176 0 8) fun v178 h179 =>
  (pfR h179 a0 13 56 v178).bind fun h181 =>
  bd2 (nwA h181 0 8) fun v183 h184 =>
  (pfR h184 a0 13 57 v183).bind fun h186 =>
  bd2 (nwA h186 0 128) fun v188 h189 =>
  (pfR h189 a0 13 58 v188).bind fun h191 =>
  bd2 (nwA h191 1 8) fun v193 h194 =>
  (pfR h194 a0 13 59 v193).bind fun h196 =>
  (fX14_init_l344 FU a0 0 h196).bind fun h199 =>
  some h199
set_option maxHeartbeats 4000000 in
set_option maxRecDepth 100000 in
theorem sX14_init_l344 (E : gE) (D : Nat) (hD : 1 ≤ D) {rz : Option Value} {h0 hz : hp} : ∀ (n : Nat) (x0 : Nat) (x1 : Int32) (h : hp) (hq : hp), fX14_init_l344 n x0 x1 h = some hq → (AW E yX14_init cX14_init (Option.none : Option Jvm.ClassFile.FieldType) 2 D rz h0 hz 377 [] [] hq) → AW E yX14_init cX14_init (Option.none : Option Jvm.ClassFile.FieldType) 2 D rz h0 hz 344 [(0, .ref x0), (1, .int x1)] [] h := by
  intro n
  induction n with
  | zero =>
    intro x0 x1 h hq hf _
    rw [fX14_init_l344] at hf
    cases hf
  | succ n ih =>
    intro x0 x1 h hq hf hk0
    rw [fX14_init_l344] at hf
    refine a_iload_n (q := 1) dX14_init_344 rfl rfl ?_
    refine a_bipush (v := 6) dX14_init_345 (by decide) ?_
    refine a_icmp_ge (tgt := 377) dX14_init_347 (by decide) (fun c => ?_) (fun c => ?_)
    · have hf := ifp c hf
      obtain rfl := Option.some.inj hf
      exact AW.sub [] rfl (hk0)
    · have hf := ifn c hf
      refine a_aload_n (q := 0) dX14_init_350 rfl rfl ?_
      obtain ⟨v1, e2, hf⟩ := obd hf
      refine o_gfR dX14_init_351 lk_X14_37 rfl e2 ?_
      refine a_iload_n (q := 1) dX14_init_354 rfl rfl ?_
      refine a_iconst (v := (-1)) dX14_init_355 (by decide) ?_
      obtain ⟨h3, e4, hf⟩ := obd hf
      refine o_asI dX14_init_356 e4 ?_
      refine a_aload_n (q := 0) dX14_init_357 rfl rfl ?_
      obtain ⟨v5, e6, hf⟩ := obd hf
      refine o_gfR dX14_init_358 lk_X14_110 rfl e6 ?_
      refine a_iload_n (q := 1) dX14_init_361 rfl rfl ?_
      refine a_iconst (v := (-1)) dX14_init_362 (by decide) ?_
      obtain ⟨h7, e8, hf⟩ := obd hf
      refine o_asI dX14_init_363 e8 ?_
      refine a_aload_n (q := 0) dX14_init_364 rfl rfl ?_
      obtain ⟨v9, e10, hf⟩ := obd hf
      refine o_gfR dX14_init_365 lk_X14_98 rfl e10 ?_
      refine a_iload_n (q := 1) dX14_init_368 rfl rfl ?_
      refine a_iconst (v := (-1)) dX14_init_369 (by decide) ?_
      obtain ⟨h11, e12, hf⟩ := obd hf
      refine o_asI dX14_init_370 e12 ?_
      refine a_iinc (q := 1) (v := (x1 + 1)) (lv1 := [(1, .int (x1 + 1)), (0, .ref x0)]) dX14_init_371 rfl (by rfl) (by decide) rfl ?_
      refine a_goto (tgt := 344) dX14_init_374 (by decide) ?_
      exact AW.sub [1, 0] rfl (ih _ _ _ _ hf hk0)
set_option maxHeartbeats 4000000 in
set_option maxRecDepth 100000 in
theorem sX14_init (E : gE) (D : Nat) (hD : 1 ≤ D) {a0 : Nat} {h hz : hp} (hf : fX14_init a0 h = some hz) : MC E yX14_init cX14_init (Option.none : Option Jvm.ClassFile.FieldType) 2 D [.ref a0] h none hz := by
  refine MC.of (by decide +kernel) (Nat.le_of_ble_eq_true rfl) rfl ?_
  unfold fX14_init at hf
  show AW E yX14_init cX14_init (Option.none : Option Jvm.ClassFile.FieldType) 2 D none h hz 0 [(0, .ref a0)] [] h
  refine a_aload_n (q := 0) dX14_init_0 rfl rfl ?_
  obtain ⟨_, e1, hf⟩ := obd hf
  refine o_objI dX14_init_1 (by omega) wd_1127 wd_32 wd_33 (by decide) (ckT_s e1) (Nat.le_of_ble_eq_true rfl) ?_
  refine a_aload_n (q := 0) dX14_init_4 rfl rfl ?_
  refine a_bipush (v := 10) dX14_init_5 (by decide) ?_
  obtain ⟨v2, h3, e4, hf⟩ := ob2 hf
  refine o_nwI dX14_init_7 wd_63 e4 ?_
  obtain ⟨h5, e6, hf⟩ := obd hf
  refine o_pfR dX14_init_9 lk_X14_11 (⟨_, rfl, Or.inr ⟨rfl, rfl, rfl, wd_1128⟩⟩) rfl e6 ?_
  refine a_aload_n (q := 0) dX14_init_12 rfl rfl ?_
  refine a_bipush (v := 10) dX14_init_13 (by decide) ?_
  obtain ⟨v7, h8, e9, hf⟩ := ob2 hf
  refine o_nwI dX14_init_15 wd_63 e9 ?_
  obtain ⟨h10, e11, hf⟩ := obd hf
  refine o_pfR dX14_init_17 lk_X14_15 (⟨_, rfl, Or.inr ⟨rfl, rfl, rfl, wd_1129⟩⟩) rfl e11 ?_
  refine a_aload_n (q := 0) dX14_init_20 rfl rfl ?_
  refine a_bipush (v := 10) dX14_init_21 (by decide) ?_
  obtain ⟨v12, h13, e14, hf⟩ := ob2 hf
  refine o_nwI dX14_init_23 wd_63 e14 ?_
  obtain ⟨h15, e16, hf⟩ := obd hf
  refine o_pfR dX14_init_25 lk_X14_18 (⟨_, rfl, Or.inr ⟨rfl, rfl, rfl, wd_1130⟩⟩) rfl e16 ?_
  refine a_aload_n (q := 0) dX14_init_28 rfl rfl ?_
  refine a_sipush (v := 160) dX14_init_29 (by decide) ?_
  obtain ⟨v17, h18, e19, hf⟩ := ob2 hf
  refine o_nwI dX14_init_32 wd_63 e19 ?_
  obtain ⟨h20, e21, hf⟩ := obd hf
  refine o_pfR dX14_init_34 lk_X14_21 (⟨_, rfl, Or.inr ⟨rfl, rfl, rfl, wd_1131⟩⟩) rfl e21 ?_
  refine a_aload_n (q := 0) dX14_init_37 rfl rfl ?_
  refine a_bipush (v := 10) dX14_init_38 (by decide) ?_
  obtain ⟨v22, h23, e24, hf⟩ := ob2 hf
  refine o_nwF dX14_init_40 wd_130 e24 ?_
  obtain ⟨h25, e26, hf⟩ := obd hf
  refine o_pfR dX14_init_42 lk_X14_24 (⟨_, rfl, Or.inr ⟨rfl, rfl, rfl, wd_1132⟩⟩) rfl e26 ?_
  refine a_aload_n (q := 0) dX14_init_45 rfl rfl ?_
  refine a_bipush (v := 64) dX14_init_46 (by decide) ?_
  obtain ⟨v27, h28, e29, hf⟩ := ob2 hf
  refine o_nwI dX14_init_48 wd_63 e29 ?_
  obtain ⟨h30, e31, hf⟩ := obd hf
  refine o_pfR dX14_init_50 lk_X14_28 (⟨_, rfl, Or.inr ⟨rfl, rfl, rfl, wd_1133⟩⟩) rfl e31 ?_
  refine a_aload_n (q := 0) dX14_init_53 rfl rfl ?_
  refine a_sipush (v := 160) dX14_init_54 (by decide) ?_
  obtain ⟨v32, h33, e34, hf⟩ := ob2 hf
  refine o_nwI dX14_init_57 wd_63 e34 ?_
  obtain ⟨h35, e36, hf⟩ := obd hf
  refine o_pfR dX14_init_59 lk_X14_31 (⟨_, rfl, Or.inr ⟨rfl, rfl, rfl, wd_1135⟩⟩) rfl e36 ?_
  refine a_aload_n (q := 0) dX14_init_62 rfl rfl ?_
  refine a_sipush (v := 960) dX14_init_63 (by decide) ?_
  obtain ⟨v37, h38, e39, hf⟩ := ob2 hf
  refine o_nwI dX14_init_66 wd_63 e39 ?_
  obtain ⟨h40, e41, hf⟩ := obd hf
  refine o_pfR dX14_init_68 lk_X14_34 (⟨_, rfl, Or.inr ⟨rfl, rfl, rfl, wd_1136⟩⟩) rfl e41 ?_
  refine a_aload_n (q := 0) dX14_init_71 rfl rfl ?_
  refine a_bipush (v := 6) dX14_init_72 (by decide) ?_
  obtain ⟨v42, h43, e44, hf⟩ := ob2 hf
  refine o_nwI dX14_init_74 wd_63 e44 ?_
  obtain ⟨h45, e46, hf⟩ := obd hf
  refine o_pfR dX14_init_76 lk_X14_37 (⟨_, rfl, Or.inr ⟨rfl, rfl, rfl, wd_1137⟩⟩) rfl e46 ?_
  refine a_aload_n (q := 0) dX14_init_79 rfl rfl ?_
  refine a_aload_n (q := 0) dX14_init_80 rfl rfl ?_
  obtain ⟨v47, e48, hf⟩ := obd hf
  refine o_gfR dX14_init_81 lk_X14_31 rfl e48 ?_
  obtain ⟨h49, e50, hf⟩ := obd hf
  refine o_pfR dX14_init_84 lk_X14_40 (⟨_, rfl, Or.inl rfl⟩) rfl e50 ?_
  refine a_aload_n (q := 0) dX14_init_87 rfl rfl ?_
  refine a_sipush (v := 400) dX14_init_88 (by decide) ?_
  obtain ⟨v51, h52, e53, hf⟩ := ob2 hf
  refine o_nwI dX14_init_91 wd_63 e53 ?_
  obtain ⟨h54, e55, hf⟩ := obd hf
  refine o_pfR dX14_init_93 lk_X14_43 (⟨_, rfl, Or.inr ⟨rfl, rfl, rfl, wd_1147⟩⟩) rfl e55 ?_
  refine a_aload_n (q := 0) dX14_init_96 rfl rfl ?_
  refine a_sipush (v := 400) dX14_init_97 (by decide) ?_
  obtain ⟨v56, h57, e58, hf⟩ := ob2 hf
  refine o_nwI dX14_init_100 wd_63 e58 ?_
  obtain ⟨h59, e60, hf⟩ := obd hf
  refine o_pfR dX14_init_102 lk_X14_46 (⟨_, rfl, Or.inr ⟨rfl, rfl, rfl, wd_1148⟩⟩) rfl e60 ?_
  refine a_aload_n (q := 0) dX14_init_105 rfl rfl ?_
  refine a_sipush (v := 200) dX14_init_106 (by decide) ?_
  obtain ⟨h61, e62, hf⟩ := obd hf
  refine o_pfI dX14_init_109 lk_X14_49 (⟨_, rfl, Or.inl rfl⟩) rfl e62 ?_
  refine a_aload_n (q := 0) dX14_init_112 rfl rfl ?_
  refine a_sipush (v := 640) dX14_init_113 (by decide) ?_
  obtain ⟨v63, h64, e65, hf⟩ := ob2 hf
  refine o_nwI dX14_init_116 wd_63 e65 ?_
  obtain ⟨h66, e67, hf⟩ := obd hf
  refine o_pfR dX14_init_118 lk_X14_53 (⟨_, rfl, Or.inr ⟨rfl, rfl, rfl, wd_1153⟩⟩) rfl e67 ?_
  refine a_aload_n (q := 0) dX14_init_121 rfl rfl ?_
  refine a_sipush (v := 640) dX14_init_122 (by decide) ?_
  obtain ⟨v68, h69, e70, hf⟩ := ob2 hf
  refine o_nwI dX14_init_125 wd_63 e70 ?_
  obtain ⟨h71, e72, hf⟩ := obd hf
  refine o_pfR dX14_init_127 lk_X14_56 (⟨_, rfl, Or.inr ⟨rfl, rfl, rfl, wd_1154⟩⟩) rfl e72 ?_
  refine a_aload_n (q := 0) dX14_init_130 rfl rfl ?_
  refine a_sipush (v := 640) dX14_init_131 (by decide) ?_
  obtain ⟨v73, h74, e75, hf⟩ := ob2 hf
  refine o_nwI dX14_init_134 wd_63 e75 ?_
  obtain ⟨h76, e77, hf⟩ := obd hf
  refine o_pfR dX14_init_136 lk_X14_59 (⟨_, rfl, Or.inr ⟨rfl, rfl, rfl, wd_1155⟩⟩) rfl e77 ?_
  refine a_aload_n (q := 0) dX14_init_139 rfl rfl ?_
  refine a_sipush (v := 10240) dX14_init_140 (by decide) ?_
  obtain ⟨v78, h79, e80, hf⟩ := ob2 hf
  refine o_nwI dX14_init_143 wd_63 e80 ?_
  obtain ⟨h81, e82, hf⟩ := obd hf
  refine o_pfR dX14_init_145 lk_X14_62 (⟨_, rfl, Or.inr ⟨rfl, rfl, rfl, wd_1156⟩⟩) rfl e82 ?_
  refine a_aload_n (q := 0) dX14_init_148 rfl rfl ?_
  refine a_sipush (v := 640) dX14_init_149 (by decide) ?_
  obtain ⟨v83, h84, e85, hf⟩ := ob2 hf
  refine o_nwF dX14_init_152 wd_130 e85 ?_
  obtain ⟨h86, e87, hf⟩ := obd hf
  refine o_pfR dX14_init_154 lk_X14_65 (⟨_, rfl, Or.inr ⟨rfl, rfl, rfl, wd_1157⟩⟩) rfl e87 ?_
  refine a_aload_n (q := 0) dX14_init_157 rfl rfl ?_
  refine a_bipush (v := 72) dX14_init_158 (by decide) ?_
  obtain ⟨v88, h89, e90, hf⟩ := ob2 hf
  refine o_nwI dX14_init_160 wd_63 e90 ?_
  obtain ⟨h91, e92, hf⟩ := obd hf
  refine o_pfR dX14_init_162 lk_X14_68 (⟨_, rfl, Or.inr ⟨rfl, rfl, rfl, wd_1159⟩⟩) rfl e92 ?_
  refine a_aload_n (q := 0) dX14_init_165 rfl rfl ?_
  refine a_bipush (v := 12) dX14_init_166 (by decide) ?_
  obtain ⟨v93, h94, e95, hf⟩ := ob2 hf
  refine o_nwI dX14_init_168 wd_63 e95 ?_
  obtain ⟨h96, e97, hf⟩ := obd hf
  refine o_pfR dX14_init_170 lk_X14_71 (⟨_, rfl, Or.inr ⟨rfl, rfl, rfl, wd_1160⟩⟩) rfl e97 ?_
  refine a_aload_n (q := 0) dX14_init_173 rfl rfl ?_
  refine a_bipush (v := 12) dX14_init_174 (by decide) ?_
  obtain ⟨v98, h99, e100, hf⟩ := ob2 hf
  refine o_nwI dX14_init_176 wd_63 e100 ?_
  obtain ⟨h101, e102, hf⟩ := obd hf
  refine o_pfR dX14_init_178 lk_X14_74 (⟨_, rfl, Or.inr ⟨rfl, rfl, rfl, wd_1161⟩⟩) rfl e102 ?_
  refine a_aload_n (q := 0) dX14_init_181 rfl rfl ?_
  refine a_bipush (v := 12) dX14_init_182 (by decide) ?_
  obtain ⟨v103, h104, e105, hf⟩ := ob2 hf
  refine o_nwI dX14_init_184 wd_63 e105 ?_
  obtain ⟨h106, e107, hf⟩ := obd hf
  refine o_pfR dX14_init_186 lk_X14_77 (⟨_, rfl, Or.inr ⟨rfl, rfl, rfl, wd_1162⟩⟩) rfl e107 ?_
  refine a_aload_n (q := 0) dX14_init_189 rfl rfl ?_
  refine a_bipush (v := 80) dX14_init_190 (by decide) ?_
  obtain ⟨v108, h109, e110, hf⟩ := ob2 hf
  refine o_nwI dX14_init_192 wd_63 e110 ?_
  obtain ⟨h111, e112, hf⟩ := obd hf
  refine o_pfR dX14_init_194 lk_X14_80 (⟨_, rfl, Or.inr ⟨rfl, rfl, rfl, wd_1167⟩⟩) rfl e112 ?_
  refine a_aload_n (q := 0) dX14_init_197 rfl rfl ?_
  refine a_sipush (v := 480) dX14_init_198 (by decide) ?_
  obtain ⟨v113, h114, e115, hf⟩ := ob2 hf
  refine o_nwI dX14_init_201 wd_63 e115 ?_
  obtain ⟨h116, e117, hf⟩ := obd hf
  refine o_pfR dX14_init_203 lk_X14_83 (⟨_, rfl, Or.inr ⟨rfl, rfl, rfl, wd_1168⟩⟩) rfl e117 ?_
  refine a_aload_n (q := 0) dX14_init_206 rfl rfl ?_
  refine a_bipush (v := 80) dX14_init_207 (by decide) ?_
  obtain ⟨v118, h119, e120, hf⟩ := ob2 hf
  refine o_nwI dX14_init_209 wd_63 e120 ?_
  obtain ⟨h121, e122, hf⟩ := obd hf
  refine o_pfR dX14_init_211 lk_X14_86 (⟨_, rfl, Or.inr ⟨rfl, rfl, rfl, wd_1169⟩⟩) rfl e122 ?_
  refine a_aload_n (q := 0) dX14_init_214 rfl rfl ?_
  refine a_sipush (v := 128) dX14_init_215 (by decide) ?_
  obtain ⟨v123, h124, e125, hf⟩ := ob2 hf
  refine o_nwI dX14_init_218 wd_63 e125 ?_
  obtain ⟨h126, e127, hf⟩ := obd hf
  refine o_pfR dX14_init_220 lk_X14_89 (⟨_, rfl, Or.inr ⟨rfl, rfl, rfl, wd_1172⟩⟩) rfl e127 ?_
  refine a_aload_n (q := 0) dX14_init_223 rfl rfl ?_
  refine a_sipush (v := 128) dX14_init_224 (by decide) ?_
  obtain ⟨v128, h129, e130, hf⟩ := ob2 hf
  refine o_nwI dX14_init_227 wd_63 e130 ?_
  obtain ⟨h131, e132, hf⟩ := obd hf
  refine o_pfR dX14_init_229 lk_X14_92 (⟨_, rfl, Or.inr ⟨rfl, rfl, rfl, wd_1173⟩⟩) rfl e132 ?_
  refine a_aload_n (q := 0) dX14_init_232 rfl rfl ?_
  refine a_sipush (v := 128) dX14_init_233 (by decide) ?_
  obtain ⟨v133, h134, e135, hf⟩ := ob2 hf
  refine o_nwI dX14_init_236 wd_63 e135 ?_
  obtain ⟨h136, e137, hf⟩ := obd hf
  refine o_pfR dX14_init_238 lk_X14_95 (⟨_, rfl, Or.inr ⟨rfl, rfl, rfl, wd_1174⟩⟩) rfl e137 ?_
  refine a_aload_n (q := 0) dX14_init_241 rfl rfl ?_
  refine a_bipush (v := 6) dX14_init_242 (by decide) ?_
  obtain ⟨v138, h139, e140, hf⟩ := ob2 hf
  refine o_nwI dX14_init_244 wd_63 e140 ?_
  obtain ⟨h141, e142, hf⟩ := obd hf
  refine o_pfR dX14_init_246 lk_X14_98 (⟨_, rfl, Or.inr ⟨rfl, rfl, rfl, wd_1176⟩⟩) rfl e142 ?_
  refine a_aload_n (q := 0) dX14_init_249 rfl rfl ?_
  refine a_bipush (v := 6) dX14_init_250 (by decide) ?_
  obtain ⟨v143, h144, e145, hf⟩ := ob2 hf
  refine o_nwI dX14_init_252 wd_63 e145 ?_
  obtain ⟨h146, e147, hf⟩ := obd hf
  refine o_pfR dX14_init_254 lk_X14_101 (⟨_, rfl, Or.inr ⟨rfl, rfl, rfl, wd_1177⟩⟩) rfl e147 ?_
  refine a_aload_n (q := 0) dX14_init_257 rfl rfl ?_
  refine a_sipush (v := 360) dX14_init_258 (by decide) ?_
  obtain ⟨v148, h149, e150, hf⟩ := ob2 hf
  refine o_nwI dX14_init_261 wd_63 e150 ?_
  obtain ⟨h151, e152, hf⟩ := obd hf
  refine o_pfR dX14_init_263 lk_X14_104 (⟨_, rfl, Or.inr ⟨rfl, rfl, rfl, wd_1178⟩⟩) rfl e152 ?_
  refine a_aload_n (q := 0) dX14_init_266 rfl rfl ?_
  refine a_sipush (v := 360) dX14_init_267 (by decide) ?_
  obtain ⟨v153, h154, e155, hf⟩ := ob2 hf
  refine o_nwF dX14_init_270 wd_130 e155 ?_
  obtain ⟨h156, e157, hf⟩ := obd hf
  refine o_pfR dX14_init_272 lk_X14_107 (⟨_, rfl, Or.inr ⟨rfl, rfl, rfl, wd_1179⟩⟩) rfl e157 ?_
  refine a_aload_n (q := 0) dX14_init_275 rfl rfl ?_
  refine a_bipush (v := 6) dX14_init_276 (by decide) ?_
  obtain ⟨v158, h159, e160, hf⟩ := ob2 hf
  refine o_nwI dX14_init_278 wd_63 e160 ?_
  obtain ⟨h161, e162, hf⟩ := obd hf
  refine o_pfR dX14_init_280 lk_X14_110 (⟨_, rfl, Or.inr ⟨rfl, rfl, rfl, wd_1180⟩⟩) rfl e162 ?_
  refine a_aload_n (q := 0) dX14_init_283 rfl rfl ?_
  refine a_sipush (v := 960) dX14_init_284 (by decide) ?_
  obtain ⟨v163, h164, e165, hf⟩ := ob2 hf
  refine o_nwI dX14_init_287 wd_63 e165 ?_
  obtain ⟨h166, e167, hf⟩ := obd hf
  refine o_pfR dX14_init_289 lk_X14_113 (⟨_, rfl, Or.inr ⟨rfl, rfl, rfl, wd_1181⟩⟩) rfl e167 ?_
  refine a_aload_n (q := 0) dX14_init_292 rfl rfl ?_
  refine a_sipush (v := 400) dX14_init_293 (by decide) ?_
  obtain ⟨v168, h169, e170, hf⟩ := ob2 hf
  refine o_nwI dX14_init_296 wd_63 e170 ?_
  obtain ⟨h171, e172, hf⟩ := obd hf
  refine o_pfR dX14_init_298 lk_X14_116 (⟨_, rfl, Or.inr ⟨rfl, rfl, rfl, wd_1182⟩⟩) rfl e172 ?_
  refine a_aload_n (q := 0) dX14_init_301 rfl rfl ?_
  refine a_bipush (v := 8) dX14_init_302 (by decide) ?_
  obtain ⟨v173, h174, e175, hf⟩ := ob2 hf
  refine o_nwI dX14_init_304 wd_63 e175 ?_
  obtain ⟨h176, e177, hf⟩ := obd hf
  refine o_pfR dX14_init_306 lk_X14_119 (⟨_, rfl, Or.inr ⟨rfl, rfl, rfl, wd_1183⟩⟩) rfl e177 ?_
  refine a_aload_n (q := 0) dX14_init_309 rfl rfl ?_
  refine a_bipush (v := 8) dX14_init_310 (by decide) ?_
  obtain ⟨v178, h179, e180, hf⟩ := ob2 hf
  refine o_nwI dX14_init_312 wd_63 e180 ?_
  obtain ⟨h181, e182, hf⟩ := obd hf
  refine o_pfR dX14_init_314 lk_X14_122 (⟨_, rfl, Or.inr ⟨rfl, rfl, rfl, wd_1184⟩⟩) rfl e182 ?_
  refine a_aload_n (q := 0) dX14_init_317 rfl rfl ?_
  refine a_bipush (v := 8) dX14_init_318 (by decide) ?_
  obtain ⟨v183, h184, e185, hf⟩ := ob2 hf
  refine o_nwI dX14_init_320 wd_63 e185 ?_
  obtain ⟨h186, e187, hf⟩ := obd hf
  refine o_pfR dX14_init_322 lk_X14_125 (⟨_, rfl, Or.inr ⟨rfl, rfl, rfl, wd_1185⟩⟩) rfl e187 ?_
  refine a_aload_n (q := 0) dX14_init_325 rfl rfl ?_
  refine a_sipush (v := 128) dX14_init_326 (by decide) ?_
  obtain ⟨v188, h189, e190, hf⟩ := ob2 hf
  refine o_nwI dX14_init_329 wd_63 e190 ?_
  obtain ⟨h191, e192, hf⟩ := obd hf
  refine o_pfR dX14_init_331 lk_X14_128 (⟨_, rfl, Or.inr ⟨rfl, rfl, rfl, wd_1186⟩⟩) rfl e192 ?_
  refine a_aload_n (q := 0) dX14_init_334 rfl rfl ?_
  refine a_bipush (v := 8) dX14_init_335 (by decide) ?_
  obtain ⟨v193, h194, e195, hf⟩ := ob2 hf
  refine o_nwF dX14_init_337 wd_130 e195 ?_
  obtain ⟨h196, e197, hf⟩ := obd hf
  refine o_pfR dX14_init_339 lk_X14_131 (⟨_, rfl, Or.inr ⟨rfl, rfl, rfl, wd_1187⟩⟩) rfl e197 ?_
  refine a_iconst (v := 0) dX14_init_342 (by decide) ?_
  refine a_istore_n (lv1 := [(1, .int 0), (0, .ref a0)]) dX14_init_343 rfl (by decide) rfl ?_
  obtain ⟨h199, e198, hf⟩ := obd hf
  refine AW.sub [1, 0] rfl (sX14_init_l344 E D hD _ _ _ _ _ e198 ?_)
  obtain rfl := Option.some.inj hf
  exact a_return dX14_init_377 rfl
def fX14_isIn (a0 : Int64) (a1 : Int64) (a2 : Int64) (h : hp) : Option (Int32 × hp) :=
  if (lg_cmp a0 a1) < 0 then (
    some (0, h)
  ) else (
    if 0 < (lg_cmp a0 a2) then (
      some (0, h)
    ) else (
      some (1, h)
    )
  )
set_option maxHeartbeats 4000000 in
set_option maxRecDepth 100000 in
theorem sX14_isIn (E : gE) (D : Nat) (hD : 0 ≤ D) {a0 : Int64} {a1 : Int64} {a2 : Int64} {h hz : hp} {v0 : Int32} (hf : fX14_isIn a0 a1 a2 h = some (v0, hz)) : MC E yX14_isIn cX14_isIn (Option.some Jvm.ClassFile.FieldType.boolean) 6 D [.long a0, .long a1, .long a2] h (some (.int v0)) hz := by
  refine MC.of (by decide +kernel) (Nat.le_of_ble_eq_true rfl) rfl ?_
  unfold fX14_isIn at hf
  show AW E yX14_isIn cX14_isIn (Option.some Jvm.ClassFile.FieldType.boolean) 6 D (some (.int v0)) h hz 0 [(0, .long a0), (2, .long a1), (4, .long a2)] [] h
  refine a_lload_n (q := 0) dX14_isIn_0 rfl rfl ?_
  refine a_lload_n (q := 1) dX14_isIn_1 rfl rfl ?_
  refine a_lcmp dX14_isIn_2 ?_
  refine a_if_lt (tgt := 17) dX14_isIn_3 (by decide) (fun c => ?_) (fun c => ?_)
  · have hf := ifp c hf
    refine a_iconst (v := 0) dX14_isIn_17 (by decide) ?_
    obtain ⟨rfl, rfl⟩ := oc2 hf
    exact a_zreturn dX14_isIn_18 rfl (by decide)
  · have hf := ifn c hf
    refine a_lload_n (q := 0) dX14_isIn_6 rfl rfl ?_
    refine a_lload (q := 2) dX14_isIn_7 rfl ?_
    refine a_lcmp dX14_isIn_9 ?_
    refine a_if_gt (tgt := 17) dX14_isIn_10 (by decide) (fun c => ?_) (fun c => ?_)
    · have hf := ifp c hf
      refine a_iconst (v := 0) dX14_isIn_17 (by decide) ?_
      obtain ⟨rfl, rfl⟩ := oc2 hf
      exact a_zreturn dX14_isIn_18 rfl (by decide)
    · have hf := ifn c hf
      refine a_iconst (v := 1) dX14_isIn_13 (by decide) ?_
      refine a_goto (tgt := 18) dX14_isIn_14 (by decide) ?_
      obtain ⟨rfl, rfl⟩ := oc2 hf
      exact a_zreturn dX14_isIn_18 rfl (by decide)
def fX14_limited (a0 : UInt32) (h : hp) : Option (UInt32 × hp) :=
  jn (fun (s35_0 : UInt32) (h35j : hp) => (
    some (s35_0, h35j)
    : Option (UInt32 × hp))) fun k35 =>
  if (Op.cmpValue (FP.fcmp a0 1232348160) .l) ≤ 0 then (
    if 0 ≤ (Op.cmpValue (FP.fcmp a0 3379831808) .g) then (
      if (Op.cmpValue (FP.fcmp a0 FP.fconst0) .l) = 0 then (
        k35 FP.fconst0 h
      ) else (
        k35 a0 h
      )
    ) else (
      k35 3379831808 h
    )
  ) else (
    k35 1232348160 h
  )
set_option maxHeartbeats 4000000 in
set_option maxRecDepth 100000 in
theorem sX14_limited (E : gE) (D : Nat) (hD : 0 ≤ D) {a0 : UInt32} {h hz : hp} {v0 : UInt32} (hf : fX14_limited a0 h = some (v0, hz)) : MC E yX14_limited cX14_limited (Option.some Jvm.ClassFile.FieldType.float) 1 D [.float a0] h (some (.float v0)) hz := by
  refine MC.of (by decide +kernel) (Nat.le_of_ble_eq_true rfl) rfl ?_
  unfold fX14_limited at hf
  show AW E yX14_limited cX14_limited (Option.some Jvm.ClassFile.FieldType.float) 1 D (some (.float v0)) h hz 0 [(0, .float a0)] [] h
  refine a_fload_n (q := 0) dX14_limited_0 rfl rfl ?_
  refine a_ldcf (v := 1232348160) dX14_limited_1 wd_1548 ?_
  refine a_fcmp dX14_limited_3 ?_
  obtain ⟨k35, ek35, hf⟩ := jn_s hf
  have hj35 : ∀ (s35_0 : UInt32) (h35j : hp), k35 s35_0 h35j = some (v0, hz) → AW E yX14_limited cX14_limited (Option.some Jvm.ClassFile.FieldType.float) 1 D (some (.float v0)) h hz 35 [] [.float s35_0] h35j := by
    intro s35_0 h35j hf
    rw [ek35] at hf
    clear ek35
    obtain ⟨rfl, rfl⟩ := oc2 hf
    exact a_freturn dX14_limited_35 rfl
  clear ek35
  refine a_if_le (tgt := 12) dX14_limited_4 (by decide) (fun c => ?_) (fun c => ?_)
  · have hf := ifp c hf
    refine a_fload_n (q := 0) dX14_limited_12 rfl rfl ?_
    refine a_ldcf (v := 3379831808) dX14_limited_13 wd_1549 ?_
    refine a_fcmp dX14_limited_15 ?_
    refine a_if_ge (tgt := 24) dX14_limited_16 (by decide) (fun c => ?_) (fun c => ?_)
    · have hf := ifp c hf
      refine a_fload_n (q := 0) dX14_limited_24 rfl rfl ?_
      refine a_fconst0 dX14_limited_25 ?_
      refine a_fcmp dX14_limited_26 ?_
      refine a_if_ne (tgt := 34) dX14_limited_27 (by decide) (fun c => ?_) (fun c => ?_)
      · have hf := ifn c hf
        refine a_fload_n (q := 0) dX14_limited_34 rfl rfl ?_
        exact AW.sub [] rfl (hj35 _ _ hf)
      · have hf := ifp c hf
        refine a_fconst0 dX14_limited_30 ?_
        refine a_goto (tgt := 35) dX14_limited_31 (by decide) ?_
        exact AW.sub [] rfl (hj35 _ _ hf)
    · have hf := ifn c hf
      refine a_ldcf (v := 3379831808) dX14_limited_19 wd_1549 ?_
      refine a_goto (tgt := 35) dX14_limited_21 (by decide) ?_
      exact AW.sub [] rfl (hj35 _ _ hf)
  · have hf := ifn c hf
    refine a_ldcf (v := 1232348160) dX14_limited_7 wd_1548 ?_
    refine a_goto (tgt := 35) dX14_limited_9 (by decide) ?_
    exact AW.sub [] rfl (hj35 _ _ hf)
def fX14_copies_l50 : Nat → Nat → Int32 → Int32 → Int32 → hp → Option hp
  | 0, _, _, _, _, _ => none
  | n + 1, x0, x1, x2, x3, h =>
    if 16 ≤ x3 then (
      some (h)
    ) else (
      (gfR h x0 13 3).bind fun v1 =>
      (gfR h x0 13 3).bind fun v3 =>
      (alI h v3 ((16 * x1) + x3)).bind fun v5 =>
      (asI h v1 ((16 * x2) + x3) v5).bind fun h7 =>
      fX14_copies_l50 n x0 x1 x2 (x3 + 1) h7
    )
def fX14_copies (a0 : Nat) (a1 : Int32) (a2 : Int32) (h : hp) : Option hp :=
  (gfR h a0 13 0).bind fun v1 =>
  (gfR h a0 13 0).bind fun v3 =>
  (alI h v3 a1).bind fun v5 =>
  (asI h v1 a2 v5).bind fun h7 =>
  (gfR h7 a0 13 1).bind fun v9 =>
  (gfR h7 a0 13 1).bind fun v11 =>
  (alI h7 v11 a1).bind fun v13 =>
  (asI h7 v9 a2 v13).bind fun h15 =>
  (gfR h15 a0 13 2).bind fun v17 =>
  (gfR h15 a0 13 2).bind fun v19 =>
  (alI h15 v19 a1).bind fun v21 =>
  (asI h15 v17 a2 v21).bind fun h23 =>
  (gfR h23 a0 13 4).bind fun v25 =>
  (gfR h23 a0 13 4).bind fun v27 =>
  (alF h23 v27 a1).bind fun v29 =>
  (asF h23 v25 a2 v29).bind fun h31 =>
  (fX14_copies_l50 FU a0 a1 a2 0 h31).bind fun h34 =>
  some h34
set_option maxHeartbeats 4000000 in
set_option maxRecDepth 100000 in
theorem sX14_copies_l50 (E : gE) (D : Nat) (hD : 0 ≤ D) {rz : Option Value} {h0 hz : hp} : ∀ (n : Nat) (x0 : Nat) (x1 : Int32) (x2 : Int32) (x3 : Int32) (h : hp) (hq : hp), fX14_copies_l50 n x0 x1 x2 x3 h = some hq → (AW E yX14_copies cX14_copies (Option.none : Option Jvm.ClassFile.FieldType) 4 D rz h0 hz 84 [] [] hq) → AW E yX14_copies cX14_copies (Option.none : Option Jvm.ClassFile.FieldType) 4 D rz h0 hz 50 [(0, .ref x0), (1, .int x1), (2, .int x2), (3, .int x3)] [] h := by
  intro n
  induction n with
  | zero =>
    intro x0 x1 x2 x3 h hq hf _
    rw [fX14_copies_l50] at hf
    cases hf
  | succ n ih =>
    intro x0 x1 x2 x3 h hq hf hk0
    rw [fX14_copies_l50] at hf
    refine a_iload_n (q := 3) dX14_copies_50 rfl rfl ?_
    refine a_bipush (v := 16) dX14_copies_51 (by decide) ?_
    refine a_icmp_ge (tgt := 84) dX14_copies_53 (by decide) (fun c => ?_) (fun c => ?_)
    · have hf := ifp c hf
      obtain rfl := Option.some.inj hf
      exact AW.sub [] rfl (hk0)
    · have hf := ifn c hf
      refine a_aload_n (q := 0) dX14_copies_56 rfl rfl ?_
      obtain ⟨v1, e2, hf⟩ := obd hf
      refine o_gfR dX14_copies_57 lk_X14_21 rfl e2 ?_
      refine a_bipush (v := 16) dX14_copies_60 (by decide) ?_
      refine a_iload_n (q := 2) dX14_copies_62 rfl rfl ?_
      refine a_imul dX14_copies_63 ?_
      refine a_iload_n (q := 3) dX14_copies_64 rfl rfl ?_
      refine a_iadd dX14_copies_65 ?_
      refine a_aload_n (q := 0) dX14_copies_66 rfl rfl ?_
      obtain ⟨v3, e4, hf⟩ := obd hf
      refine o_gfR dX14_copies_67 lk_X14_21 rfl e4 ?_
      refine a_bipush (v := 16) dX14_copies_70 (by decide) ?_
      refine a_iload_n (q := 1) dX14_copies_72 rfl rfl ?_
      refine a_imul dX14_copies_73 ?_
      refine a_iload_n (q := 3) dX14_copies_74 rfl rfl ?_
      refine a_iadd dX14_copies_75 ?_
      obtain ⟨v5, e6, hf⟩ := obd hf
      refine o_alI dX14_copies_76 e6 ?_
      obtain ⟨h7, e8, hf⟩ := obd hf
      refine o_asI dX14_copies_77 e8 ?_
      refine a_iinc (q := 3) (v := (x3 + 1)) (lv1 := [(3, .int (x3 + 1)), (0, .ref x0), (1, .int x1), (2, .int x2)]) dX14_copies_78 rfl (by rfl) (by decide) rfl ?_
      refine a_goto (tgt := 50) dX14_copies_81 (by decide) ?_
      exact AW.sub [1, 2, 3, 0] rfl (ih _ _ _ _ _ _ hf hk0)
set_option maxHeartbeats 4000000 in
set_option maxRecDepth 100000 in
theorem sX14_copies (E : gE) (D : Nat) (hD : 0 ≤ D) {a0 : Nat} {a1 : Int32} {a2 : Int32} {h hz : hp} (hf : fX14_copies a0 a1 a2 h = some hz) : MC E yX14_copies cX14_copies (Option.none : Option Jvm.ClassFile.FieldType) 4 D [.ref a0, .int a1, .int a2] h none hz := by
  refine MC.of (by decide +kernel) (Nat.le_of_ble_eq_true rfl) rfl ?_
  unfold fX14_copies at hf
  show AW E yX14_copies cX14_copies (Option.none : Option Jvm.ClassFile.FieldType) 4 D none h hz 0 [(0, .ref a0), (1, .int a1), (2, .int a2)] [] h
  refine a_aload_n (q := 0) dX14_copies_0 rfl rfl ?_
  obtain ⟨v1, e2, hf⟩ := obd hf
  refine o_gfR dX14_copies_1 lk_X14_11 rfl e2 ?_
  refine a_iload_n (q := 2) dX14_copies_4 rfl rfl ?_
  refine a_aload_n (q := 0) dX14_copies_5 rfl rfl ?_
  obtain ⟨v3, e4, hf⟩ := obd hf
  refine o_gfR dX14_copies_6 lk_X14_11 rfl e4 ?_
  refine a_iload_n (q := 1) dX14_copies_9 rfl rfl ?_
  obtain ⟨v5, e6, hf⟩ := obd hf
  refine o_alI dX14_copies_10 e6 ?_
  obtain ⟨h7, e8, hf⟩ := obd hf
  refine o_asI dX14_copies_11 e8 ?_
  refine a_aload_n (q := 0) dX14_copies_12 rfl rfl ?_
  obtain ⟨v9, e10, hf⟩ := obd hf
  refine o_gfR dX14_copies_13 lk_X14_15 rfl e10 ?_
  refine a_iload_n (q := 2) dX14_copies_16 rfl rfl ?_
  refine a_aload_n (q := 0) dX14_copies_17 rfl rfl ?_
  obtain ⟨v11, e12, hf⟩ := obd hf
  refine o_gfR dX14_copies_18 lk_X14_15 rfl e12 ?_
  refine a_iload_n (q := 1) dX14_copies_21 rfl rfl ?_
  obtain ⟨v13, e14, hf⟩ := obd hf
  refine o_alI dX14_copies_22 e14 ?_
  obtain ⟨h15, e16, hf⟩ := obd hf
  refine o_asI dX14_copies_23 e16 ?_
  refine a_aload_n (q := 0) dX14_copies_24 rfl rfl ?_
  obtain ⟨v17, e18, hf⟩ := obd hf
  refine o_gfR dX14_copies_25 lk_X14_18 rfl e18 ?_
  refine a_iload_n (q := 2) dX14_copies_28 rfl rfl ?_
  refine a_aload_n (q := 0) dX14_copies_29 rfl rfl ?_
  obtain ⟨v19, e20, hf⟩ := obd hf
  refine o_gfR dX14_copies_30 lk_X14_18 rfl e20 ?_
  refine a_iload_n (q := 1) dX14_copies_33 rfl rfl ?_
  obtain ⟨v21, e22, hf⟩ := obd hf
  refine o_alI dX14_copies_34 e22 ?_
  obtain ⟨h23, e24, hf⟩ := obd hf
  refine o_asI dX14_copies_35 e24 ?_
  refine a_aload_n (q := 0) dX14_copies_36 rfl rfl ?_
  obtain ⟨v25, e26, hf⟩ := obd hf
  refine o_gfR dX14_copies_37 lk_X14_24 rfl e26 ?_
  refine a_iload_n (q := 2) dX14_copies_40 rfl rfl ?_
  refine a_aload_n (q := 0) dX14_copies_41 rfl rfl ?_
  obtain ⟨v27, e28, hf⟩ := obd hf
  refine o_gfR dX14_copies_42 lk_X14_24 rfl e28 ?_
  refine a_iload_n (q := 1) dX14_copies_45 rfl rfl ?_
  obtain ⟨v29, e30, hf⟩ := obd hf
  refine o_alF dX14_copies_46 e30 ?_
  obtain ⟨h31, e32, hf⟩ := obd hf
  refine o_asF dX14_copies_47 e32 ?_
  refine a_iconst (v := 0) dX14_copies_48 (by decide) ?_
  refine a_istore_n (lv1 := [(3, .int 0), (0, .ref a0), (1, .int a1), (2, .int a2)]) dX14_copies_49 rfl (by decide) rfl ?_
  obtain ⟨h34, e33, hf⟩ := obd hf
  refine AW.sub [1, 2, 3, 0] rfl (sX14_copies_l50 E D hD _ _ _ _ _ _ _ e33 ?_)
  obtain rfl := Option.some.inj hf
  exact a_return dX14_copies_84 rfl
def fX14_isInt (a0 : Nat) (a1 : Int32) (a2 : Int32) (h : hp) : Option hp :=
  (gfR h a0 13 0).bind fun v1 =>
  (asI h v1 a1 1).bind fun h3 =>
  (gfR h3 a0 13 1).bind fun v5 =>
  (asI h3 v5 a1 a2).bind fun h7 =>
  some h7
set_option maxHeartbeats 4000000 in
set_option maxRecDepth 100000 in
theorem sX14_isInt (E : gE) (D : Nat) (hD : 0 ≤ D) {a0 : Nat} {a1 : Int32} {a2 : Int32} {h hz : hp} (hf : fX14_isInt a0 a1 a2 h = some hz) : MC E yX14_isInt cX14_isInt (Option.none : Option Jvm.ClassFile.FieldType) 3 D [.ref a0, .int a1, .int a2] h none hz := by
  refine MC.of (by decide +kernel) (Nat.le_of_ble_eq_true rfl) rfl ?_
  unfold fX14_isInt at hf
  show AW E yX14_isInt cX14_isInt (Option.none : Option Jvm.ClassFile.FieldType) 3 D none h hz 0 [(0, .ref a0), (1, .int a1), (2, .int a2)] [] h
  refine a_aload_n (q := 0) dX14_isInt_0 rfl rfl ?_
  obtain ⟨v1, e2, hf⟩ := obd hf
  refine o_gfR dX14_isInt_1 lk_X14_11 rfl e2 ?_
  refine a_iload_n (q := 1) dX14_isInt_4 rfl rfl ?_
  refine a_iconst (v := 1) dX14_isInt_5 (by decide) ?_
  obtain ⟨h3, e4, hf⟩ := obd hf
  refine o_asI dX14_isInt_6 e4 ?_
  refine a_aload_n (q := 0) dX14_isInt_7 rfl rfl ?_
  obtain ⟨v5, e6, hf⟩ := obd hf
  refine o_gfR dX14_isInt_8 lk_X14_15 rfl e6 ?_
  refine a_iload_n (q := 1) dX14_isInt_11 rfl rfl ?_
  refine a_iload_n (q := 2) dX14_isInt_12 rfl rfl ?_
  obtain ⟨h7, e8, hf⟩ := obd hf
  refine o_asI dX14_isInt_13 e8 ?_
  obtain rfl := Option.some.inj hf
  exact a_return dX14_isInt_14 rfl
def fX14_isReal (a0 : Nat) (a1 : Int32) (a2 : UInt32) (h : hp) : Option hp :=
  (gfR h a0 13 0).bind fun v1 =>
  (asI h v1 a1 2).bind fun h3 =>
  (gfR h3 a0 13 4).bind fun v5 =>
  bd2 (fX14_limited a2 h3) fun v8 h9 =>
  (asF h9 v5 a1 v8).bind fun h10 =>
  some h10
set_option maxHeartbeats 4000000 in
set_option maxRecDepth 100000 in
theorem sX14_isReal (E : gE) (D : Nat) (hD : 1 ≤ D) {a0 : Nat} {a1 : Int32} {a2 : UInt32} {h hz : hp} (hf : fX14_isReal a0 a1 a2 h = some hz) : MC E yX14_isReal cX14_isReal (Option.none : Option Jvm.ClassFile.FieldType) 3 D [.ref a0, .int a1, .float a2] h none hz := by
  refine MC.of (by decide +kernel) (Nat.le_of_ble_eq_true rfl) rfl ?_
  unfold fX14_isReal at hf
  show AW E yX14_isReal cX14_isReal (Option.none : Option Jvm.ClassFile.FieldType) 3 D none h hz 0 [(0, .ref a0), (1, .int a1), (2, .float a2)] [] h
  refine a_aload_n (q := 0) dX14_isReal_0 rfl rfl ?_
  obtain ⟨v1, e2, hf⟩ := obd hf
  refine o_gfR dX14_isReal_1 lk_X14_11 rfl e2 ?_
  refine a_iload_n (q := 1) dX14_isReal_4 rfl rfl ?_
  refine a_iconst (v := 2) dX14_isReal_5 (by decide) ?_
  obtain ⟨h3, e4, hf⟩ := obd hf
  refine o_asI dX14_isReal_6 e4 ?_
  refine a_aload_n (q := 0) dX14_isReal_7 rfl rfl ?_
  obtain ⟨v5, e6, hf⟩ := obd hf
  refine o_gfR dX14_isReal_8 lk_X14_24 rfl e6 ?_
  refine a_iload_n (q := 1) dX14_isReal_11 rfl rfl ?_
  refine a_fload_n (q := 2) dX14_isReal_12 rfl rfl ?_
  obtain ⟨v8, h9, e7, hf⟩ := ob2 hf
  refine a_callS (as := [.float a2]) (np := 1) (st := [.int a1, .ref v5]) (sX14_limited E (D - 1) (by omega) e7) dX14_isReal_13 rfl (by omega) (by decide) cw_X14_136 wd_1546 rfl (Nat.le_of_ble_eq_true rfl) ?_
  obtain ⟨h10, e11, hf⟩ := obd hf
  refine o_asF dX14_isReal_16 e11 ?_
  obtain rfl := Option.some.inj hf
  exact a_return dX14_isReal_17 rfl
def fX14_isTrue (a0 : Nat) (a1 : Int32) (h : hp) : Option (Int32 × hp) :=
  (gfR h a0 13 0).bind fun v1 =>
  (alI h v1 a1).bind fun v3 =>
  if v3 = 0 then (
    some (0, h)
  ) else (
  if v3 = 1 then (
    (gfR h a0 13 1).bind fun v5 =>
    (alI h v5 a1).bind fun v7 =>
    if v7 = 0 then (
      some (0, h)
    ) else (
      some (1, h)
    )
  ) else (
  if v3 = 2 then (
    (gfR h a0 13 4).bind fun v9 =>
    (alF h v9 a1).bind fun v11 =>
    if (Op.cmpValue (FP.fcmp v11 FP.fconst0) .l) = 0 then (
      some (0, h)
    ) else (
      some (1, h)
    )
  ) else (
    (gfR h a0 13 2).bind fun v13 =>
    (alI h v13 a1).bind fun v15 =>
    if v15 ≤ 0 then (
      some (0, h)
    ) else (
      some (1, h)
    )
  )))
set_option maxHeartbeats 4000000 in
set_option maxRecDepth 100000 in
theorem sX14_isTrue (E : gE) (D : Nat) (hD : 0 ≤ D) {a0 : Nat} {a1 : Int32} {h hz : hp} {v0 : Int32} (hf : fX14_isTrue a0 a1 h = some (v0, hz)) : MC E yX14_isTrue cX14_isTrue (Option.some Jvm.ClassFile.FieldType.boolean) 2 D [.ref a0, .int a1] h (some (.int v0)) hz := by
  refine MC.of (by decide +kernel) (Nat.le_of_ble_eq_true rfl) rfl ?_
  unfold fX14_isTrue at hf
  show AW E yX14_isTrue cX14_isTrue (Option.some Jvm.ClassFile.FieldType.boolean) 2 D (some (.int v0)) h hz 0 [(0, .ref a0), (1, .int a1)] [] h
  refine a_aload_n (q := 0) dX14_isTrue_0 rfl rfl ?_
  obtain ⟨v1, e2, hf⟩ := obd hf
  refine o_gfR dX14_isTrue_1 lk_X14_11 rfl e2 ?_
  refine a_iload_n (q := 1) dX14_isTrue_4 rfl rfl ?_
  obtain ⟨v3, e4, hf⟩ := obd hf
  refine o_alI dX14_isTrue_5 e4 ?_
  by_cases c6_0 : v3 = 0
  · have hf := ifp c6_0 hf
    refine a_tblIn (k := 0) (off := 26) (tgt := 32) dX14_isTrue_6 c6_0 (by decide) (by decide) rfl (by decide) ?_
    refine a_iconst (v := 0) dX14_isTrue_32 (by decide) ?_
    obtain ⟨rfl, rfl⟩ := oc2 hf
    exact a_zreturn dX14_isTrue_33 rfl (by decide)
  have hf := ifn c6_0 hf
  by_cases c6_1 : v3 = 1
  · have hf := ifp c6_1 hf
    refine a_tblIn (k := 1) (off := 28) (tgt := 34) dX14_isTrue_6 c6_1 (by decide) (by decide) rfl (by decide) ?_
    refine a_aload_n (q := 0) dX14_isTrue_34 rfl rfl ?_
    obtain ⟨v5, e6, hf⟩ := obd hf
    refine o_gfR dX14_isTrue_35 lk_X14_15 rfl e6 ?_
    refine a_iload_n (q := 1) dX14_isTrue_38 rfl rfl ?_
    obtain ⟨v7, e8, hf⟩ := obd hf
    refine o_alI dX14_isTrue_39 e8 ?_
    refine a_if_eq (tgt := 47) dX14_isTrue_40 (by decide) (fun c => ?_) (fun c => ?_)
    · have hf := ifp c hf
      refine a_iconst (v := 0) dX14_isTrue_47 (by decide) ?_
      obtain ⟨rfl, rfl⟩ := oc2 hf
      exact a_zreturn dX14_isTrue_48 rfl (by decide)
    · have hf := ifn c hf
      refine a_iconst (v := 1) dX14_isTrue_43 (by decide) ?_
      refine a_goto (tgt := 48) dX14_isTrue_44 (by decide) ?_
      obtain ⟨rfl, rfl⟩ := oc2 hf
      exact a_zreturn dX14_isTrue_48 rfl (by decide)
  have hf := ifn c6_1 hf
  by_cases c6_2 : v3 = 2
  · have hf := ifp c6_2 hf
    refine a_tblIn (k := 2) (off := 43) (tgt := 49) dX14_isTrue_6 c6_2 (by decide) (by decide) rfl (by decide) ?_
    refine a_aload_n (q := 0) dX14_isTrue_49 rfl rfl ?_
    obtain ⟨v9, e10, hf⟩ := obd hf
    refine o_gfR dX14_isTrue_50 lk_X14_24 rfl e10 ?_
    refine a_iload_n (q := 1) dX14_isTrue_53 rfl rfl ?_
    obtain ⟨v11, e12, hf⟩ := obd hf
    refine o_alF dX14_isTrue_54 e12 ?_
    refine a_fconst0 dX14_isTrue_55 ?_
    refine a_fcmp dX14_isTrue_56 ?_
    refine a_if_eq (tgt := 64) dX14_isTrue_57 (by decide) (fun c => ?_) (fun c => ?_)
    · have hf := ifp c hf
      refine a_iconst (v := 0) dX14_isTrue_64 (by decide) ?_
      obtain ⟨rfl, rfl⟩ := oc2 hf
      exact a_zreturn dX14_isTrue_65 rfl (by decide)
    · have hf := ifn c hf
      refine a_iconst (v := 1) dX14_isTrue_60 (by decide) ?_
      refine a_goto (tgt := 65) dX14_isTrue_61 (by decide) ?_
      obtain ⟨rfl, rfl⟩ := oc2 hf
      exact a_zreturn dX14_isTrue_65 rfl (by decide)
  have hf := ifn c6_2 hf
  have t6_0 := lv_neT (a := 0) c6_0 rfl
  have t6_1 := lv_neT (a := 1) c6_1 rfl
  have t6_2 := lv_neT (a := 2) c6_2 rfl
  refine a_tblOut (tgt := 66) dX14_isTrue_6 (by omega) (by decide) ?_
  refine a_aload_n (q := 0) dX14_isTrue_66 rfl rfl ?_
  obtain ⟨v13, e14, hf⟩ := obd hf
  refine o_gfR dX14_isTrue_67 lk_X14_18 rfl e14 ?_
  refine a_iload_n (q := 1) dX14_isTrue_70 rfl rfl ?_
  obtain ⟨v15, e16, hf⟩ := obd hf
  refine o_alI dX14_isTrue_71 e16 ?_
  refine a_if_le (tgt := 79) dX14_isTrue_72 (by decide) (fun c => ?_) (fun c => ?_)
  · have hf := ifp c hf
    refine a_iconst (v := 0) dX14_isTrue_79 (by decide) ?_
    obtain ⟨rfl, rfl⟩ := oc2 hf
    exact a_zreturn dX14_isTrue_80 rfl (by decide)
  · have hf := ifn c hf
    refine a_iconst (v := 1) dX14_isTrue_75 (by decide) ?_
    refine a_goto (tgt := 80) dX14_isTrue_76 (by decide) ?_
    obtain ⟨rfl, rfl⟩ := oc2 hf
    exact a_zreturn dX14_isTrue_80 rfl (by decide)
def fX14_shows (a0 : Nat) (a1 : Int32) (h : hp) : Option hp :=
  (gfR h a0 13 5).bind fun v1 =>
  (gfI h a0 13 6).bind fun v3 =>
  (asI h v1 v3 a1).bind fun h5 =>
  (gfI h5 a0 13 6).bind fun v7 =>
  (pfI h5 a0 13 6 (v7 + 1)).bind fun h9 =>
  some h9
set_option maxHeartbeats 4000000 in
set_option maxRecDepth 100000 in
theorem sX14_shows (E : gE) (D : Nat) (hD : 0 ≤ D) {a0 : Nat} {a1 : Int32} {h hz : hp} (hf : fX14_shows a0 a1 h = some hz) : MC E yX14_shows cX14_shows (Option.none : Option Jvm.ClassFile.FieldType) 2 D [.ref a0, .int a1] h none hz := by
  refine MC.of (by decide +kernel) (Nat.le_of_ble_eq_true rfl) rfl ?_
  unfold fX14_shows at hf
  show AW E yX14_shows cX14_shows (Option.none : Option Jvm.ClassFile.FieldType) 2 D none h hz 0 [(0, .ref a0), (1, .int a1)] [] h
  refine a_aload_n (q := 0) dX14_shows_0 rfl rfl ?_
  obtain ⟨v1, e2, hf⟩ := obd hf
  refine o_gfR dX14_shows_1 lk_X14_28 rfl e2 ?_
  refine a_aload_n (q := 0) dX14_shows_4 rfl rfl ?_
  obtain ⟨v3, e4, hf⟩ := obd hf
  refine o_gfI dX14_shows_5 lk_X14_140 rfl e4 ?_
  refine a_iload_n (q := 1) dX14_shows_8 rfl rfl ?_
  obtain ⟨h5, e6, hf⟩ := obd hf
  refine o_asI dX14_shows_9 e6 ?_
  refine a_aload_n (q := 0) dX14_shows_10 rfl rfl ?_
  refine a_dup dX14_shows_11 rfl ?_
  obtain ⟨v7, e8, hf⟩ := obd hf
  refine o_gfI dX14_shows_12 lk_X14_140 rfl e8 ?_
  refine a_iconst (v := 1) dX14_shows_15 (by decide) ?_
  refine a_iadd dX14_shows_16 ?_
  obtain ⟨h9, e10, hf⟩ := obd hf
  refine o_pfI dX14_shows_17 lk_X14_140 (⟨_, rfl, Or.inl rfl⟩) rfl e10 ?_
  obtain rfl := Option.some.inj hf
  exact a_return dX14_shows_20 rfl
def fX14_showsInt_l23 : Nat → Nat → Int32 → Int32 → hp → Option (Int32 × hp)
  | 0, _, _, _, _ => none
  | n + 1, x0, x2, x3, h =>
    (dvI x2 x3).bind fun v1 =>
    if v1 ≤ 9 then (
      some (x3, h)
    ) else (
      fX14_showsInt_l23 n x0 x2 (x3 * 10) h
    )
def fX14_showsInt_l39 : Nat → Nat → Int32 → Int32 → hp → Option hp
  | 0, _, _, _, _ => none
  | n + 1, x0, x2, x3, h =>
    if x3 ≤ 0 then (
      some (h)
    ) else (
      (dvI x2 x3).bind fun v1 =>
      (rmI v1 10).bind fun v3 =>
      (ckT h x0 13).bind fun _ =>
      (fX14_shows x0 (48 + v3) h).bind fun h6 =>
      (dvI x3 10).bind fun v8 =>
      fX14_showsInt_l39 n x0 x2 v8 h6
    )
def fX14_showsInt (a0 : Nat) (a1 : Int32) (h : hp) : Option hp :=
  jn (fun (h10j : hp) => (
    jn (fun (s20_0 : Int32) (h20j : hp) => (
      bd2 (fX14_showsInt_l23 FU a0 s20_0 1 h20j) fun v3 h2 =>
      (fX14_showsInt_l39 FU a0 s20_0 v3 h2).bind fun h5 =>
      some h5
      : Option hp)) fun k20 =>
    if 0 ≤ a1 then (
      k20 a1 h10j
    ) else (
      k20 (-a1) h10j
    )
    : Option hp)) fun k10 =>
  if 0 ≤ a1 then (
    k10 h
  ) else (
    (ckT h a0 13).bind fun _ =>
    (fX14_shows a0 45 h).bind fun h7 =>
    k10 h7
  )
set_option maxHeartbeats 4000000 in
set_option maxRecDepth 100000 in
theorem sX14_showsInt_l23 (E : gE) (D : Nat) (hD : 1 ≤ D) {rz : Option Value} {h0 hz : hp} : ∀ (n : Nat) (x0 : Nat) (x2 : Int32) (x3 : Int32) (h : hp) (m3 : Int32) (hq : hp), fX14_showsInt_l23 n x0 x2 x3 h = some (m3, hq) → (AW E yX14_showsInt cX14_showsInt (Option.none : Option Jvm.ClassFile.FieldType) 4 D rz h0 hz 39 [(0, .ref x0), (2, .int x2), (3, .int m3)] [] hq) → AW E yX14_showsInt cX14_showsInt (Option.none : Option Jvm.ClassFile.FieldType) 4 D rz h0 hz 23 [(0, .ref x0), (2, .int x2), (3, .int x3)] [] h := by
  intro n
  induction n with
  | zero =>
    intro x0 x2 x3 h m3 hq hf _
    rw [fX14_showsInt_l23] at hf
    cases hf
  | succ n ih =>
    intro x0 x2 x3 h m3 hq hf hk0
    rw [fX14_showsInt_l23] at hf
    refine a_iload_n (q := 1) dX14_showsInt_23 rfl rfl ?_
    refine a_iload_n (q := 2) dX14_showsInt_24 rfl rfl ?_
    obtain ⟨v1, e2, hf⟩ := obd hf
    refine o_dvI dX14_showsInt_25 e2 ?_
    refine a_bipush (v := 9) dX14_showsInt_26 (by decide) ?_
    refine a_icmp_le (tgt := 39) dX14_showsInt_28 (by decide) (fun c => ?_) (fun c => ?_)
    · have hf := ifp c hf
      obtain ⟨rfl, rfl⟩ := oc2 hf
      exact hk0
    · have hf := ifn c hf
      refine a_iload_n (q := 2) dX14_showsInt_31 rfl rfl ?_
      refine a_bipush (v := 10) dX14_showsInt_32 (by decide) ?_
      refine a_imul dX14_showsInt_34 ?_
      refine a_istore_n (lv1 := [(3, .int (x3 * 10)), (0, .ref x0), (2, .int x2)]) dX14_showsInt_35 rfl (by decide) rfl ?_
      refine a_goto (tgt := 23) dX14_showsInt_36 (by decide) ?_
      exact AW.sub [1, 2, 0] rfl (ih _ _ _ _ _ _ hf hk0)
set_option maxHeartbeats 4000000 in
set_option maxRecDepth 100000 in
theorem sX14_showsInt_l39 (E : gE) (D : Nat) (hD : 1 ≤ D) {rz : Option Value} {h0 hz : hp} : ∀ (n : Nat) (x0 : Nat) (x2 : Int32) (x3 : Int32) (h : hp) (hq : hp), fX14_showsInt_l39 n x0 x2 x3 h = some hq → (AW E yX14_showsInt cX14_showsInt (Option.none : Option Jvm.ClassFile.FieldType) 4 D rz h0 hz 64 [] [] hq) → AW E yX14_showsInt cX14_showsInt (Option.none : Option Jvm.ClassFile.FieldType) 4 D rz h0 hz 39 [(0, .ref x0), (2, .int x2), (3, .int x3)] [] h := by
  intro n
  induction n with
  | zero =>
    intro x0 x2 x3 h hq hf _
    rw [fX14_showsInt_l39] at hf
    cases hf
  | succ n ih =>
    intro x0 x2 x3 h hq hf hk0
    rw [fX14_showsInt_l39] at hf
    refine a_iload_n (q := 2) dX14_showsInt_39 rfl rfl ?_
    refine a_if_le (tgt := 64) dX14_showsInt_40 (by decide) (fun c => ?_) (fun c => ?_)
    · have hf := ifp c hf
      obtain rfl := Option.some.inj hf
      exact AW.sub [] rfl (hk0)
    · have hf := ifn c hf
      refine a_aload_n (q := 0) dX14_showsInt_43 rfl rfl ?_
      refine a_bipush (v := 48) dX14_showsInt_44 (by decide) ?_
      refine a_iload_n (q := 1) dX14_showsInt_46 rfl rfl ?_
      refine a_iload_n (q := 2) dX14_showsInt_47 rfl rfl ?_
      obtain ⟨v1, e2, hf⟩ := obd hf
      refine o_dvI dX14_showsInt_48 e2 ?_
      refine a_bipush (v := 10) dX14_showsInt_49 (by decide) ?_
      obtain ⟨v3, e4, hf⟩ := obd hf
      refine o_rmI dX14_showsInt_51 e4 ?_
      refine a_iadd dX14_showsInt_52 ?_
      obtain ⟨_, e7, hf⟩ := obd hf
      obtain ⟨h6, e5, hf⟩ := obd hf
      refine a_callV (as := [.int (48 + v3)]) (np := 1) (ci := 13) (st := []) (sX14_shows E (D - 1) (by omega) e5) dX14_showsInt_53 rfl (by omega) (by decide) cw_X14_143 ⟨wd_1670, ws_130⟩ rfl (ckT_s e7) rfl (Nat.le_of_ble_eq_true rfl) ?_
      refine a_iload_n (q := 2) dX14_showsInt_56 rfl rfl ?_
      refine a_bipush (v := 10) dX14_showsInt_57 (by decide) ?_
      obtain ⟨v8, e9, hf⟩ := obd hf
      refine o_dvI dX14_showsInt_59 e9 ?_
      refine a_istore_n (lv1 := [(3, .int v8), (0, .ref x0), (2, .int x2)]) dX14_showsInt_60 rfl (by decide) rfl ?_
      refine a_goto (tgt := 39) dX14_showsInt_61 (by decide) ?_
      exact AW.sub [1, 2, 0] rfl (ih _ _ _ _ _ hf hk0)
set_option maxHeartbeats 4000000 in
set_option maxRecDepth 100000 in
theorem sX14_showsInt (E : gE) (D : Nat) (hD : 1 ≤ D) {a0 : Nat} {a1 : Int32} {h hz : hp} (hf : fX14_showsInt a0 a1 h = some hz) : MC E yX14_showsInt cX14_showsInt (Option.none : Option Jvm.ClassFile.FieldType) 4 D [.ref a0, .int a1] h none hz := by
  refine MC.of (by decide +kernel) (Nat.le_of_ble_eq_true rfl) rfl ?_
  unfold fX14_showsInt at hf
  show AW E yX14_showsInt cX14_showsInt (Option.none : Option Jvm.ClassFile.FieldType) 4 D none h hz 0 [(0, .ref a0), (1, .int a1)] [] h
  refine a_iload_n (q := 1) dX14_showsInt_0 rfl rfl ?_
  obtain ⟨k10, ek10, hf⟩ := jn_s hf
  have hj10 : ∀ (h10j : hp), k10 h10j = some hz → AW E yX14_showsInt cX14_showsInt (Option.none : Option Jvm.ClassFile.FieldType) 4 D none h hz 10 [(0, .ref a0), (1, .int a1)] [] h10j := by
    intro h10j hf
    rw [ek10] at hf
    clear ek10
    refine a_iload_n (q := 1) dX14_showsInt_10 rfl rfl ?_
    obtain ⟨k20, ek20, hf⟩ := jn_s hf
    have hj20 : ∀ (s20_0 : Int32) (h20j : hp), k20 s20_0 h20j = some hz → AW E yX14_showsInt cX14_showsInt (Option.none : Option Jvm.ClassFile.FieldType) 4 D none h hz 20 [(0, .ref a0)] [.int s20_0] h20j := by
      intro s20_0 h20j hf
      rw [ek20] at hf
      clear ek20
      refine a_istore_n (lv1 := [(2, .int s20_0), (0, .ref a0)]) dX14_showsInt_20 rfl (by decide) rfl ?_
      refine a_iconst (v := 1) dX14_showsInt_21 (by decide) ?_
      refine a_istore_n (lv1 := [(3, .int 1), (2, .int s20_0), (0, .ref a0)]) dX14_showsInt_22 rfl (by decide) rfl ?_
      obtain ⟨v3, h2, e1, hf⟩ := ob2 hf
      refine AW.sub [2, 1, 0] rfl (sX14_showsInt_l23 E D hD _ _ _ _ _ _ _ e1 ?_)
      obtain ⟨h5, e4, hf⟩ := obd hf
      refine sX14_showsInt_l39 E D hD _ _ _ _ _ _ e4 ?_
      obtain rfl := Option.some.inj hf
      exact a_return dX14_showsInt_64 rfl
    clear ek20
    refine a_if_ge (tgt := 19) dX14_showsInt_11 (by decide) (fun c => ?_) (fun c => ?_)
    · have hf := ifp c hf
      refine a_iload_n (q := 1) dX14_showsInt_19 rfl rfl ?_
      exact AW.sub [0] rfl (hj20 _ _ hf)
    · have hf := ifn c hf
      refine a_iload_n (q := 1) dX14_showsInt_14 rfl rfl ?_
      refine a_ineg dX14_showsInt_15 ?_
      refine a_goto (tgt := 20) dX14_showsInt_16 (by decide) ?_
      exact AW.sub [0] rfl (hj20 _ _ hf)
  clear ek10
  refine a_if_ge (tgt := 10) dX14_showsInt_1 (by decide) (fun c => ?_) (fun c => ?_)
  · have hf := ifp c hf
    exact hj10 _ hf
  · have hf := ifn c hf
    refine a_aload_n (q := 0) dX14_showsInt_4 rfl rfl ?_
    refine a_bipush (v := 45) dX14_showsInt_5 (by decide) ?_
    obtain ⟨_, e8, hf⟩ := obd hf
    obtain ⟨h7, e6, hf⟩ := obd hf
    refine a_callV (as := [.int 45]) (np := 1) (ci := 13) (st := []) (sX14_shows E (D - 1) (by omega) e6) dX14_showsInt_7 rfl (by omega) (by decide) cw_X14_143 ⟨wd_1670, ws_130⟩ rfl (ckT_s e8) rfl (Nat.le_of_ble_eq_true rfl) ?_
    exact hj10 _ hf
def fX14_showsReal (a0 : Nat) (a1 : UInt32) (h : hp) : Option hp :=
  jn (fun (h12j : hp) => (
    jn (fun (s24_0 : UInt32) (h24j : hp) => (
      (fnn (FP.fsub s24_0 (FP.i2f (FP.f2i s24_0)))).bind fun v1 =>
      (fnn (FP.fmul v1 1148846080)).bind fun v3 =>
      (ckT h24j a0 13).bind fun _ =>
      (fX14_showsInt a0 (FP.f2i s24_0) h24j).bind fun h6 =>
      (ckT h6 a0 13).bind fun _ =>
      (fX14_shows a0 46 h6).bind fun h9 =>
      (dvI (FP.f2i v3) 100).bind fun v11 =>
      (rmI v11 10).bind fun v13 =>
      (ckT h9 a0 13).bind fun _ =>
      (fX14_shows a0 (48 + v13) h9).bind fun h16 =>
      (dvI (FP.f2i v3) 10).bind fun v18 =>
      (rmI v18 10).bind fun v20 =>
      (ckT h16 a0 13).bind fun _ =>
      (fX14_shows a0 (48 + v20) h16).bind fun h23 =>
      (rmI (FP.f2i v3) 10).bind fun v25 =>
      (ckT h23 a0 13).bind fun _ =>
      (fX14_shows a0 (48 + v25) h23).bind fun h28 =>
      some h28
      : Option hp)) fun k24 =>
    if 0 ≤ (Op.cmpValue (FP.fcmp a1 FP.fconst0) .g) then (
      k24 a1 h12j
    ) else (
      k24 (FP.fneg a1) h12j
    )
    : Option hp)) fun k12 =>
  if 0 ≤ (Op.cmpValue (FP.fcmp a1 FP.fconst0) .g) then (
    k12 h
  ) else (
    (ckT h a0 13).bind fun _ =>
    (fX14_shows a0 45 h).bind fun h31 =>
    k12 h31
  )
set_option maxHeartbeats 4000000 in
set_option maxRecDepth 100000 in
theorem sX14_showsReal (E : gE) (D : Nat) (hD : 2 ≤ D) {a0 : Nat} {a1 : UInt32} {h hz : hp} (hf : fX14_showsReal a0 a1 h = some hz) : MC E yX14_showsReal cX14_showsReal (Option.none : Option Jvm.ClassFile.FieldType) 5 D [.ref a0, .float a1] h none hz := by
  refine MC.of (by decide +kernel) (Nat.le_of_ble_eq_true rfl) rfl ?_
  unfold fX14_showsReal at hf
  show AW E yX14_showsReal cX14_showsReal (Option.none : Option Jvm.ClassFile.FieldType) 5 D none h hz 0 [(0, .ref a0), (1, .float a1)] [] h
  refine a_fload_n (q := 1) dX14_showsReal_0 rfl rfl ?_
  refine a_fconst0 dX14_showsReal_1 ?_
  refine a_fcmp dX14_showsReal_2 ?_
  obtain ⟨k12, ek12, hf⟩ := jn_s hf
  have hj12 : ∀ (h12j : hp), k12 h12j = some hz → AW E yX14_showsReal cX14_showsReal (Option.none : Option Jvm.ClassFile.FieldType) 5 D none h hz 12 [(0, .ref a0), (1, .float a1)] [] h12j := by
    intro h12j hf
    rw [ek12] at hf
    clear ek12
    refine a_fload_n (q := 1) dX14_showsReal_12 rfl rfl ?_
    refine a_fconst0 dX14_showsReal_13 ?_
    refine a_fcmp dX14_showsReal_14 ?_
    obtain ⟨k24, ek24, hf⟩ := jn_s hf
    have hj24 : ∀ (s24_0 : UInt32) (h24j : hp), k24 s24_0 h24j = some hz → AW E yX14_showsReal cX14_showsReal (Option.none : Option Jvm.ClassFile.FieldType) 5 D none h hz 24 [(0, .ref a0)] [.float s24_0] h24j := by
      intro s24_0 h24j hf
      rw [ek24] at hf
      clear ek24
      refine a_fstore_n (lv1 := [(2, .float s24_0), (0, .ref a0)]) dX14_showsReal_24 rfl (by decide) rfl ?_
      refine a_fload_n (q := 0) dX14_showsReal_25 rfl rfl ?_
      refine a_f2i dX14_showsReal_26 ?_
      refine a_istore_n (lv1 := [(3, .int (FP.f2i s24_0)), (2, .float s24_0), (0, .ref a0)]) dX14_showsReal_27 rfl (by decide) rfl ?_
      refine a_fload_n (q := 1) dX14_showsReal_28 rfl rfl ?_
      refine a_iload_n (q := 0) dX14_showsReal_29 rfl rfl ?_
      refine a_i2f dX14_showsReal_30 ?_
      obtain ⟨v1, e2, hf⟩ := obd hf
      refine o_fsub dX14_showsReal_31 e2 ?_
      refine a_ldcf (v := 1148846080) dX14_showsReal_32 wd_1676 ?_
      obtain ⟨v3, e4, hf⟩ := obd hf
      refine o_fmul dX14_showsReal_34 e4 ?_
      refine a_f2i dX14_showsReal_35 ?_
      refine a_istore (lv1 := [(4, .int (FP.f2i v3)), (3, .int (FP.f2i s24_0)), (2, .float s24_0), (0, .ref a0)]) dX14_showsReal_36 (by decide) rfl ?_
      refine a_aload_n (q := 3) dX14_showsReal_38 rfl rfl ?_
      refine a_iload_n (q := 1) dX14_showsReal_39 rfl rfl ?_
      obtain ⟨_, e7, hf⟩ := obd hf
      obtain ⟨h6, e5, hf⟩ := obd hf
      refine a_callV (as := [.int (FP.f2i s24_0)]) (np := 1) (ci := 13) (st := []) (sX14_showsInt E (D - 1) (by omega) e5) dX14_showsReal_40 rfl (by omega) (by decide) cw_X14_148 ⟨wd_1666, ws_129⟩ rfl (ckT_s e7) rfl (Nat.le_of_ble_eq_true rfl) ?_
      refine a_aload_n (q := 3) dX14_showsReal_43 rfl rfl ?_
      refine a_bipush (v := 46) dX14_showsReal_44 (by decide) ?_
      obtain ⟨_, e10, hf⟩ := obd hf
      obtain ⟨h9, e8, hf⟩ := obd hf
      refine a_callV (as := [.int 46]) (np := 1) (ci := 13) (st := []) (sX14_shows E (D - 1) (by omega) e8) dX14_showsReal_46 rfl (by omega) (by decide) cw_X14_143 ⟨wd_1670, ws_130⟩ rfl (ckT_s e10) rfl (Nat.le_of_ble_eq_true rfl) ?_
      refine a_aload_n (q := 3) dX14_showsReal_49 rfl rfl ?_
      refine a_bipush (v := 48) dX14_showsReal_50 (by decide) ?_
      refine a_iload (q := 0) dX14_showsReal_52 rfl ?_
      refine a_bipush (v := 100) dX14_showsReal_54 (by decide) ?_
      obtain ⟨v11, e12, hf⟩ := obd hf
      refine o_dvI dX14_showsReal_56 e12 ?_
      refine a_bipush (v := 10) dX14_showsReal_57 (by decide) ?_
      obtain ⟨v13, e14, hf⟩ := obd hf
      refine o_rmI dX14_showsReal_59 e14 ?_
      refine a_iadd dX14_showsReal_60 ?_
      obtain ⟨_, e17, hf⟩ := obd hf
      obtain ⟨h16, e15, hf⟩ := obd hf
      refine a_callV (as := [.int (48 + v13)]) (np := 1) (ci := 13) (st := []) (sX14_shows E (D - 1) (by omega) e15) dX14_showsReal_61 rfl (by omega) (by decide) cw_X14_143 ⟨wd_1670, ws_130⟩ rfl (ckT_s e17) rfl (Nat.le_of_ble_eq_true rfl) ?_
      refine a_aload_n (q := 3) dX14_showsReal_64 rfl rfl ?_
      refine a_bipush (v := 48) dX14_showsReal_65 (by decide) ?_
      refine a_iload (q := 0) dX14_showsReal_67 rfl ?_
      refine a_bipush (v := 10) dX14_showsReal_69 (by decide) ?_
      obtain ⟨v18, e19, hf⟩ := obd hf
      refine o_dvI dX14_showsReal_71 e19 ?_
      refine a_bipush (v := 10) dX14_showsReal_72 (by decide) ?_
      obtain ⟨v20, e21, hf⟩ := obd hf
      refine o_rmI dX14_showsReal_74 e21 ?_
      refine a_iadd dX14_showsReal_75 ?_
      obtain ⟨_, e24, hf⟩ := obd hf
      obtain ⟨h23, e22, hf⟩ := obd hf
      refine a_callV (as := [.int (48 + v20)]) (np := 1) (ci := 13) (st := []) (sX14_shows E (D - 1) (by omega) e22) dX14_showsReal_76 rfl (by omega) (by decide) cw_X14_143 ⟨wd_1670, ws_130⟩ rfl (ckT_s e24) rfl (Nat.le_of_ble_eq_true rfl) ?_
      refine a_aload_n (q := 3) dX14_showsReal_79 rfl rfl ?_
      refine a_bipush (v := 48) dX14_showsReal_80 (by decide) ?_
      refine a_iload (q := 0) dX14_showsReal_82 rfl ?_
      refine a_bipush (v := 10) dX14_showsReal_84 (by decide) ?_
      obtain ⟨v25, e26, hf⟩ := obd hf
      refine o_rmI dX14_showsReal_86 e26 ?_
      refine a_iadd dX14_showsReal_87 ?_
      obtain ⟨_, e29, hf⟩ := obd hf
      obtain ⟨h28, e27, hf⟩ := obd hf
      refine a_callV (as := [.int (48 + v25)]) (np := 1) (ci := 13) (st := []) (sX14_shows E (D - 1) (by omega) e27) dX14_showsReal_88 rfl (by omega) (by decide) cw_X14_143 ⟨wd_1670, ws_130⟩ rfl (ckT_s e29) rfl (Nat.le_of_ble_eq_true rfl) ?_
      obtain rfl := Option.some.inj hf
      exact a_return dX14_showsReal_91 rfl
    clear ek24
    refine a_if_ge (tgt := 23) dX14_showsReal_15 (by decide) (fun c => ?_) (fun c => ?_)
    · have hf := ifp c hf
      refine a_fload_n (q := 1) dX14_showsReal_23 rfl rfl ?_
      exact AW.sub [0] rfl (hj24 _ _ hf)
    · have hf := ifn c hf
      refine a_fload_n (q := 1) dX14_showsReal_18 rfl rfl ?_
      refine a_fneg dX14_showsReal_19 ?_
      refine a_goto (tgt := 24) dX14_showsReal_20 (by decide) ?_
      exact AW.sub [0] rfl (hj24 _ _ hf)
  clear ek12
  refine a_if_ge (tgt := 12) dX14_showsReal_3 (by decide) (fun c => ?_) (fun c => ?_)
  · have hf := ifp c hf
    exact hj12 _ hf
  · have hf := ifn c hf
    refine a_aload_n (q := 0) dX14_showsReal_6 rfl rfl ?_
    refine a_bipush (v := 45) dX14_showsReal_7 (by decide) ?_
    obtain ⟨_, e32, hf⟩ := obd hf
    obtain ⟨h31, e30, hf⟩ := obd hf
    refine a_callV (as := [.int 45]) (np := 1) (ci := 13) (st := []) (sX14_shows E (D - 1) (by omega) e30) dX14_showsReal_9 rfl (by omega) (by decide) cw_X14_143 ⟨wd_1670, ws_130⟩ rfl (ckT_s e32) rfl (Nat.le_of_ble_eq_true rfl) ?_
    exact hj12 _ hf
def fX14_showsValue_l47 : Nat → Nat → Int32 → Int32 → hp → Option hp
  | 0, _, _, _, _ => none
  | n + 1, x0, x1, x2, h =>
    (gfR h x0 13 0).bind fun v1 =>
    (alI h v1 x1).bind fun v3 =>
    if v3 = 3 then (
      (gfR h x0 13 2).bind fun v5 =>
      (alI h v5 x1).bind fun v7 =>
      if v7 ≤ x2 then (
        some (h)
      ) else (
        (gfR h x0 13 3).bind fun v9 =>
        (alI h v9 ((16 * x1) + x2)).bind fun v11 =>
        (ckT h x0 13).bind fun _ =>
        (fX14_shows x0 v11 h).bind fun h14 =>
        fX14_showsValue_l47 n x0 x1 (x2 + 1) h14
      )
    ) else (
      some (h)
    )
def fX14_showsValue_l90 : Nat → Nat → Int32 → Int32 → hp → Option hp
  | 0, _, _, _, _ => none
  | n + 1, x0, x1, x2, h =>
    (gfR h x0 13 0).bind fun v1 =>
    (alI h v1 x1).bind fun v3 =>
    if v3 = 4 then (
      (gfR h x0 13 2).bind fun v5 =>
      (alI h v5 x1).bind fun v7 =>
      if v7 ≤ x2 then (
        some (h)
      ) else (
        jn (fun (h120j : hp) => (
          (gfR h120j x0 13 3).bind fun v9 =>
          (alI h120j v9 ((16 * x1) + x2)).bind fun v11 =>
          (ckT h120j x0 13).bind fun _ =>
          (fX14_showsInt x0 v11 h120j).bind fun h14 =>
          fX14_showsValue_l90 n x0 x1 (x2 + 1) h14
          : Option hp)) fun k120 =>
        if x2 ≤ 0 then (
          k120 h
        ) else (
          (ckT h x0 13).bind fun _ =>
          (fX14_shows x0 44 h).bind fun h17 =>
          k120 h17
        )
      )
    ) else (
      some (h)
    )
def fX14_showsValue (a0 : Nat) (a1 : Int32) (h : hp) : Option hp :=
  (pfI h a0 13 6 0).bind fun h1 =>
  (gfR h1 a0 13 0).bind fun v3 =>
  (alI h1 v3 a1).bind fun v5 =>
  jn (fun (h25j : hp) => (
    (gfR h25j a0 13 0).bind fun v7 =>
    (alI h25j v7 a1).bind fun v9 =>
    jn (fun (h45j : hp) => (
      (fX14_showsValue_l47 FU a0 a1 0 h45j).bind fun h12 =>
      (fX14_showsValue_l90 FU a0 a1 0 h12).bind fun h14 =>
      some h14
      : Option hp)) fun k45 =>
    if v9 = 2 then (
      (gfR h25j a0 13 4).bind fun v15 =>
      (alF h25j v15 a1).bind fun v17 =>
      (ckT h25j a0 13).bind fun _ =>
      (fX14_showsReal a0 v17 h25j).bind fun h20 =>
      k45 h20
    ) else (
      k45 h25j
    )
    : Option hp)) fun k25 =>
  if v5 = 1 then (
    (gfR h1 a0 13 1).bind fun v22 =>
    (alI h1 v22 a1).bind fun v24 =>
    (ckT h1 a0 13).bind fun _ =>
    (fX14_showsInt a0 v24 h1).bind fun h27 =>
    k25 h27
  ) else (
    k25 h1
  )
set_option maxHeartbeats 4000000 in
set_option maxRecDepth 100000 in
theorem sX14_showsValue_l47 (E : gE) (D : Nat) (hD : 3 ≤ D) {rz : Option Value} {h0 hz : hp} : ∀ (n : Nat) (x0 : Nat) (x1 : Int32) (x2 : Int32) (h : hp) (hq : hp), fX14_showsValue_l47 n x0 x1 x2 h = some hq → (AW E yX14_showsValue cX14_showsValue (Option.none : Option Jvm.ClassFile.FieldType) 3 D rz h0 hz 88 [(0, .ref x0), (1, .int x1)] [] hq) → AW E yX14_showsValue cX14_showsValue (Option.none : Option Jvm.ClassFile.FieldType) 3 D rz h0 hz 47 [(0, .ref x0), (1, .int x1), (2, .int x2)] [] h := by
  intro n
  induction n with
  | zero =>
    intro x0 x1 x2 h hq hf _
    rw [fX14_showsValue_l47] at hf
    cases hf
  | succ n ih =>
    intro x0 x1 x2 h hq hf hk0
    rw [fX14_showsValue_l47] at hf
    refine a_aload_n (q := 0) dX14_showsValue_47 rfl rfl ?_
    obtain ⟨v1, e2, hf⟩ := obd hf
    refine o_gfR dX14_showsValue_48 lk_X14_11 rfl e2 ?_
    refine a_iload_n (q := 1) dX14_showsValue_51 rfl rfl ?_
    obtain ⟨v3, e4, hf⟩ := obd hf
    refine o_alI dX14_showsValue_52 e4 ?_
    refine a_iconst (v := 3) dX14_showsValue_53 (by decide) ?_
    refine a_icmp_ne (tgt := 88) dX14_showsValue_54 (by decide) (fun c => ?_) (fun c => ?_)
    · have hf := ifn c hf
      obtain rfl := Option.some.inj hf
      exact AW.sub [0, 1] rfl (hk0)
    · have hf := ifp c hf
      refine a_iload_n (q := 2) dX14_showsValue_57 rfl rfl ?_
      refine a_aload_n (q := 0) dX14_showsValue_58 rfl rfl ?_
      obtain ⟨v5, e6, hf⟩ := obd hf
      refine o_gfR dX14_showsValue_59 lk_X14_18 rfl e6 ?_
      refine a_iload_n (q := 1) dX14_showsValue_62 rfl rfl ?_
      obtain ⟨v7, e8, hf⟩ := obd hf
      refine o_alI dX14_showsValue_63 e8 ?_
      refine a_icmp_ge (tgt := 88) dX14_showsValue_64 (by decide) (fun c => ?_) (fun c => ?_)
      · have hf := ifp c hf
        obtain rfl := Option.some.inj hf
        exact AW.sub [0, 1] rfl (hk0)
      · have hf := ifn c hf
        refine a_aload_n (q := 0) dX14_showsValue_67 rfl rfl ?_
        refine a_aload_n (q := 0) dX14_showsValue_68 rfl rfl ?_
        obtain ⟨v9, e10, hf⟩ := obd hf
        refine o_gfR dX14_showsValue_69 lk_X14_21 rfl e10 ?_
        refine a_bipush (v := 16) dX14_showsValue_72 (by decide) ?_
        refine a_iload_n (q := 1) dX14_showsValue_74 rfl rfl ?_
        refine a_imul dX14_showsValue_75 ?_
        refine a_iload_n (q := 2) dX14_showsValue_76 rfl rfl ?_
        refine a_iadd dX14_showsValue_77 ?_
        obtain ⟨v11, e12, hf⟩ := obd hf
        refine o_alI dX14_showsValue_78 e12 ?_
        obtain ⟨_, e15, hf⟩ := obd hf
        obtain ⟨h14, e13, hf⟩ := obd hf
        refine a_callV (as := [.int v11]) (np := 1) (ci := 13) (st := []) (sX14_shows E (D - 1) (by omega) e13) dX14_showsValue_79 rfl (by omega) (by decide) cw_X14_143 ⟨wd_1670, ws_130⟩ rfl (ckT_s e15) rfl (Nat.le_of_ble_eq_true rfl) ?_
        refine a_iinc (q := 2) (v := (x2 + 1)) (lv1 := [(2, .int (x2 + 1)), (0, .ref x0), (1, .int x1)]) dX14_showsValue_82 rfl (by rfl) (by decide) rfl ?_
        refine a_goto (tgt := 47) dX14_showsValue_85 (by decide) ?_
        exact AW.sub [1, 2, 0] rfl (ih _ _ _ _ _ hf hk0)
set_option maxHeartbeats 4000000 in
set_option maxRecDepth 100000 in
theorem sX14_showsValue_l90 (E : gE) (D : Nat) (hD : 3 ≤ D) {rz : Option Value} {h0 hz : hp} : ∀ (n : Nat) (x0 : Nat) (x1 : Int32) (x2 : Int32) (h : hp) (hq : hp), fX14_showsValue_l90 n x0 x1 x2 h = some hq → (AW E yX14_showsValue cX14_showsValue (Option.none : Option Jvm.ClassFile.FieldType) 3 D rz h0 hz 141 [] [] hq) → AW E yX14_showsValue cX14_showsValue (Option.none : Option Jvm.ClassFile.FieldType) 3 D rz h0 hz 90 [(0, .ref x0), (1, .int x1), (2, .int x2)] [] h := by
  intro n
  induction n with
  | zero =>
    intro x0 x1 x2 h hq hf _
    rw [fX14_showsValue_l90] at hf
    cases hf
  | succ n ih =>
    intro x0 x1 x2 h hq hf hk0
    rw [fX14_showsValue_l90] at hf
    refine a_aload_n (q := 0) dX14_showsValue_90 rfl rfl ?_
    obtain ⟨v1, e2, hf⟩ := obd hf
    refine o_gfR dX14_showsValue_91 lk_X14_11 rfl e2 ?_
    refine a_iload_n (q := 1) dX14_showsValue_94 rfl rfl ?_
    obtain ⟨v3, e4, hf⟩ := obd hf
    refine o_alI dX14_showsValue_95 e4 ?_
    refine a_iconst (v := 4) dX14_showsValue_96 (by decide) ?_
    refine a_icmp_ne (tgt := 141) dX14_showsValue_97 (by decide) (fun c => ?_) (fun c => ?_)
    · have hf := ifn c hf
      obtain rfl := Option.some.inj hf
      exact AW.sub [] rfl (hk0)
    · have hf := ifp c hf
      refine a_iload_n (q := 2) dX14_showsValue_100 rfl rfl ?_
      refine a_aload_n (q := 0) dX14_showsValue_101 rfl rfl ?_
      obtain ⟨v5, e6, hf⟩ := obd hf
      refine o_gfR dX14_showsValue_102 lk_X14_18 rfl e6 ?_
      refine a_iload_n (q := 1) dX14_showsValue_105 rfl rfl ?_
      obtain ⟨v7, e8, hf⟩ := obd hf
      refine o_alI dX14_showsValue_106 e8 ?_
      refine a_icmp_ge (tgt := 141) dX14_showsValue_107 (by decide) (fun c => ?_) (fun c => ?_)
      · have hf := ifp c hf
        obtain rfl := Option.some.inj hf
        exact AW.sub [] rfl (hk0)
      · have hf := ifn c hf
        refine a_iload_n (q := 2) dX14_showsValue_110 rfl rfl ?_
        obtain ⟨k120, ek120, hf⟩ := jn_s hf
        have hj120 : ∀ (h120j : hp), k120 h120j = some hq → AW E yX14_showsValue cX14_showsValue (Option.none : Option Jvm.ClassFile.FieldType) 3 D rz h0 hz 120 [(0, .ref x0), (1, .int x1), (2, .int x2)] [] h120j := by
          intro h120j hf
          rw [ek120] at hf
          clear ek120
          refine a_aload_n (q := 0) dX14_showsValue_120 rfl rfl ?_
          refine a_aload_n (q := 0) dX14_showsValue_121 rfl rfl ?_
          obtain ⟨v9, e10, hf⟩ := obd hf
          refine o_gfR dX14_showsValue_122 lk_X14_21 rfl e10 ?_
          refine a_bipush (v := 16) dX14_showsValue_125 (by decide) ?_
          refine a_iload_n (q := 1) dX14_showsValue_127 rfl rfl ?_
          refine a_imul dX14_showsValue_128 ?_
          refine a_iload_n (q := 2) dX14_showsValue_129 rfl rfl ?_
          refine a_iadd dX14_showsValue_130 ?_
          obtain ⟨v11, e12, hf⟩ := obd hf
          refine o_alI dX14_showsValue_131 e12 ?_
          obtain ⟨_, e15, hf⟩ := obd hf
          obtain ⟨h14, e13, hf⟩ := obd hf
          refine a_callV (as := [.int v11]) (np := 1) (ci := 13) (st := []) (sX14_showsInt E (D - 1) (by omega) e13) dX14_showsValue_132 rfl (by omega) (by decide) cw_X14_148 ⟨wd_1666, ws_129⟩ rfl (ckT_s e15) rfl (Nat.le_of_ble_eq_true rfl) ?_
          refine a_iinc (q := 2) (v := (x2 + 1)) (lv1 := [(2, .int (x2 + 1)), (0, .ref x0), (1, .int x1)]) dX14_showsValue_135 rfl (by rfl) (by decide) rfl ?_
          refine a_goto (tgt := 90) dX14_showsValue_138 (by decide) ?_
          exact AW.sub [1, 2, 0] rfl (ih _ _ _ _ _ hf hk0)
        clear ek120
        refine a_if_le (tgt := 120) dX14_showsValue_111 (by decide) (fun c => ?_) (fun c => ?_)
        · have hf := ifp c hf
          exact hj120 _ hf
        · have hf := ifn c hf
          refine a_aload_n (q := 0) dX14_showsValue_114 rfl rfl ?_
          refine a_bipush (v := 44) dX14_showsValue_115 (by decide) ?_
          obtain ⟨_, e18, hf⟩ := obd hf
          obtain ⟨h17, e16, hf⟩ := obd hf
          refine a_callV (as := [.int 44]) (np := 1) (ci := 13) (st := []) (sX14_shows E (D - 1) (by omega) e16) dX14_showsValue_117 rfl (by omega) (by decide) cw_X14_143 ⟨wd_1670, ws_130⟩ rfl (ckT_s e18) rfl (Nat.le_of_ble_eq_true rfl) ?_
          exact hj120 _ hf
set_option maxHeartbeats 4000000 in
set_option maxRecDepth 100000 in
theorem sX14_showsValue (E : gE) (D : Nat) (hD : 3 ≤ D) {a0 : Nat} {a1 : Int32} {h hz : hp} (hf : fX14_showsValue a0 a1 h = some hz) : MC E yX14_showsValue cX14_showsValue (Option.none : Option Jvm.ClassFile.FieldType) 3 D [.ref a0, .int a1] h none hz := by
  refine MC.of (by decide +kernel) (Nat.le_of_ble_eq_true rfl) rfl ?_
  unfold fX14_showsValue at hf
  show AW E yX14_showsValue cX14_showsValue (Option.none : Option Jvm.ClassFile.FieldType) 3 D none h hz 0 [(0, .ref a0), (1, .int a1)] [] h
  refine a_aload_n (q := 0) dX14_showsValue_0 rfl rfl ?_
  refine a_iconst (v := 0) dX14_showsValue_1 (by decide) ?_
  obtain ⟨h1, e2, hf⟩ := obd hf
  refine o_pfI dX14_showsValue_2 lk_X14_140 (⟨_, rfl, Or.inl rfl⟩) rfl e2 ?_
  refine a_aload_n (q := 0) dX14_showsValue_5 rfl rfl ?_
  obtain ⟨v3, e4, hf⟩ := obd hf
  refine o_gfR dX14_showsValue_6 lk_X14_11 rfl e4 ?_
  refine a_iload_n (q := 1) dX14_showsValue_9 rfl rfl ?_
  obtain ⟨v5, e6, hf⟩ := obd hf
  refine o_alI dX14_showsValue_10 e6 ?_
  refine a_iconst (v := 1) dX14_showsValue_11 (by decide) ?_
  obtain ⟨k25, ek25, hf⟩ := jn_s hf
  have hj25 : ∀ (h25j : hp), k25 h25j = some hz → AW E yX14_showsValue cX14_showsValue (Option.none : Option Jvm.ClassFile.FieldType) 3 D none h hz 25 [(0, .ref a0), (1, .int a1)] [] h25j := by
    intro h25j hf
    rw [ek25] at hf
    clear ek25
    refine a_aload_n (q := 0) dX14_showsValue_25 rfl rfl ?_
    obtain ⟨v7, e8, hf⟩ := obd hf
    refine o_gfR dX14_showsValue_26 lk_X14_11 rfl e8 ?_
    refine a_iload_n (q := 1) dX14_showsValue_29 rfl rfl ?_
    obtain ⟨v9, e10, hf⟩ := obd hf
    refine o_alI dX14_showsValue_30 e10 ?_
    refine a_iconst (v := 2) dX14_showsValue_31 (by decide) ?_
    obtain ⟨k45, ek45, hf⟩ := jn_s hf
    have hj45 : ∀ (h45j : hp), k45 h45j = some hz → AW E yX14_showsValue cX14_showsValue (Option.none : Option Jvm.ClassFile.FieldType) 3 D none h hz 45 [(0, .ref a0), (1, .int a1)] [] h45j := by
      intro h45j hf
      rw [ek45] at hf
      clear ek45
      refine a_iconst (v := 0) dX14_showsValue_45 (by decide) ?_
      refine a_istore_n (lv1 := [(2, .int 0), (0, .ref a0), (1, .int a1)]) dX14_showsValue_46 rfl (by decide) rfl ?_
      obtain ⟨h12, e11, hf⟩ := obd hf
      refine AW.sub [1, 2, 0] rfl (sX14_showsValue_l47 E D hD _ _ _ _ _ _ e11 ?_)
      refine a_iconst (v := 0) dX14_showsValue_88 (by decide) ?_
      refine a_istore_n (lv1 := [(2, .int 0), (0, .ref a0), (1, .int a1)]) dX14_showsValue_89 rfl (by decide) rfl ?_
      obtain ⟨h14, e13, hf⟩ := obd hf
      refine AW.sub [1, 2, 0] rfl (sX14_showsValue_l90 E D hD _ _ _ _ _ _ e13 ?_)
      obtain rfl := Option.some.inj hf
      exact a_return dX14_showsValue_141 rfl
    clear ek45
    refine a_icmp_ne (tgt := 45) dX14_showsValue_32 (by decide) (fun c => ?_) (fun c => ?_)
    · have hf := ifn c hf
      exact hj45 _ hf
    · have hf := ifp c hf
      refine a_aload_n (q := 0) dX14_showsValue_35 rfl rfl ?_
      refine a_aload_n (q := 0) dX14_showsValue_36 rfl rfl ?_
      obtain ⟨v15, e16, hf⟩ := obd hf
      refine o_gfR dX14_showsValue_37 lk_X14_24 rfl e16 ?_
      refine a_iload_n (q := 1) dX14_showsValue_40 rfl rfl ?_
      obtain ⟨v17, e18, hf⟩ := obd hf
      refine o_alF dX14_showsValue_41 e18 ?_
      obtain ⟨_, e21, hf⟩ := obd hf
      obtain ⟨h20, e19, hf⟩ := obd hf
      refine a_callV (as := [.float v17]) (np := 1) (ci := 13) (st := []) (sX14_showsReal E (D - 1) (by omega) e19) dX14_showsValue_42 rfl (by omega) (by decide) cw_X14_151 ⟨wd_1674, ws_131⟩ rfl (ckT_s e21) rfl (Nat.le_of_ble_eq_true rfl) ?_
      exact hj45 _ hf
  clear ek25
  refine a_icmp_ne (tgt := 25) dX14_showsValue_12 (by decide) (fun c => ?_) (fun c => ?_)
  · have hf := ifn c hf
    exact hj25 _ hf
  · have hf := ifp c hf
    refine a_aload_n (q := 0) dX14_showsValue_15 rfl rfl ?_
    refine a_aload_n (q := 0) dX14_showsValue_16 rfl rfl ?_
    obtain ⟨v22, e23, hf⟩ := obd hf
    refine o_gfR dX14_showsValue_17 lk_X14_15 rfl e23 ?_
    refine a_iload_n (q := 1) dX14_showsValue_20 rfl rfl ?_
    obtain ⟨v24, e25, hf⟩ := obd hf
    refine o_alI dX14_showsValue_21 e25 ?_
    obtain ⟨_, e28, hf⟩ := obd hf
    obtain ⟨h27, e26, hf⟩ := obd hf
    refine a_callV (as := [.int v24]) (np := 1) (ci := 13) (st := []) (sX14_showsInt E (D - 1) (by omega) e26) dX14_showsValue_22 rfl (by omega) (by decide) cw_X14_148 ⟨wd_1666, ws_129⟩ rfl (ckT_s e28) rfl (Nat.le_of_ble_eq_true rfl) ?_
    exact hj25 _ hf
def fX14_letterCase (a0 : Int32) (a1 : Int32) (a2 : Int32) (h : hp) : Option (Int32 × hp) :=
  bd2 (fX14_isIn (a0.toInt64) (a1.toInt64) ((a1 + 25).toInt64) h) fun v2 h3 =>
  if v2 = 0 then (
    some (a0, h3)
  ) else (
    some ((a0 + a2), h3)
  )
set_option maxHeartbeats 4000000 in
set_option maxRecDepth 100000 in
theorem sX14_letterCase (E : gE) (D : Nat) (hD : 1 ≤ D) {a0 : Int32} {a1 : Int32} {a2 : Int32} {h hz : hp} {v0 : Int32} (hf : fX14_letterCase a0 a1 a2 h = some (v0, hz)) : MC E yX14_letterCase cX14_letterCase (Option.some Jvm.ClassFile.FieldType.int) 3 D [.int a0, .int a1, .int a2] h (some (.int v0)) hz := by
  refine MC.of (by decide +kernel) (Nat.le_of_ble_eq_true rfl) rfl ?_
  unfold fX14_letterCase at hf
  show AW E yX14_letterCase cX14_letterCase (Option.some Jvm.ClassFile.FieldType.int) 3 D (some (.int v0)) h hz 0 [(0, .int a0), (1, .int a1), (2, .int a2)] [] h
  refine a_iload_n (q := 0) dX14_letterCase_0 rfl rfl ?_
  refine a_i2l dX14_letterCase_1 rfl ?_
  refine a_iload_n (q := 1) dX14_letterCase_2 rfl rfl ?_
  refine a_i2l dX14_letterCase_3 rfl ?_
  refine a_iload_n (q := 1) dX14_letterCase_4 rfl rfl ?_
  refine a_bipush (v := 25) dX14_letterCase_5 (by decide) ?_
  refine a_iadd dX14_letterCase_7 ?_
  refine a_i2l dX14_letterCase_8 rfl ?_
  obtain ⟨v2, h3, e1, hf⟩ := ob2 hf
  refine a_callS (as := [.long (a0.toInt64), .long (a1.toInt64), .long ((a1 + 25).toInt64)]) (np := 3) (st := []) (sX14_isIn E (D - 1) (by omega) e1) dX14_letterCase_9 rfl (by omega) (by decide) cw_X14_155 wd_1324 rfl (Nat.le_of_ble_eq_true rfl) ?_
  refine a_if_eq (tgt := 21) dX14_letterCase_12 (by decide) (fun c => ?_) (fun c => ?_)
  · have hf := ifp c hf
    refine a_iload_n (q := 0) dX14_letterCase_21 rfl rfl ?_
    obtain ⟨rfl, rfl⟩ := oc2 hf
    exact a_ireturn dX14_letterCase_22 rfl
  · have hf := ifn c hf
    refine a_iload_n (q := 0) dX14_letterCase_15 rfl rfl ?_
    refine a_iload_n (q := 2) dX14_letterCase_16 rfl rfl ?_
    refine a_iadd dX14_letterCase_17 ?_
    refine a_goto (tgt := 22) dX14_letterCase_18 (by decide) ?_
    obtain ⟨rfl, rfl⟩ := oc2 hf
    exact a_ireturn dX14_letterCase_22 rfl
def fX14_figures_l4 : Nat → Nat → Int32 → Int32 → Int32 → hp → Option (Int32 × hp)
  | 0, _, _, _, _, _ => none
  | n + 1, x0, x1, x2, x3, h =>
    (gfR h x0 13 2).bind fun v1 =>
    (alI h v1 x1).bind fun v3 =>
    if v3 ≤ x3 then (
      some (x2, h)
    ) else (
      (gfR h x0 13 3).bind fun v5 =>
      (alI h v5 ((16 * x1) + x3)).bind fun v7 =>
      bd2 (fX14_isIn (v7.toInt64) 48 57 h) fun v10 h11 =>
      jn (fun (s44_0 : Int32) (h44j : hp) => (
        fX14_figures_l4 n x0 x1 (x2 + s44_0) (x3 + 1) h44j
        : Option (Int32 × hp))) fun k44 =>
      if v10 = 0 then (
        k44 0 h11
      ) else (
        k44 1 h11
      )
    )
def fX14_figures (a0 : Nat) (a1 : Int32) (h : hp) : Option (Int32 × hp) :=
  bd2 (fX14_figures_l4 FU a0 a1 0 0 h) fun v3 h2 =>
  some (v3, h2)
set_option maxHeartbeats 4000000 in
set_option maxRecDepth 100000 in
theorem sX14_figures_l4 (E : gE) (D : Nat) (hD : 1 ≤ D) {rz : Option Value} {h0 hz : hp} : ∀ (n : Nat) (x0 : Nat) (x1 : Int32) (x2 : Int32) (x3 : Int32) (h : hp) (m2 : Int32) (hq : hp), fX14_figures_l4 n x0 x1 x2 x3 h = some (m2, hq) → (AW E yX14_figures cX14_figures (Option.some Jvm.ClassFile.FieldType.int) 4 D rz h0 hz 52 [(2, .int m2)] [] hq) → AW E yX14_figures cX14_figures (Option.some Jvm.ClassFile.FieldType.int) 4 D rz h0 hz 4 [(0, .ref x0), (1, .int x1), (2, .int x2), (3, .int x3)] [] h := by
  intro n
  induction n with
  | zero =>
    intro x0 x1 x2 x3 h m2 hq hf _
    rw [fX14_figures_l4] at hf
    cases hf
  | succ n ih =>
    intro x0 x1 x2 x3 h m2 hq hf hk0
    rw [fX14_figures_l4] at hf
    refine a_iload_n (q := 3) dX14_figures_4 rfl rfl ?_
    refine a_aload_n (q := 0) dX14_figures_5 rfl rfl ?_
    obtain ⟨v1, e2, hf⟩ := obd hf
    refine o_gfR dX14_figures_6 lk_X14_18 rfl e2 ?_
    refine a_iload_n (q := 1) dX14_figures_9 rfl rfl ?_
    obtain ⟨v3, e4, hf⟩ := obd hf
    refine o_alI dX14_figures_10 e4 ?_
    refine a_icmp_ge (tgt := 52) dX14_figures_11 (by decide) (fun c => ?_) (fun c => ?_)
    · have hf := ifp c hf
      obtain ⟨rfl, rfl⟩ := oc2 hf
      exact AW.sub [2] rfl (hk0)
    · have hf := ifn c hf
      refine a_iload_n (q := 2) dX14_figures_14 rfl rfl ?_
      refine a_aload_n (q := 0) dX14_figures_15 rfl rfl ?_
      obtain ⟨v5, e6, hf⟩ := obd hf
      refine o_gfR dX14_figures_16 lk_X14_21 rfl e6 ?_
      refine a_bipush (v := 16) dX14_figures_19 (by decide) ?_
      refine a_iload_n (q := 1) dX14_figures_21 rfl rfl ?_
      refine a_imul dX14_figures_22 ?_
      refine a_iload_n (q := 3) dX14_figures_23 rfl rfl ?_
      refine a_iadd dX14_figures_24 ?_
      obtain ⟨v7, e8, hf⟩ := obd hf
      refine o_alI dX14_figures_25 e8 ?_
      refine a_i2l dX14_figures_26 rfl ?_
      refine a_ldc2 (v := 48) dX14_figures_27 wd_1385 ?_
      refine a_ldc2 (v := 57) dX14_figures_30 wd_1386 ?_
      obtain ⟨v10, h11, e9, hf⟩ := ob2 hf
      refine a_callS (as := [.long (v7.toInt64), .long 48, .long 57]) (np := 3) (st := [.int x2]) (sX14_isIn E (D - 1) (by omega) e9) dX14_figures_33 rfl (by omega) (by decide) cw_X14_155 wd_1324 rfl (Nat.le_of_ble_eq_true rfl) ?_
      obtain ⟨k44, ek44, hf⟩ := jn_s hf
      have hj44 : ∀ (s44_0 : Int32) (h44j : hp), k44 s44_0 h44j = some (m2, hq) → AW E yX14_figures cX14_figures (Option.some Jvm.ClassFile.FieldType.int) 4 D rz h0 hz 44 [(0, .ref x0), (1, .int x1), (3, .int x3)] [.int s44_0, .int x2] h44j := by
        intro s44_0 h44j hf
        rw [ek44] at hf
        clear ek44
        refine a_iadd dX14_figures_44 ?_
        refine a_istore_n (lv1 := [(2, .int (x2 + s44_0)), (0, .ref x0), (1, .int x1), (3, .int x3)]) dX14_figures_45 rfl (by decide) rfl ?_
        refine a_iinc (q := 3) (v := (x3 + 1)) (lv1 := [(3, .int (x3 + 1)), (2, .int (x2 + s44_0)), (0, .ref x0), (1, .int x1)]) dX14_figures_46 rfl (by rfl) (by decide) rfl ?_
        refine a_goto (tgt := 4) dX14_figures_49 (by decide) ?_
        exact AW.sub [2, 3, 1, 0] rfl (ih _ _ _ _ _ _ _ hf hk0)
      clear ek44
      refine a_if_eq (tgt := 43) dX14_figures_36 (by decide) (fun c => ?_) (fun c => ?_)
      · have hf := ifp c hf
        refine a_iconst (v := 0) dX14_figures_43 (by decide) ?_
        exact AW.sub [0, 1, 3] rfl (hj44 _ _ hf)
      · have hf := ifn c hf
        refine a_iconst (v := 1) dX14_figures_39 (by decide) ?_
        refine a_goto (tgt := 44) dX14_figures_40 (by decide) ?_
        exact AW.sub [0, 1, 3] rfl (hj44 _ _ hf)
set_option maxHeartbeats 4000000 in
set_option maxRecDepth 100000 in
theorem sX14_figures (E : gE) (D : Nat) (hD : 1 ≤ D) {a0 : Nat} {a1 : Int32} {h hz : hp} {v0 : Int32} (hf : fX14_figures a0 a1 h = some (v0, hz)) : MC E yX14_figures cX14_figures (Option.some Jvm.ClassFile.FieldType.int) 4 D [.ref a0, .int a1] h (some (.int v0)) hz := by
  refine MC.of (by decide +kernel) (Nat.le_of_ble_eq_true rfl) rfl ?_
  unfold fX14_figures at hf
  show AW E yX14_figures cX14_figures (Option.some Jvm.ClassFile.FieldType.int) 4 D (some (.int v0)) h hz 0 [(0, .ref a0), (1, .int a1)] [] h
  refine a_iconst (v := 0) dX14_figures_0 (by decide) ?_
  refine a_istore_n (lv1 := [(2, .int 0), (0, .ref a0), (1, .int a1)]) dX14_figures_1 rfl (by decide) rfl ?_
  refine a_iconst (v := 0) dX14_figures_2 (by decide) ?_
  refine a_istore_n (lv1 := [(3, .int 0), (2, .int 0), (0, .ref a0), (1, .int a1)]) dX14_figures_3 rfl (by decide) rfl ?_
  obtain ⟨v3, h2, e1, hf⟩ := ob2 hf
  refine AW.sub [2, 3, 1, 0] rfl (sX14_figures_l4 E D hD _ _ _ _ _ _ _ _ e1 ?_)
  refine a_iload_n (q := 0) dX14_figures_52 rfl rfl ?_
  obtain ⟨rfl, rfl⟩ := oc2 hf
  exact a_ireturn dX14_figures_53 rfl
def fX14_cases_l3 : Nat → Nat → Int32 → Int32 → Int32 → Int32 → hp → Option hp
  | 0, _, _, _, _, _, _ => none
  | n + 1, x0, x1, x2, x3, x4, h =>
    (gfR h x0 13 2).bind fun v1 =>
    (alI h v1 x1).bind fun v3 =>
    if v3 ≤ x4 then (
      some (h)
    ) else (
      (gfR h x0 13 3).bind fun v5 =>
      (gfR h x0 13 3).bind fun v7 =>
      (alI h v7 ((16 * x1) + x4)).bind fun v9 =>
      bd2 (fX14_letterCase v9 x2 x3 h) fun v12 h13 =>
      (asI h13 v5 ((16 * x1) + x4) v12).bind fun h14 =>
      fX14_cases_l3 n x0 x1 x2 x3 (x4 + 1) h14
    )
def fX14_cases (a0 : Nat) (a1 : Int32) (a2 : Int32) (a3 : Int32) (h : hp) : Option hp :=
  (fX14_cases_l3 FU a0 a1 a2 a3 0 h).bind fun h2 =>
  some h2
set_option maxHeartbeats 4000000 in
set_option maxRecDepth 100000 in
theorem sX14_cases_l3 (E : gE) (D : Nat) (hD : 2 ≤ D) {rz : Option Value} {h0 hz : hp} : ∀ (n : Nat) (x0 : Nat) (x1 : Int32) (x2 : Int32) (x3 : Int32) (x4 : Int32) (h : hp) (hq : hp), fX14_cases_l3 n x0 x1 x2 x3 x4 h = some hq → (AW E yX14_cases cX14_cases (Option.none : Option Jvm.ClassFile.FieldType) 5 D rz h0 hz 49 [] [] hq) → AW E yX14_cases cX14_cases (Option.none : Option Jvm.ClassFile.FieldType) 5 D rz h0 hz 3 [(0, .ref x0), (1, .int x1), (2, .int x2), (3, .int x3), (4, .int x4)] [] h := by
  intro n
  induction n with
  | zero =>
    intro x0 x1 x2 x3 x4 h hq hf _
    rw [fX14_cases_l3] at hf
    cases hf
  | succ n ih =>
    intro x0 x1 x2 x3 x4 h hq hf hk0
    rw [fX14_cases_l3] at hf
    refine a_iload (q := 4) dX14_cases_3 rfl ?_
    refine a_aload_n (q := 0) dX14_cases_5 rfl rfl ?_
    obtain ⟨v1, e2, hf⟩ := obd hf
    refine o_gfR dX14_cases_6 lk_X14_18 rfl e2 ?_
    refine a_iload_n (q := 1) dX14_cases_9 rfl rfl ?_
    obtain ⟨v3, e4, hf⟩ := obd hf
    refine o_alI dX14_cases_10 e4 ?_
    refine a_icmp_ge (tgt := 49) dX14_cases_11 (by decide) (fun c => ?_) (fun c => ?_)
    · have hf := ifp c hf
      obtain rfl := Option.some.inj hf
      exact AW.sub [] rfl (hk0)
    · have hf := ifn c hf
      refine a_aload_n (q := 0) dX14_cases_14 rfl rfl ?_
      obtain ⟨v5, e6, hf⟩ := obd hf
      refine o_gfR dX14_cases_15 lk_X14_21 rfl e6 ?_
      refine a_bipush (v := 16) dX14_cases_18 (by decide) ?_
      refine a_iload_n (q := 1) dX14_cases_20 rfl rfl ?_
      refine a_imul dX14_cases_21 ?_
      refine a_iload (q := 4) dX14_cases_22 rfl ?_
      refine a_iadd dX14_cases_24 ?_
      refine a_aload_n (q := 0) dX14_cases_25 rfl rfl ?_
      obtain ⟨v7, e8, hf⟩ := obd hf
      refine o_gfR dX14_cases_26 lk_X14_21 rfl e8 ?_
      refine a_bipush (v := 16) dX14_cases_29 (by decide) ?_
      refine a_iload_n (q := 1) dX14_cases_31 rfl rfl ?_
      refine a_imul dX14_cases_32 ?_
      refine a_iload (q := 4) dX14_cases_33 rfl ?_
      refine a_iadd dX14_cases_35 ?_
      obtain ⟨v9, e10, hf⟩ := obd hf
      refine o_alI dX14_cases_36 e10 ?_
      refine a_iload_n (q := 2) dX14_cases_37 rfl rfl ?_
      refine a_iload_n (q := 3) dX14_cases_38 rfl rfl ?_
      obtain ⟨v12, h13, e11, hf⟩ := ob2 hf
      refine a_callS (as := [.int v9, .int x2, .int x3]) (np := 3) (st := [.int ((16 * x1) + x4), .ref v5]) (sX14_letterCase E (D - 1) (by omega) e11) dX14_cases_39 rfl (by omega) (by decide) cw_X14_163 wd_1534 rfl (Nat.le_of_ble_eq_true rfl) ?_
      obtain ⟨h14, e15, hf⟩ := obd hf
      refine o_asI dX14_cases_42 e15 ?_
      refine a_iinc (q := 4) (v := (x4 + 1)) (lv1 := [(4, .int (x4 + 1)), (0, .ref x0), (1, .int x1), (2, .int x2), (3, .int x3)]) dX14_cases_43 rfl (by rfl) (by decide) rfl ?_
      refine a_goto (tgt := 3) dX14_cases_46 (by decide) ?_
      exact AW.sub [1, 2, 3, 4, 0] rfl (ih _ _ _ _ _ _ _ hf hk0)
set_option maxHeartbeats 4000000 in
set_option maxRecDepth 100000 in
theorem sX14_cases (E : gE) (D : Nat) (hD : 2 ≤ D) {a0 : Nat} {a1 : Int32} {a2 : Int32} {a3 : Int32} {h hz : hp} (hf : fX14_cases a0 a1 a2 a3 h = some hz) : MC E yX14_cases cX14_cases (Option.none : Option Jvm.ClassFile.FieldType) 5 D [.ref a0, .int a1, .int a2, .int a3] h none hz := by
  refine MC.of (by decide +kernel) (Nat.le_of_ble_eq_true rfl) rfl ?_
  unfold fX14_cases at hf
  show AW E yX14_cases cX14_cases (Option.none : Option Jvm.ClassFile.FieldType) 5 D none h hz 0 [(0, .ref a0), (1, .int a1), (2, .int a2), (3, .int a3)] [] h
  refine a_iconst (v := 0) dX14_cases_0 (by decide) ?_
  refine a_istore (lv1 := [(4, .int 0), (0, .ref a0), (1, .int a1), (2, .int a2), (3, .int a3)]) dX14_cases_1 (by decide) rfl ?_
  obtain ⟨h2, e1, hf⟩ := obd hf
  refine AW.sub [1, 2, 3, 4, 0] rfl (sX14_cases_l3 E D hD _ _ _ _ _ _ _ _ e1 ?_)
  obtain rfl := Option.some.inj hf
  exact a_return dX14_cases_49 rfl
