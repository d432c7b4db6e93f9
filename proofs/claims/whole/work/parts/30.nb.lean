set_option maxHeartbeats 4000000 in
set_option maxRecDepth 100000 in
theorem start_S2 {s : State} {b L : Nat} {xs : Nat → Int32} (hts : ∀ w ∈ lw_tbl, w.before #[Value.ref b] s = true) (hgv : (Jvm.Cond.and given_1 narrow_1).before #[Value.ref b] s = true) (hX : va_X b L xs s s.heap) (hbl : b < s.heap.size) (hL : L ≤ 3072) : ∃ ad : Nat → Nat, ad 63 = b ∧ vk_R "TemplatePressModel" 255 " up low rev len half third int real bits first last sum sort cut pad inc mul or " (ad 39) s ∧ ∀ (D : va_G) (cA : Nat → ClassId), g_S2 (s.heap.size, D, cA, ad, L, xs) s s.heap := by
  have hs := flat_of_before _ hgv
  have hA : ∀ a : Nat, a < s.heap.size → ¬ (fun q : Nat => s.heap.size ≤ q) a := fun a h q => absurd h (Nat.not_lt.mpr q)
  have x1 : ∀ i, i < 19 → (Cond.exactly (stS i) "java/lang/String").before #[Value.ref b] s = true := (lt_s (lt_s (lt_s (lt_s (lt_s (lt_s (lt_s (lt_s (lt_s (lt_s (lt_s (lt_s (lt_s (lt_s (lt_s (lt_s (lt_s (lt_s (lt_s lt_0 (hs _ na_285)) (hs _ na_291)) (hs _ na_298)) (hs _ na_305)) (hs _ na_312)) (hs _ na_319)) (hs _ na_326)) (hs _ na_333)) (hs _ na_340)) (hs _ na_348)) (hs _ na_357)) (hs _ na_364)) (hs _ na_372)) (hs _ na_380)) (hs _ na_389)) (hs _ na_397)) (hs _ na_404)) (hs _ na_279)) (hs _ na_195))
  have x2 : ∀ i, i < 19 → (Cond.eq (.field (stS i) "java/lang/String" "coder" "B") (.int 0)).before #[Value.ref b] s = true := (lt_s (lt_s (lt_s (lt_s (lt_s (lt_s (lt_s (lt_s (lt_s (lt_s (lt_s (lt_s (lt_s (lt_s (lt_s (lt_s (lt_s (lt_s (lt_s lt_0 (hs _ na_286)) (hs _ na_292)) (hs _ na_299)) (hs _ na_306)) (hs _ na_313)) (hs _ na_320)) (hs _ na_327)) (hs _ na_334)) (hs _ na_341)) (hs _ na_349)) (hs _ na_358)) (hs _ na_365)) (hs _ na_373)) (hs _ na_381)) (hs _ na_390)) (hs _ na_398)) (hs _ na_405)) (hs _ na_280)) (hs _ na_196))
  have x3 : ∀ i, i < 19 → (Cond.arrayOf (.field (stS i) "java/lang/String" "value" "[B") .byte).before #[Value.ref b] s = true := (lt_s (lt_s (lt_s (lt_s (lt_s (lt_s (lt_s (lt_s (lt_s (lt_s (lt_s (lt_s (lt_s (lt_s (lt_s (lt_s (lt_s (lt_s (lt_s lt_0 (hs _ na_287)) (hs _ na_293)) (hs _ na_300)) (hs _ na_307)) (hs _ na_314)) (hs _ na_321)) (hs _ na_328)) (hs _ na_335)) (hs _ na_342)) (hs _ na_350)) (hs _ na_359)) (hs _ na_366)) (hs _ na_374)) (hs _ na_382)) (hs _ na_391)) (hs _ na_399)) (hs _ na_406)) (hs _ na_281)) (hs _ na_197))
  have x4 : ∀ i, i < 19 → (Cond.eq (.length (.field (stS i) "java/lang/String" "value" "[B")) (.int (Int32.ofNat (sWl.getD i []).length))).before #[Value.ref b] s = true := (lt_s (lt_s (lt_s (lt_s (lt_s (lt_s (lt_s (lt_s (lt_s (lt_s (lt_s (lt_s (lt_s (lt_s (lt_s (lt_s (lt_s (lt_s (lt_s lt_0 (hs _ na_288)) (hs _ na_294)) (hs _ na_301)) (hs _ na_308)) (hs _ na_315)) (hs _ na_322)) (hs _ na_329)) (hs _ na_336)) (hs _ na_343)) (hs _ na_351)) (hs _ na_360)) (hs _ na_367)) (hs _ na_375)) (hs _ na_383)) (hs _ na_392)) (hs _ na_400)) (hs _ na_407)) (hs _ na_282)) (hs _ na_198))
  have x5 : ∀ i, i < 19 → ∀ j : Nat, j < (sWl.getD i []).length → (Cond.eq (.elem (.field (stS i) "java/lang/String" "value" "[B") (.int (Int32.ofNat j))) (.int ((sWl.getD i []).getD j 0))).before #[Value.ref b] s = true := (lt_s (lt_s (lt_s (lt_s (lt_s (lt_s (lt_s (lt_s (lt_s (lt_s (lt_s (lt_s (lt_s (lt_s (lt_s (lt_s (lt_s (lt_s (lt_s lt_0 (lt_s (lt_s lt_0 (hs _ na_289)) (hs _ na_290))) (lt_s (lt_s (lt_s lt_0 (hs _ na_295)) (hs _ na_296)) (hs _ na_297))) (lt_s (lt_s (lt_s lt_0 (hs _ na_302)) (hs _ na_303)) (hs _ na_304))) (lt_s (lt_s (lt_s lt_0 (hs _ na_309)) (hs _ na_310)) (hs _ na_311))) (lt_s (lt_s (lt_s lt_0 (hs _ na_316)) (hs _ na_317)) (hs _ na_318))) (lt_s (lt_s (lt_s lt_0 (hs _ na_323)) (hs _ na_324)) (hs _ na_325))) (lt_s (lt_s (lt_s lt_0 (hs _ na_330)) (hs _ na_331)) (hs _ na_332))) (lt_s (lt_s (lt_s lt_0 (hs _ na_337)) (hs _ na_338)) (hs _ na_339))) (lt_s (lt_s (lt_s (lt_s lt_0 (hs _ na_344)) (hs _ na_345)) (hs _ na_346)) (hs _ na_347))) (lt_s (lt_s (lt_s (lt_s (lt_s lt_0 (hs _ na_352)) (hs _ na_353)) (hs _ na_354)) (hs _ na_355)) (hs _ na_356))) (lt_s (lt_s (lt_s lt_0 (hs _ na_361)) (hs _ na_362)) (hs _ na_363))) (lt_s (lt_s (lt_s (lt_s lt_0 (hs _ na_368)) (hs _ na_369)) (hs _ na_370)) (hs _ na_371))) (lt_s (lt_s (lt_s (lt_s lt_0 (hs _ na_376)) (hs _ na_377)) (hs _ na_378)) (hs _ na_379))) (lt_s (lt_s (lt_s (lt_s (lt_s lt_0 (hs _ na_384)) (hs _ na_385)) (hs _ na_386)) (hs _ na_387)) (hs _ na_388))) (lt_s (lt_s (lt_s (lt_s lt_0 (hs _ na_393)) (hs _ na_394)) (hs _ na_395)) (hs _ na_396))) (lt_s (lt_s (lt_s lt_0 (hs _ na_401)) (hs _ na_402)) (hs _ na_403))) (lt_s (lt_s (lt_s (lt_s lt_0 (hs _ na_408)) (hs _ na_409)) (hs _ na_410)) (hs _ na_411))) (lt_s (lt_s lt_0 (hs _ na_283)) (hs _ na_284))) (lt_s (lt_s (lt_s (lt_s (lt_s (lt_s (lt_s (lt_s (lt_s (lt_s (lt_s (lt_s (lt_s (lt_s (lt_s (lt_s (lt_s (lt_s (lt_s (lt_s (lt_s (lt_s (lt_s (lt_s (lt_s (lt_s (lt_s (lt_s (lt_s (lt_s (lt_s (lt_s (lt_s (lt_s (lt_s (lt_s (lt_s (lt_s (lt_s (lt_s (lt_s (lt_s (lt_s (lt_s (lt_s (lt_s (lt_s (lt_s (lt_s (lt_s (lt_s (lt_s (lt_s (lt_s (lt_s (lt_s (lt_s (lt_s (lt_s (lt_s (lt_s (lt_s (lt_s (lt_s (lt_s (lt_s (lt_s (lt_s (lt_s (lt_s (lt_s (lt_s (lt_s (lt_s (lt_s (lt_s (lt_s (lt_s (lt_s (lt_s lt_0 (hs _ na_199)) (hs _ na_200)) (hs _ na_201)) (hs _ na_202)) (hs _ na_203)) (hs _ na_204)) (hs _ na_205)) (hs _ na_206)) (hs _ na_207)) (hs _ na_208)) (hs _ na_209)) (hs _ na_210)) (hs _ na_211)) (hs _ na_212)) (hs _ na_213)) (hs _ na_214)) (hs _ na_215)) (hs _ na_216)) (hs _ na_217)) (hs _ na_218)) (hs _ na_219)) (hs _ na_220)) (hs _ na_221)) (hs _ na_222)) (hs _ na_223)) (hs _ na_224)) (hs _ na_225)) (hs _ na_226)) (hs _ na_227)) (hs _ na_228)) (hs _ na_229)) (hs _ na_230)) (hs _ na_231)) (hs _ na_232)) (hs _ na_233)) (hs _ na_234)) (hs _ na_235)) (hs _ na_236)) (hs _ na_237)) (hs _ na_238)) (hs _ na_239)) (hs _ na_240)) (hs _ na_241)) (hs _ na_242)) (hs _ na_243)) (hs _ na_244)) (hs _ na_245)) (hs _ na_246)) (hs _ na_247)) (hs _ na_248)) (hs _ na_249)) (hs _ na_250)) (hs _ na_251)) (hs _ na_252)) (hs _ na_253)) (hs _ na_254)) (hs _ na_255)) (hs _ na_256)) (hs _ na_257)) (hs _ na_258)) (hs _ na_259)) (hs _ na_260)) (hs _ na_261)) (hs _ na_262)) (hs _ na_263)) (hs _ na_264)) (hs _ na_265)) (hs _ na_266)) (hs _ na_267)) (hs _ na_268)) (hs _ na_269)) (hs _ na_270)) (hs _ na_271)) (hs _ na_272)) (hs _ na_273)) (hs _ na_274)) (hs _ na_275)) (hs _ na_276)) (hs _ na_277)) (hs _ na_278)))
  have hS : ∀ i : Nat, ∃ q : Nat × Nat, i < 19 → (stS i).eval #[Value.ref b] s none [] s = some (.ref q.1) ∧ va_O "java/lang/String" q.1 (fun q : Nat => s.heap.size ≤ q) s s.heap ∧ va_OF "java/lang/String" "coder" "B" (.int 0) q.1 (fun q : Nat => s.heap.size ≤ q) s s.heap ∧ va_OF "java/lang/String" "value" "[B" (.ref q.2) q.1 (fun q : Nat => s.heap.size ≤ q) s s.heap ∧ va_T .byte q.2 (sWl.getD i []).length (fun j => .int ((sWl.getD i []).getD j 0)) (fun q : Nat => s.heap.size ≤ q) s s.heap := by
    intro i
    by_cases hi : i < 19
    · obtain ⟨a, c, cA, kA, q1, q2, q3, q4, q5, q6, -⟩ := Cond.exactly_spec (x1 i hi)
      have hlen : (sWl.getD i []).length < 2 ^ 31 := co_dec (N := 19) (P := fun i => (sWl.getD i []).length < 2 ^ 31) (by decide +kernel) hi
      obtain ⟨t, ht, hT⟩ := va_Tof (f := fun j => .int ((sWl.getD i []).getD j 0)) (A := fun q : Nat => s.heap.size ≤ q) hlen (x3 i hi) (va_eqt (x4 i hi)) (fun j hj => va_eqt (x5 i hi j hj)) hA
      exact ⟨(a, t), fun _ => ⟨q1, ⟨cA, q3, q5, by rw [q6]; exact q2, hA a (Array.getElem?_eq_some_iff.mp q3).1⟩, vk_OFof q1 (va_eqt (x2 i hi)) hA, vk_OFof q1 ht hA, hT⟩⟩
    · exact ⟨(0, 0), fun h => absurd h hi⟩
  obtain ⟨sd, hsd⟩ := Classical.axiomOfChoice hS
  have y1 : ∀ i, i < 18 → (Cond.exactly (stE i) "TemplatePress$Filter").before #[Value.ref b] s = true := (lt_s (lt_s (lt_s (lt_s (lt_s (lt_s (lt_s (lt_s (lt_s (lt_s (lt_s (lt_s (lt_s (lt_s (lt_s (lt_s (lt_s (lt_s lt_0 (hs _ na_57)) (hs _ na_61)) (hs _ na_65)) (hs _ na_69)) (hs _ na_73)) (hs _ na_77)) (hs _ na_81)) (hs _ na_85)) (hs _ na_89)) (hs _ na_93)) (hs _ na_97)) (hs _ na_101)) (hs _ na_105)) (hs _ na_109)) (hs _ na_113)) (hs _ na_117)) (hs _ na_121)) (hs _ na_32))
  have y2 : ∀ i, i < 18 → (Cond.eq (.field (stE i) "java/lang/Enum" "ordinal" "I") (.int (Int32.ofNat i))).before #[Value.ref b] s = true := (lt_s (lt_s (lt_s (lt_s (lt_s (lt_s (lt_s (lt_s (lt_s (lt_s (lt_s (lt_s (lt_s (lt_s (lt_s (lt_s (lt_s (lt_s lt_0 (hs _ na_58)) (hs _ na_62)) (hs _ na_66)) (hs _ na_70)) (hs _ na_74)) (hs _ na_78)) (hs _ na_82)) (hs _ na_86)) (hs _ na_90)) (hs _ na_94)) (hs _ na_98)) (hs _ na_102)) (hs _ na_106)) (hs _ na_110)) (hs _ na_114)) (hs _ na_118)) (hs _ na_122)) (hs _ na_33))
  have y3 : ∀ i, i < 18 → (Cond.eq (.field (stE i) "TemplatePress$Filter" "counted" "Z") (.int (cntL.getD i 0))).before #[Value.ref b] s = true := (lt_s (lt_s (lt_s (lt_s (lt_s (lt_s (lt_s (lt_s (lt_s (lt_s (lt_s (lt_s (lt_s (lt_s (lt_s (lt_s (lt_s (lt_s lt_0 (hs _ na_60)) (hs _ na_64)) (hs _ na_68)) (hs _ na_72)) (hs _ na_76)) (hs _ na_80)) (hs _ na_84)) (hs _ na_88)) (hs _ na_92)) (hs _ na_96)) (hs _ na_100)) (hs _ na_104)) (hs _ na_108)) (hs _ na_112)) (hs _ na_116)) (hs _ na_120)) (hs _ na_124)) (hs _ na_35))
  have y4 : ∀ i, i < 18 → (Cond.eq (.field (stE i) "TemplatePress$Filter" "word" "Ljava/lang/String;") (stS i)).before #[Value.ref b] s = true := (lt_s (lt_s (lt_s (lt_s (lt_s (lt_s (lt_s (lt_s (lt_s (lt_s (lt_s (lt_s (lt_s (lt_s (lt_s (lt_s (lt_s (lt_s lt_0 (hs _ na_59)) (hs _ na_63)) (hs _ na_67)) (hs _ na_71)) (hs _ na_75)) (hs _ na_79)) (hs _ na_83)) (hs _ na_87)) (hs _ na_91)) (hs _ na_95)) (hs _ na_99)) (hs _ na_103)) (hs _ na_107)) (hs _ na_111)) (hs _ na_115)) (hs _ na_119)) (hs _ na_123)) (hs _ na_34))
  have hE : ∀ i : Nat, ∃ q : Nat, i < 18 → (stE i).eval #[Value.ref b] s none [] s = some (.ref q) ∧ va_O "TemplatePress$Filter" q (fun q : Nat => s.heap.size ≤ q) s s.heap ∧ va_OF "java/lang/Enum" "ordinal" "I" (.int (Int32.ofNat i)) q (fun q : Nat => s.heap.size ≤ q) s s.heap ∧ va_OF "TemplatePress$Filter" "counted" "Z" (.int (cntL.getD i 0)) q (fun q : Nat => s.heap.size ≤ q) s s.heap ∧ va_OF "TemplatePress$Filter" "word" "Ljava/lang/String;" (.ref (sd i).1) q (fun q : Nat => s.heap.size ≤ q) s s.heap := by
    intro i
    by_cases hi : i < 18
    · obtain ⟨a, c, cA, kA, q1, q2, q3, q4, q5, q6, -⟩ := Cond.exactly_spec (y1 i hi)
      exact ⟨a, fun _ => ⟨q1, ⟨cA, q3, q5, by rw [q6]; exact q2, hA a (Array.getElem?_eq_some_iff.mp q3).1⟩, vk_OFof q1 (va_eqt (y2 i hi)) hA, vk_OFof q1 (va_eqt (y3 i hi)) hA, vk_OFof q1 (va_eqv (y4 i hi) (hsd i (by omega)).1) hA⟩⟩
    · exact ⟨0, fun h => absurd h hi⟩
  obtain ⟨ed, hed⟩ := Classical.axiomOfChoice hE
  have z1 : ∀ j, j < 18 → (Cond.eq (.elem (.static "TemplatePress$Filter" "ALL" "[LTemplatePress$Filter;") (.int (Int32.ofNat j))) (stE j)).before #[Value.ref b] s = true := (lt_s (lt_s (lt_s (lt_s (lt_s (lt_s (lt_s (lt_s (lt_s (lt_s (lt_s (lt_s (lt_s (lt_s (lt_s (lt_s (lt_s (lt_s lt_0 (hs _ na_9)) (hs _ na_10)) (hs _ na_11)) (hs _ na_12)) (hs _ na_13)) (hs _ na_14)) (hs _ na_15)) (hs _ na_16)) (hs _ na_17)) (hs _ na_18)) (hs _ na_19)) (hs _ na_20)) (hs _ na_21)) (hs _ na_22)) (hs _ na_23)) (hs _ na_24)) (hs _ na_25)) (hs _ na_26))
  obtain ⟨ta, ha1, ha2⟩ := va_Tof (tm := .static "TemplatePress$Filter" "ALL" "[LTemplatePress$Filter;") (ty := .object "TemplatePress$Filter") (N := 18) (f := fun j => .ref (ed j)) (A := fun q : Nat => s.heap.size ≤ q) (by decide) (hs _ na_6) (va_eqt (hs _ na_7)) (fun j hj => va_eqv (z1 j hj) (hed j hj).1) hA
  have z2 : ∀ j, j < 18 → (Cond.eq (.elem (.static "TemplatePress$1" "$SwitchMap$TemplatePress$Filter" "[I") (.int (Int32.ofNat j))) (.int (swL.getD j 0))).before #[Value.ref b] s = true := (lt_s (lt_s (lt_s (lt_s (lt_s (lt_s (lt_s (lt_s (lt_s (lt_s (lt_s (lt_s (lt_s (lt_s (lt_s (lt_s (lt_s (lt_s lt_0 (hs _ na_39)) (hs _ na_40)) (hs _ na_41)) (hs _ na_42)) (hs _ na_43)) (hs _ na_44)) (hs _ na_45)) (hs _ na_46)) (hs _ na_47)) (hs _ na_48)) (hs _ na_49)) (hs _ na_50)) (hs _ na_51)) (hs _ na_52)) (hs _ na_53)) (hs _ na_54)) (hs _ na_55)) (hs _ na_56))
  obtain ⟨tw, hw1, hw2⟩ := va_Tof (tm := .static "TemplatePress$1" "$SwitchMap$TemplatePress$Filter" "[I") (ty := .int) (N := 18) (f := fun j => .int (swL.getD j 0)) (A := fun q : Nat => s.heap.size ≤ q) (by decide) (hs _ na_37) (va_eqt (hs _ na_38)) (fun j hj => va_eqt (z2 j hj)) hA
  have hq := va_Zqof (A := fun q : Nat => s.heap.size ≤ q) (hts _ nw_q) (hts _ nw_qi) (hs _ na_28) hA
  obtain ⟨tq, htq⟩ : ∃ tq : Nat, va_Z "jdk/internal/util/Preconditions" "SIOOBE_FORMATTER" "Ljava/util/function/BiFunction;" .null (fun q : Nat => s.heap.size ≤ q) s s.heap ∨ va_Z "jdk/internal/util/Preconditions" "SIOOBE_FORMATTER" "Ljava/util/function/BiFunction;" (.ref tq) (fun q : Nat => s.heap.size ≤ q) s s.heap := by
    rcases hq with hq | ⟨t, hq⟩
    · exact ⟨0, Or.inl hq⟩
    · exact ⟨t, Or.inr hq⟩
  have hst : va_T .int b L (fun j => .int (xs j)) (fun q : Nat => s.heap.size ≤ q) s s.heap := by
    obtain ⟨scr, w1, w2, w3, w4, w5⟩ := hX
    exact ⟨scr, w1, w2, w3, by omega, by rw [w4], w5, hA b hbl⟩
  refine ⟨fun i => if i = 63 then b else if i = 62 then tq else if i = 19 then ta else if i = 20 then tw else if i < 19 then ed (i - 1) else if i < 40 then (sd (i - 21)).1 else (sd (i - 40)).2, rfl, ?_, fun D cA => ?_⟩
  · exact vk_R.of (hts _ nw_sr) (hsd 18 (by decide)).1
  · refine ⟨fun i hi => ?_, fun i hi => ?_, ?_, ?_, ?_, ?_, ?_, ?_, ?_, ?_⟩
    · have e1 : g_c (s.heap.size, D, cA, (fun i => if i = 63 then b else if i = 62 then tq else if i = 19 then ta else if i = 20 then tw else if i < 19 then ed (i - 1) else if i < 40 then (sd (i - 21)).1 else (sd (i - 40)).2), L, xs) (1 + i) = ed i := by
        show (if 1 + i = 63 then b else if 1 + i = 62 then tq else if 1 + i = 19 then ta else if 1 + i = 20 then tw else if 1 + i < 19 then ed (1 + i - 1) else if 1 + i < 40 then (sd (1 + i - 21)).1 else (sd (1 + i - 40)).2) = ed i
        rw [if_neg (by omega), if_neg (by omega), if_neg (by omega), if_neg (by omega), if_pos (by omega), show 1 + i - 1 = i by omega]
      have e2 : g_c (s.heap.size, D, cA, (fun i => if i = 63 then b else if i = 62 then tq else if i = 19 then ta else if i = 20 then tw else if i < 19 then ed (i - 1) else if i < 40 then (sd (i - 21)).1 else (sd (i - 40)).2), L, xs) (21 + i) = (sd i).1 := by
        show (if 21 + i = 63 then b else if 21 + i = 62 then tq else if 21 + i = 19 then ta else if 21 + i = 20 then tw else if 21 + i < 19 then ed (21 + i - 1) else if 21 + i < 40 then (sd (21 + i - 21)).1 else (sd (21 + i - 40)).2) = (sd i).1
        rw [if_neg (by omega), if_neg (by omega), if_neg (by omega), if_neg (by omega), if_neg (by omega), if_pos (by omega), show 21 + i - 21 = i by omega]
      rw [e1, e2]
      exact (hed i hi).2
    · have e1 : g_c (s.heap.size, D, cA, (fun i => if i = 63 then b else if i = 62 then tq else if i = 19 then ta else if i = 20 then tw else if i < 19 then ed (i - 1) else if i < 40 then (sd (i - 21)).1 else (sd (i - 40)).2), L, xs) (40 + i) = (sd i).2 := by
        show (if 40 + i = 63 then b else if 40 + i = 62 then tq else if 40 + i = 19 then ta else if 40 + i = 20 then tw else if 40 + i < 19 then ed (40 + i - 1) else if 40 + i < 40 then (sd (40 + i - 21)).1 else (sd (40 + i - 40)).2) = (sd i).2
        rw [if_neg (by omega), if_neg (by omega), if_neg (by omega), if_neg (by omega), if_neg (by omega), if_neg (by omega), show 40 + i - 40 = i by omega]
      have e2 : g_c (s.heap.size, D, cA, (fun i => if i = 63 then b else if i = 62 then tq else if i = 19 then ta else if i = 20 then tw else if i < 19 then ed (i - 1) else if i < 40 then (sd (i - 21)).1 else (sd (i - 40)).2), L, xs) (21 + i) = (sd i).1 := by
        show (if 21 + i = 63 then b else if 21 + i = 62 then tq else if 21 + i = 19 then ta else if 21 + i = 20 then tw else if 21 + i < 19 then ed (21 + i - 1) else if 21 + i < 40 then (sd (21 + i - 21)).1 else (sd (21 + i - 40)).2) = (sd i).1
        rw [if_neg (by omega), if_neg (by omega), if_neg (by omega), if_neg (by omega), if_neg (by omega), if_pos (by omega), show 21 + i - 21 = i by omega]
      rw [e1, e2]
      exact (hsd i hi).2
    · exact va_Zref (hts _ nw_all) (hts _ nw_fi) ha1 hA
    · obtain ⟨cell, w1, w2, w3, w4, w5, w6, w7⟩ := ha2
      refine ⟨cell, w1, w2, w3, w4, w5, fun j hj => ?_, w7⟩
      rw [w6 j hj]
      show some (Value.ref (ed j)) = some (Value.ref (if 1 + j = 63 then b else if 1 + j = 62 then tq else if 1 + j = 19 then ta else if 1 + j = 20 then tw else if 1 + j < 19 then ed (1 + j - 1) else if 1 + j < 40 then (sd (1 + j - 21)).1 else (sd (1 + j - 40)).2))
      rw [if_neg (by omega), if_neg (by omega), if_neg (by omega), if_neg (by omega), if_pos (by omega), show 1 + j - 1 = j by omega]
    · exact va_Zref (hts _ nw_or) (hts _ nw_fi) (hed 17 (by decide)).1 hA
    · exact va_Zref (hts _ nw_sw) (hts _ nw_swi) hw1 hA
    · exact hw2
    · exact va_Zof (hts _ nw_cs) (hts _ nw_csi) (va_eqt (hs _ na_27)) hA
    · exact hst
    · exact htq
set_option maxHeartbeats 4000000 in
set_option maxRecDepth 100000 in
theorem start_K {s : State} {b : Nat} (hts : ∀ w ∈ lw_tbl, w.before #[Value.ref b] s = true) : ∃ (D : va_G) (cA : Nat → ClassId), ∀ (ad : Nat → Nat) (L : Nat) (xs : Nat → Int32), va_K D vwCl (g_tys (s.heap.size, D, cA, ad, L, xs)) s := by
  obtain ⟨c0, i0, k0⟩ := u_known (C := RX1) (T := TX1) (N := 5) (n := 5) hts inX1 (hts _ nw_in0)
  obtain ⟨c1, i1, k1⟩ := u_known (C := RX2) (T := TX2) (N := 4) (n := 4) hts inX2 (hts _ nw_in1)
  obtain ⟨c2, i2, k2⟩ := u_known (C := RX3) (T := TX3) (N := 0) (n := 5) hts (fun w hw => by simp [u_ws] at hw) (hts _ nw_in2)
  obtain ⟨c3, i3, k3⟩ := u_known (C := RX4) (T := TX4) (N := 3) (n := 3) hts inX4 (hts _ nw_in3)
  obtain ⟨c4, i4, k4⟩ := u_known (C := RX5) (T := TX5) (N := 2) (n := 2) hts inX5 (hts _ nw_in4)
  obtain ⟨c5, i5, k5⟩ := u_known (C := RX6) (T := TX6) (N := 9) (n := 9) hts inX6 (hts _ nw_in5)
  obtain ⟨c6, i6, k6⟩ := u_known (C := RX7) (T := TX7) (N := 6) (n := 6) hts inX7 (hts _ nw_in6)
  obtain ⟨c7, i7, k7⟩ := u_known (C := RX8) (T := TX8) (N := 4) (n := 4) hts inX8 (hts _ nw_in7)
  obtain ⟨c8, i8, k8⟩ := u_known (C := RX9) (T := TX9) (N := 4) (n := 4) hts inX9 (hts _ nw_in8)
  obtain ⟨c9, i9, k9⟩ := u_known (C := RX10) (T := TX10) (N := 8) (n := 8) hts inX10 (hts _ nw_in9)
  obtain ⟨c10, i10, k10⟩ := u_known (C := RX11) (T := TX11) (N := 5) (n := 5) hts inX11 (hts _ nw_in10)
  obtain ⟨c11, i11, k11⟩ := u_known (C := RX12) (T := TX12) (N := 18) (n := 18) hts inX12 (hts _ nw_in11)
  obtain ⟨c12, i12, k12⟩ := u_known (C := RX13) (T := TX13) (N := 10) (n := 10) hts inX13 (hts _ nw_in12)
  obtain ⟨c13, i13, k13⟩ := u_known (C := RX14) (T := TX14) (N := 63) (n := 63) hts inX14 (hts _ nw_in13)
  obtain ⟨r0, kA0, cm0, f0, g0, h0⟩ := Cond.arrayClass_spec (hts _ nw_ai)
  obtain ⟨r1, kA1, cm1, f1, g1, h1⟩ := Cond.arrayClass_spec (hts _ nw_af)
  obtain ⟨cm2, r2, kA2, e2, -, g2, h2, f2⟩ := Cond.arrayOver_spec (hts _ nw_a1)
  obtain ⟨cm3, r3, kA3, e3, -, g3, h3, f3⟩ := Cond.arrayOver_spec (hts _ nw_a2)
  obtain ⟨cm4, r4, kA4, e4, -, g4, h4, f4⟩ := Cond.arrayOver_spec (hts _ nw_a3)
  obtain ⟨cm5, r5, kA5, e5, -, g5, h5, f5⟩ := Cond.arrayOver_spec (hts _ nw_a4)
  obtain ⟨cm6, r6, kA6, e6, -, g6, h6, f6⟩ := Cond.arrayOver_spec (hts _ nw_a5)
  refine ⟨(fun k => match k with | 0 => c0 | 1 => c1 | 2 => c2 | 3 => c3 | 4 => c4 | 5 => c5 | 6 => c6 | 7 => c7 | 8 => c8 | 9 => c9 | 10 => c10 | 11 => c11 | 12 => c12 | _ => c13, fun k => match k with | 0 => i0 | 1 => i1 | 2 => i2 | 3 => i3 | 4 => i4 | 5 => i5 | 6 => i6 | 7 => i7 | 8 => i8 | 9 => i9 | 10 => i10 | 11 => i11 | 12 => i12 | _ => i13), fun j => match j with | 0 => r0 | 1 => r1 | 2 => r2 | 3 => r3 | 4 => r4 | 5 => r5 | _ => r6, fun ad L xs => ⟨?_, ?_⟩⟩
  · intro k q hq
    match k, hq with
    | 0, hq => cases hq; exact k0
    | 1, hq => cases hq; exact k1
    | 2, hq => cases hq; exact k2
    | 3, hq => cases hq; exact k3
    | 4, hq => cases hq; exact k4
    | 5, hq => cases hq; exact k5
    | 6, hq => cases hq; exact k6
    | 7, hq => cases hq; exact k7
    | 8, hq => cases hq; exact k8
    | 9, hq => cases hq; exact k9
    | 10, hq => cases hq; exact k10
    | 11, hq => cases hq; exact k11
    | 12, hq => cases hq; exact k12
    | 13, hq => cases hq; exact k13
    | k + 14, hq => simp [vwCl] at hq
  · intro k q hq
    match k, hq with
    | 0, hq => cases hq; exact ⟨fun n z => ⟨fun k h => (by cases h), kA0, g0, cm0, h0⟩, f0⟩
    | 1, hq => cases hq; exact ⟨fun n z => ⟨fun k h => (by cases h), kA1, g1, cm1, h1⟩, f1⟩
    | 2, hq => cases hq; exact ⟨fun n z => ⟨fun k h => (by cases h), kA2, g2, cm2, h2⟩, kA2, cm2, g2, h2, e2, f2⟩
    | 3, hq => cases hq; exact ⟨fun n z => ⟨fun k h => (by cases h), kA3, g3, cm3, h3⟩, kA3, cm3, g3, h3, e3, f3⟩
    | 4, hq => cases hq; exact ⟨fun n z => ⟨fun k h => (by cases h), kA4, g4, cm4, h4⟩, kA4, cm4, g4, h4, e4, f4⟩
    | 5, hq => cases hq; exact ⟨fun n z => ⟨fun k h => (by cases h), kA5, g5, cm5, h5⟩, kA5, cm5, g5, h5, e5, f5⟩
    | 6, hq => cases hq; exact ⟨fun n z => ⟨fun k h => (by cases h), kA6, g6, cm6, h6⟩, kA6, cm6, g6, h6, e6, f6⟩
    | k + 7, hq => simp [g_tys] at hq
