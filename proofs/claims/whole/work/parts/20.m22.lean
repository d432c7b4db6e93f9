def fL_law_l18 (xs : Nat → Int32) (L : Nat) : Nat → Nat → Nat → Int32 → hp → Option (Nat × hp)
  | 0, _, _, _, _ => none
  | n + 1, x1, x2, x3, h =>
    if ((Int32.ofNat L) - 6) < x3 then (
      some (29, h)
    ) else (
      (scA xs L x3).bind fun v1 =>
      if (v1 &&& 31) = 0 then (
        (scA xs L (x3 + 1)).bind fun v3 =>
        (ckT h x1 12).bind fun _ =>
        bd2 (fX13_none x1 v3 h) fun v6 h7 =>
        (scA xs L (x3 + 1)).bind fun v9 =>
        (ckT h7 x2 13).bind fun _ =>
        bd2 (fX14_none x2 v9 h7) fun v12 h13 =>
        if v6 = v12 then (
          fL_law_l18 xs L n x1 x2 (x3 + 6) h13
        ) else (
          some (0, h13)
        )
      ) else (
      if (v1 &&& 31) = 1 then (
        (scA xs L (x3 + 1)).bind fun v15 =>
        (scA xs L (x3 + 2)).bind fun v17 =>
        (ckT h x1 12).bind fun _ =>
        bd2 (fX13_number x1 v15 v17 h) fun v20 h21 =>
        (scA xs L (x3 + 1)).bind fun v23 =>
        (scA xs L (x3 + 2)).bind fun v25 =>
        (ckT h21 x2 13).bind fun _ =>
        bd2 (fX14_number x2 v23 v25 h21) fun v28 h29 =>
        if v20 = v28 then (
          fL_law_l18 xs L n x1 x2 (x3 + 6) h29
        ) else (
          some (1, h29)
        )
      ) else (
      if (v1 &&& 31) = 2 then (
        (scA xs L (x3 + 1)).bind fun v31 =>
        (scA xs L (x3 + 2)).bind fun v33 =>
        (scA xs L (x3 + 3)).bind fun v35 =>
        (ckT h x1 12).bind fun _ =>
        bd2 (fX13_real x1 v31 v33 v35 h) fun v38 h39 =>
        (scA xs L (x3 + 1)).bind fun v41 =>
        (scA xs L (x3 + 2)).bind fun v43 =>
        (scA xs L (x3 + 3)).bind fun v45 =>
        (ckT h39 x2 13).bind fun _ =>
        bd2 (fX14_real x2 v41 v43 v45 h39) fun v48 h49 =>
        if v38 = v48 then (
          fL_law_l18 xs L n x1 x2 (x3 + 6) h49
        ) else (
          some (2, h49)
        )
      ) else (
      if (v1 &&& 31) = 3 then (
        (scA xs L (x3 + 1)).bind fun v51 =>
        (ckT h x1 12).bind fun _ =>
        bd2 (fX13_text x1 v51 h) fun v54 h55 =>
        (scA xs L (x3 + 1)).bind fun v57 =>
        (ckT h55 x2 13).bind fun _ =>
        bd2 (fX14_text x2 v57 h55) fun v60 h61 =>
        if v54 = v60 then (
          fL_law_l18 xs L n x1 x2 (x3 + 6) h61
        ) else (
          some (3, h61)
        )
      ) else (
      if (v1 &&& 31) = 4 then (
        (scA xs L (x3 + 1)).bind fun v63 =>
        (scA xs L (x3 + 2)).bind fun v65 =>
        (ckT h x1 12).bind fun _ =>
        bd2 (fX13_list x1 v63 v65 h) fun v68 h69 =>
        (scA xs L (x3 + 1)).bind fun v71 =>
        (scA xs L (x3 + 2)).bind fun v73 =>
        (ckT h69 x2 13).bind fun _ =>
        bd2 (fX14_list x2 v71 v73 h69) fun v76 h77 =>
        if v68 = v76 then (
          fL_law_l18 xs L n x1 x2 (x3 + 6) h77
        ) else (
          some (4, h77)
        )
      ) else (
      if (v1 &&& 31) = 5 then (
        (scA xs L (x3 + 1)).bind fun v79 =>
        (scA xs L (x3 + 2)).bind fun v81 =>
        (scA xs L (x3 + 3)).bind fun v83 =>
        (ckT h x1 12).bind fun _ =>
        bd2 (fX13_item x1 v79 v81 v83 h) fun v86 h87 =>
        (scA xs L (x3 + 1)).bind fun v89 =>
        (scA xs L (x3 + 2)).bind fun v91 =>
        (scA xs L (x3 + 3)).bind fun v93 =>
        (ckT h87 x2 13).bind fun _ =>
        bd2 (fX14_item x2 v89 v91 v93 h87) fun v96 h97 =>
        if v86 = v96 then (
          fL_law_l18 xs L n x1 x2 (x3 + 6) h97
        ) else (
          some (5, h97)
        )
      ) else (
      if (v1 &&& 31) = 6 then (
        (scA xs L (x3 + 1)).bind fun v99 =>
        (scA xs L (x3 + 2)).bind fun v101 =>
        (ckT h x1 12).bind fun _ =>
        bd2 (fX13_of x1 v99 v101 h) fun v104 h105 =>
        (scA xs L (x3 + 1)).bind fun v107 =>
        (scA xs L (x3 + 2)).bind fun v109 =>
        (ckT h105 x2 13).bind fun _ =>
        bd2 (fX14_of x2 v107 v109 h105) fun v112 h113 =>
        if v104 = v112 then (
          fL_law_l18 xs L n x1 x2 (x3 + 6) h113
        ) else (
          some (6, h113)
        )
      ) else (
      if (v1 &&& 31) = 7 then (
        (scA xs L (x3 + 1)).bind fun v115 =>
        (scA xs L (x3 + 2)).bind fun v117 =>
        (ckT h x1 12).bind fun _ =>
        bd2 (fX13_shown x1 v115 v117 h) fun v120 h121 =>
        (scA xs L (x3 + 1)).bind fun v123 =>
        (scA xs L (x3 + 2)).bind fun v125 =>
        (ckT h121 x2 13).bind fun _ =>
        bd2 (fX14_shown x2 v123 v125 h121) fun v128 h129 =>
        if v120 = v128 then (
          fL_law_l18 xs L n x1 x2 (x3 + 6) h129
        ) else (
          some (7, h129)
        )
      ) else (
      if (v1 &&& 31) = 8 then (
        (scA xs L (x3 + 1)).bind fun v131 =>
        (ckT h x1 12).bind fun _ =>
        bd2 (fX13_feed x1 v131 h) fun v134 h135 =>
        (scA xs L (x3 + 1)).bind fun v137 =>
        (ckT h135 x2 13).bind fun _ =>
        bd2 (fX14_feed x2 v137 h135) fun v140 h141 =>
        if v134 = v140 then (
          fL_law_l18 xs L n x1 x2 (x3 + 6) h141
        ) else (
          some (8, h141)
        )
      ) else (
      if (v1 &&& 31) = 9 then (
        (ckT h x1 12).bind fun _ =>
        bd2 (fX13_clear x1 h) fun v144 h145 =>
        (ckT h145 x2 13).bind fun _ =>
        bd2 (fX14_clear x2 h145) fun v148 h149 =>
        if v144 = v148 then (
          fL_law_l18 xs L n x1 x2 (x3 + 6) h149
        ) else (
          some (9, h149)
        )
      ) else (
      if (v1 &&& 31) = 10 then (
        (scA xs L (x3 + 1)).bind fun v151 =>
        (ckT h x1 12).bind fun _ =>
        bd2 (fX13_template x1 v151 h) fun v154 h155 =>
        (scA xs L (x3 + 1)).bind fun v157 =>
        (ckT h155 x2 13).bind fun _ =>
        bd2 (fX14_template x2 v157 h155) fun v160 h161 =>
        if v154 = v160 then (
          fL_law_l18 xs L n x1 x2 (x3 + 6) h161
        ) else (
          some (10, h161)
        )
      ) else (
      if (v1 &&& 31) = 11 then (
        (scA xs L (x3 + 1)).bind fun v163 =>
        (ckT h x1 12).bind fun _ =>
        bd2 (fX13_drop x1 v163 h) fun v166 h167 =>
        (scA xs L (x3 + 1)).bind fun v169 =>
        (ckT h167 x2 13).bind fun _ =>
        bd2 (fX14_drop x2 v169 h167) fun v172 h173 =>
        if v166 = v172 then (
          fL_law_l18 xs L n x1 x2 (x3 + 6) h173
        ) else (
          some (11, h173)
        )
      ) else (
      if (v1 &&& 31) = 12 then (
        (scA xs L (x3 + 1)).bind fun v175 =>
        (scA xs L (x3 + 2)).bind fun v177 =>
        (ckT h x1 12).bind fun _ =>
        bd2 (fX13_has x1 v175 v177 h) fun v180 h181 =>
        (scA xs L (x3 + 1)).bind fun v183 =>
        (scA xs L (x3 + 2)).bind fun v185 =>
        (ckT h181 x2 13).bind fun _ =>
        bd2 (fX14_has x2 v183 v185 h181) fun v188 h189 =>
        if v180 = v188 then (
          fL_law_l18 xs L n x1 x2 (x3 + 6) h189
        ) else (
          some (12, h189)
        )
      ) else (
      if (v1 &&& 31) = 13 then (
        (scA xs L (x3 + 1)).bind fun v191 =>
        (scA xs L (x3 + 2)).bind fun v193 =>
        (ckT h x1 12).bind fun _ =>
        bd2 (fX13_look x1 v191 v193 h) fun v196 h197 =>
        (scA xs L (x3 + 1)).bind fun v199 =>
        (scA xs L (x3 + 2)).bind fun v201 =>
        (ckT h197 x2 13).bind fun _ =>
        bd2 (fX14_look x2 v199 v201 h197) fun v204 h205 =>
        if v196 = v204 then (
          fL_law_l18 xs L n x1 x2 (x3 + 6) h205
        ) else (
          some (13, h205)
        )
      ) else (
      if (v1 &&& 31) = 14 then (
        (scA xs L (x3 + 1)).bind fun v207 =>
        (ckT h x1 12).bind fun _ =>
        bd2 (fX13_press x1 v207 h) fun v210 h211 =>
        (scA xs L (x3 + 1)).bind fun v213 =>
        (ckT h211 x2 13).bind fun _ =>
        bd2 (fX14_press x2 v213 h211) fun v216 h217 =>
        if v210 = v216 then (
          fL_law_l18 xs L n x1 x2 (x3 + 6) h217
        ) else (
          some (14, h217)
        )
      ) else (
      if (v1 &&& 31) = 15 then (
        (scA xs L (x3 + 1)).bind fun v219 =>
        (ckT h x1 12).bind fun _ =>
        bd2 (fX13_filter x1 v219 h) fun v222 h223 =>
        (scA xs L (x3 + 1)).bind fun v225 =>
        (ckT h223 x2 13).bind fun _ =>
        bd2 (fX14_filter x2 v225 h223) fun v228 h229 =>
        if v222 = v228 then (
          fL_law_l18 xs L n x1 x2 (x3 + 6) h229
        ) else (
          some (15, h229)
        )
      ) else (
      if (v1 &&& 31) = 16 then (
        (scA xs L (x3 + 1)).bind fun v231 =>
        (ckT h x1 12).bind fun _ =>
        bd2 (fX13_page x1 v231 h) fun v234 h235 =>
        (scA xs L (x3 + 1)).bind fun v237 =>
        (ckT h235 x2 13).bind fun _ =>
        bd2 (fX14_page x2 v237 h235) fun v240 h241 =>
        if v234 = v240 then (
          fL_law_l18 xs L n x1 x2 (x3 + 6) h241
        ) else (
          some (16, h241)
        )
      ) else (
      if (v1 &&& 31) = 17 then (
        (scA xs L (x3 + 1)).bind fun v243 =>
        (scA xs L (x3 + 2)).bind fun v245 =>
        (ckT h x1 12).bind fun _ =>
        bd2 (fX13_why x1 v243 v245 h) fun v248 h249 =>
        (scA xs L (x3 + 1)).bind fun v251 =>
        (scA xs L (x3 + 2)).bind fun v253 =>
        (ckT h249 x2 13).bind fun _ =>
        bd2 (fX14_why x2 v251 v253 h249) fun v256 h257 =>
        if v248 = v256 then (
          fL_law_l18 xs L n x1 x2 (x3 + 6) h257
        ) else (
          some (17, h257)
        )
      ) else (
      if (v1 &&& 31) = 18 then (
        (scA xs L (x3 + 1)).bind fun v259 =>
        (ckT h x1 12).bind fun _ =>
        bd2 (fX13_budget x1 v259 h) fun v262 h263 =>
        (scA xs L (x3 + 1)).bind fun v265 =>
        (ckT h263 x2 13).bind fun _ =>
        bd2 (fX14_budget x2 v265 h263) fun v268 h269 =>
        if v262 = v268 then (
          fL_law_l18 xs L n x1 x2 (x3 + 6) h269
        ) else (
          some (18, h269)
        )
      ) else (
      if (v1 &&& 31) = 19 then (
        (scA xs L (x3 + 1)).bind fun v271 =>
        (ckT h x1 12).bind fun _ =>
        bd2 (fX13_told x1 v271 h) fun v274 h275 =>
        (scA xs L (x3 + 1)).bind fun v277 =>
        (ckT h275 x2 13).bind fun _ =>
        bd2 (fX14_told x2 v277 h275) fun v280 h281 =>
        if v274 = v280 then (
          fL_law_l18 xs L n x1 x2 (x3 + 6) h281
        ) else (
          some (19, h281)
        )
      ) else (
      if (v1 &&& 31) = 20 then (
        (scA xs L (x3 + 1)).bind fun v283 =>
        (scA xs L (x3 + 2)).bind fun v285 =>
        (scA xs L (x3 + 3)).bind fun v287 =>
        (ckT h x1 12).bind fun _ =>
        bd2 (fX13_row x1 v283 v285 v287 h) fun v290 h291 =>
        (scA xs L (x3 + 1)).bind fun v293 =>
        (scA xs L (x3 + 2)).bind fun v295 =>
        (scA xs L (x3 + 3)).bind fun v297 =>
        (ckT h291 x2 13).bind fun _ =>
        bd2 (fX14_row x2 v293 v295 v297 h291) fun v300 h301 =>
        if v290 = v300 then (
          fL_law_l18 xs L n x1 x2 (x3 + 6) h301
        ) else (
          some (20, h301)
        )
      ) else (
      if (v1 &&& 31) = 21 then (
        (scA xs L (x3 + 1)).bind fun v303 =>
        (scA xs L (x3 + 2)).bind fun v305 =>
        (scA xs L (x3 + 3)).bind fun v307 =>
        (scA xs L (x3 + 4)).bind fun v309 =>
        (ckT h x1 12).bind fun _ =>
        bd2 (fX13_set x1 v303 v305 (((v307.toInt64) <<< ((32 : Int32).toInt64 &&& 63)) ||| ((v309.toInt64) &&& 4294967295)) h) fun v312 h313 =>
        (scA xs L (x3 + 1)).bind fun v315 =>
        (scA xs L (x3 + 2)).bind fun v317 =>
        (scA xs L (x3 + 3)).bind fun v319 =>
        (scA xs L (x3 + 4)).bind fun v321 =>
        (ckT h313 x2 13).bind fun _ =>
        bd2 (fX14_set x2 v315 v317 (((v319.toInt64) <<< ((32 : Int32).toInt64 &&& 63)) ||| ((v321.toInt64) &&& 4294967295)) h313) fun v324 h325 =>
        if v312 = v324 then (
          fL_law_l18 xs L n x1 x2 (x3 + 6) h325
        ) else (
          some (21, h325)
        )
      ) else (
      if (v1 &&& 31) = 22 then (
        (scA xs L (x3 + 1)).bind fun v327 =>
        (scA xs L (x3 + 2)).bind fun v329 =>
        (ckT h x1 12).bind fun _ =>
        bd2 (fX13_get x1 v327 v329 h) fun v332 h333 =>
        (scA xs L (x3 + 1)).bind fun v335 =>
        (scA xs L (x3 + 2)).bind fun v337 =>
        (ckT h333 x2 13).bind fun _ =>
        bd2 (fX14_get x2 v335 v337 h333) fun v340 h341 =>
        if (lg_cmp v332 v340) = 0 then (
          fL_law_l18 xs L n x1 x2 (x3 + 6) h341
        ) else (
          some (22, h341)
        )
      ) else (
      if (v1 &&& 31) = 23 then (
        (scA xs L (x3 + 1)).bind fun v343 =>
        (scA xs L (x3 + 2)).bind fun v345 =>
        (scA xs L (x3 + 3)).bind fun v347 =>
        (scA xs L (x3 + 4)).bind fun v349 =>
        (scA xs L (x3 + 5)).bind fun v351 =>
        (ckT h x1 12).bind fun _ =>
        bd2 (fX13_move x1 v343 v345 v347 v349 v351 h) fun v354 h355 =>
        (scA xs L (x3 + 1)).bind fun v357 =>
        (scA xs L (x3 + 2)).bind fun v359 =>
        (scA xs L (x3 + 3)).bind fun v361 =>
        (scA xs L (x3 + 4)).bind fun v363 =>
        (scA xs L (x3 + 5)).bind fun v365 =>
        (ckT h355 x2 13).bind fun _ =>
        bd2 (fX14_move x2 v357 v359 v361 v363 v365 h355) fun v368 h369 =>
        if v354 = v368 then (
          fL_law_l18 xs L n x1 x2 (x3 + 6) h369
        ) else (
          some (23, h369)
        )
      ) else (
      if (v1 &&& 31) = 24 then (
        (scA xs L (x3 + 1)).bind fun v371 =>
        (scA xs L (x3 + 2)).bind fun v373 =>
        (ckT h x1 12).bind fun _ =>
        bd2 (fX13_twin x1 v371 v373 h) fun v376 h377 =>
        (scA xs L (x3 + 1)).bind fun v379 =>
        (scA xs L (x3 + 2)).bind fun v381 =>
        (ckT h377 x2 13).bind fun _ =>
        bd2 (fX14_twin x2 v379 v381 h377) fun v384 h385 =>
        if v376 = v384 then (
          fL_law_l18 xs L n x1 x2 (x3 + 6) h385
        ) else (
          some (24, h385)
        )
      ) else (
      if (v1 &&& 31) = 25 then (
        (scA xs L (x3 + 1)).bind fun v387 =>
        (scA xs L (x3 + 2)).bind fun v389 =>
        (ckT h x1 12).bind fun _ =>
        bd2 (fX13_lay x1 v387 v389 h) fun v392 h393 =>
        (scA xs L (x3 + 1)).bind fun v395 =>
        (scA xs L (x3 + 2)).bind fun v397 =>
        (ckT h393 x2 13).bind fun _ =>
        bd2 (fX14_lay x2 v395 v397 h393) fun v400 h401 =>
        if v392 = v400 then (
          fL_law_l18 xs L n x1 x2 (x3 + 6) h401
        ) else (
          some (25, h401)
        )
      ) else (
      if (v1 &&& 31) = 26 then (
        (scA xs L (x3 + 1)).bind fun v403 =>
        (scA xs L (x3 + 2)).bind fun v405 =>
        (ckT h x1 12).bind fun _ =>
        bd2 (fX13_judge x1 v403 v405 h) fun v408 h409 =>
        (scA xs L (x3 + 1)).bind fun v411 =>
        (scA xs L (x3 + 2)).bind fun v413 =>
        (ckT h409 x2 13).bind fun _ =>
        bd2 (fX14_judge x2 v411 v413 h409) fun v416 h417 =>
        if v408 = v416 then (
          fL_law_l18 xs L n x1 x2 (x3 + 6) h417
        ) else (
          some (26, h417)
        )
      ) else (
      if (v1 &&& 31) = 27 then (
        (ckT h x1 12).bind fun _ =>
        bd2 (fX13_image x1 h) fun v420 h421 =>
        (ckT h421 x2 13).bind fun _ =>
        bd2 (fX14_image x2 h421) fun v424 h425 =>
        if v420 = v424 then (
          fL_law_l18 xs L n x1 x2 (x3 + 6) h425
        ) else (
          some (27, h425)
        )
      ) else (
      if (v1 &&& 31) = 28 then (
        (ckT h x1 12).bind fun _ =>
        bd2 (fX13_undo x1 h) fun v428 h429 =>
        (ckT h429 x2 13).bind fun _ =>
        bd2 (fX14_undo x2 h429) fun v432 h433 =>
        if v428 = v432 then (
          fL_law_l18 xs L n x1 x2 (x3 + 6) h433
        ) else (
          some (28, h433)
        )
      ) else (
        fL_law_l18 xs L n x1 x2 (x3 + 6) h
      )))))))))))))))))))))))))))))
    )
def yLn (nm : String) : MethodName := ⟨RL, nm, "([I)Z"⟩
def fL_law (xs : Nat → Int32) (L : Nat) (h : hp) : Option (Int32 × hp) :=
  bd2 (nwO h 12 10) fun v1 h2 =>
  (ckT h2 v1 12).bind fun _ =>
  (fX13_init v1 h2).bind fun h5 =>
  bd2 (nwO h5 13 63) fun v7 h8 =>
  (ckT h8 v7 13).bind fun _ =>
  (fX14_init v7 h8).bind fun h11 =>
  bd2 (fL_law_l18 xs L FU v1 v7 0 h11) fun t15 h14 =>
  if t15 = 0 then (
    some (0, h14)
  ) else
  if t15 = 1 then (
    some (0, h14)
  ) else
  if t15 = 2 then (
    some (0, h14)
  ) else
  if t15 = 3 then (
    some (0, h14)
  ) else
  if t15 = 4 then (
    some (0, h14)
  ) else
  if t15 = 5 then (
    some (0, h14)
  ) else
  if t15 = 6 then (
    some (0, h14)
  ) else
  if t15 = 7 then (
    some (0, h14)
  ) else
  if t15 = 8 then (
    some (0, h14)
  ) else
  if t15 = 9 then (
    some (0, h14)
  ) else
  if t15 = 10 then (
    some (0, h14)
  ) else
  if t15 = 11 then (
    some (0, h14)
  ) else
  if t15 = 12 then (
    some (0, h14)
  ) else
  if t15 = 13 then (
    some (0, h14)
  ) else
  if t15 = 14 then (
    some (0, h14)
  ) else
  if t15 = 15 then (
    some (0, h14)
  ) else
  if t15 = 16 then (
    some (0, h14)
  ) else
  if t15 = 17 then (
    some (0, h14)
  ) else
  if t15 = 18 then (
    some (0, h14)
  ) else
  if t15 = 19 then (
    some (0, h14)
  ) else
  if t15 = 20 then (
    some (0, h14)
  ) else
  if t15 = 21 then (
    some (0, h14)
  ) else
  if t15 = 22 then (
    some (0, h14)
  ) else
  if t15 = 23 then (
    some (0, h14)
  ) else
  if t15 = 24 then (
    some (0, h14)
  ) else
  if t15 = 25 then (
    some (0, h14)
  ) else
  if t15 = 26 then (
    some (0, h14)
  ) else
  if t15 = 27 then (
    some (0, h14)
  ) else
  if t15 = 28 then (
    some (0, h14)
  ) else
  if t15 = 29 then (
    some (1, h14)
  ) else none
set_option maxHeartbeats 4000000 in
set_option maxRecDepth 100000 in
theorem sL_law_l18 (E : gE) (D : Nat) (hD : 411 ≤ D) {nm : String} {rz : Option Value} {h0 hz : hp} : ∀ (n : Nat) (x1 : Nat) (x2 : Nat) (x3 : Int32) (h : hp) (tq : Nat) (hq : hp), fL_law_l18 E.2.2.2.2.2 E.2.2.2.2.1 n x1 x2 x3 h = some (tq, hq) → (tq = 0 → AW E (yLn nm) cL_law (Option.some Jvm.ClassFile.FieldType.boolean : Option Jvm.ClassFile.FieldType) 4 D rz h0 hz 185 [] [] hq) → (tq = 1 → AW E (yLn nm) cL_law (Option.some Jvm.ClassFile.FieldType.boolean : Option Jvm.ClassFile.FieldType) 4 D rz h0 hz 218 [] [] hq) → (tq = 2 → AW E (yLn nm) cL_law (Option.some Jvm.ClassFile.FieldType.boolean : Option Jvm.ClassFile.FieldType) 4 D rz h0 hz 261 [] [] hq) → (tq = 3 → AW E (yLn nm) cL_law (Option.some Jvm.ClassFile.FieldType.boolean : Option Jvm.ClassFile.FieldType) 4 D rz h0 hz 284 [] [] hq) → (tq = 4 → AW E (yLn nm) cL_law (Option.some Jvm.ClassFile.FieldType.boolean : Option Jvm.ClassFile.FieldType) 4 D rz h0 hz 317 [] [] hq) → (tq = 5 → AW E (yLn nm) cL_law (Option.some Jvm.ClassFile.FieldType.boolean : Option Jvm.ClassFile.FieldType) 4 D rz h0 hz 360 [] [] hq) → (tq = 6 → AW E (yLn nm) cL_law (Option.some Jvm.ClassFile.FieldType.boolean : Option Jvm.ClassFile.FieldType) 4 D rz h0 hz 393 [] [] hq) → (tq = 7 → AW E (yLn nm) cL_law (Option.some Jvm.ClassFile.FieldType.boolean : Option Jvm.ClassFile.FieldType) 4 D rz h0 hz 426 [] [] hq) → (tq = 8 → AW E (yLn nm) cL_law (Option.some Jvm.ClassFile.FieldType.boolean : Option Jvm.ClassFile.FieldType) 4 D rz h0 hz 449 [] [] hq) → (tq = 9 → AW E (yLn nm) cL_law (Option.some Jvm.ClassFile.FieldType.boolean : Option Jvm.ClassFile.FieldType) 4 D rz h0 hz 462 [] [] hq) → (tq = 10 → AW E (yLn nm) cL_law (Option.some Jvm.ClassFile.FieldType.boolean : Option Jvm.ClassFile.FieldType) 4 D rz h0 hz 485 [] [] hq) → (tq = 11 → AW E (yLn nm) cL_law (Option.some Jvm.ClassFile.FieldType.boolean : Option Jvm.ClassFile.FieldType) 4 D rz h0 hz 508 [] [] hq) → (tq = 12 → AW E (yLn nm) cL_law (Option.some Jvm.ClassFile.FieldType.boolean : Option Jvm.ClassFile.FieldType) 4 D rz h0 hz 541 [] [] hq) → (tq = 13 → AW E (yLn nm) cL_law (Option.some Jvm.ClassFile.FieldType.boolean : Option Jvm.ClassFile.FieldType) 4 D rz h0 hz 574 [] [] hq) → (tq = 14 → AW E (yLn nm) cL_law (Option.some Jvm.ClassFile.FieldType.boolean : Option Jvm.ClassFile.FieldType) 4 D rz h0 hz 597 [] [] hq) → (tq = 15 → AW E (yLn nm) cL_law (Option.some Jvm.ClassFile.FieldType.boolean : Option Jvm.ClassFile.FieldType) 4 D rz h0 hz 620 [] [] hq) → (tq = 16 → AW E (yLn nm) cL_law (Option.some Jvm.ClassFile.FieldType.boolean : Option Jvm.ClassFile.FieldType) 4 D rz h0 hz 643 [] [] hq) → (tq = 17 → AW E (yLn nm) cL_law (Option.some Jvm.ClassFile.FieldType.boolean : Option Jvm.ClassFile.FieldType) 4 D rz h0 hz 676 [] [] hq) → (tq = 18 → AW E (yLn nm) cL_law (Option.some Jvm.ClassFile.FieldType.boolean : Option Jvm.ClassFile.FieldType) 4 D rz h0 hz 699 [] [] hq) → (tq = 19 → AW E (yLn nm) cL_law (Option.some Jvm.ClassFile.FieldType.boolean : Option Jvm.ClassFile.FieldType) 4 D rz h0 hz 722 [] [] hq) → (tq = 20 → AW E (yLn nm) cL_law (Option.some Jvm.ClassFile.FieldType.boolean : Option Jvm.ClassFile.FieldType) 4 D rz h0 hz 765 [] [] hq) → (tq = 21 → AW E (yLn nm) cL_law (Option.some Jvm.ClassFile.FieldType.boolean : Option Jvm.ClassFile.FieldType) 4 D rz h0 hz 838 [] [] hq) → (tq = 22 → AW E (yLn nm) cL_law (Option.some Jvm.ClassFile.FieldType.boolean : Option Jvm.ClassFile.FieldType) 4 D rz h0 hz 872 [] [] hq) → (tq = 23 → AW E (yLn nm) cL_law (Option.some Jvm.ClassFile.FieldType.boolean : Option Jvm.ClassFile.FieldType) 4 D rz h0 hz 935 [] [] hq) → (tq = 24 → AW E (yLn nm) cL_law (Option.some Jvm.ClassFile.FieldType.boolean : Option Jvm.ClassFile.FieldType) 4 D rz h0 hz 968 [] [] hq) → (tq = 25 → AW E (yLn nm) cL_law (Option.some Jvm.ClassFile.FieldType.boolean : Option Jvm.ClassFile.FieldType) 4 D rz h0 hz 1001 [] [] hq) → (tq = 26 → AW E (yLn nm) cL_law (Option.some Jvm.ClassFile.FieldType.boolean : Option Jvm.ClassFile.FieldType) 4 D rz h0 hz 1034 [] [] hq) → (tq = 27 → AW E (yLn nm) cL_law (Option.some Jvm.ClassFile.FieldType.boolean : Option Jvm.ClassFile.FieldType) 4 D rz h0 hz 1047 [] [] hq) → (tq = 28 → AW E (yLn nm) cL_law (Option.some Jvm.ClassFile.FieldType.boolean : Option Jvm.ClassFile.FieldType) 4 D rz h0 hz 1060 [] [] hq) → (tq = 29 → AW E (yLn nm) cL_law (Option.some Jvm.ClassFile.FieldType.boolean : Option Jvm.ClassFile.FieldType) 4 D rz h0 hz 1068 [] [] hq) → AW E (yLn nm) cL_law (Option.some Jvm.ClassFile.FieldType.boolean : Option Jvm.ClassFile.FieldType) 4 D rz h0 hz 18 [(0, .ref 63), (1, .ref x1), (2, .ref x2), (3, .int x3)] [] h := by
  intro n
  induction n with
  | zero =>
    intro x1 x2 x3 h tq hq hf _ _ _ _ _ _ _ _ _ _ _ _ _ _ _ _ _ _ _ _ _ _ _ _ _ _ _ _ _ _
    rw [fL_law_l18] at hf
    cases hf
  | succ n ih =>
    intro x1 x2 x3 h tq hq hf hk0 hk1 hk2 hk3 hk4 hk5 hk6 hk7 hk8 hk9 hk10 hk11 hk12 hk13 hk14 hk15 hk16 hk17 hk18 hk19 hk20 hk21 hk22 hk23 hk24 hk25 hk26 hk27 hk28 hk29
    rw [fL_law_l18] at hf
    refine a_iload_n (q := 3) dL_law_18 rfl rfl ?_
    refine a_aload_n (q := 0) dL_law_19 rfl rfl ?_
    refine o_scL dL_law_20 rfl ?_
    refine a_bipush (v := 6) dL_law_21 (by decide) ?_
    refine a_isub dL_law_23 ?_
    refine a_icmp_gt (tgt := 1068) dL_law_24 (by decide) (fun c => ?_) (fun c => ?_)
    · have hf := ifp c hf
      obtain ⟨rfl, rfl⟩ := oc2 hf
      exact AW.sub [] rfl (hk29 rfl)
    · have hf := ifn c hf
      refine a_aload_n (q := 0) dL_law_27 rfl rfl ?_
      refine a_iload_n (q := 3) dL_law_28 rfl rfl ?_
      obtain ⟨v1, e2, hf⟩ := obd hf
      refine o_scA dL_law_29 e2 ?_
      refine a_bipush (v := 31) dL_law_30 (by decide) ?_
      refine a_iand dL_law_32 ?_
      by_cases c33_0 : (v1 &&& 31) = 0
      · have hf := ifp c33_0 hf
        refine a_tblIn (k := 0) (off := 131) (tgt := 164) dL_law_33 c33_0 (by decide) (by decide) rfl (by decide) ?_
        refine a_aload_n (q := 1) dL_law_164 rfl rfl ?_
        refine a_aload_n (q := 0) dL_law_165 rfl rfl ?_
        refine a_iload_n (q := 3) dL_law_166 rfl rfl ?_
        refine a_iconst (v := 1) dL_law_167 (by decide) ?_
        refine a_iadd dL_law_168 ?_
        obtain ⟨v3, e4, hf⟩ := obd hf
        refine o_scA dL_law_169 e4 ?_
        obtain ⟨_, e8, hf⟩ := obd hf
        obtain ⟨v6, h7, e5, hf⟩ := ob2 hf
        refine a_callV (as := [.int v3]) (np := 1) (ci := 12) (st := []) (sX13_none E (D - 1) (by omega) e5) dL_law_170 rfl (by omega) (by decide) cw_L_13 ⟨wd_260, wd_261⟩ rfl (ckT_s e8) rfl (Nat.le_of_ble_eq_true rfl) ?_
        refine a_aload_n (q := 2) dL_law_173 rfl rfl ?_
        refine a_aload_n (q := 0) dL_law_174 rfl rfl ?_
        refine a_iload_n (q := 3) dL_law_175 rfl rfl ?_
        refine a_iconst (v := 1) dL_law_176 (by decide) ?_
        refine a_iadd dL_law_177 ?_
        obtain ⟨v9, e10, hf⟩ := obd hf
        refine o_scA dL_law_178 e10 ?_
        obtain ⟨_, e14, hf⟩ := obd hf
        obtain ⟨v12, h13, e11, hf⟩ := ob2 hf
        refine a_callV (as := [.int v9]) (np := 1) (ci := 13) (st := [.int v6]) (sX14_none E (D - 1) (by omega) e11) dL_law_179 rfl (by omega) (by decide) cw_L_17 ⟨wd_1733, wd_1734⟩ rfl (ckT_s e14) rfl (Nat.le_of_ble_eq_true rfl) ?_
        refine a_icmp_eq (tgt := 1062) dL_law_182 (by decide) (fun c => ?_) (fun c => ?_)
        · have hf := ifp c hf
          refine a_iinc (q := 3) (v := (x3 + 6)) (lv1 := [(3, .int (x3 + 6)), (0, .ref 63), (1, .ref x1), (2, .ref x2)]) dL_law_1062 rfl (by rfl) (by decide) rfl ?_
          refine a_goto (tgt := 18) dL_law_1065 (by decide) ?_
          exact AW.sub [1, 2, 3, 0] rfl (ih _ _ _ _ _ _ hf hk0 hk1 hk2 hk3 hk4 hk5 hk6 hk7 hk8 hk9 hk10 hk11 hk12 hk13 hk14 hk15 hk16 hk17 hk18 hk19 hk20 hk21 hk22 hk23 hk24 hk25 hk26 hk27 hk28 hk29)
        · have hf := ifn c hf
          obtain ⟨rfl, rfl⟩ := oc2 hf
          exact AW.sub [] rfl (hk0 rfl)
      have hf := ifn c33_0 hf
      by_cases c33_1 : (v1 &&& 31) = 1
      · have hf := ifp c33_1 hf
        refine a_tblIn (k := 1) (off := 154) (tgt := 187) dL_law_33 c33_1 (by decide) (by decide) rfl (by decide) ?_
        refine a_aload_n (q := 1) dL_law_187 rfl rfl ?_
        refine a_aload_n (q := 0) dL_law_188 rfl rfl ?_
        refine a_iload_n (q := 3) dL_law_189 rfl rfl ?_
        refine a_iconst (v := 1) dL_law_190 (by decide) ?_
        refine a_iadd dL_law_191 ?_
        obtain ⟨v15, e16, hf⟩ := obd hf
        refine o_scA dL_law_192 e16 ?_
        refine a_aload_n (q := 0) dL_law_193 rfl rfl ?_
        refine a_iload_n (q := 3) dL_law_194 rfl rfl ?_
        refine a_iconst (v := 2) dL_law_195 (by decide) ?_
        refine a_iadd dL_law_196 ?_
        obtain ⟨v17, e18, hf⟩ := obd hf
        refine o_scA dL_law_197 e18 ?_
        obtain ⟨_, e22, hf⟩ := obd hf
        obtain ⟨v20, h21, e19, hf⟩ := ob2 hf
        refine a_callV (as := [.int v15, .int v17]) (np := 2) (ci := 12) (st := []) (sX13_number E (D - 1) (by omega) e19) dL_law_198 rfl (by omega) (by decide) cw_L_18 ⟨wd_275, wd_276⟩ rfl (ckT_s e22) rfl (Nat.le_of_ble_eq_true rfl) ?_
        refine a_aload_n (q := 2) dL_law_201 rfl rfl ?_
        refine a_aload_n (q := 0) dL_law_202 rfl rfl ?_
        refine a_iload_n (q := 3) dL_law_203 rfl rfl ?_
        refine a_iconst (v := 1) dL_law_204 (by decide) ?_
        refine a_iadd dL_law_205 ?_
        obtain ⟨v23, e24, hf⟩ := obd hf
        refine o_scA dL_law_206 e24 ?_
        refine a_aload_n (q := 0) dL_law_207 rfl rfl ?_
        refine a_iload_n (q := 3) dL_law_208 rfl rfl ?_
        refine a_iconst (v := 2) dL_law_209 (by decide) ?_
        refine a_iadd dL_law_210 ?_
        obtain ⟨v25, e26, hf⟩ := obd hf
        refine o_scA dL_law_211 e26 ?_
        obtain ⟨_, e30, hf⟩ := obd hf
        obtain ⟨v28, h29, e27, hf⟩ := ob2 hf
        refine a_callV (as := [.int v23, .int v25]) (np := 2) (ci := 13) (st := [.int v20]) (sX14_number E (D - 1) (by omega) e27) dL_law_212 rfl (by omega) (by decide) cw_L_22 ⟨wd_1741, wd_1742⟩ rfl (ckT_s e30) rfl (Nat.le_of_ble_eq_true rfl) ?_
        refine a_icmp_eq (tgt := 1062) dL_law_215 (by decide) (fun c => ?_) (fun c => ?_)
        · have hf := ifp c hf
          refine a_iinc (q := 3) (v := (x3 + 6)) (lv1 := [(3, .int (x3 + 6)), (0, .ref 63), (1, .ref x1), (2, .ref x2)]) dL_law_1062 rfl (by rfl) (by decide) rfl ?_
          refine a_goto (tgt := 18) dL_law_1065 (by decide) ?_
          exact AW.sub [1, 2, 3, 0] rfl (ih _ _ _ _ _ _ hf hk0 hk1 hk2 hk3 hk4 hk5 hk6 hk7 hk8 hk9 hk10 hk11 hk12 hk13 hk14 hk15 hk16 hk17 hk18 hk19 hk20 hk21 hk22 hk23 hk24 hk25 hk26 hk27 hk28 hk29)
        · have hf := ifn c hf
          obtain ⟨rfl, rfl⟩ := oc2 hf
          exact AW.sub [] rfl (hk1 rfl)
      have hf := ifn c33_1 hf
      by_cases c33_2 : (v1 &&& 31) = 2
      · have hf := ifp c33_2 hf
        refine a_tblIn (k := 2) (off := 187) (tgt := 220) dL_law_33 c33_2 (by decide) (by decide) rfl (by decide) ?_
        refine a_aload_n (q := 1) dL_law_220 rfl rfl ?_
        refine a_aload_n (q := 0) dL_law_221 rfl rfl ?_
        refine a_iload_n (q := 3) dL_law_222 rfl rfl ?_
        refine a_iconst (v := 1) dL_law_223 (by decide) ?_
        refine a_iadd dL_law_224 ?_
        obtain ⟨v31, e32, hf⟩ := obd hf
        refine o_scA dL_law_225 e32 ?_
        refine a_aload_n (q := 0) dL_law_226 rfl rfl ?_
        refine a_iload_n (q := 3) dL_law_227 rfl rfl ?_
        refine a_iconst (v := 2) dL_law_228 (by decide) ?_
        refine a_iadd dL_law_229 ?_
        obtain ⟨v33, e34, hf⟩ := obd hf
        refine o_scA dL_law_230 e34 ?_
        refine a_aload_n (q := 0) dL_law_231 rfl rfl ?_
        refine a_iload_n (q := 3) dL_law_232 rfl rfl ?_
        refine a_iconst (v := 3) dL_law_233 (by decide) ?_
        refine a_iadd dL_law_234 ?_
        obtain ⟨v35, e36, hf⟩ := obd hf
        refine o_scA dL_law_235 e36 ?_
        obtain ⟨_, e40, hf⟩ := obd hf
        obtain ⟨v38, h39, e37, hf⟩ := ob2 hf
        refine a_callV (as := [.int v31, .int v33, .int v35]) (np := 3) (ci := 12) (st := []) (sX13_real E (D - 1) (by omega) e37) dL_law_236 rfl (by omega) (by decide) cw_L_23 ⟨wd_288, wd_289⟩ rfl (ckT_s e40) rfl (Nat.le_of_ble_eq_true rfl) ?_
        refine a_aload_n (q := 2) dL_law_239 rfl rfl ?_
        refine a_aload_n (q := 0) dL_law_240 rfl rfl ?_
        refine a_iload_n (q := 3) dL_law_241 rfl rfl ?_
        refine a_iconst (v := 1) dL_law_242 (by decide) ?_
        refine a_iadd dL_law_243 ?_
        obtain ⟨v41, e42, hf⟩ := obd hf
        refine o_scA dL_law_244 e42 ?_
        refine a_aload_n (q := 0) dL_law_245 rfl rfl ?_
        refine a_iload_n (q := 3) dL_law_246 rfl rfl ?_
        refine a_iconst (v := 2) dL_law_247 (by decide) ?_
        refine a_iadd dL_law_248 ?_
        obtain ⟨v43, e44, hf⟩ := obd hf
        refine o_scA dL_law_249 e44 ?_
        refine a_aload_n (q := 0) dL_law_250 rfl rfl ?_
        refine a_iload_n (q := 3) dL_law_251 rfl rfl ?_
        refine a_iconst (v := 3) dL_law_252 (by decide) ?_
        refine a_iadd dL_law_253 ?_
        obtain ⟨v45, e46, hf⟩ := obd hf
        refine o_scA dL_law_254 e46 ?_
        obtain ⟨_, e50, hf⟩ := obd hf
        obtain ⟨v48, h49, e47, hf⟩ := ob2 hf
        refine a_callV (as := [.int v41, .int v43, .int v45]) (np := 3) (ci := 13) (st := [.int v38]) (sX14_real E (D - 1) (by omega) e47) dL_law_255 rfl (by omega) (by decide) cw_L_27 ⟨wd_1745, wd_1746⟩ rfl (ckT_s e50) rfl (Nat.le_of_ble_eq_true rfl) ?_
        refine a_icmp_eq (tgt := 1062) dL_law_258 (by decide) (fun c => ?_) (fun c => ?_)
        · have hf := ifp c hf
          refine a_iinc (q := 3) (v := (x3 + 6)) (lv1 := [(3, .int (x3 + 6)), (0, .ref 63), (1, .ref x1), (2, .ref x2)]) dL_law_1062 rfl (by rfl) (by decide) rfl ?_
          refine a_goto (tgt := 18) dL_law_1065 (by decide) ?_
          exact AW.sub [1, 2, 3, 0] rfl (ih _ _ _ _ _ _ hf hk0 hk1 hk2 hk3 hk4 hk5 hk6 hk7 hk8 hk9 hk10 hk11 hk12 hk13 hk14 hk15 hk16 hk17 hk18 hk19 hk20 hk21 hk22 hk23 hk24 hk25 hk26 hk27 hk28 hk29)
        · have hf := ifn c hf
          obtain ⟨rfl, rfl⟩ := oc2 hf
          exact AW.sub [] rfl (hk2 rfl)
      have hf := ifn c33_2 hf
      by_cases c33_3 : (v1 &&& 31) = 3
      · have hf := ifp c33_3 hf
        refine a_tblIn (k := 3) (off := 230) (tgt := 263) dL_law_33 c33_3 (by decide) (by decide) rfl (by decide) ?_
        refine a_aload_n (q := 1) dL_law_263 rfl rfl ?_
        refine a_aload_n (q := 0) dL_law_264 rfl rfl ?_
        refine a_iload_n (q := 3) dL_law_265 rfl rfl ?_
        refine a_iconst (v := 1) dL_law_266 (by decide) ?_
        refine a_iadd dL_law_267 ?_
        obtain ⟨v51, e52, hf⟩ := obd hf
        refine o_scA dL_law_268 e52 ?_
        obtain ⟨_, e56, hf⟩ := obd hf
        obtain ⟨v54, h55, e53, hf⟩ := ob2 hf
        refine a_callV (as := [.int v51]) (np := 1) (ci := 12) (st := []) (sX13_text E (D - 1) (by omega) e53) dL_law_269 rfl (by omega) (by decide) cw_L_28 ⟨wd_298, wd_299⟩ rfl (ckT_s e56) rfl (Nat.le_of_ble_eq_true rfl) ?_
        refine a_aload_n (q := 2) dL_law_272 rfl rfl ?_
        refine a_aload_n (q := 0) dL_law_273 rfl rfl ?_
        refine a_iload_n (q := 3) dL_law_274 rfl rfl ?_
        refine a_iconst (v := 1) dL_law_275 (by decide) ?_
        refine a_iadd dL_law_276 ?_
        obtain ⟨v57, e58, hf⟩ := obd hf
        refine o_scA dL_law_277 e58 ?_
        obtain ⟨_, e62, hf⟩ := obd hf
        obtain ⟨v60, h61, e59, hf⟩ := ob2 hf
        refine a_callV (as := [.int v57]) (np := 1) (ci := 13) (st := [.int v54]) (sX14_text E (D - 1) (by omega) e59) dL_law_278 rfl (by omega) (by decide) cw_L_31 ⟨wd_1749, wd_1750⟩ rfl (ckT_s e62) rfl (Nat.le_of_ble_eq_true rfl) ?_
        refine a_icmp_eq (tgt := 1062) dL_law_281 (by decide) (fun c => ?_) (fun c => ?_)
        · have hf := ifp c hf
          refine a_iinc (q := 3) (v := (x3 + 6)) (lv1 := [(3, .int (x3 + 6)), (0, .ref 63), (1, .ref x1), (2, .ref x2)]) dL_law_1062 rfl (by rfl) (by decide) rfl ?_
          refine a_goto (tgt := 18) dL_law_1065 (by decide) ?_
          exact AW.sub [1, 2, 3, 0] rfl (ih _ _ _ _ _ _ hf hk0 hk1 hk2 hk3 hk4 hk5 hk6 hk7 hk8 hk9 hk10 hk11 hk12 hk13 hk14 hk15 hk16 hk17 hk18 hk19 hk20 hk21 hk22 hk23 hk24 hk25 hk26 hk27 hk28 hk29)
        · have hf := ifn c hf
          obtain ⟨rfl, rfl⟩ := oc2 hf
          exact AW.sub [] rfl (hk3 rfl)
      have hf := ifn c33_3 hf
      by_cases c33_4 : (v1 &&& 31) = 4
      · have hf := ifp c33_4 hf
        refine a_tblIn (k := 4) (off := 253) (tgt := 286) dL_law_33 c33_4 (by decide) (by decide) rfl (by decide) ?_
        refine a_aload_n (q := 1) dL_law_286 rfl rfl ?_
        refine a_aload_n (q := 0) dL_law_287 rfl rfl ?_
        refine a_iload_n (q := 3) dL_law_288 rfl rfl ?_
        refine a_iconst (v := 1) dL_law_289 (by decide) ?_
        refine a_iadd dL_law_290 ?_
        obtain ⟨v63, e64, hf⟩ := obd hf
        refine o_scA dL_law_291 e64 ?_
        refine a_aload_n (q := 0) dL_law_292 rfl rfl ?_
        refine a_iload_n (q := 3) dL_law_293 rfl rfl ?_
        refine a_iconst (v := 2) dL_law_294 (by decide) ?_
        refine a_iadd dL_law_295 ?_
        obtain ⟨v65, e66, hf⟩ := obd hf
        refine o_scA dL_law_296 e66 ?_
        obtain ⟨_, e70, hf⟩ := obd hf
        obtain ⟨v68, h69, e67, hf⟩ := ob2 hf
        refine a_callV (as := [.int v63, .int v65]) (np := 2) (ci := 12) (st := []) (sX13_list E (D - 1) (by omega) e67) dL_law_297 rfl (by omega) (by decide) cw_L_32 ⟨wd_325, wd_326⟩ rfl (ckT_s e70) rfl (Nat.le_of_ble_eq_true rfl) ?_
        refine a_aload_n (q := 2) dL_law_300 rfl rfl ?_
        refine a_aload_n (q := 0) dL_law_301 rfl rfl ?_
        refine a_iload_n (q := 3) dL_law_302 rfl rfl ?_
        refine a_iconst (v := 1) dL_law_303 (by decide) ?_
        refine a_iadd dL_law_304 ?_
        obtain ⟨v71, e72, hf⟩ := obd hf
        refine o_scA dL_law_305 e72 ?_
        refine a_aload_n (q := 0) dL_law_306 rfl rfl ?_
        refine a_iload_n (q := 3) dL_law_307 rfl rfl ?_
        refine a_iconst (v := 2) dL_law_308 (by decide) ?_
        refine a_iadd dL_law_309 ?_
        obtain ⟨v73, e74, hf⟩ := obd hf
        refine o_scA dL_law_310 e74 ?_
        obtain ⟨_, e78, hf⟩ := obd hf
        obtain ⟨v76, h77, e75, hf⟩ := ob2 hf
        refine a_callV (as := [.int v71, .int v73]) (np := 2) (ci := 13) (st := [.int v68]) (sX14_list E (D - 1) (by omega) e75) dL_law_311 rfl (by omega) (by decide) cw_L_35 ⟨wd_1753, wd_1754⟩ rfl (ckT_s e78) rfl (Nat.le_of_ble_eq_true rfl) ?_
        refine a_icmp_eq (tgt := 1062) dL_law_314 (by decide) (fun c => ?_) (fun c => ?_)
        · have hf := ifp c hf
          refine a_iinc (q := 3) (v := (x3 + 6)) (lv1 := [(3, .int (x3 + 6)), (0, .ref 63), (1, .ref x1), (2, .ref x2)]) dL_law_1062 rfl (by rfl) (by decide) rfl ?_
          refine a_goto (tgt := 18) dL_law_1065 (by decide) ?_
          exact AW.sub [1, 2, 3, 0] rfl (ih _ _ _ _ _ _ hf hk0 hk1 hk2 hk3 hk4 hk5 hk6 hk7 hk8 hk9 hk10 hk11 hk12 hk13 hk14 hk15 hk16 hk17 hk18 hk19 hk20 hk21 hk22 hk23 hk24 hk25 hk26 hk27 hk28 hk29)
        · have hf := ifn c hf
          obtain ⟨rfl, rfl⟩ := oc2 hf
          exact AW.sub [] rfl (hk4 rfl)
      have hf := ifn c33_4 hf
      by_cases c33_5 : (v1 &&& 31) = 5
      · have hf := ifp c33_5 hf
        refine a_tblIn (k := 5) (off := 286) (tgt := 319) dL_law_33 c33_5 (by decide) (by decide) rfl (by decide) ?_
        refine a_aload_n (q := 1) dL_law_319 rfl rfl ?_
        refine a_aload_n (q := 0) dL_law_320 rfl rfl ?_
        refine a_iload_n (q := 3) dL_law_321 rfl rfl ?_
        refine a_iconst (v := 1) dL_law_322 (by decide) ?_
        refine a_iadd dL_law_323 ?_
        obtain ⟨v79, e80, hf⟩ := obd hf
        refine o_scA dL_law_324 e80 ?_
        refine a_aload_n (q := 0) dL_law_325 rfl rfl ?_
        refine a_iload_n (q := 3) dL_law_326 rfl rfl ?_
        refine a_iconst (v := 2) dL_law_327 (by decide) ?_
        refine a_iadd dL_law_328 ?_
        obtain ⟨v81, e82, hf⟩ := obd hf
        refine o_scA dL_law_329 e82 ?_
        refine a_aload_n (q := 0) dL_law_330 rfl rfl ?_
        refine a_iload_n (q := 3) dL_law_331 rfl rfl ?_
        refine a_iconst (v := 3) dL_law_332 (by decide) ?_
        refine a_iadd dL_law_333 ?_
        obtain ⟨v83, e84, hf⟩ := obd hf
        refine o_scA dL_law_334 e84 ?_
        obtain ⟨_, e88, hf⟩ := obd hf
        obtain ⟨v86, h87, e85, hf⟩ := ob2 hf
        refine a_callV (as := [.int v79, .int v81, .int v83]) (np := 3) (ci := 12) (st := []) (sX13_item E (D - 1) (by omega) e85) dL_law_335 rfl (by omega) (by decide) cw_L_36 ⟨wd_333, wd_334⟩ rfl (ckT_s e88) rfl (Nat.le_of_ble_eq_true rfl) ?_
        refine a_aload_n (q := 2) dL_law_338 rfl rfl ?_
        refine a_aload_n (q := 0) dL_law_339 rfl rfl ?_
        refine a_iload_n (q := 3) dL_law_340 rfl rfl ?_
        refine a_iconst (v := 1) dL_law_341 (by decide) ?_
        refine a_iadd dL_law_342 ?_
        obtain ⟨v89, e90, hf⟩ := obd hf
        refine o_scA dL_law_343 e90 ?_
        refine a_aload_n (q := 0) dL_law_344 rfl rfl ?_
        refine a_iload_n (q := 3) dL_law_345 rfl rfl ?_
        refine a_iconst (v := 2) dL_law_346 (by decide) ?_
        refine a_iadd dL_law_347 ?_
        obtain ⟨v91, e92, hf⟩ := obd hf
        refine o_scA dL_law_348 e92 ?_
        refine a_aload_n (q := 0) dL_law_349 rfl rfl ?_
        refine a_iload_n (q := 3) dL_law_350 rfl rfl ?_
        refine a_iconst (v := 3) dL_law_351 (by decide) ?_
        refine a_iadd dL_law_352 ?_
        obtain ⟨v93, e94, hf⟩ := obd hf
        refine o_scA dL_law_353 e94 ?_
        obtain ⟨_, e98, hf⟩ := obd hf
        obtain ⟨v96, h97, e95, hf⟩ := ob2 hf
        refine a_callV (as := [.int v89, .int v91, .int v93]) (np := 3) (ci := 13) (st := [.int v86]) (sX14_item E (D - 1) (by omega) e95) dL_law_354 rfl (by omega) (by decide) cw_L_39 ⟨wd_1757, wd_1758⟩ rfl (ckT_s e98) rfl (Nat.le_of_ble_eq_true rfl) ?_
        refine a_icmp_eq (tgt := 1062) dL_law_357 (by decide) (fun c => ?_) (fun c => ?_)
        · have hf := ifp c hf
          refine a_iinc (q := 3) (v := (x3 + 6)) (lv1 := [(3, .int (x3 + 6)), (0, .ref 63), (1, .ref x1), (2, .ref x2)]) dL_law_1062 rfl (by rfl) (by decide) rfl ?_
          refine a_goto (tgt := 18) dL_law_1065 (by decide) ?_
          exact AW.sub [1, 2, 3, 0] rfl (ih _ _ _ _ _ _ hf hk0 hk1 hk2 hk3 hk4 hk5 hk6 hk7 hk8 hk9 hk10 hk11 hk12 hk13 hk14 hk15 hk16 hk17 hk18 hk19 hk20 hk21 hk22 hk23 hk24 hk25 hk26 hk27 hk28 hk29)
        · have hf := ifn c hf
          obtain ⟨rfl, rfl⟩ := oc2 hf
          exact AW.sub [] rfl (hk5 rfl)
      have hf := ifn c33_5 hf
      by_cases c33_6 : (v1 &&& 31) = 6
      · have hf := ifp c33_6 hf
        refine a_tblIn (k := 6) (off := 329) (tgt := 362) dL_law_33 c33_6 (by decide) (by decide) rfl (by decide) ?_
        refine a_aload_n (q := 1) dL_law_362 rfl rfl ?_
        refine a_aload_n (q := 0) dL_law_363 rfl rfl ?_
        refine a_iload_n (q := 3) dL_law_364 rfl rfl ?_
        refine a_iconst (v := 1) dL_law_365 (by decide) ?_
        refine a_iadd dL_law_366 ?_
        obtain ⟨v99, e100, hf⟩ := obd hf
        refine o_scA dL_law_367 e100 ?_
        refine a_aload_n (q := 0) dL_law_368 rfl rfl ?_
        refine a_iload_n (q := 3) dL_law_369 rfl rfl ?_
        refine a_iconst (v := 2) dL_law_370 (by decide) ?_
        refine a_iadd dL_law_371 ?_
        obtain ⟨v101, e102, hf⟩ := obd hf
        refine o_scA dL_law_372 e102 ?_
        obtain ⟨_, e106, hf⟩ := obd hf
        obtain ⟨v104, h105, e103, hf⟩ := ob2 hf
        refine a_callV (as := [.int v99, .int v101]) (np := 2) (ci := 12) (st := []) (sX13_of E (D - 1) (by omega) e103) dL_law_373 rfl (by omega) (by decide) cw_L_40 ⟨wd_343, wd_344⟩ rfl (ckT_s e106) rfl (Nat.le_of_ble_eq_true rfl) ?_
        refine a_aload_n (q := 2) dL_law_376 rfl rfl ?_
        refine a_aload_n (q := 0) dL_law_377 rfl rfl ?_
        refine a_iload_n (q := 3) dL_law_378 rfl rfl ?_
        refine a_iconst (v := 1) dL_law_379 (by decide) ?_
        refine a_iadd dL_law_380 ?_
        obtain ⟨v107, e108, hf⟩ := obd hf
        refine o_scA dL_law_381 e108 ?_
        refine a_aload_n (q := 0) dL_law_382 rfl rfl ?_
        refine a_iload_n (q := 3) dL_law_383 rfl rfl ?_
        refine a_iconst (v := 2) dL_law_384 (by decide) ?_
        refine a_iadd dL_law_385 ?_
        obtain ⟨v109, e110, hf⟩ := obd hf
        refine o_scA dL_law_386 e110 ?_
        obtain ⟨_, e114, hf⟩ := obd hf
        obtain ⟨v112, h113, e111, hf⟩ := ob2 hf
        refine a_callV (as := [.int v107, .int v109]) (np := 2) (ci := 13) (st := [.int v104]) (sX14_of E (D - 1) (by omega) e111) dL_law_387 rfl (by omega) (by decide) cw_L_43 ⟨wd_1761, wd_1762⟩ rfl (ckT_s e114) rfl (Nat.le_of_ble_eq_true rfl) ?_
        refine a_icmp_eq (tgt := 1062) dL_law_390 (by decide) (fun c => ?_) (fun c => ?_)
        · have hf := ifp c hf
          refine a_iinc (q := 3) (v := (x3 + 6)) (lv1 := [(3, .int (x3 + 6)), (0, .ref 63), (1, .ref x1), (2, .ref x2)]) dL_law_1062 rfl (by rfl) (by decide) rfl ?_
          refine a_goto (tgt := 18) dL_law_1065 (by decide) ?_
          exact AW.sub [1, 2, 3, 0] rfl (ih _ _ _ _ _ _ hf hk0 hk1 hk2 hk3 hk4 hk5 hk6 hk7 hk8 hk9 hk10 hk11 hk12 hk13 hk14 hk15 hk16 hk17 hk18 hk19 hk20 hk21 hk22 hk23 hk24 hk25 hk26 hk27 hk28 hk29)
        · have hf := ifn c hf
          obtain ⟨rfl, rfl⟩ := oc2 hf
          exact AW.sub [] rfl (hk6 rfl)
      have hf := ifn c33_6 hf
      by_cases c33_7 : (v1 &&& 31) = 7
      · have hf := ifp c33_7 hf
        refine a_tblIn (k := 7) (off := 362) (tgt := 395) dL_law_33 c33_7 (by decide) (by decide) rfl (by decide) ?_
        refine a_aload_n (q := 1) dL_law_395 rfl rfl ?_
        refine a_aload_n (q := 0) dL_law_396 rfl rfl ?_
        refine a_iload_n (q := 3) dL_law_397 rfl rfl ?_
        refine a_iconst (v := 1) dL_law_398 (by decide) ?_
        refine a_iadd dL_law_399 ?_
        obtain ⟨v115, e116, hf⟩ := obd hf
        refine o_scA dL_law_400 e116 ?_
        refine a_aload_n (q := 0) dL_law_401 rfl rfl ?_
        refine a_iload_n (q := 3) dL_law_402 rfl rfl ?_
        refine a_iconst (v := 2) dL_law_403 (by decide) ?_
        refine a_iadd dL_law_404 ?_
        obtain ⟨v117, e118, hf⟩ := obd hf
        refine o_scA dL_law_405 e118 ?_
        obtain ⟨_, e122, hf⟩ := obd hf
        obtain ⟨v120, h121, e119, hf⟩ := ob2 hf
        refine a_callV (as := [.int v115, .int v117]) (np := 2) (ci := 12) (st := []) (sX13_shown E (D - 1) (by omega) e119) dL_law_406 rfl (by omega) (by decide) cw_L_44 ⟨wd_387, wd_388⟩ rfl (ckT_s e122) rfl (Nat.le_of_ble_eq_true rfl) ?_
        refine a_aload_n (q := 2) dL_law_409 rfl rfl ?_
        refine a_aload_n (q := 0) dL_law_410 rfl rfl ?_
        refine a_iload_n (q := 3) dL_law_411 rfl rfl ?_
        refine a_iconst (v := 1) dL_law_412 (by decide) ?_
        refine a_iadd dL_law_413 ?_
        obtain ⟨v123, e124, hf⟩ := obd hf
        refine o_scA dL_law_414 e124 ?_
        refine a_aload_n (q := 0) dL_law_415 rfl rfl ?_
        refine a_iload_n (q := 3) dL_law_416 rfl rfl ?_
        refine a_iconst (v := 2) dL_law_417 (by decide) ?_
        refine a_iadd dL_law_418 ?_
        obtain ⟨v125, e126, hf⟩ := obd hf
        refine o_scA dL_law_419 e126 ?_
        obtain ⟨_, e130, hf⟩ := obd hf
        obtain ⟨v128, h129, e127, hf⟩ := ob2 hf
        refine a_callV (as := [.int v123, .int v125]) (np := 2) (ci := 13) (st := [.int v120]) (sX14_shown E (D - 1) (by omega) e127) dL_law_420 rfl (by omega) (by decide) cw_L_47 ⟨wd_1765, wd_1766⟩ rfl (ckT_s e130) rfl (Nat.le_of_ble_eq_true rfl) ?_
        refine a_icmp_eq (tgt := 1062) dL_law_423 (by decide) (fun c => ?_) (fun c => ?_)
        · have hf := ifp c hf
          refine a_iinc (q := 3) (v := (x3 + 6)) (lv1 := [(3, .int (x3 + 6)), (0, .ref 63), (1, .ref x1), (2, .ref x2)]) dL_law_1062 rfl (by rfl) (by decide) rfl ?_
          refine a_goto (tgt := 18) dL_law_1065 (by decide) ?_
          exact AW.sub [1, 2, 3, 0] rfl (ih _ _ _ _ _ _ hf hk0 hk1 hk2 hk3 hk4 hk5 hk6 hk7 hk8 hk9 hk10 hk11 hk12 hk13 hk14 hk15 hk16 hk17 hk18 hk19 hk20 hk21 hk22 hk23 hk24 hk25 hk26 hk27 hk28 hk29)
        · have hf := ifn c hf
          obtain ⟨rfl, rfl⟩ := oc2 hf
          exact AW.sub [] rfl (hk7 rfl)
      have hf := ifn c33_7 hf
      by_cases c33_8 : (v1 &&& 31) = 8
      · have hf := ifp c33_8 hf
        refine a_tblIn (k := 8) (off := 395) (tgt := 428) dL_law_33 c33_8 (by decide) (by decide) rfl (by decide) ?_
        refine a_aload_n (q := 1) dL_law_428 rfl rfl ?_
        refine a_aload_n (q := 0) dL_law_429 rfl rfl ?_
        refine a_iload_n (q := 3) dL_law_430 rfl rfl ?_
        refine a_iconst (v := 1) dL_law_431 (by decide) ?_
        refine a_iadd dL_law_432 ?_
        obtain ⟨v131, e132, hf⟩ := obd hf
        refine o_scA dL_law_433 e132 ?_
        obtain ⟨_, e136, hf⟩ := obd hf
        obtain ⟨v134, h135, e133, hf⟩ := ob2 hf
        refine a_callV (as := [.int v131]) (np := 1) (ci := 12) (st := []) (sX13_feed E (D - 1) (by omega) e133) dL_law_434 rfl (by omega) (by decide) cw_L_48 ⟨wd_392, wd_393⟩ rfl (ckT_s e136) rfl (Nat.le_of_ble_eq_true rfl) ?_
        refine a_aload_n (q := 2) dL_law_437 rfl rfl ?_
        refine a_aload_n (q := 0) dL_law_438 rfl rfl ?_
        refine a_iload_n (q := 3) dL_law_439 rfl rfl ?_
        refine a_iconst (v := 1) dL_law_440 (by decide) ?_
        refine a_iadd dL_law_441 ?_
        obtain ⟨v137, e138, hf⟩ := obd hf
        refine o_scA dL_law_442 e138 ?_
        obtain ⟨_, e142, hf⟩ := obd hf
        obtain ⟨v140, h141, e139, hf⟩ := ob2 hf
        refine a_callV (as := [.int v137]) (np := 1) (ci := 13) (st := [.int v134]) (sX14_feed E (D - 1) (by omega) e139) dL_law_443 rfl (by omega) (by decide) cw_L_51 ⟨wd_1319, wd_1320⟩ rfl (ckT_s e142) rfl (Nat.le_of_ble_eq_true rfl) ?_
        refine a_icmp_eq (tgt := 1062) dL_law_446 (by decide) (fun c => ?_) (fun c => ?_)
        · have hf := ifp c hf
          refine a_iinc (q := 3) (v := (x3 + 6)) (lv1 := [(3, .int (x3 + 6)), (0, .ref 63), (1, .ref x1), (2, .ref x2)]) dL_law_1062 rfl (by rfl) (by decide) rfl ?_
          refine a_goto (tgt := 18) dL_law_1065 (by decide) ?_
          exact AW.sub [1, 2, 3, 0] rfl (ih _ _ _ _ _ _ hf hk0 hk1 hk2 hk3 hk4 hk5 hk6 hk7 hk8 hk9 hk10 hk11 hk12 hk13 hk14 hk15 hk16 hk17 hk18 hk19 hk20 hk21 hk22 hk23 hk24 hk25 hk26 hk27 hk28 hk29)
        · have hf := ifn c hf
          obtain ⟨rfl, rfl⟩ := oc2 hf
          exact AW.sub [] rfl (hk8 rfl)
      have hf := ifn c33_8 hf
      by_cases c33_9 : (v1 &&& 31) = 9
      · have hf := ifp c33_9 hf
        refine a_tblIn (k := 9) (off := 418) (tgt := 451) dL_law_33 c33_9 (by decide) (by decide) rfl (by decide) ?_
        refine a_aload_n (q := 1) dL_law_451 rfl rfl ?_
        obtain ⟨_, e146, hf⟩ := obd hf
        obtain ⟨v144, h145, e143, hf⟩ := ob2 hf
        refine a_callV (as := []) (np := 0) (ci := 12) (st := []) (sX13_clear E (D - 1) (by omega) e143) dL_law_452 rfl (by omega) (by decide) cw_L_52 ⟨wd_397, wd_398⟩ rfl (ckT_s e146) rfl (Nat.le_of_ble_eq_true rfl) ?_
        refine a_aload_n (q := 2) dL_law_455 rfl rfl ?_
        obtain ⟨_, e150, hf⟩ := obd hf
        obtain ⟨v148, h149, e147, hf⟩ := ob2 hf
        refine a_callV (as := []) (np := 0) (ci := 13) (st := [.int v144]) (sX14_clear E (D - 1) (by omega) e147) dL_law_456 rfl (by omega) (by decide) cw_L_56 ⟨wd_1327, wd_1328⟩ rfl (ckT_s e150) rfl (Nat.le_of_ble_eq_true rfl) ?_
        refine a_icmp_eq (tgt := 1062) dL_law_459 (by decide) (fun c => ?_) (fun c => ?_)
        · have hf := ifp c hf
          refine a_iinc (q := 3) (v := (x3 + 6)) (lv1 := [(3, .int (x3 + 6)), (0, .ref 63), (1, .ref x1), (2, .ref x2)]) dL_law_1062 rfl (by rfl) (by decide) rfl ?_
          refine a_goto (tgt := 18) dL_law_1065 (by decide) ?_
          exact AW.sub [1, 2, 3, 0] rfl (ih _ _ _ _ _ _ hf hk0 hk1 hk2 hk3 hk4 hk5 hk6 hk7 hk8 hk9 hk10 hk11 hk12 hk13 hk14 hk15 hk16 hk17 hk18 hk19 hk20 hk21 hk22 hk23 hk24 hk25 hk26 hk27 hk28 hk29)
        · have hf := ifn c hf
          obtain ⟨rfl, rfl⟩ := oc2 hf
          exact AW.sub [] rfl (hk9 rfl)
      have hf := ifn c33_9 hf
      by_cases c33_10 : (v1 &&& 31) = 10
      · have hf := ifp c33_10 hf
        refine a_tblIn (k := 10) (off := 431) (tgt := 464) dL_law_33 c33_10 (by decide) (by decide) rfl (by decide) ?_
        refine a_aload_n (q := 1) dL_law_464 rfl rfl ?_
        refine a_aload_n (q := 0) dL_law_465 rfl rfl ?_
        refine a_iload_n (q := 3) dL_law_466 rfl rfl ?_
        refine a_iconst (v := 1) dL_law_467 (by decide) ?_
        refine a_iadd dL_law_468 ?_
        obtain ⟨v151, e152, hf⟩ := obd hf
        refine o_scA dL_law_469 e152 ?_
        obtain ⟨_, e156, hf⟩ := obd hf
        obtain ⟨v154, h155, e153, hf⟩ := ob2 hf
        refine a_callV (as := [.int v151]) (np := 1) (ci := 12) (st := []) (sX13_template E (D - 1) (by omega) e153) dL_law_470 rfl (by omega) (by decide) cw_L_57 ⟨wd_401, wd_402⟩ rfl (ckT_s e156) rfl (Nat.le_of_ble_eq_true rfl) ?_
        refine a_aload_n (q := 2) dL_law_473 rfl rfl ?_
        refine a_aload_n (q := 0) dL_law_474 rfl rfl ?_
        refine a_iload_n (q := 3) dL_law_475 rfl rfl ?_
        refine a_iconst (v := 1) dL_law_476 (by decide) ?_
        refine a_iadd dL_law_477 ?_
        obtain ⟨v157, e158, hf⟩ := obd hf
        refine o_scA dL_law_478 e158 ?_
        obtain ⟨_, e162, hf⟩ := obd hf
        obtain ⟨v160, h161, e159, hf⟩ := ob2 hf
        refine a_callV (as := [.int v157]) (np := 1) (ci := 13) (st := [.int v154]) (sX14_template E (D - 1) (by omega) e159) dL_law_479 rfl (by omega) (by decide) cw_L_60 ⟨wd_1331, wd_1332⟩ rfl (ckT_s e162) rfl (Nat.le_of_ble_eq_true rfl) ?_
        refine a_icmp_eq (tgt := 1062) dL_law_482 (by decide) (fun c => ?_) (fun c => ?_)
        · have hf := ifp c hf
          refine a_iinc (q := 3) (v := (x3 + 6)) (lv1 := [(3, .int (x3 + 6)), (0, .ref 63), (1, .ref x1), (2, .ref x2)]) dL_law_1062 rfl (by rfl) (by decide) rfl ?_
          refine a_goto (tgt := 18) dL_law_1065 (by decide) ?_
          exact AW.sub [1, 2, 3, 0] rfl (ih _ _ _ _ _ _ hf hk0 hk1 hk2 hk3 hk4 hk5 hk6 hk7 hk8 hk9 hk10 hk11 hk12 hk13 hk14 hk15 hk16 hk17 hk18 hk19 hk20 hk21 hk22 hk23 hk24 hk25 hk26 hk27 hk28 hk29)
        · have hf := ifn c hf
          obtain ⟨rfl, rfl⟩ := oc2 hf
          exact AW.sub [] rfl (hk10 rfl)
      have hf := ifn c33_10 hf
      by_cases c33_11 : (v1 &&& 31) = 11
      · have hf := ifp c33_11 hf
        refine a_tblIn (k := 11) (off := 454) (tgt := 487) dL_law_33 c33_11 (by decide) (by decide) rfl (by decide) ?_
        refine a_aload_n (q := 1) dL_law_487 rfl rfl ?_
        refine a_aload_n (q := 0) dL_law_488 rfl rfl ?_
        refine a_iload_n (q := 3) dL_law_489 rfl rfl ?_
        refine a_iconst (v := 1) dL_law_490 (by decide) ?_
        refine a_iadd dL_law_491 ?_
        obtain ⟨v163, e164, hf⟩ := obd hf
        refine o_scA dL_law_492 e164 ?_
        obtain ⟨_, e168, hf⟩ := obd hf
        obtain ⟨v166, h167, e165, hf⟩ := ob2 hf
        refine a_callV (as := [.int v163]) (np := 1) (ci := 12) (st := []) (sX13_drop E (D - 1) (by omega) e165) dL_law_493 rfl (by omega) (by decide) cw_L_61 ⟨wd_739, wd_740⟩ rfl (ckT_s e168) rfl (Nat.le_of_ble_eq_true rfl) ?_
        refine a_aload_n (q := 2) dL_law_496 rfl rfl ?_
        refine a_aload_n (q := 0) dL_law_497 rfl rfl ?_
        refine a_iload_n (q := 3) dL_law_498 rfl rfl ?_
        refine a_iconst (v := 1) dL_law_499 (by decide) ?_
        refine a_iadd dL_law_500 ?_
        obtain ⟨v169, e170, hf⟩ := obd hf
        refine o_scA dL_law_501 e170 ?_
        obtain ⟨_, e174, hf⟩ := obd hf
        obtain ⟨v172, h173, e171, hf⟩ := ob2 hf
        refine a_callV (as := [.int v169]) (np := 1) (ci := 13) (st := [.int v166]) (sX14_drop E (D - 1) (by omega) e171) dL_law_502 rfl (by omega) (by decide) cw_L_64 ⟨wd_1413, wd_1414⟩ rfl (ckT_s e174) rfl (Nat.le_of_ble_eq_true rfl) ?_
        refine a_icmp_eq (tgt := 1062) dL_law_505 (by decide) (fun c => ?_) (fun c => ?_)
        · have hf := ifp c hf
          refine a_iinc (q := 3) (v := (x3 + 6)) (lv1 := [(3, .int (x3 + 6)), (0, .ref 63), (1, .ref x1), (2, .ref x2)]) dL_law_1062 rfl (by rfl) (by decide) rfl ?_
          refine a_goto (tgt := 18) dL_law_1065 (by decide) ?_
          exact AW.sub [1, 2, 3, 0] rfl (ih _ _ _ _ _ _ hf hk0 hk1 hk2 hk3 hk4 hk5 hk6 hk7 hk8 hk9 hk10 hk11 hk12 hk13 hk14 hk15 hk16 hk17 hk18 hk19 hk20 hk21 hk22 hk23 hk24 hk25 hk26 hk27 hk28 hk29)
        · have hf := ifn c hf
          obtain ⟨rfl, rfl⟩ := oc2 hf
          exact AW.sub [] rfl (hk11 rfl)
      have hf := ifn c33_11 hf
      by_cases c33_12 : (v1 &&& 31) = 12
      · have hf := ifp c33_12 hf
        refine a_tblIn (k := 12) (off := 477) (tgt := 510) dL_law_33 c33_12 (by decide) (by decide) rfl (by decide) ?_
        refine a_aload_n (q := 1) dL_law_510 rfl rfl ?_
        refine a_aload_n (q := 0) dL_law_511 rfl rfl ?_
        refine a_iload_n (q := 3) dL_law_512 rfl rfl ?_
        refine a_iconst (v := 1) dL_law_513 (by decide) ?_
        refine a_iadd dL_law_514 ?_
        obtain ⟨v175, e176, hf⟩ := obd hf
        refine o_scA dL_law_515 e176 ?_
        refine a_aload_n (q := 0) dL_law_516 rfl rfl ?_
        refine a_iload_n (q := 3) dL_law_517 rfl rfl ?_
        refine a_iconst (v := 2) dL_law_518 (by decide) ?_
        refine a_iadd dL_law_519 ?_
        obtain ⟨v177, e178, hf⟩ := obd hf
        refine o_scA dL_law_520 e178 ?_
        obtain ⟨_, e182, hf⟩ := obd hf
        obtain ⟨v180, h181, e179, hf⟩ := ob2 hf
        refine a_callV (as := [.int v175, .int v177]) (np := 2) (ci := 12) (st := []) (sX13_has E (D - 1) (by omega) e179) dL_law_521 rfl (by omega) (by decide) cw_L_65 ⟨wd_747, wd_748⟩ rfl (ckT_s e182) rfl (Nat.le_of_ble_eq_true rfl) ?_
        refine a_aload_n (q := 2) dL_law_524 rfl rfl ?_
        refine a_aload_n (q := 0) dL_law_525 rfl rfl ?_
        refine a_iload_n (q := 3) dL_law_526 rfl rfl ?_
        refine a_iconst (v := 1) dL_law_527 (by decide) ?_
        refine a_iadd dL_law_528 ?_
        obtain ⟨v183, e184, hf⟩ := obd hf
        refine o_scA dL_law_529 e184 ?_
        refine a_aload_n (q := 0) dL_law_530 rfl rfl ?_
        refine a_iload_n (q := 3) dL_law_531 rfl rfl ?_
        refine a_iconst (v := 2) dL_law_532 (by decide) ?_
        refine a_iadd dL_law_533 ?_
        obtain ⟨v185, e186, hf⟩ := obd hf
        refine o_scA dL_law_534 e186 ?_
        obtain ⟨_, e190, hf⟩ := obd hf
        obtain ⟨v188, h189, e187, hf⟩ := ob2 hf
        refine a_callV (as := [.int v183, .int v185]) (np := 2) (ci := 13) (st := [.int v180]) (sX14_has E (D - 1) (by omega) e187) dL_law_535 rfl (by omega) (by decide) cw_L_68 ⟨wd_1421, wd_1422⟩ rfl (ckT_s e190) rfl (Nat.le_of_ble_eq_true rfl) ?_
        refine a_icmp_eq (tgt := 1062) dL_law_538 (by decide) (fun c => ?_) (fun c => ?_)
        · have hf := ifp c hf
          refine a_iinc (q := 3) (v := (x3 + 6)) (lv1 := [(3, .int (x3 + 6)), (0, .ref 63), (1, .ref x1), (2, .ref x2)]) dL_law_1062 rfl (by rfl) (by decide) rfl ?_
          refine a_goto (tgt := 18) dL_law_1065 (by decide) ?_
          exact AW.sub [1, 2, 3, 0] rfl (ih _ _ _ _ _ _ hf hk0 hk1 hk2 hk3 hk4 hk5 hk6 hk7 hk8 hk9 hk10 hk11 hk12 hk13 hk14 hk15 hk16 hk17 hk18 hk19 hk20 hk21 hk22 hk23 hk24 hk25 hk26 hk27 hk28 hk29)
        · have hf := ifn c hf
          obtain ⟨rfl, rfl⟩ := oc2 hf
          exact AW.sub [] rfl (hk12 rfl)
      have hf := ifn c33_12 hf
      by_cases c33_13 : (v1 &&& 31) = 13
      · have hf := ifp c33_13 hf
        refine a_tblIn (k := 13) (off := 510) (tgt := 543) dL_law_33 c33_13 (by decide) (by decide) rfl (by decide) ?_
        refine a_aload_n (q := 1) dL_law_543 rfl rfl ?_
        refine a_aload_n (q := 0) dL_law_544 rfl rfl ?_
        refine a_iload_n (q := 3) dL_law_545 rfl rfl ?_
        refine a_iconst (v := 1) dL_law_546 (by decide) ?_
        refine a_iadd dL_law_547 ?_
        obtain ⟨v191, e192, hf⟩ := obd hf
        refine o_scA dL_law_548 e192 ?_
        refine a_aload_n (q := 0) dL_law_549 rfl rfl ?_
        refine a_iload_n (q := 3) dL_law_550 rfl rfl ?_
        refine a_iconst (v := 2) dL_law_551 (by decide) ?_
        refine a_iadd dL_law_552 ?_
        obtain ⟨v193, e194, hf⟩ := obd hf
        refine o_scA dL_law_553 e194 ?_
        obtain ⟨_, e198, hf⟩ := obd hf
        obtain ⟨v196, h197, e195, hf⟩ := ob2 hf
        refine a_callV (as := [.int v191, .int v193]) (np := 2) (ci := 12) (st := []) (sX13_look E (D - 1) (by omega) e195) dL_law_554 rfl (by omega) (by decide) cw_L_69 ⟨wd_755, wd_756⟩ rfl (ckT_s e198) rfl (Nat.le_of_ble_eq_true rfl) ?_
        refine a_aload_n (q := 2) dL_law_557 rfl rfl ?_
        refine a_aload_n (q := 0) dL_law_558 rfl rfl ?_
        refine a_iload_n (q := 3) dL_law_559 rfl rfl ?_
        refine a_iconst (v := 1) dL_law_560 (by decide) ?_
        refine a_iadd dL_law_561 ?_
        obtain ⟨v199, e200, hf⟩ := obd hf
        refine o_scA dL_law_562 e200 ?_
        refine a_aload_n (q := 0) dL_law_563 rfl rfl ?_
        refine a_iload_n (q := 3) dL_law_564 rfl rfl ?_
        refine a_iconst (v := 2) dL_law_565 (by decide) ?_
        refine a_iadd dL_law_566 ?_
        obtain ⟨v201, e202, hf⟩ := obd hf
        refine o_scA dL_law_567 e202 ?_
        obtain ⟨_, e206, hf⟩ := obd hf
        obtain ⟨v204, h205, e203, hf⟩ := ob2 hf
        refine a_callV (as := [.int v199, .int v201]) (np := 2) (ci := 13) (st := [.int v196]) (sX14_look E (D - 1) (by omega) e203) dL_law_568 rfl (by omega) (by decide) cw_L_72 ⟨wd_1442, wd_1443⟩ rfl (ckT_s e206) rfl (Nat.le_of_ble_eq_true rfl) ?_
        refine a_icmp_eq (tgt := 1062) dL_law_571 (by decide) (fun c => ?_) (fun c => ?_)
        · have hf := ifp c hf
          refine a_iinc (q := 3) (v := (x3 + 6)) (lv1 := [(3, .int (x3 + 6)), (0, .ref 63), (1, .ref x1), (2, .ref x2)]) dL_law_1062 rfl (by rfl) (by decide) rfl ?_
          refine a_goto (tgt := 18) dL_law_1065 (by decide) ?_
          exact AW.sub [1, 2, 3, 0] rfl (ih _ _ _ _ _ _ hf hk0 hk1 hk2 hk3 hk4 hk5 hk6 hk7 hk8 hk9 hk10 hk11 hk12 hk13 hk14 hk15 hk16 hk17 hk18 hk19 hk20 hk21 hk22 hk23 hk24 hk25 hk26 hk27 hk28 hk29)
        · have hf := ifn c hf
          obtain ⟨rfl, rfl⟩ := oc2 hf
          exact AW.sub [] rfl (hk13 rfl)
      have hf := ifn c33_13 hf
      by_cases c33_14 : (v1 &&& 31) = 14
      · have hf := ifp c33_14 hf
        refine a_tblIn (k := 14) (off := 543) (tgt := 576) dL_law_33 c33_14 (by decide) (by decide) rfl (by decide) ?_
        refine a_aload_n (q := 1) dL_law_576 rfl rfl ?_
        refine a_aload_n (q := 0) dL_law_577 rfl rfl ?_
        refine a_iload_n (q := 3) dL_law_578 rfl rfl ?_
        refine a_iconst (v := 1) dL_law_579 (by decide) ?_
        refine a_iadd dL_law_580 ?_
        obtain ⟨v207, e208, hf⟩ := obd hf
        refine o_scA dL_law_581 e208 ?_
        obtain ⟨_, e212, hf⟩ := obd hf
        obtain ⟨v210, h211, e209, hf⟩ := ob2 hf
        refine a_callV (as := [.int v207]) (np := 1) (ci := 12) (st := []) (sX13_press E (D - 1) (by omega) e209) dL_law_582 rfl (by omega) (by decide) cw_L_73 ⟨wd_996, wd_997⟩ rfl (ckT_s e212) rfl (Nat.le_of_ble_eq_true rfl) ?_
        refine a_aload_n (q := 2) dL_law_585 rfl rfl ?_
        refine a_aload_n (q := 0) dL_law_586 rfl rfl ?_
        refine a_iload_n (q := 3) dL_law_587 rfl rfl ?_
        refine a_iconst (v := 1) dL_law_588 (by decide) ?_
        refine a_iadd dL_law_589 ?_
        obtain ⟨v213, e214, hf⟩ := obd hf
        refine o_scA dL_law_590 e214 ?_
        obtain ⟨_, e218, hf⟩ := obd hf
        obtain ⟨v216, h217, e215, hf⟩ := ob2 hf
        refine a_callV (as := [.int v213]) (np := 1) (ci := 13) (st := [.int v210]) (sX14_press E (D - 1) (by omega) e215) dL_law_591 rfl (by omega) (by decide) cw_L_76 ⟨wd_1703, wd_1704⟩ rfl (ckT_s e218) rfl (Nat.le_of_ble_eq_true rfl) ?_
        refine a_icmp_eq (tgt := 1062) dL_law_594 (by decide) (fun c => ?_) (fun c => ?_)
        · have hf := ifp c hf
          refine a_iinc (q := 3) (v := (x3 + 6)) (lv1 := [(3, .int (x3 + 6)), (0, .ref 63), (1, .ref x1), (2, .ref x2)]) dL_law_1062 rfl (by rfl) (by decide) rfl ?_
          refine a_goto (tgt := 18) dL_law_1065 (by decide) ?_
          exact AW.sub [1, 2, 3, 0] rfl (ih _ _ _ _ _ _ hf hk0 hk1 hk2 hk3 hk4 hk5 hk6 hk7 hk8 hk9 hk10 hk11 hk12 hk13 hk14 hk15 hk16 hk17 hk18 hk19 hk20 hk21 hk22 hk23 hk24 hk25 hk26 hk27 hk28 hk29)
        · have hf := ifn c hf
          obtain ⟨rfl, rfl⟩ := oc2 hf
          exact AW.sub [] rfl (hk14 rfl)
      have hf := ifn c33_14 hf
      by_cases c33_15 : (v1 &&& 31) = 15
      · have hf := ifp c33_15 hf
        refine a_tblIn (k := 15) (off := 566) (tgt := 599) dL_law_33 c33_15 (by decide) (by decide) rfl (by decide) ?_
        refine a_aload_n (q := 1) dL_law_599 rfl rfl ?_
        refine a_aload_n (q := 0) dL_law_600 rfl rfl ?_
        refine a_iload_n (q := 3) dL_law_601 rfl rfl ?_
        refine a_iconst (v := 1) dL_law_602 (by decide) ?_
        refine a_iadd dL_law_603 ?_
        obtain ⟨v219, e220, hf⟩ := obd hf
        refine o_scA dL_law_604 e220 ?_
        obtain ⟨_, e224, hf⟩ := obd hf
        obtain ⟨v222, h223, e221, hf⟩ := ob2 hf
        refine a_callV (as := [.int v219]) (np := 1) (ci := 12) (st := []) (sX13_filter E (D - 1) (by omega) e221) dL_law_605 rfl (by omega) (by decide) cw_L_77 ⟨wd_1006, wd_1007⟩ rfl (ckT_s e224) rfl (Nat.le_of_ble_eq_true rfl) ?_
        refine a_aload_n (q := 2) dL_law_608 rfl rfl ?_
        refine a_aload_n (q := 0) dL_law_609 rfl rfl ?_
        refine a_iload_n (q := 3) dL_law_610 rfl rfl ?_
        refine a_iconst (v := 1) dL_law_611 (by decide) ?_
        refine a_iadd dL_law_612 ?_
        obtain ⟨v225, e226, hf⟩ := obd hf
        refine o_scA dL_law_613 e226 ?_
        obtain ⟨_, e230, hf⟩ := obd hf
        obtain ⟨v228, h229, e227, hf⟩ := ob2 hf
        refine a_callV (as := [.int v225]) (np := 1) (ci := 13) (st := [.int v222]) (sX14_filter E (D - 1) (by omega) e227) dL_law_614 rfl (by omega) (by decide) cw_L_80 ⟨wd_1769, wd_1770⟩ rfl (ckT_s e230) rfl (Nat.le_of_ble_eq_true rfl) ?_
        refine a_icmp_eq (tgt := 1062) dL_law_617 (by decide) (fun c => ?_) (fun c => ?_)
        · have hf := ifp c hf
          refine a_iinc (q := 3) (v := (x3 + 6)) (lv1 := [(3, .int (x3 + 6)), (0, .ref 63), (1, .ref x1), (2, .ref x2)]) dL_law_1062 rfl (by rfl) (by decide) rfl ?_
          refine a_goto (tgt := 18) dL_law_1065 (by decide) ?_
          exact AW.sub [1, 2, 3, 0] rfl (ih _ _ _ _ _ _ hf hk0 hk1 hk2 hk3 hk4 hk5 hk6 hk7 hk8 hk9 hk10 hk11 hk12 hk13 hk14 hk15 hk16 hk17 hk18 hk19 hk20 hk21 hk22 hk23 hk24 hk25 hk26 hk27 hk28 hk29)
        · have hf := ifn c hf
          obtain ⟨rfl, rfl⟩ := oc2 hf
          exact AW.sub [] rfl (hk15 rfl)
      have hf := ifn c33_15 hf
      by_cases c33_16 : (v1 &&& 31) = 16
      · have hf := ifp c33_16 hf
        refine a_tblIn (k := 16) (off := 589) (tgt := 622) dL_law_33 c33_16 (by decide) (by decide) rfl (by decide) ?_
        refine a_aload_n (q := 1) dL_law_622 rfl rfl ?_
        refine a_aload_n (q := 0) dL_law_623 rfl rfl ?_
        refine a_iload_n (q := 3) dL_law_624 rfl rfl ?_
        refine a_iconst (v := 1) dL_law_625 (by decide) ?_
        refine a_iadd dL_law_626 ?_
        obtain ⟨v231, e232, hf⟩ := obd hf
        refine o_scA dL_law_627 e232 ?_
        obtain ⟨_, e236, hf⟩ := obd hf
        obtain ⟨v234, h235, e233, hf⟩ := ob2 hf
        refine a_callV (as := [.int v231]) (np := 1) (ci := 12) (st := []) (sX13_page E (D - 1) (by omega) e233) dL_law_628 rfl (by omega) (by decide) cw_L_81 ⟨wd_1017, wd_1018⟩ rfl (ckT_s e236) rfl (Nat.le_of_ble_eq_true rfl) ?_
        refine a_aload_n (q := 2) dL_law_631 rfl rfl ?_
        refine a_aload_n (q := 0) dL_law_632 rfl rfl ?_
        refine a_iload_n (q := 3) dL_law_633 rfl rfl ?_
        refine a_iconst (v := 1) dL_law_634 (by decide) ?_
        refine a_iadd dL_law_635 ?_
        obtain ⟨v237, e238, hf⟩ := obd hf
        refine o_scA dL_law_636 e238 ?_
        obtain ⟨_, e242, hf⟩ := obd hf
        obtain ⟨v240, h241, e239, hf⟩ := ob2 hf
        refine a_callV (as := [.int v237]) (np := 1) (ci := 13) (st := [.int v234]) (sX14_page E (D - 1) (by omega) e239) dL_law_637 rfl (by omega) (by decide) cw_L_84 ⟨wd_1707, wd_1708⟩ rfl (ckT_s e242) rfl (Nat.le_of_ble_eq_true rfl) ?_
        refine a_icmp_eq (tgt := 1062) dL_law_640 (by decide) (fun c => ?_) (fun c => ?_)
        · have hf := ifp c hf
          refine a_iinc (q := 3) (v := (x3 + 6)) (lv1 := [(3, .int (x3 + 6)), (0, .ref 63), (1, .ref x1), (2, .ref x2)]) dL_law_1062 rfl (by rfl) (by decide) rfl ?_
          refine a_goto (tgt := 18) dL_law_1065 (by decide) ?_
          exact AW.sub [1, 2, 3, 0] rfl (ih _ _ _ _ _ _ hf hk0 hk1 hk2 hk3 hk4 hk5 hk6 hk7 hk8 hk9 hk10 hk11 hk12 hk13 hk14 hk15 hk16 hk17 hk18 hk19 hk20 hk21 hk22 hk23 hk24 hk25 hk26 hk27 hk28 hk29)
        · have hf := ifn c hf
          obtain ⟨rfl, rfl⟩ := oc2 hf
          exact AW.sub [] rfl (hk16 rfl)
      have hf := ifn c33_16 hf
      by_cases c33_17 : (v1 &&& 31) = 17
      · have hf := ifp c33_17 hf
        refine a_tblIn (k := 17) (off := 612) (tgt := 645) dL_law_33 c33_17 (by decide) (by decide) rfl (by decide) ?_
        refine a_aload_n (q := 1) dL_law_645 rfl rfl ?_
        refine a_aload_n (q := 0) dL_law_646 rfl rfl ?_
        refine a_iload_n (q := 3) dL_law_647 rfl rfl ?_
        refine a_iconst (v := 1) dL_law_648 (by decide) ?_
        refine a_iadd dL_law_649 ?_
        obtain ⟨v243, e244, hf⟩ := obd hf
        refine o_scA dL_law_650 e244 ?_
        refine a_aload_n (q := 0) dL_law_651 rfl rfl ?_
        refine a_iload_n (q := 3) dL_law_652 rfl rfl ?_
        refine a_iconst (v := 2) dL_law_653 (by decide) ?_
        refine a_iadd dL_law_654 ?_
        obtain ⟨v245, e246, hf⟩ := obd hf
        refine o_scA dL_law_655 e246 ?_
        obtain ⟨_, e250, hf⟩ := obd hf
        obtain ⟨v248, h249, e247, hf⟩ := ob2 hf
        refine a_callV (as := [.int v243, .int v245]) (np := 2) (ci := 12) (st := []) (sX13_why E (D - 1) (by omega) e247) dL_law_656 rfl (by omega) (by decide) cw_L_85 ⟨wd_1021, wd_1022⟩ rfl (ckT_s e250) rfl (Nat.le_of_ble_eq_true rfl) ?_
        refine a_aload_n (q := 2) dL_law_659 rfl rfl ?_
        refine a_aload_n (q := 0) dL_law_660 rfl rfl ?_
        refine a_iload_n (q := 3) dL_law_661 rfl rfl ?_
        refine a_iconst (v := 1) dL_law_662 (by decide) ?_
        refine a_iadd dL_law_663 ?_
        obtain ⟨v251, e252, hf⟩ := obd hf
        refine o_scA dL_law_664 e252 ?_
        refine a_aload_n (q := 0) dL_law_665 rfl rfl ?_
        refine a_iload_n (q := 3) dL_law_666 rfl rfl ?_
        refine a_iconst (v := 2) dL_law_667 (by decide) ?_
        refine a_iadd dL_law_668 ?_
        obtain ⟨v253, e254, hf⟩ := obd hf
        refine o_scA dL_law_669 e254 ?_
        obtain ⟨_, e258, hf⟩ := obd hf
        obtain ⟨v256, h257, e255, hf⟩ := ob2 hf
        refine a_callV (as := [.int v251, .int v253]) (np := 2) (ci := 13) (st := [.int v248]) (sX14_why E (D - 1) (by omega) e255) dL_law_670 rfl (by omega) (by decide) cw_L_88 ⟨wd_1711, wd_1712⟩ rfl (ckT_s e258) rfl (Nat.le_of_ble_eq_true rfl) ?_
        refine a_icmp_eq (tgt := 1062) dL_law_673 (by decide) (fun c => ?_) (fun c => ?_)
        · have hf := ifp c hf
          refine a_iinc (q := 3) (v := (x3 + 6)) (lv1 := [(3, .int (x3 + 6)), (0, .ref 63), (1, .ref x1), (2, .ref x2)]) dL_law_1062 rfl (by rfl) (by decide) rfl ?_
          refine a_goto (tgt := 18) dL_law_1065 (by decide) ?_
          exact AW.sub [1, 2, 3, 0] rfl (ih _ _ _ _ _ _ hf hk0 hk1 hk2 hk3 hk4 hk5 hk6 hk7 hk8 hk9 hk10 hk11 hk12 hk13 hk14 hk15 hk16 hk17 hk18 hk19 hk20 hk21 hk22 hk23 hk24 hk25 hk26 hk27 hk28 hk29)
        · have hf := ifn c hf
          obtain ⟨rfl, rfl⟩ := oc2 hf
          exact AW.sub [] rfl (hk17 rfl)
      have hf := ifn c33_17 hf
      by_cases c33_18 : (v1 &&& 31) = 18
      · have hf := ifp c33_18 hf
        refine a_tblIn (k := 18) (off := 645) (tgt := 678) dL_law_33 c33_18 (by decide) (by decide) rfl (by decide) ?_
        refine a_aload_n (q := 1) dL_law_678 rfl rfl ?_
        refine a_aload_n (q := 0) dL_law_679 rfl rfl ?_
        refine a_iload_n (q := 3) dL_law_680 rfl rfl ?_
        refine a_iconst (v := 1) dL_law_681 (by decide) ?_
        refine a_iadd dL_law_682 ?_
        obtain ⟨v259, e260, hf⟩ := obd hf
        refine o_scA dL_law_683 e260 ?_
        obtain ⟨_, e264, hf⟩ := obd hf
        obtain ⟨v262, h263, e261, hf⟩ := ob2 hf
        refine a_callV (as := [.int v259]) (np := 1) (ci := 12) (st := []) (sX13_budget E (D - 1) (by omega) e261) dL_law_684 rfl (by omega) (by decide) cw_L_89 ⟨wd_1025, wd_1026⟩ rfl (ckT_s e264) rfl (Nat.le_of_ble_eq_true rfl) ?_
        refine a_aload_n (q := 2) dL_law_687 rfl rfl ?_
        refine a_aload_n (q := 0) dL_law_688 rfl rfl ?_
        refine a_iload_n (q := 3) dL_law_689 rfl rfl ?_
        refine a_iconst (v := 1) dL_law_690 (by decide) ?_
        refine a_iadd dL_law_691 ?_
        obtain ⟨v265, e266, hf⟩ := obd hf
        refine o_scA dL_law_692 e266 ?_
        obtain ⟨_, e270, hf⟩ := obd hf
        obtain ⟨v268, h269, e267, hf⟩ := ob2 hf
        refine a_callV (as := [.int v265]) (np := 1) (ci := 13) (st := [.int v262]) (sX14_budget E (D - 1) (by omega) e267) dL_law_693 rfl (by omega) (by decide) cw_L_92 ⟨wd_1716, wd_1717⟩ rfl (ckT_s e270) rfl (Nat.le_of_ble_eq_true rfl) ?_
        refine a_icmp_eq (tgt := 1062) dL_law_696 (by decide) (fun c => ?_) (fun c => ?_)
        · have hf := ifp c hf
          refine a_iinc (q := 3) (v := (x3 + 6)) (lv1 := [(3, .int (x3 + 6)), (0, .ref 63), (1, .ref x1), (2, .ref x2)]) dL_law_1062 rfl (by rfl) (by decide) rfl ?_
          refine a_goto (tgt := 18) dL_law_1065 (by decide) ?_
          exact AW.sub [1, 2, 3, 0] rfl (ih _ _ _ _ _ _ hf hk0 hk1 hk2 hk3 hk4 hk5 hk6 hk7 hk8 hk9 hk10 hk11 hk12 hk13 hk14 hk15 hk16 hk17 hk18 hk19 hk20 hk21 hk22 hk23 hk24 hk25 hk26 hk27 hk28 hk29)
        · have hf := ifn c hf
          obtain ⟨rfl, rfl⟩ := oc2 hf
          exact AW.sub [] rfl (hk18 rfl)
      have hf := ifn c33_18 hf
      by_cases c33_19 : (v1 &&& 31) = 19
      · have hf := ifp c33_19 hf
        refine a_tblIn (k := 19) (off := 668) (tgt := 701) dL_law_33 c33_19 (by decide) (by decide) rfl (by decide) ?_
        refine a_aload_n (q := 1) dL_law_701 rfl rfl ?_
        refine a_aload_n (q := 0) dL_law_702 rfl rfl ?_
        refine a_iload_n (q := 3) dL_law_703 rfl rfl ?_
        refine a_iconst (v := 1) dL_law_704 (by decide) ?_
        refine a_iadd dL_law_705 ?_
        obtain ⟨v271, e272, hf⟩ := obd hf
        refine o_scA dL_law_706 e272 ?_
        obtain ⟨_, e276, hf⟩ := obd hf
        obtain ⟨v274, h275, e273, hf⟩ := ob2 hf
        refine a_callV (as := [.int v271]) (np := 1) (ci := 12) (st := []) (sX13_told E (D - 1) (by omega) e273) dL_law_707 rfl (by omega) (by decide) cw_L_93 ⟨wd_1029, wd_1030⟩ rfl (ckT_s e276) rfl (Nat.le_of_ble_eq_true rfl) ?_
        refine a_aload_n (q := 2) dL_law_710 rfl rfl ?_
        refine a_aload_n (q := 0) dL_law_711 rfl rfl ?_
        refine a_iload_n (q := 3) dL_law_712 rfl rfl ?_
        refine a_iconst (v := 1) dL_law_713 (by decide) ?_
        refine a_iadd dL_law_714 ?_
        obtain ⟨v277, e278, hf⟩ := obd hf
        refine o_scA dL_law_715 e278 ?_
        obtain ⟨_, e282, hf⟩ := obd hf
        obtain ⟨v280, h281, e279, hf⟩ := ob2 hf
        refine a_callV (as := [.int v277]) (np := 1) (ci := 13) (st := [.int v274]) (sX14_told E (D - 1) (by omega) e279) dL_law_716 rfl (by omega) (by decide) cw_L_96 ⟨wd_1721, wd_1722⟩ rfl (ckT_s e282) rfl (Nat.le_of_ble_eq_true rfl) ?_
        refine a_icmp_eq (tgt := 1062) dL_law_719 (by decide) (fun c => ?_) (fun c => ?_)
        · have hf := ifp c hf
          refine a_iinc (q := 3) (v := (x3 + 6)) (lv1 := [(3, .int (x3 + 6)), (0, .ref 63), (1, .ref x1), (2, .ref x2)]) dL_law_1062 rfl (by rfl) (by decide) rfl ?_
          refine a_goto (tgt := 18) dL_law_1065 (by decide) ?_
          exact AW.sub [1, 2, 3, 0] rfl (ih _ _ _ _ _ _ hf hk0 hk1 hk2 hk3 hk4 hk5 hk6 hk7 hk8 hk9 hk10 hk11 hk12 hk13 hk14 hk15 hk16 hk17 hk18 hk19 hk20 hk21 hk22 hk23 hk24 hk25 hk26 hk27 hk28 hk29)
        · have hf := ifn c hf
          obtain ⟨rfl, rfl⟩ := oc2 hf
          exact AW.sub [] rfl (hk19 rfl)
      have hf := ifn c33_19 hf
      by_cases c33_20 : (v1 &&& 31) = 20
      · have hf := ifp c33_20 hf
        refine a_tblIn (k := 20) (off := 691) (tgt := 724) dL_law_33 c33_20 (by decide) (by decide) rfl (by decide) ?_
        refine a_aload_n (q := 1) dL_law_724 rfl rfl ?_
        refine a_aload_n (q := 0) dL_law_725 rfl rfl ?_
        refine a_iload_n (q := 3) dL_law_726 rfl rfl ?_
        refine a_iconst (v := 1) dL_law_727 (by decide) ?_
        refine a_iadd dL_law_728 ?_
        obtain ⟨v283, e284, hf⟩ := obd hf
        refine o_scA dL_law_729 e284 ?_
        refine a_aload_n (q := 0) dL_law_730 rfl rfl ?_
        refine a_iload_n (q := 3) dL_law_731 rfl rfl ?_
        refine a_iconst (v := 2) dL_law_732 (by decide) ?_
        refine a_iadd dL_law_733 ?_
        obtain ⟨v285, e286, hf⟩ := obd hf
        refine o_scA dL_law_734 e286 ?_
        refine a_aload_n (q := 0) dL_law_735 rfl rfl ?_
        refine a_iload_n (q := 3) dL_law_736 rfl rfl ?_
        refine a_iconst (v := 3) dL_law_737 (by decide) ?_
        refine a_iadd dL_law_738 ?_
        obtain ⟨v287, e288, hf⟩ := obd hf
        refine o_scA dL_law_739 e288 ?_
        obtain ⟨_, e292, hf⟩ := obd hf
        obtain ⟨v290, h291, e289, hf⟩ := ob2 hf
        refine a_callV (as := [.int v283, .int v285, .int v287]) (np := 3) (ci := 12) (st := []) (sX13_row E (D - 1) (by omega) e289) dL_law_740 rfl (by omega) (by decide) cw_L_97 ⟨wd_1045, wd_1046⟩ rfl (ckT_s e292) rfl (Nat.le_of_ble_eq_true rfl) ?_
        refine a_aload_n (q := 2) dL_law_743 rfl rfl ?_
        refine a_aload_n (q := 0) dL_law_744 rfl rfl ?_
        refine a_iload_n (q := 3) dL_law_745 rfl rfl ?_
        refine a_iconst (v := 1) dL_law_746 (by decide) ?_
        refine a_iadd dL_law_747 ?_
        obtain ⟨v293, e294, hf⟩ := obd hf
        refine o_scA dL_law_748 e294 ?_
        refine a_aload_n (q := 0) dL_law_749 rfl rfl ?_
        refine a_iload_n (q := 3) dL_law_750 rfl rfl ?_
        refine a_iconst (v := 2) dL_law_751 (by decide) ?_
        refine a_iadd dL_law_752 ?_
        obtain ⟨v295, e296, hf⟩ := obd hf
        refine o_scA dL_law_753 e296 ?_
        refine a_aload_n (q := 0) dL_law_754 rfl rfl ?_
        refine a_iload_n (q := 3) dL_law_755 rfl rfl ?_
        refine a_iconst (v := 3) dL_law_756 (by decide) ?_
        refine a_iadd dL_law_757 ?_
        obtain ⟨v297, e298, hf⟩ := obd hf
        refine o_scA dL_law_758 e298 ?_
        obtain ⟨_, e302, hf⟩ := obd hf
        obtain ⟨v300, h301, e299, hf⟩ := ob2 hf
        refine a_callV (as := [.int v293, .int v295, .int v297]) (np := 3) (ci := 13) (st := [.int v290]) (sX14_row E (D - 1) (by omega) e299) dL_law_759 rfl (by omega) (by decide) cw_L_100 ⟨wd_1781, wd_1782⟩ rfl (ckT_s e302) rfl (Nat.le_of_ble_eq_true rfl) ?_
        refine a_icmp_eq (tgt := 1062) dL_law_762 (by decide) (fun c => ?_) (fun c => ?_)
        · have hf := ifp c hf
          refine a_iinc (q := 3) (v := (x3 + 6)) (lv1 := [(3, .int (x3 + 6)), (0, .ref 63), (1, .ref x1), (2, .ref x2)]) dL_law_1062 rfl (by rfl) (by decide) rfl ?_
          refine a_goto (tgt := 18) dL_law_1065 (by decide) ?_
          exact AW.sub [1, 2, 3, 0] rfl (ih _ _ _ _ _ _ hf hk0 hk1 hk2 hk3 hk4 hk5 hk6 hk7 hk8 hk9 hk10 hk11 hk12 hk13 hk14 hk15 hk16 hk17 hk18 hk19 hk20 hk21 hk22 hk23 hk24 hk25 hk26 hk27 hk28 hk29)
        · have hf := ifn c hf
          obtain ⟨rfl, rfl⟩ := oc2 hf
          exact AW.sub [] rfl (hk20 rfl)
      have hf := ifn c33_20 hf
      by_cases c33_21 : (v1 &&& 31) = 21
      · have hf := ifp c33_21 hf
        refine a_tblIn (k := 21) (off := 734) (tgt := 767) dL_law_33 c33_21 (by decide) (by decide) rfl (by decide) ?_
        refine a_aload_n (q := 1) dL_law_767 rfl rfl ?_
        refine a_aload_n (q := 0) dL_law_768 rfl rfl ?_
        refine a_iload_n (q := 3) dL_law_769 rfl rfl ?_
        refine a_iconst (v := 1) dL_law_770 (by decide) ?_
        refine a_iadd dL_law_771 ?_
        obtain ⟨v303, e304, hf⟩ := obd hf
        refine o_scA dL_law_772 e304 ?_
        refine a_aload_n (q := 0) dL_law_773 rfl rfl ?_
        refine a_iload_n (q := 3) dL_law_774 rfl rfl ?_
        refine a_iconst (v := 2) dL_law_775 (by decide) ?_
        refine a_iadd dL_law_776 ?_
        obtain ⟨v305, e306, hf⟩ := obd hf
        refine o_scA dL_law_777 e306 ?_
        refine a_aload_n (q := 0) dL_law_778 rfl rfl ?_
        refine a_iload_n (q := 3) dL_law_779 rfl rfl ?_
        refine a_iconst (v := 3) dL_law_780 (by decide) ?_
        refine a_iadd dL_law_781 ?_
        obtain ⟨v307, e308, hf⟩ := obd hf
        refine o_scA dL_law_782 e308 ?_
        refine a_i2l dL_law_783 rfl ?_
        refine a_bipush (v := 32) dL_law_784 (by decide) ?_
        refine a_lshl dL_law_786 rfl ?_
        refine a_aload_n (q := 0) dL_law_787 rfl rfl ?_
        refine a_iload_n (q := 3) dL_law_788 rfl rfl ?_
        refine a_iconst (v := 4) dL_law_789 (by decide) ?_
        refine a_iadd dL_law_790 ?_
        obtain ⟨v309, e310, hf⟩ := obd hf
        refine o_scA dL_law_791 e310 ?_
        refine a_i2l dL_law_792 rfl ?_
        refine a_ldc2 (v := 4294967295) dL_law_793 wd_1842 ?_
        refine a_land dL_law_796 ?_
        refine a_lor dL_law_797 ?_
        obtain ⟨_, e314, hf⟩ := obd hf
        obtain ⟨v312, h313, e311, hf⟩ := ob2 hf
        refine a_callV (as := [.int v303, .int v305, .long (((v307.toInt64) <<< ((32 : Int32).toInt64 &&& 63)) ||| ((v309.toInt64) &&& 4294967295))]) (np := 3) (ci := 12) (st := []) (sX13_set E (D - 1) (by omega) e311) dL_law_798 rfl (by omega) (by decide) cw_L_103 ⟨wd_1055, wd_1056⟩ rfl (ckT_s e314) rfl (Nat.le_of_ble_eq_true rfl) ?_
        refine a_aload_n (q := 2) dL_law_801 rfl rfl ?_
        refine a_aload_n (q := 0) dL_law_802 rfl rfl ?_
        refine a_iload_n (q := 3) dL_law_803 rfl rfl ?_
        refine a_iconst (v := 1) dL_law_804 (by decide) ?_
        refine a_iadd dL_law_805 ?_
        obtain ⟨v315, e316, hf⟩ := obd hf
        refine o_scA dL_law_806 e316 ?_
        refine a_aload_n (q := 0) dL_law_807 rfl rfl ?_
        refine a_iload_n (q := 3) dL_law_808 rfl rfl ?_
        refine a_iconst (v := 2) dL_law_809 (by decide) ?_
        refine a_iadd dL_law_810 ?_
        obtain ⟨v317, e318, hf⟩ := obd hf
        refine o_scA dL_law_811 e318 ?_
        refine a_aload_n (q := 0) dL_law_812 rfl rfl ?_
        refine a_iload_n (q := 3) dL_law_813 rfl rfl ?_
        refine a_iconst (v := 3) dL_law_814 (by decide) ?_
        refine a_iadd dL_law_815 ?_
        obtain ⟨v319, e320, hf⟩ := obd hf
        refine o_scA dL_law_816 e320 ?_
        refine a_i2l dL_law_817 rfl ?_
        refine a_bipush (v := 32) dL_law_818 (by decide) ?_
        refine a_lshl dL_law_820 rfl ?_
        refine a_aload_n (q := 0) dL_law_821 rfl rfl ?_
        refine a_iload_n (q := 3) dL_law_822 rfl rfl ?_
        refine a_iconst (v := 4) dL_law_823 (by decide) ?_
        refine a_iadd dL_law_824 ?_
        obtain ⟨v321, e322, hf⟩ := obd hf
        refine o_scA dL_law_825 e322 ?_
        refine a_i2l dL_law_826 rfl ?_
        refine a_ldc2 (v := 4294967295) dL_law_827 wd_1842 ?_
        refine a_land dL_law_830 ?_
        refine a_lor dL_law_831 ?_
        obtain ⟨_, e326, hf⟩ := obd hf
        obtain ⟨v324, h325, e323, hf⟩ := ob2 hf
        refine a_callV (as := [.int v315, .int v317, .long (((v319.toInt64) <<< ((32 : Int32).toInt64 &&& 63)) ||| ((v321.toInt64) &&& 4294967295))]) (np := 3) (ci := 13) (st := [.int v312]) (sX14_set E (D - 1) (by omega) e323) dL_law_832 rfl (by omega) (by decide) cw_L_107 ⟨wd_1788, wd_1789⟩ rfl (ckT_s e326) rfl (Nat.le_of_ble_eq_true rfl) ?_
        refine a_icmp_eq (tgt := 1062) dL_law_835 (by decide) (fun c => ?_) (fun c => ?_)
        · have hf := ifp c hf
          refine a_iinc (q := 3) (v := (x3 + 6)) (lv1 := [(3, .int (x3 + 6)), (0, .ref 63), (1, .ref x1), (2, .ref x2)]) dL_law_1062 rfl (by rfl) (by decide) rfl ?_
          refine a_goto (tgt := 18) dL_law_1065 (by decide) ?_
          exact AW.sub [1, 2, 3, 0] rfl (ih _ _ _ _ _ _ hf hk0 hk1 hk2 hk3 hk4 hk5 hk6 hk7 hk8 hk9 hk10 hk11 hk12 hk13 hk14 hk15 hk16 hk17 hk18 hk19 hk20 hk21 hk22 hk23 hk24 hk25 hk26 hk27 hk28 hk29)
        · have hf := ifn c hf
          obtain ⟨rfl, rfl⟩ := oc2 hf
          exact AW.sub [] rfl (hk21 rfl)
      have hf := ifn c33_21 hf
      by_cases c33_22 : (v1 &&& 31) = 22
      · have hf := ifp c33_22 hf
        refine a_tblIn (k := 22) (off := 807) (tgt := 840) dL_law_33 c33_22 (by decide) (by decide) rfl (by decide) ?_
        refine a_aload_n (q := 1) dL_law_840 rfl rfl ?_
        refine a_aload_n (q := 0) dL_law_841 rfl rfl ?_
        refine a_iload_n (q := 3) dL_law_842 rfl rfl ?_
        refine a_iconst (v := 1) dL_law_843 (by decide) ?_
        refine a_iadd dL_law_844 ?_
        obtain ⟨v327, e328, hf⟩ := obd hf
        refine o_scA dL_law_845 e328 ?_
        refine a_aload_n (q := 0) dL_law_846 rfl rfl ?_
        refine a_iload_n (q := 3) dL_law_847 rfl rfl ?_
        refine a_iconst (v := 2) dL_law_848 (by decide) ?_
        refine a_iadd dL_law_849 ?_
        obtain ⟨v329, e330, hf⟩ := obd hf
        refine o_scA dL_law_850 e330 ?_
        obtain ⟨_, e334, hf⟩ := obd hf
        obtain ⟨v332, h333, e331, hf⟩ := ob2 hf
        refine a_callV (as := [.int v327, .int v329]) (np := 2) (ci := 12) (st := []) (sX13_get E (D - 1) (by omega) e331) dL_law_851 rfl (by omega) (by decide) cw_L_108 ⟨wd_1068, wd_1069⟩ rfl (ckT_s e334) rfl (Nat.le_of_ble_eq_true rfl) ?_
        refine a_aload_n (q := 2) dL_law_854 rfl rfl ?_
        refine a_aload_n (q := 0) dL_law_855 rfl rfl ?_
        refine a_iload_n (q := 3) dL_law_856 rfl rfl ?_
        refine a_iconst (v := 1) dL_law_857 (by decide) ?_
        refine a_iadd dL_law_858 ?_
        obtain ⟨v335, e336, hf⟩ := obd hf
        refine o_scA dL_law_859 e336 ?_
        refine a_aload_n (q := 0) dL_law_860 rfl rfl ?_
        refine a_iload_n (q := 3) dL_law_861 rfl rfl ?_
        refine a_iconst (v := 2) dL_law_862 (by decide) ?_
        refine a_iadd dL_law_863 ?_
        obtain ⟨v337, e338, hf⟩ := obd hf
        refine o_scA dL_law_864 e338 ?_
        obtain ⟨_, e342, hf⟩ := obd hf
        obtain ⟨v340, h341, e339, hf⟩ := ob2 hf
        refine a_callV (as := [.int v335, .int v337]) (np := 2) (ci := 13) (st := [.long v332]) (sX14_get E (D - 1) (by omega) e339) dL_law_865 rfl (by omega) (by decide) cw_L_112 ⟨wd_1800, wd_1801⟩ rfl (ckT_s e342) rfl (Nat.le_of_ble_eq_true rfl) ?_
        refine a_lcmp dL_law_868 ?_
        refine a_if_eq (tgt := 1062) dL_law_869 (by decide) (fun c => ?_) (fun c => ?_)
        · have hf := ifp c hf
          refine a_iinc (q := 3) (v := (x3 + 6)) (lv1 := [(3, .int (x3 + 6)), (0, .ref 63), (1, .ref x1), (2, .ref x2)]) dL_law_1062 rfl (by rfl) (by decide) rfl ?_
          refine a_goto (tgt := 18) dL_law_1065 (by decide) ?_
          exact AW.sub [1, 2, 3, 0] rfl (ih _ _ _ _ _ _ hf hk0 hk1 hk2 hk3 hk4 hk5 hk6 hk7 hk8 hk9 hk10 hk11 hk12 hk13 hk14 hk15 hk16 hk17 hk18 hk19 hk20 hk21 hk22 hk23 hk24 hk25 hk26 hk27 hk28 hk29)
        · have hf := ifn c hf
          obtain ⟨rfl, rfl⟩ := oc2 hf
          exact AW.sub [] rfl (hk22 rfl)
      have hf := ifn c33_22 hf
      by_cases c33_23 : (v1 &&& 31) = 23
      · have hf := ifp c33_23 hf
        refine a_tblIn (k := 23) (off := 841) (tgt := 874) dL_law_33 c33_23 (by decide) (by decide) rfl (by decide) ?_
        refine a_aload_n (q := 1) dL_law_874 rfl rfl ?_
        refine a_aload_n (q := 0) dL_law_875 rfl rfl ?_
        refine a_iload_n (q := 3) dL_law_876 rfl rfl ?_
        refine a_iconst (v := 1) dL_law_877 (by decide) ?_
        refine a_iadd dL_law_878 ?_
        obtain ⟨v343, e344, hf⟩ := obd hf
        refine o_scA dL_law_879 e344 ?_
        refine a_aload_n (q := 0) dL_law_880 rfl rfl ?_
        refine a_iload_n (q := 3) dL_law_881 rfl rfl ?_
        refine a_iconst (v := 2) dL_law_882 (by decide) ?_
        refine a_iadd dL_law_883 ?_
        obtain ⟨v345, e346, hf⟩ := obd hf
        refine o_scA dL_law_884 e346 ?_
        refine a_aload_n (q := 0) dL_law_885 rfl rfl ?_
        refine a_iload_n (q := 3) dL_law_886 rfl rfl ?_
        refine a_iconst (v := 3) dL_law_887 (by decide) ?_
        refine a_iadd dL_law_888 ?_
        obtain ⟨v347, e348, hf⟩ := obd hf
        refine o_scA dL_law_889 e348 ?_
        refine a_aload_n (q := 0) dL_law_890 rfl rfl ?_
        refine a_iload_n (q := 3) dL_law_891 rfl rfl ?_
        refine a_iconst (v := 4) dL_law_892 (by decide) ?_
        refine a_iadd dL_law_893 ?_
        obtain ⟨v349, e350, hf⟩ := obd hf
        refine o_scA dL_law_894 e350 ?_
        refine a_aload_n (q := 0) dL_law_895 rfl rfl ?_
        refine a_iload_n (q := 3) dL_law_896 rfl rfl ?_
        refine a_iconst (v := 5) dL_law_897 (by decide) ?_
        refine a_iadd dL_law_898 ?_
        obtain ⟨v351, e352, hf⟩ := obd hf
        refine o_scA dL_law_899 e352 ?_
        obtain ⟨_, e356, hf⟩ := obd hf
        obtain ⟨v354, h355, e353, hf⟩ := ob2 hf
        refine a_callV (as := [.int v343, .int v345, .int v347, .int v349, .int v351]) (np := 5) (ci := 12) (st := []) (sX13_move E (D - 1) (by omega) e353) dL_law_900 rfl (by omega) (by decide) cw_L_113 ⟨wd_1079, wd_1080⟩ rfl (ckT_s e356) rfl (Nat.le_of_ble_eq_true rfl) ?_
        refine a_aload_n (q := 2) dL_law_903 rfl rfl ?_
        refine a_aload_n (q := 0) dL_law_904 rfl rfl ?_
        refine a_iload_n (q := 3) dL_law_905 rfl rfl ?_
        refine a_iconst (v := 1) dL_law_906 (by decide) ?_
        refine a_iadd dL_law_907 ?_
        obtain ⟨v357, e358, hf⟩ := obd hf
        refine o_scA dL_law_908 e358 ?_
        refine a_aload_n (q := 0) dL_law_909 rfl rfl ?_
        refine a_iload_n (q := 3) dL_law_910 rfl rfl ?_
        refine a_iconst (v := 2) dL_law_911 (by decide) ?_
        refine a_iadd dL_law_912 ?_
        obtain ⟨v359, e360, hf⟩ := obd hf
        refine o_scA dL_law_913 e360 ?_
        refine a_aload_n (q := 0) dL_law_914 rfl rfl ?_
        refine a_iload_n (q := 3) dL_law_915 rfl rfl ?_
        refine a_iconst (v := 3) dL_law_916 (by decide) ?_
        refine a_iadd dL_law_917 ?_
        obtain ⟨v361, e362, hf⟩ := obd hf
        refine o_scA dL_law_918 e362 ?_
        refine a_aload_n (q := 0) dL_law_919 rfl rfl ?_
        refine a_iload_n (q := 3) dL_law_920 rfl rfl ?_
        refine a_iconst (v := 4) dL_law_921 (by decide) ?_
        refine a_iadd dL_law_922 ?_
        obtain ⟨v363, e364, hf⟩ := obd hf
        refine o_scA dL_law_923 e364 ?_
        refine a_aload_n (q := 0) dL_law_924 rfl rfl ?_
        refine a_iload_n (q := 3) dL_law_925 rfl rfl ?_
        refine a_iconst (v := 5) dL_law_926 (by decide) ?_
        refine a_iadd dL_law_927 ?_
        obtain ⟨v365, e366, hf⟩ := obd hf
        refine o_scA dL_law_928 e366 ?_
        obtain ⟨_, e370, hf⟩ := obd hf
        obtain ⟨v368, h369, e367, hf⟩ := ob2 hf
        refine a_callV (as := [.int v357, .int v359, .int v361, .int v363, .int v365]) (np := 5) (ci := 13) (st := [.int v354]) (sX14_move E (D - 1) (by omega) e367) dL_law_929 rfl (by omega) (by decide) cw_L_117 ⟨wd_1805, wd_1806⟩ rfl (ckT_s e370) rfl (Nat.le_of_ble_eq_true rfl) ?_
        refine a_icmp_eq (tgt := 1062) dL_law_932 (by decide) (fun c => ?_) (fun c => ?_)
        · have hf := ifp c hf
          refine a_iinc (q := 3) (v := (x3 + 6)) (lv1 := [(3, .int (x3 + 6)), (0, .ref 63), (1, .ref x1), (2, .ref x2)]) dL_law_1062 rfl (by rfl) (by decide) rfl ?_
          refine a_goto (tgt := 18) dL_law_1065 (by decide) ?_
          exact AW.sub [1, 2, 3, 0] rfl (ih _ _ _ _ _ _ hf hk0 hk1 hk2 hk3 hk4 hk5 hk6 hk7 hk8 hk9 hk10 hk11 hk12 hk13 hk14 hk15 hk16 hk17 hk18 hk19 hk20 hk21 hk22 hk23 hk24 hk25 hk26 hk27 hk28 hk29)
        · have hf := ifn c hf
          obtain ⟨rfl, rfl⟩ := oc2 hf
          exact AW.sub [] rfl (hk23 rfl)
      have hf := ifn c33_23 hf
      by_cases c33_24 : (v1 &&& 31) = 24
      · have hf := ifp c33_24 hf
        refine a_tblIn (k := 24) (off := 904) (tgt := 937) dL_law_33 c33_24 (by decide) (by decide) rfl (by decide) ?_
        refine a_aload_n (q := 1) dL_law_937 rfl rfl ?_
        refine a_aload_n (q := 0) dL_law_938 rfl rfl ?_
        refine a_iload_n (q := 3) dL_law_939 rfl rfl ?_
        refine a_iconst (v := 1) dL_law_940 (by decide) ?_
        refine a_iadd dL_law_941 ?_
        obtain ⟨v371, e372, hf⟩ := obd hf
        refine o_scA dL_law_942 e372 ?_
        refine a_aload_n (q := 0) dL_law_943 rfl rfl ?_
        refine a_iload_n (q := 3) dL_law_944 rfl rfl ?_
        refine a_iconst (v := 2) dL_law_945 (by decide) ?_
        refine a_iadd dL_law_946 ?_
        obtain ⟨v373, e374, hf⟩ := obd hf
        refine o_scA dL_law_947 e374 ?_
        obtain ⟨_, e378, hf⟩ := obd hf
        obtain ⟨v376, h377, e375, hf⟩ := ob2 hf
        refine a_callV (as := [.int v371, .int v373]) (np := 2) (ci := 12) (st := []) (sX13_twin E (D - 1) (by omega) e375) dL_law_948 rfl (by omega) (by decide) cw_L_118 ⟨wd_1093, wd_1094⟩ rfl (ckT_s e378) rfl (Nat.le_of_ble_eq_true rfl) ?_
        refine a_aload_n (q := 2) dL_law_951 rfl rfl ?_
        refine a_aload_n (q := 0) dL_law_952 rfl rfl ?_
        refine a_iload_n (q := 3) dL_law_953 rfl rfl ?_
        refine a_iconst (v := 1) dL_law_954 (by decide) ?_
        refine a_iadd dL_law_955 ?_
        obtain ⟨v379, e380, hf⟩ := obd hf
        refine o_scA dL_law_956 e380 ?_
        refine a_aload_n (q := 0) dL_law_957 rfl rfl ?_
        refine a_iload_n (q := 3) dL_law_958 rfl rfl ?_
        refine a_iconst (v := 2) dL_law_959 (by decide) ?_
        refine a_iadd dL_law_960 ?_
        obtain ⟨v381, e382, hf⟩ := obd hf
        refine o_scA dL_law_961 e382 ?_
        obtain ⟨_, e386, hf⟩ := obd hf
        obtain ⟨v384, h385, e383, hf⟩ := ob2 hf
        refine a_callV (as := [.int v379, .int v381]) (np := 2) (ci := 13) (st := [.int v376]) (sX14_twin E (D - 1) (by omega) e383) dL_law_962 rfl (by omega) (by decide) cw_L_121 ⟨wd_1813, wd_1814⟩ rfl (ckT_s e386) rfl (Nat.le_of_ble_eq_true rfl) ?_
        refine a_icmp_eq (tgt := 1062) dL_law_965 (by decide) (fun c => ?_) (fun c => ?_)
        · have hf := ifp c hf
          refine a_iinc (q := 3) (v := (x3 + 6)) (lv1 := [(3, .int (x3 + 6)), (0, .ref 63), (1, .ref x1), (2, .ref x2)]) dL_law_1062 rfl (by rfl) (by decide) rfl ?_
          refine a_goto (tgt := 18) dL_law_1065 (by decide) ?_
          exact AW.sub [1, 2, 3, 0] rfl (ih _ _ _ _ _ _ hf hk0 hk1 hk2 hk3 hk4 hk5 hk6 hk7 hk8 hk9 hk10 hk11 hk12 hk13 hk14 hk15 hk16 hk17 hk18 hk19 hk20 hk21 hk22 hk23 hk24 hk25 hk26 hk27 hk28 hk29)
        · have hf := ifn c hf
          obtain ⟨rfl, rfl⟩ := oc2 hf
          exact AW.sub [] rfl (hk24 rfl)
      have hf := ifn c33_24 hf
      by_cases c33_25 : (v1 &&& 31) = 25
      · have hf := ifp c33_25 hf
        refine a_tblIn (k := 25) (off := 937) (tgt := 970) dL_law_33 c33_25 (by decide) (by decide) rfl (by decide) ?_
        refine a_aload_n (q := 1) dL_law_970 rfl rfl ?_
        refine a_aload_n (q := 0) dL_law_971 rfl rfl ?_
        refine a_iload_n (q := 3) dL_law_972 rfl rfl ?_
        refine a_iconst (v := 1) dL_law_973 (by decide) ?_
        refine a_iadd dL_law_974 ?_
        obtain ⟨v387, e388, hf⟩ := obd hf
        refine o_scA dL_law_975 e388 ?_
        refine a_aload_n (q := 0) dL_law_976 rfl rfl ?_
        refine a_iload_n (q := 3) dL_law_977 rfl rfl ?_
        refine a_iconst (v := 2) dL_law_978 (by decide) ?_
        refine a_iadd dL_law_979 ?_
        obtain ⟨v389, e390, hf⟩ := obd hf
        refine o_scA dL_law_980 e390 ?_
        obtain ⟨_, e394, hf⟩ := obd hf
        obtain ⟨v392, h393, e391, hf⟩ := ob2 hf
        refine a_callV (as := [.int v387, .int v389]) (np := 2) (ci := 12) (st := []) (sX13_lay E (D - 1) (by omega) e391) dL_law_981 rfl (by omega) (by decide) cw_L_122 ⟨wd_1097, wd_1098⟩ rfl (ckT_s e394) rfl (Nat.le_of_ble_eq_true rfl) ?_
        refine a_aload_n (q := 2) dL_law_984 rfl rfl ?_
        refine a_aload_n (q := 0) dL_law_985 rfl rfl ?_
        refine a_iload_n (q := 3) dL_law_986 rfl rfl ?_
        refine a_iconst (v := 1) dL_law_987 (by decide) ?_
        refine a_iadd dL_law_988 ?_
        obtain ⟨v395, e396, hf⟩ := obd hf
        refine o_scA dL_law_989 e396 ?_
        refine a_aload_n (q := 0) dL_law_990 rfl rfl ?_
        refine a_iload_n (q := 3) dL_law_991 rfl rfl ?_
        refine a_iconst (v := 2) dL_law_992 (by decide) ?_
        refine a_iadd dL_law_993 ?_
        obtain ⟨v397, e398, hf⟩ := obd hf
        refine o_scA dL_law_994 e398 ?_
        obtain ⟨_, e402, hf⟩ := obd hf
        obtain ⟨v400, h401, e399, hf⟩ := ob2 hf
        refine a_callV (as := [.int v395, .int v397]) (np := 2) (ci := 13) (st := [.int v392]) (sX14_lay E (D - 1) (by omega) e399) dL_law_995 rfl (by omega) (by decide) cw_L_125 ⟨wd_1817, wd_1818⟩ rfl (ckT_s e402) rfl (Nat.le_of_ble_eq_true rfl) ?_
        refine a_icmp_eq (tgt := 1062) dL_law_998 (by decide) (fun c => ?_) (fun c => ?_)
        · have hf := ifp c hf
          refine a_iinc (q := 3) (v := (x3 + 6)) (lv1 := [(3, .int (x3 + 6)), (0, .ref 63), (1, .ref x1), (2, .ref x2)]) dL_law_1062 rfl (by rfl) (by decide) rfl ?_
          refine a_goto (tgt := 18) dL_law_1065 (by decide) ?_
          exact AW.sub [1, 2, 3, 0] rfl (ih _ _ _ _ _ _ hf hk0 hk1 hk2 hk3 hk4 hk5 hk6 hk7 hk8 hk9 hk10 hk11 hk12 hk13 hk14 hk15 hk16 hk17 hk18 hk19 hk20 hk21 hk22 hk23 hk24 hk25 hk26 hk27 hk28 hk29)
        · have hf := ifn c hf
          obtain ⟨rfl, rfl⟩ := oc2 hf
          exact AW.sub [] rfl (hk25 rfl)
      have hf := ifn c33_25 hf
      by_cases c33_26 : (v1 &&& 31) = 26
      · have hf := ifp c33_26 hf
        refine a_tblIn (k := 26) (off := 970) (tgt := 1003) dL_law_33 c33_26 (by decide) (by decide) rfl (by decide) ?_
        refine a_aload_n (q := 1) dL_law_1003 rfl rfl ?_
        refine a_aload_n (q := 0) dL_law_1004 rfl rfl ?_
        refine a_iload_n (q := 3) dL_law_1005 rfl rfl ?_
        refine a_iconst (v := 1) dL_law_1006 (by decide) ?_
        refine a_iadd dL_law_1007 ?_
        obtain ⟨v403, e404, hf⟩ := obd hf
        refine o_scA dL_law_1008 e404 ?_
        refine a_aload_n (q := 0) dL_law_1009 rfl rfl ?_
        refine a_iload_n (q := 3) dL_law_1010 rfl rfl ?_
        refine a_iconst (v := 2) dL_law_1011 (by decide) ?_
        refine a_iadd dL_law_1012 ?_
        obtain ⟨v405, e406, hf⟩ := obd hf
        refine o_scA dL_law_1013 e406 ?_
        obtain ⟨_, e410, hf⟩ := obd hf
        obtain ⟨v408, h409, e407, hf⟩ := ob2 hf
        refine a_callV (as := [.int v403, .int v405]) (np := 2) (ci := 12) (st := []) (sX13_judge E (D - 1) (by omega) e407) dL_law_1014 rfl (by omega) (by decide) cw_L_126 ⟨wd_1101, wd_1102⟩ rfl (ckT_s e410) rfl (Nat.le_of_ble_eq_true rfl) ?_
        refine a_aload_n (q := 2) dL_law_1017 rfl rfl ?_
        refine a_aload_n (q := 0) dL_law_1018 rfl rfl ?_
        refine a_iload_n (q := 3) dL_law_1019 rfl rfl ?_
        refine a_iconst (v := 1) dL_law_1020 (by decide) ?_
        refine a_iadd dL_law_1021 ?_
        obtain ⟨v411, e412, hf⟩ := obd hf
        refine o_scA dL_law_1022 e412 ?_
        refine a_aload_n (q := 0) dL_law_1023 rfl rfl ?_
        refine a_iload_n (q := 3) dL_law_1024 rfl rfl ?_
        refine a_iconst (v := 2) dL_law_1025 (by decide) ?_
        refine a_iadd dL_law_1026 ?_
        obtain ⟨v413, e414, hf⟩ := obd hf
        refine o_scA dL_law_1027 e414 ?_
        obtain ⟨_, e418, hf⟩ := obd hf
        obtain ⟨v416, h417, e415, hf⟩ := ob2 hf
        refine a_callV (as := [.int v411, .int v413]) (np := 2) (ci := 13) (st := [.int v408]) (sX14_judge E (D - 1) (by omega) e415) dL_law_1028 rfl (by omega) (by decide) cw_L_129 ⟨wd_1821, wd_1822⟩ rfl (ckT_s e418) rfl (Nat.le_of_ble_eq_true rfl) ?_
        refine a_icmp_eq (tgt := 1062) dL_law_1031 (by decide) (fun c => ?_) (fun c => ?_)
        · have hf := ifp c hf
          refine a_iinc (q := 3) (v := (x3 + 6)) (lv1 := [(3, .int (x3 + 6)), (0, .ref 63), (1, .ref x1), (2, .ref x2)]) dL_law_1062 rfl (by rfl) (by decide) rfl ?_
          refine a_goto (tgt := 18) dL_law_1065 (by decide) ?_
          exact AW.sub [1, 2, 3, 0] rfl (ih _ _ _ _ _ _ hf hk0 hk1 hk2 hk3 hk4 hk5 hk6 hk7 hk8 hk9 hk10 hk11 hk12 hk13 hk14 hk15 hk16 hk17 hk18 hk19 hk20 hk21 hk22 hk23 hk24 hk25 hk26 hk27 hk28 hk29)
        · have hf := ifn c hf
          obtain ⟨rfl, rfl⟩ := oc2 hf
          exact AW.sub [] rfl (hk26 rfl)
      have hf := ifn c33_26 hf
      by_cases c33_27 : (v1 &&& 31) = 27
      · have hf := ifp c33_27 hf
        refine a_tblIn (k := 27) (off := 1003) (tgt := 1036) dL_law_33 c33_27 (by decide) (by decide) rfl (by decide) ?_
        refine a_aload_n (q := 1) dL_law_1036 rfl rfl ?_
        obtain ⟨_, e422, hf⟩ := obd hf
        obtain ⟨v420, h421, e419, hf⟩ := ob2 hf
        refine a_callV (as := []) (np := 0) (ci := 12) (st := []) (sX13_image E (D - 1) (by omega) e419) dL_law_1037 rfl (by omega) (by decide) cw_L_130 ⟨wd_1109, wd_1110⟩ rfl (ckT_s e422) rfl (Nat.le_of_ble_eq_true rfl) ?_
        refine a_aload_n (q := 2) dL_law_1040 rfl rfl ?_
        obtain ⟨_, e426, hf⟩ := obd hf
        obtain ⟨v424, h425, e423, hf⟩ := ob2 hf
        refine a_callV (as := []) (np := 0) (ci := 13) (st := [.int v420]) (sX14_image E (D - 1) (by omega) e423) dL_law_1041 rfl (by omega) (by decide) cw_L_133 ⟨wd_1829, wd_1830⟩ rfl (ckT_s e426) rfl (Nat.le_of_ble_eq_true rfl) ?_
        refine a_icmp_eq (tgt := 1062) dL_law_1044 (by decide) (fun c => ?_) (fun c => ?_)
        · have hf := ifp c hf
          refine a_iinc (q := 3) (v := (x3 + 6)) (lv1 := [(3, .int (x3 + 6)), (0, .ref 63), (1, .ref x1), (2, .ref x2)]) dL_law_1062 rfl (by rfl) (by decide) rfl ?_
          refine a_goto (tgt := 18) dL_law_1065 (by decide) ?_
          exact AW.sub [1, 2, 3, 0] rfl (ih _ _ _ _ _ _ hf hk0 hk1 hk2 hk3 hk4 hk5 hk6 hk7 hk8 hk9 hk10 hk11 hk12 hk13 hk14 hk15 hk16 hk17 hk18 hk19 hk20 hk21 hk22 hk23 hk24 hk25 hk26 hk27 hk28 hk29)
        · have hf := ifn c hf
          obtain ⟨rfl, rfl⟩ := oc2 hf
          exact AW.sub [] rfl (hk27 rfl)
      have hf := ifn c33_27 hf
      by_cases c33_28 : (v1 &&& 31) = 28
      · have hf := ifp c33_28 hf
        refine a_tblIn (k := 28) (off := 1016) (tgt := 1049) dL_law_33 c33_28 (by decide) (by decide) rfl (by decide) ?_
        refine a_aload_n (q := 1) dL_law_1049 rfl rfl ?_
        obtain ⟨_, e430, hf⟩ := obd hf
        obtain ⟨v428, h429, e427, hf⟩ := ob2 hf
        refine a_callV (as := []) (np := 0) (ci := 12) (st := []) (sX13_undo E (D - 1) (by omega) e427) dL_law_1050 rfl (by omega) (by decide) cw_L_134 ⟨wd_1119, wd_1120⟩ rfl (ckT_s e430) rfl (Nat.le_of_ble_eq_true rfl) ?_
        refine a_aload_n (q := 2) dL_law_1053 rfl rfl ?_
        obtain ⟨_, e434, hf⟩ := obd hf
        obtain ⟨v432, h433, e431, hf⟩ := ob2 hf
        refine a_callV (as := []) (np := 0) (ci := 13) (st := [.int v428]) (sX14_undo E (D - 1) (by omega) e431) dL_law_1054 rfl (by omega) (by decide) cw_L_137 ⟨wd_1839, wd_1840⟩ rfl (ckT_s e434) rfl (Nat.le_of_ble_eq_true rfl) ?_
        refine a_icmp_eq (tgt := 1062) dL_law_1057 (by decide) (fun c => ?_) (fun c => ?_)
        · have hf := ifp c hf
          refine a_iinc (q := 3) (v := (x3 + 6)) (lv1 := [(3, .int (x3 + 6)), (0, .ref 63), (1, .ref x1), (2, .ref x2)]) dL_law_1062 rfl (by rfl) (by decide) rfl ?_
          refine a_goto (tgt := 18) dL_law_1065 (by decide) ?_
          exact AW.sub [1, 2, 3, 0] rfl (ih _ _ _ _ _ _ hf hk0 hk1 hk2 hk3 hk4 hk5 hk6 hk7 hk8 hk9 hk10 hk11 hk12 hk13 hk14 hk15 hk16 hk17 hk18 hk19 hk20 hk21 hk22 hk23 hk24 hk25 hk26 hk27 hk28 hk29)
        · have hf := ifn c hf
          obtain ⟨rfl, rfl⟩ := oc2 hf
          exact AW.sub [] rfl (hk28 rfl)
      have hf := ifn c33_28 hf
      have t33_0 := lv_neT (a := 0) c33_0 rfl
      have t33_1 := lv_neT (a := 1) c33_1 rfl
      have t33_2 := lv_neT (a := 2) c33_2 rfl
      have t33_3 := lv_neT (a := 3) c33_3 rfl
      have t33_4 := lv_neT (a := 4) c33_4 rfl
      have t33_5 := lv_neT (a := 5) c33_5 rfl
      have t33_6 := lv_neT (a := 6) c33_6 rfl
      have t33_7 := lv_neT (a := 7) c33_7 rfl
      have t33_8 := lv_neT (a := 8) c33_8 rfl
      have t33_9 := lv_neT (a := 9) c33_9 rfl
      have t33_10 := lv_neT (a := 10) c33_10 rfl
      have t33_11 := lv_neT (a := 11) c33_11 rfl
      have t33_12 := lv_neT (a := 12) c33_12 rfl
      have t33_13 := lv_neT (a := 13) c33_13 rfl
      have t33_14 := lv_neT (a := 14) c33_14 rfl
      have t33_15 := lv_neT (a := 15) c33_15 rfl
      have t33_16 := lv_neT (a := 16) c33_16 rfl
      have t33_17 := lv_neT (a := 17) c33_17 rfl
      have t33_18 := lv_neT (a := 18) c33_18 rfl
      have t33_19 := lv_neT (a := 19) c33_19 rfl
      have t33_20 := lv_neT (a := 20) c33_20 rfl
      have t33_21 := lv_neT (a := 21) c33_21 rfl
      have t33_22 := lv_neT (a := 22) c33_22 rfl
      have t33_23 := lv_neT (a := 23) c33_23 rfl
      have t33_24 := lv_neT (a := 24) c33_24 rfl
      have t33_25 := lv_neT (a := 25) c33_25 rfl
      have t33_26 := lv_neT (a := 26) c33_26 rfl
      have t33_27 := lv_neT (a := 27) c33_27 rfl
      have t33_28 := lv_neT (a := 28) c33_28 rfl
      refine a_tblOut (tgt := 1062) dL_law_33 (by omega) (by decide) ?_
      refine a_iinc (q := 3) (v := (x3 + 6)) (lv1 := [(3, .int (x3 + 6)), (0, .ref 63), (1, .ref x1), (2, .ref x2)]) dL_law_1062 rfl (by rfl) (by decide) rfl ?_
      refine a_goto (tgt := 18) dL_law_1065 (by decide) ?_
      exact AW.sub [1, 2, 3, 0] rfl (ih _ _ _ _ _ _ hf hk0 hk1 hk2 hk3 hk4 hk5 hk6 hk7 hk8 hk9 hk10 hk11 hk12 hk13 hk14 hk15 hk16 hk17 hk18 hk19 hk20 hk21 hk22 hk23 hk24 hk25 hk26 hk27 hk28 hk29)
set_option maxHeartbeats 4000000 in
set_option maxRecDepth 100000 in
theorem sL_law (E : gE) (D : Nat) (hD : 411 ≤ D) {nm : String} {h hz : hp} {v0 : Int32} (hf : fL_law E.2.2.2.2.2 E.2.2.2.2.1 h = some (v0, hz)) : AW E (yLn nm) cL_law (Option.some Jvm.ClassFile.FieldType.boolean : Option Jvm.ClassFile.FieldType) 4 D (some (.int v0)) h hz 0 [(0, .ref 63)] [] h := by
  unfold fL_law at hf
  obtain ⟨v1, h2, e3, hf⟩ := ob2 hf
  refine o_nwO (ci := 12) dL_law_0 rfl rfl gu_12 tyX13_ok (by decide) wd_26 wd_27 wd_1 e3 ?_
  refine a_dup dL_law_3 rfl ?_
  obtain ⟨_, e6, hf⟩ := obd hf
  obtain ⟨h5, e4, hf⟩ := obd hf
  refine a_callI (as := []) (np := 0) (ci := 12) (st := [.ref v1]) (sX13_init E (D - 1) (by omega) e4) dL_law_4 rfl (by omega) (by decide) cw_L_9 ⟨wd_29, rfl⟩ rfl (ckT_s e6) rfl (Nat.le_of_ble_eq_true rfl) ?_
  refine a_astore_n (lv1 := [(1, .ref v1), (0, .ref 63)]) dL_law_7 rfl (by decide) rfl ?_
  obtain ⟨v7, h8, e9, hf⟩ := ob2 hf
  refine o_nwO (ci := 13) dL_law_8 rfl rfl gu_13 tyX14_ok (by decide) wd_1122 wd_1123 wd_8 e9 ?_
  refine a_dup dL_law_11 rfl ?_
  obtain ⟨_, e12, hf⟩ := obd hf
  obtain ⟨h11, e10, hf⟩ := obd hf
  refine a_callI (as := []) (np := 0) (ci := 13) (st := [.ref v7]) (sX14_init E (D - 1) (by omega) e10) dL_law_12 rfl (by omega) (by decide) cw_L_12 ⟨wd_1125, rfl⟩ rfl (ckT_s e12) rfl (Nat.le_of_ble_eq_true rfl) ?_
  refine a_astore_n (lv1 := [(2, .ref v7), (1, .ref v1), (0, .ref 63)]) dL_law_15 rfl (by decide) rfl ?_
  refine a_iconst (v := 0) dL_law_16 (by decide) ?_
  refine a_istore_n (lv1 := [(3, .int 0), (2, .ref v7), (1, .ref v1), (0, .ref 63)]) dL_law_17 rfl (by decide) rfl ?_
  obtain ⟨t15, h14, e13, hf⟩ := ob2 hf
  refine AW.sub [3, 2, 1, 0] rfl (sL_law_l18 E D hD _ _ _ _ _ _ _ e13 (fun c => ?_) (fun c => ?_) (fun c => ?_) (fun c => ?_) (fun c => ?_) (fun c => ?_) (fun c => ?_) (fun c => ?_) (fun c => ?_) (fun c => ?_) (fun c => ?_) (fun c => ?_) (fun c => ?_) (fun c => ?_) (fun c => ?_) (fun c => ?_) (fun c => ?_) (fun c => ?_) (fun c => ?_) (fun c => ?_) (fun c => ?_) (fun c => ?_) (fun c => ?_) (fun c => ?_) (fun c => ?_) (fun c => ?_) (fun c => ?_) (fun c => ?_) (fun c => ?_) (fun c => ?_))
  · have hf := ifp c hf
    refine a_iconst (v := 0) dL_law_185 (by decide) ?_
    obtain ⟨rfl, rfl⟩ := oc2 hf
    exact a_zreturn dL_law_186 rfl (by decide)
  · have hf := ifn (by rw [c]; decide) hf
    have hf := ifp c hf
    refine a_iconst (v := 0) dL_law_218 (by decide) ?_
    obtain ⟨rfl, rfl⟩ := oc2 hf
    exact a_zreturn dL_law_219 rfl (by decide)
  · have hf := ifn (by rw [c]; decide) hf
    have hf := ifn (by rw [c]; decide) hf
    have hf := ifp c hf
    refine a_iconst (v := 0) dL_law_261 (by decide) ?_
    obtain ⟨rfl, rfl⟩ := oc2 hf
    exact a_zreturn dL_law_262 rfl (by decide)
  · have hf := ifn (by rw [c]; decide) hf
    have hf := ifn (by rw [c]; decide) hf
    have hf := ifn (by rw [c]; decide) hf
    have hf := ifp c hf
    refine a_iconst (v := 0) dL_law_284 (by decide) ?_
    obtain ⟨rfl, rfl⟩ := oc2 hf
    exact a_zreturn dL_law_285 rfl (by decide)
  · have hf := ifn (by rw [c]; decide) hf
    have hf := ifn (by rw [c]; decide) hf
    have hf := ifn (by rw [c]; decide) hf
    have hf := ifn (by rw [c]; decide) hf
    have hf := ifp c hf
    refine a_iconst (v := 0) dL_law_317 (by decide) ?_
    obtain ⟨rfl, rfl⟩ := oc2 hf
    exact a_zreturn dL_law_318 rfl (by decide)
  · have hf := ifn (by rw [c]; decide) hf
    have hf := ifn (by rw [c]; decide) hf
    have hf := ifn (by rw [c]; decide) hf
    have hf := ifn (by rw [c]; decide) hf
    have hf := ifn (by rw [c]; decide) hf
    have hf := ifp c hf
    refine a_iconst (v := 0) dL_law_360 (by decide) ?_
    obtain ⟨rfl, rfl⟩ := oc2 hf
    exact a_zreturn dL_law_361 rfl (by decide)
  · have hf := ifn (by rw [c]; decide) hf
    have hf := ifn (by rw [c]; decide) hf
    have hf := ifn (by rw [c]; decide) hf
    have hf := ifn (by rw [c]; decide) hf
    have hf := ifn (by rw [c]; decide) hf
    have hf := ifn (by rw [c]; decide) hf
    have hf := ifp c hf
    refine a_iconst (v := 0) dL_law_393 (by decide) ?_
    obtain ⟨rfl, rfl⟩ := oc2 hf
    exact a_zreturn dL_law_394 rfl (by decide)
  · have hf := ifn (by rw [c]; decide) hf
    have hf := ifn (by rw [c]; decide) hf
    have hf := ifn (by rw [c]; decide) hf
    have hf := ifn (by rw [c]; decide) hf
    have hf := ifn (by rw [c]; decide) hf
    have hf := ifn (by rw [c]; decide) hf
    have hf := ifn (by rw [c]; decide) hf
    have hf := ifp c hf
    refine a_iconst (v := 0) dL_law_426 (by decide) ?_
    obtain ⟨rfl, rfl⟩ := oc2 hf
    exact a_zreturn dL_law_427 rfl (by decide)
  · have hf := ifn (by rw [c]; decide) hf
    have hf := ifn (by rw [c]; decide) hf
    have hf := ifn (by rw [c]; decide) hf
    have hf := ifn (by rw [c]; decide) hf
    have hf := ifn (by rw [c]; decide) hf
    have hf := ifn (by rw [c]; decide) hf
    have hf := ifn (by rw [c]; decide) hf
    have hf := ifn (by rw [c]; decide) hf
    have hf := ifp c hf
    refine a_iconst (v := 0) dL_law_449 (by decide) ?_
    obtain ⟨rfl, rfl⟩ := oc2 hf
    exact a_zreturn dL_law_450 rfl (by decide)
  · have hf := ifn (by rw [c]; decide) hf
    have hf := ifn (by rw [c]; decide) hf
    have hf := ifn (by rw [c]; decide) hf
    have hf := ifn (by rw [c]; decide) hf
    have hf := ifn (by rw [c]; decide) hf
    have hf := ifn (by rw [c]; decide) hf
    have hf := ifn (by rw [c]; decide) hf
    have hf := ifn (by rw [c]; decide) hf
    have hf := ifn (by rw [c]; decide) hf
    have hf := ifp c hf
    refine a_iconst (v := 0) dL_law_462 (by decide) ?_
    obtain ⟨rfl, rfl⟩ := oc2 hf
    exact a_zreturn dL_law_463 rfl (by decide)
  · have hf := ifn (by rw [c]; decide) hf
    have hf := ifn (by rw [c]; decide) hf
    have hf := ifn (by rw [c]; decide) hf
    have hf := ifn (by rw [c]; decide) hf
    have hf := ifn (by rw [c]; decide) hf
    have hf := ifn (by rw [c]; decide) hf
    have hf := ifn (by rw [c]; decide) hf
    have hf := ifn (by rw [c]; decide) hf
    have hf := ifn (by rw [c]; decide) hf
    have hf := ifn (by rw [c]; decide) hf
    have hf := ifp c hf
    refine a_iconst (v := 0) dL_law_485 (by decide) ?_
    obtain ⟨rfl, rfl⟩ := oc2 hf
    exact a_zreturn dL_law_486 rfl (by decide)
  · have hf := ifn (by rw [c]; decide) hf
    have hf := ifn (by rw [c]; decide) hf
    have hf := ifn (by rw [c]; decide) hf
    have hf := ifn (by rw [c]; decide) hf
    have hf := ifn (by rw [c]; decide) hf
    have hf := ifn (by rw [c]; decide) hf
    have hf := ifn (by rw [c]; decide) hf
    have hf := ifn (by rw [c]; decide) hf
    have hf := ifn (by rw [c]; decide) hf
    have hf := ifn (by rw [c]; decide) hf
    have hf := ifn (by rw [c]; decide) hf
    have hf := ifp c hf
    refine a_iconst (v := 0) dL_law_508 (by decide) ?_
    obtain ⟨rfl, rfl⟩ := oc2 hf
    exact a_zreturn dL_law_509 rfl (by decide)
  · have hf := ifn (by rw [c]; decide) hf
    have hf := ifn (by rw [c]; decide) hf
    have hf := ifn (by rw [c]; decide) hf
    have hf := ifn (by rw [c]; decide) hf
    have hf := ifn (by rw [c]; decide) hf
    have hf := ifn (by rw [c]; decide) hf
    have hf := ifn (by rw [c]; decide) hf
    have hf := ifn (by rw [c]; decide) hf
    have hf := ifn (by rw [c]; decide) hf
    have hf := ifn (by rw [c]; decide) hf
    have hf := ifn (by rw [c]; decide) hf
    have hf := ifn (by rw [c]; decide) hf
    have hf := ifp c hf
    refine a_iconst (v := 0) dL_law_541 (by decide) ?_
    obtain ⟨rfl, rfl⟩ := oc2 hf
    exact a_zreturn dL_law_542 rfl (by decide)
  · have hf := ifn (by rw [c]; decide) hf
    have hf := ifn (by rw [c]; decide) hf
    have hf := ifn (by rw [c]; decide) hf
    have hf := ifn (by rw [c]; decide) hf
    have hf := ifn (by rw [c]; decide) hf
    have hf := ifn (by rw [c]; decide) hf
    have hf := ifn (by rw [c]; decide) hf
    have hf := ifn (by rw [c]; decide) hf
    have hf := ifn (by rw [c]; decide) hf
    have hf := ifn (by rw [c]; decide) hf
    have hf := ifn (by rw [c]; decide) hf
    have hf := ifn (by rw [c]; decide) hf
    have hf := ifn (by rw [c]; decide) hf
    have hf := ifp c hf
    refine a_iconst (v := 0) dL_law_574 (by decide) ?_
    obtain ⟨rfl, rfl⟩ := oc2 hf
    exact a_zreturn dL_law_575 rfl (by decide)
  · have hf := ifn (by rw [c]; decide) hf
    have hf := ifn (by rw [c]; decide) hf
    have hf := ifn (by rw [c]; decide) hf
    have hf := ifn (by rw [c]; decide) hf
    have hf := ifn (by rw [c]; decide) hf
    have hf := ifn (by rw [c]; decide) hf
    have hf := ifn (by rw [c]; decide) hf
    have hf := ifn (by rw [c]; decide) hf
    have hf := ifn (by rw [c]; decide) hf
    have hf := ifn (by rw [c]; decide) hf
    have hf := ifn (by rw [c]; decide) hf
    have hf := ifn (by rw [c]; decide) hf
    have hf := ifn (by rw [c]; decide) hf
    have hf := ifn (by rw [c]; decide) hf
    have hf := ifp c hf
    refine a_iconst (v := 0) dL_law_597 (by decide) ?_
    obtain ⟨rfl, rfl⟩ := oc2 hf
    exact a_zreturn dL_law_598 rfl (by decide)
  · have hf := ifn (by rw [c]; decide) hf
    have hf := ifn (by rw [c]; decide) hf
    have hf := ifn (by rw [c]; decide) hf
    have hf := ifn (by rw [c]; decide) hf
    have hf := ifn (by rw [c]; decide) hf
    have hf := ifn (by rw [c]; decide) hf
    have hf := ifn (by rw [c]; decide) hf
    have hf := ifn (by rw [c]; decide) hf
    have hf := ifn (by rw [c]; decide) hf
    have hf := ifn (by rw [c]; decide) hf
    have hf := ifn (by rw [c]; decide) hf
    have hf := ifn (by rw [c]; decide) hf
    have hf := ifn (by rw [c]; decide) hf
    have hf := ifn (by rw [c]; decide) hf
    have hf := ifn (by rw [c]; decide) hf
    have hf := ifp c hf
    refine a_iconst (v := 0) dL_law_620 (by decide) ?_
    obtain ⟨rfl, rfl⟩ := oc2 hf
    exact a_zreturn dL_law_621 rfl (by decide)
  · have hf := ifn (by rw [c]; decide) hf
    have hf := ifn (by rw [c]; decide) hf
    have hf := ifn (by rw [c]; decide) hf
    have hf := ifn (by rw [c]; decide) hf
    have hf := ifn (by rw [c]; decide) hf
    have hf := ifn (by rw [c]; decide) hf
    have hf := ifn (by rw [c]; decide) hf
    have hf := ifn (by rw [c]; decide) hf
    have hf := ifn (by rw [c]; decide) hf
    have hf := ifn (by rw [c]; decide) hf
    have hf := ifn (by rw [c]; decide) hf
    have hf := ifn (by rw [c]; decide) hf
    have hf := ifn (by rw [c]; decide) hf
    have hf := ifn (by rw [c]; decide) hf
    have hf := ifn (by rw [c]; decide) hf
    have hf := ifn (by rw [c]; decide) hf
    have hf := ifp c hf
    refine a_iconst (v := 0) dL_law_643 (by decide) ?_
    obtain ⟨rfl, rfl⟩ := oc2 hf
    exact a_zreturn dL_law_644 rfl (by decide)
  · have hf := ifn (by rw [c]; decide) hf
    have hf := ifn (by rw [c]; decide) hf
    have hf := ifn (by rw [c]; decide) hf
    have hf := ifn (by rw [c]; decide) hf
    have hf := ifn (by rw [c]; decide) hf
    have hf := ifn (by rw [c]; decide) hf
    have hf := ifn (by rw [c]; decide) hf
    have hf := ifn (by rw [c]; decide) hf
    have hf := ifn (by rw [c]; decide) hf
    have hf := ifn (by rw [c]; decide) hf
    have hf := ifn (by rw [c]; decide) hf
    have hf := ifn (by rw [c]; decide) hf
    have hf := ifn (by rw [c]; decide) hf
    have hf := ifn (by rw [c]; decide) hf
    have hf := ifn (by rw [c]; decide) hf
    have hf := ifn (by rw [c]; decide) hf
    have hf := ifn (by rw [c]; decide) hf
    have hf := ifp c hf
    refine a_iconst (v := 0) dL_law_676 (by decide) ?_
    obtain ⟨rfl, rfl⟩ := oc2 hf
    exact a_zreturn dL_law_677 rfl (by decide)
  · have hf := ifn (by rw [c]; decide) hf
    have hf := ifn (by rw [c]; decide) hf
    have hf := ifn (by rw [c]; decide) hf
    have hf := ifn (by rw [c]; decide) hf
    have hf := ifn (by rw [c]; decide) hf
    have hf := ifn (by rw [c]; decide) hf
    have hf := ifn (by rw [c]; decide) hf
    have hf := ifn (by rw [c]; decide) hf
    have hf := ifn (by rw [c]; decide) hf
    have hf := ifn (by rw [c]; decide) hf
    have hf := ifn (by rw [c]; decide) hf
    have hf := ifn (by rw [c]; decide) hf
    have hf := ifn (by rw [c]; decide) hf
    have hf := ifn (by rw [c]; decide) hf
    have hf := ifn (by rw [c]; decide) hf
    have hf := ifn (by rw [c]; decide) hf
    have hf := ifn (by rw [c]; decide) hf
    have hf := ifn (by rw [c]; decide) hf
    have hf := ifp c hf
    refine a_iconst (v := 0) dL_law_699 (by decide) ?_
    obtain ⟨rfl, rfl⟩ := oc2 hf
    exact a_zreturn dL_law_700 rfl (by decide)
  · have hf := ifn (by rw [c]; decide) hf
    have hf := ifn (by rw [c]; decide) hf
    have hf := ifn (by rw [c]; decide) hf
    have hf := ifn (by rw [c]; decide) hf
    have hf := ifn (by rw [c]; decide) hf
    have hf := ifn (by rw [c]; decide) hf
    have hf := ifn (by rw [c]; decide) hf
    have hf := ifn (by rw [c]; decide) hf
    have hf := ifn (by rw [c]; decide) hf
    have hf := ifn (by rw [c]; decide) hf
    have hf := ifn (by rw [c]; decide) hf
    have hf := ifn (by rw [c]; decide) hf
    have hf := ifn (by rw [c]; decide) hf
    have hf := ifn (by rw [c]; decide) hf
    have hf := ifn (by rw [c]; decide) hf
    have hf := ifn (by rw [c]; decide) hf
    have hf := ifn (by rw [c]; decide) hf
    have hf := ifn (by rw [c]; decide) hf
    have hf := ifn (by rw [c]; decide) hf
    have hf := ifp c hf
    refine a_iconst (v := 0) dL_law_722 (by decide) ?_
    obtain ⟨rfl, rfl⟩ := oc2 hf
    exact a_zreturn dL_law_723 rfl (by decide)
  · have hf := ifn (by rw [c]; decide) hf
    have hf := ifn (by rw [c]; decide) hf
    have hf := ifn (by rw [c]; decide) hf
    have hf := ifn (by rw [c]; decide) hf
    have hf := ifn (by rw [c]; decide) hf
    have hf := ifn (by rw [c]; decide) hf
    have hf := ifn (by rw [c]; decide) hf
    have hf := ifn (by rw [c]; decide) hf
    have hf := ifn (by rw [c]; decide) hf
    have hf := ifn (by rw [c]; decide) hf
    have hf := ifn (by rw [c]; decide) hf
    have hf := ifn (by rw [c]; decide) hf
    have hf := ifn (by rw [c]; decide) hf
    have hf := ifn (by rw [c]; decide) hf
    have hf := ifn (by rw [c]; decide) hf
    have hf := ifn (by rw [c]; decide) hf
    have hf := ifn (by rw [c]; decide) hf
    have hf := ifn (by rw [c]; decide) hf
    have hf := ifn (by rw [c]; decide) hf
    have hf := ifn (by rw [c]; decide) hf
    have hf := ifp c hf
    refine a_iconst (v := 0) dL_law_765 (by decide) ?_
    obtain ⟨rfl, rfl⟩ := oc2 hf
    exact a_zreturn dL_law_766 rfl (by decide)
  · have hf := ifn (by rw [c]; decide) hf
    have hf := ifn (by rw [c]; decide) hf
    have hf := ifn (by rw [c]; decide) hf
    have hf := ifn (by rw [c]; decide) hf
    have hf := ifn (by rw [c]; decide) hf
    have hf := ifn (by rw [c]; decide) hf
    have hf := ifn (by rw [c]; decide) hf
    have hf := ifn (by rw [c]; decide) hf
    have hf := ifn (by rw [c]; decide) hf
    have hf := ifn (by rw [c]; decide) hf
    have hf := ifn (by rw [c]; decide) hf
    have hf := ifn (by rw [c]; decide) hf
    have hf := ifn (by rw [c]; decide) hf
    have hf := ifn (by rw [c]; decide) hf
    have hf := ifn (by rw [c]; decide) hf
    have hf := ifn (by rw [c]; decide) hf
    have hf := ifn (by rw [c]; decide) hf
    have hf := ifn (by rw [c]; decide) hf
    have hf := ifn (by rw [c]; decide) hf
    have hf := ifn (by rw [c]; decide) hf
    have hf := ifn (by rw [c]; decide) hf
    have hf := ifp c hf
    refine a_iconst (v := 0) dL_law_838 (by decide) ?_
    obtain ⟨rfl, rfl⟩ := oc2 hf
    exact a_zreturn dL_law_839 rfl (by decide)
  · have hf := ifn (by rw [c]; decide) hf
    have hf := ifn (by rw [c]; decide) hf
    have hf := ifn (by rw [c]; decide) hf
    have hf := ifn (by rw [c]; decide) hf
    have hf := ifn (by rw [c]; decide) hf
    have hf := ifn (by rw [c]; decide) hf
    have hf := ifn (by rw [c]; decide) hf
    have hf := ifn (by rw [c]; decide) hf
    have hf := ifn (by rw [c]; decide) hf
    have hf := ifn (by rw [c]; decide) hf
    have hf := ifn (by rw [c]; decide) hf
    have hf := ifn (by rw [c]; decide) hf
    have hf := ifn (by rw [c]; decide) hf
    have hf := ifn (by rw [c]; decide) hf
    have hf := ifn (by rw [c]; decide) hf
    have hf := ifn (by rw [c]; decide) hf
    have hf := ifn (by rw [c]; decide) hf
    have hf := ifn (by rw [c]; decide) hf
    have hf := ifn (by rw [c]; decide) hf
    have hf := ifn (by rw [c]; decide) hf
    have hf := ifn (by rw [c]; decide) hf
    have hf := ifn (by rw [c]; decide) hf
    have hf := ifp c hf
    refine a_iconst (v := 0) dL_law_872 (by decide) ?_
    obtain ⟨rfl, rfl⟩ := oc2 hf
    exact a_zreturn dL_law_873 rfl (by decide)
  · have hf := ifn (by rw [c]; decide) hf
    have hf := ifn (by rw [c]; decide) hf
    have hf := ifn (by rw [c]; decide) hf
    have hf := ifn (by rw [c]; decide) hf
    have hf := ifn (by rw [c]; decide) hf
    have hf := ifn (by rw [c]; decide) hf
    have hf := ifn (by rw [c]; decide) hf
    have hf := ifn (by rw [c]; decide) hf
    have hf := ifn (by rw [c]; decide) hf
    have hf := ifn (by rw [c]; decide) hf
    have hf := ifn (by rw [c]; decide) hf
    have hf := ifn (by rw [c]; decide) hf
    have hf := ifn (by rw [c]; decide) hf
    have hf := ifn (by rw [c]; decide) hf
    have hf := ifn (by rw [c]; decide) hf
    have hf := ifn (by rw [c]; decide) hf
    have hf := ifn (by rw [c]; decide) hf
    have hf := ifn (by rw [c]; decide) hf
    have hf := ifn (by rw [c]; decide) hf
    have hf := ifn (by rw [c]; decide) hf
    have hf := ifn (by rw [c]; decide) hf
    have hf := ifn (by rw [c]; decide) hf
    have hf := ifn (by rw [c]; decide) hf
    have hf := ifp c hf
    refine a_iconst (v := 0) dL_law_935 (by decide) ?_
    obtain ⟨rfl, rfl⟩ := oc2 hf
    exact a_zreturn dL_law_936 rfl (by decide)
  · have hf := ifn (by rw [c]; decide) hf
    have hf := ifn (by rw [c]; decide) hf
    have hf := ifn (by rw [c]; decide) hf
    have hf := ifn (by rw [c]; decide) hf
    have hf := ifn (by rw [c]; decide) hf
    have hf := ifn (by rw [c]; decide) hf
    have hf := ifn (by rw [c]; decide) hf
    have hf := ifn (by rw [c]; decide) hf
    have hf := ifn (by rw [c]; decide) hf
    have hf := ifn (by rw [c]; decide) hf
    have hf := ifn (by rw [c]; decide) hf
    have hf := ifn (by rw [c]; decide) hf
    have hf := ifn (by rw [c]; decide) hf
    have hf := ifn (by rw [c]; decide) hf
    have hf := ifn (by rw [c]; decide) hf
    have hf := ifn (by rw [c]; decide) hf
    have hf := ifn (by rw [c]; decide) hf
    have hf := ifn (by rw [c]; decide) hf
    have hf := ifn (by rw [c]; decide) hf
    have hf := ifn (by rw [c]; decide) hf
    have hf := ifn (by rw [c]; decide) hf
    have hf := ifn (by rw [c]; decide) hf
    have hf := ifn (by rw [c]; decide) hf
    have hf := ifn (by rw [c]; decide) hf
    have hf := ifp c hf
    refine a_iconst (v := 0) dL_law_968 (by decide) ?_
    obtain ⟨rfl, rfl⟩ := oc2 hf
    exact a_zreturn dL_law_969 rfl (by decide)
  · have hf := ifn (by rw [c]; decide) hf
    have hf := ifn (by rw [c]; decide) hf
    have hf := ifn (by rw [c]; decide) hf
    have hf := ifn (by rw [c]; decide) hf
    have hf := ifn (by rw [c]; decide) hf
    have hf := ifn (by rw [c]; decide) hf
    have hf := ifn (by rw [c]; decide) hf
    have hf := ifn (by rw [c]; decide) hf
    have hf := ifn (by rw [c]; decide) hf
    have hf := ifn (by rw [c]; decide) hf
    have hf := ifn (by rw [c]; decide) hf
    have hf := ifn (by rw [c]; decide) hf
    have hf := ifn (by rw [c]; decide) hf
    have hf := ifn (by rw [c]; decide) hf
    have hf := ifn (by rw [c]; decide) hf
    have hf := ifn (by rw [c]; decide) hf
    have hf := ifn (by rw [c]; decide) hf
    have hf := ifn (by rw [c]; decide) hf
    have hf := ifn (by rw [c]; decide) hf
    have hf := ifn (by rw [c]; decide) hf
    have hf := ifn (by rw [c]; decide) hf
    have hf := ifn (by rw [c]; decide) hf
    have hf := ifn (by rw [c]; decide) hf
    have hf := ifn (by rw [c]; decide) hf
    have hf := ifn (by rw [c]; decide) hf
    have hf := ifp c hf
    refine a_iconst (v := 0) dL_law_1001 (by decide) ?_
    obtain ⟨rfl, rfl⟩ := oc2 hf
    exact a_zreturn dL_law_1002 rfl (by decide)
  · have hf := ifn (by rw [c]; decide) hf
    have hf := ifn (by rw [c]; decide) hf
    have hf := ifn (by rw [c]; decide) hf
    have hf := ifn (by rw [c]; decide) hf
    have hf := ifn (by rw [c]; decide) hf
    have hf := ifn (by rw [c]; decide) hf
    have hf := ifn (by rw [c]; decide) hf
    have hf := ifn (by rw [c]; decide) hf
    have hf := ifn (by rw [c]; decide) hf
    have hf := ifn (by rw [c]; decide) hf
    have hf := ifn (by rw [c]; decide) hf
    have hf := ifn (by rw [c]; decide) hf
    have hf := ifn (by rw [c]; decide) hf
    have hf := ifn (by rw [c]; decide) hf
    have hf := ifn (by rw [c]; decide) hf
    have hf := ifn (by rw [c]; decide) hf
    have hf := ifn (by rw [c]; decide) hf
    have hf := ifn (by rw [c]; decide) hf
    have hf := ifn (by rw [c]; decide) hf
    have hf := ifn (by rw [c]; decide) hf
    have hf := ifn (by rw [c]; decide) hf
    have hf := ifn (by rw [c]; decide) hf
    have hf := ifn (by rw [c]; decide) hf
    have hf := ifn (by rw [c]; decide) hf
    have hf := ifn (by rw [c]; decide) hf
    have hf := ifn (by rw [c]; decide) hf
    have hf := ifp c hf
    refine a_iconst (v := 0) dL_law_1034 (by decide) ?_
    obtain ⟨rfl, rfl⟩ := oc2 hf
    exact a_zreturn dL_law_1035 rfl (by decide)
  · have hf := ifn (by rw [c]; decide) hf
    have hf := ifn (by rw [c]; decide) hf
    have hf := ifn (by rw [c]; decide) hf
    have hf := ifn (by rw [c]; decide) hf
    have hf := ifn (by rw [c]; decide) hf
    have hf := ifn (by rw [c]; decide) hf
    have hf := ifn (by rw [c]; decide) hf
    have hf := ifn (by rw [c]; decide) hf
    have hf := ifn (by rw [c]; decide) hf
    have hf := ifn (by rw [c]; decide) hf
    have hf := ifn (by rw [c]; decide) hf
    have hf := ifn (by rw [c]; decide) hf
    have hf := ifn (by rw [c]; decide) hf
    have hf := ifn (by rw [c]; decide) hf
    have hf := ifn (by rw [c]; decide) hf
    have hf := ifn (by rw [c]; decide) hf
    have hf := ifn (by rw [c]; decide) hf
    have hf := ifn (by rw [c]; decide) hf
    have hf := ifn (by rw [c]; decide) hf
    have hf := ifn (by rw [c]; decide) hf
    have hf := ifn (by rw [c]; decide) hf
    have hf := ifn (by rw [c]; decide) hf
    have hf := ifn (by rw [c]; decide) hf
    have hf := ifn (by rw [c]; decide) hf
    have hf := ifn (by rw [c]; decide) hf
    have hf := ifn (by rw [c]; decide) hf
    have hf := ifn (by rw [c]; decide) hf
    have hf := ifp c hf
    refine a_iconst (v := 0) dL_law_1047 (by decide) ?_
    obtain ⟨rfl, rfl⟩ := oc2 hf
    exact a_zreturn dL_law_1048 rfl (by decide)
  · have hf := ifn (by rw [c]; decide) hf
    have hf := ifn (by rw [c]; decide) hf
    have hf := ifn (by rw [c]; decide) hf
    have hf := ifn (by rw [c]; decide) hf
    have hf := ifn (by rw [c]; decide) hf
    have hf := ifn (by rw [c]; decide) hf
    have hf := ifn (by rw [c]; decide) hf
    have hf := ifn (by rw [c]; decide) hf
    have hf := ifn (by rw [c]; decide) hf
    have hf := ifn (by rw [c]; decide) hf
    have hf := ifn (by rw [c]; decide) hf
    have hf := ifn (by rw [c]; decide) hf
    have hf := ifn (by rw [c]; decide) hf
    have hf := ifn (by rw [c]; decide) hf
    have hf := ifn (by rw [c]; decide) hf
    have hf := ifn (by rw [c]; decide) hf
    have hf := ifn (by rw [c]; decide) hf
    have hf := ifn (by rw [c]; decide) hf
    have hf := ifn (by rw [c]; decide) hf
    have hf := ifn (by rw [c]; decide) hf
    have hf := ifn (by rw [c]; decide) hf
    have hf := ifn (by rw [c]; decide) hf
    have hf := ifn (by rw [c]; decide) hf
    have hf := ifn (by rw [c]; decide) hf
    have hf := ifn (by rw [c]; decide) hf
    have hf := ifn (by rw [c]; decide) hf
    have hf := ifn (by rw [c]; decide) hf
    have hf := ifn (by rw [c]; decide) hf
    have hf := ifp c hf
    refine a_iconst (v := 0) dL_law_1060 (by decide) ?_
    obtain ⟨rfl, rfl⟩ := oc2 hf
    exact a_zreturn dL_law_1061 rfl (by decide)
  · have hf := ifn (by rw [c]; decide) hf
    have hf := ifn (by rw [c]; decide) hf
    have hf := ifn (by rw [c]; decide) hf
    have hf := ifn (by rw [c]; decide) hf
    have hf := ifn (by rw [c]; decide) hf
    have hf := ifn (by rw [c]; decide) hf
    have hf := ifn (by rw [c]; decide) hf
    have hf := ifn (by rw [c]; decide) hf
    have hf := ifn (by rw [c]; decide) hf
    have hf := ifn (by rw [c]; decide) hf
    have hf := ifn (by rw [c]; decide) hf
    have hf := ifn (by rw [c]; decide) hf
    have hf := ifn (by rw [c]; decide) hf
    have hf := ifn (by rw [c]; decide) hf
    have hf := ifn (by rw [c]; decide) hf
    have hf := ifn (by rw [c]; decide) hf
    have hf := ifn (by rw [c]; decide) hf
    have hf := ifn (by rw [c]; decide) hf
    have hf := ifn (by rw [c]; decide) hf
    have hf := ifn (by rw [c]; decide) hf
    have hf := ifn (by rw [c]; decide) hf
    have hf := ifn (by rw [c]; decide) hf
    have hf := ifn (by rw [c]; decide) hf
    have hf := ifn (by rw [c]; decide) hf
    have hf := ifn (by rw [c]; decide) hf
    have hf := ifn (by rw [c]; decide) hf
    have hf := ifn (by rw [c]; decide) hf
    have hf := ifn (by rw [c]; decide) hf
    have hf := ifn (by rw [c]; decide) hf
    have hf := ifp c hf
    refine a_iconst (v := 1) dL_law_1068 (by decide) ?_
    obtain ⟨rfl, rfl⟩ := oc2 hf
    exact a_zreturn dL_law_1069 rfl (by decide)
