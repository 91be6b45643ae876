def L_L_law_18 : Nat → Nat → Nat → Nat → Int32 → zM → Option ((Int32 × zM) ⊕ (zM))
  | 0, _, _, _, _, _ => none
  | n + 1, l0, l1, l2, l3, M => (aN M l0).bind fun v9 => if v9 - 5 < l3 then (some (.inr M)) else ((aI M l0 l3).bind fun v12 => if v12 &&& 63 = 0 then ((aI M l0 (l3 + 1)).bind fun v15 => bif zac M l1 8 13 then (b2 (f_X8_feed l1 v15 M) fun r17 M18 => (aI M18 l0 (l3 + 1)).bind fun v20 => bif zac M18 l2 9 58 then (b2 (f_X9_feed l2 v20 M18) fun r22 M23 => if r17 = r22 then (L_L_law_18 n l0 l1 l2 (l3 + 5) M23) else (some (.inl (0, M23)))) else none) else none) else (if v12 &&& 63 = 1 then (bif zac M l1 8 13 then (b2 (f_X8_town l1 M) fun r29 M30 => bif zac M30 l2 9 58 then (b2 (f_X9_town l2 M30) fun r32 M33 => if r29 = r32 then (L_L_law_18 n l0 l1 l2 (l3 + 5) M33) else (some (.inl (0, M33)))) else none) else none) else (if v12 &&& 63 = 2 then (bif zac M l1 8 13 then ((f_X8_fault l1 M).bind fun r39 => bif zac M l2 9 58 then ((f_X9_fault l2 M).bind fun r41 => if r39 = r41 then (L_L_law_18 n l0 l1 l2 (l3 + 5) M) else (some (.inl (0, M)))) else none) else none) else (if v12 &&& 63 = 3 then ((aI M l0 (l3 + 1)).bind fun v47 => bif zac M l1 8 13 then ((f_X8_told l1 v47 M).bind fun r49 => (aI M l0 (l3 + 1)).bind fun v51 => bif zac M l2 9 58 then ((f_X9_told l2 v51 M).bind fun r53 => if r49 = r53 then (L_L_law_18 n l0 l1 l2 (l3 + 5) M) else (some (.inl (0, M)))) else none) else none) else (if v12 &&& 63 = 4 then ((aI M l0 (l3 + 1)).bind fun v59 => (aI M l0 (l3 + 2)).bind fun v61 => bif zac M l1 8 13 then ((f_X8_word l1 v59 v61 M).bind fun r63 => (aI M l0 (l3 + 1)).bind fun v65 => (aI M l0 (l3 + 2)).bind fun v67 => bif zac M l2 9 58 then ((f_X9_word l2 v65 v67 M).bind fun r69 => if r63 = r69 then (L_L_law_18 n l0 l1 l2 (l3 + 5) M) else (some (.inl (0, M)))) else none) else none) else (if v12 &&& 63 = 5 then ((aI M l0 (l3 + 1)).bind fun v75 => (aI M l0 (l3 + 2)).bind fun v77 => bif zac M l1 8 13 then ((f_X8_hoarded l1 v75 v77 M).bind fun r79 => (aI M l0 (l3 + 1)).bind fun v81 => (aI M l0 (l3 + 2)).bind fun v83 => bif zac M l2 9 58 then ((f_X9_hoarded l2 v81 v83 M).bind fun r85 => if r79 = r85 then (L_L_law_18 n l0 l1 l2 (l3 + 5) M) else (some (.inl (0, M)))) else none) else none) else (if v12 &&& 63 = 6 then ((aI M l0 (l3 + 1)).bind fun v91 => (aI M l0 (l3 + 2)).bind fun v93 => bif zac M l1 8 13 then ((f_X8_need l1 v91 v93 M).bind fun r95 => (aI M l0 (l3 + 1)).bind fun v97 => (aI M l0 (l3 + 2)).bind fun v99 => bif zac M l2 9 58 then ((f_X9_need l2 v97 v99 M).bind fun r101 => if r95 = r101 then (L_L_law_18 n l0 l1 l2 (l3 + 5) M) else (some (.inl (0, M)))) else none) else none) else (if v12 &&& 63 = 7 then ((aI M l0 (l3 + 1)).bind fun v107 => bif zac M l1 8 13 then (b2 (f_X8_day l1 v107 M) fun r109 M110 => (aI M110 l0 (l3 + 1)).bind fun v112 => bif zac M110 l2 9 58 then (b2 (f_X9_day l2 v112 M110) fun r114 M115 => if r109 = r114 then (L_L_law_18 n l0 l1 l2 (l3 + 5) M115) else (some (.inl (0, M115)))) else none) else none) else (if v12 &&& 63 = 8 then ((aI M l0 (l3 + 1)).bind fun v121 => (aI M l0 (l3 + 2)).bind fun v123 => bif zac M l1 8 13 then (b2 (f_X8_say l1 v121 v123 M) fun r125 M126 => (aI M126 l0 (l3 + 1)).bind fun v128 => (aI M126 l0 (l3 + 2)).bind fun v130 => bif zac M126 l2 9 58 then (b2 (f_X9_say l2 v128 v130 M126) fun r132 M133 => if r125 = r132 then (L_L_law_18 n l0 l1 l2 (l3 + 5) M133) else (some (.inl (0, M133)))) else none) else none) else (if v12 &&& 63 = 9 then ((aI M l0 (l3 + 1)).bind fun v139 => (aI M l0 (l3 + 2)).bind fun v141 => (aI M l0 (l3 + 3)).bind fun v143 => bif zac M l1 8 13 then (b2 (f_X8_around l1 v139 v141 v143 M) fun r145 M146 => (aI M146 l0 (l3 + 1)).bind fun v148 => (aI M146 l0 (l3 + 2)).bind fun v150 => (aI M146 l0 (l3 + 3)).bind fun v152 => bif zac M146 l2 9 58 then (b2 (f_X9_around l2 v148 v150 v152 M146) fun r154 M155 => if r145 = r154 then (L_L_law_18 n l0 l1 l2 (l3 + 5) M155) else (some (.inl (0, M155)))) else none) else none) else (if v12 &&& 63 = 10 then ((aI M l0 (l3 + 1)).bind fun v161 => bif zac M l1 8 13 then (b2 (f_X8_point l1 v161 M) fun r163 M164 => (aI M164 l0 (l3 + 1)).bind fun v166 => bif zac M164 l2 9 58 then (b2 (f_X9_point l2 v166 M164) fun r168 M169 => if r163 = r168 then (L_L_law_18 n l0 l1 l2 (l3 + 5) M169) else (some (.inl (0, M169)))) else none) else none) else (if v12 &&& 63 = 11 then ((aI M l0 (l3 + 1)).bind fun v175 => (aI M l0 (l3 + 2)).bind fun v177 => (aI M l0 (l3 + 3)).bind fun v179 => bif zac M l1 8 13 then (b2 (f_X8_hoard l1 v175 v177 v179 M) fun r181 M182 => (aI M182 l0 (l3 + 1)).bind fun v184 => (aI M182 l0 (l3 + 2)).bind fun v186 => (aI M182 l0 (l3 + 3)).bind fun v188 => bif zac M182 l2 9 58 then (b2 (f_X9_hoard l2 v184 v186 v188 M182) fun r190 M191 => if r181 = r190 then (L_L_law_18 n l0 l1 l2 (l3 + 5) M191) else (some (.inl (0, M191)))) else none) else none) else (if v12 &&& 63 = 12 then ((aI M l0 (l3 + 1)).bind fun v197 => (aI M l0 (l3 + 2)).bind fun v199 => (aI M l0 (l3 + 3)).bind fun v201 => (aI M l0 (l3 + 4)).bind fun v203 => bif zac M l1 8 13 then (b2 (f_X8_sell l1 v197 v199 v201 v203 M) fun r205 M206 => (aI M206 l0 (l3 + 1)).bind fun v208 => (aI M206 l0 (l3 + 2)).bind fun v210 => (aI M206 l0 (l3 + 3)).bind fun v212 => (aI M206 l0 (l3 + 4)).bind fun v214 => bif zac M206 l2 9 58 then (b2 (f_X9_sell l2 v208 v210 v212 v214 M206) fun r216 M217 => if r205 = r216 then (L_L_law_18 n l0 l1 l2 (l3 + 5) M217) else (some (.inl (0, M217)))) else none) else none) else (if v12 &&& 63 = 13 then ((aI M l0 (l3 + 1)).bind fun v223 => (aI M l0 (l3 + 2)).bind fun v225 => bif zac M l1 8 13 then (b2 (f_X8_raise l1 v223 v225 M) fun r227 M228 => (aI M228 l0 (l3 + 1)).bind fun v230 => (aI M228 l0 (l3 + 2)).bind fun v232 => bif zac M228 l2 9 58 then (b2 (f_X9_raise l2 v230 v232 M228) fun r234 M235 => if r227 = r234 then (L_L_law_18 n l0 l1 l2 (l3 + 5) M235) else (some (.inl (0, M235)))) else none) else none) else (if v12 &&& 63 = 14 then ((aI M l0 (l3 + 1)).bind fun v241 => bif zac M l1 8 13 then (b2 (f_X8_drift l1 v241 M) fun r243 M244 => (aI M244 l0 (l3 + 1)).bind fun v246 => bif zac M244 l2 9 58 then (b2 (f_X9_drift l2 v246 M244) fun r248 M249 => if r243 = r248 then (L_L_law_18 n l0 l1 l2 (l3 + 5) M249) else (some (.inl (0, M249)))) else none) else none) else (if v12 &&& 63 = 15 then (bif zac M l1 8 13 then (b2 (f_X8_undo l1 M) fun r255 M256 => bif zac M256 l2 9 58 then (b2 (f_X9_undo l2 M256) fun r258 M259 => if r255 = r258 then (L_L_law_18 n l0 l1 l2 (l3 + 5) M259) else (some (.inl (0, M259)))) else none) else none) else (if v12 &&& 63 = 16 then ((aI M l0 (l3 + 1)).bind fun v265 => (aI M l0 (l3 + 2)).bind fun v267 => (aI M l0 (l3 + 3)).bind fun v269 => bif zac M l1 8 13 then (b2 (f_X8_cheapest l1 v265 v267 v269 M) fun r271 M272 => (aI M272 l0 (l3 + 1)).bind fun v274 => (aI M272 l0 (l3 + 2)).bind fun v276 => (aI M272 l0 (l3 + 3)).bind fun v278 => bif zac M272 l2 9 58 then (b2 (f_X9_cheapest l2 v274 v276 v278 M272) fun r280 M281 => if r271 = r280 then (L_L_law_18 n l0 l1 l2 (l3 + 5) M281) else (some (.inl (0, M281)))) else none) else none) else (if v12 &&& 63 = 17 then ((aI M l0 (l3 + 1)).bind fun v287 => bif zac M l1 8 13 then (b2 (f_X8_runsOut l1 v287 M) fun r289 M290 => (aI M290 l0 (l3 + 1)).bind fun v292 => bif zac M290 l2 9 58 then (b2 (f_X9_runsOut l2 v292 M290) fun r294 M295 => if r289 = r294 then (L_L_law_18 n l0 l1 l2 (l3 + 5) M295) else (some (.inl (0, M295)))) else none) else none) else (if v12 &&& 63 = 18 then ((aI M l0 (l3 + 1)).bind fun v301 => bif zac M l1 8 13 then (b2 (f_X8_willBe l1 v301 M) fun r303 M304 => (aI M304 l0 (l3 + 1)).bind fun v306 => bif zac M304 l2 9 58 then (b2 (f_X9_willBe l2 v306 M304) fun r308 M309 => if r303 = r308 then (L_L_law_18 n l0 l1 l2 (l3 + 5) M309) else (some (.inl (0, M309)))) else none) else none) else (if v12 &&& 63 = 19 then ((aI M l0 (l3 + 1)).bind fun v315 => bif zac M l1 8 13 then (b2 (f_X8_plan l1 v315 M) fun r317 M318 => (aI M318 l0 (l3 + 1)).bind fun v320 => bif zac M318 l2 9 58 then (b2 (f_X9_plan l2 v320 M318) fun r322 M323 => if r317 = r322 then (L_L_law_18 n l0 l1 l2 (l3 + 5) M323) else (some (.inl (0, M323)))) else none) else none) else (if v12 &&& 63 = 20 then ((aI M l0 (l3 + 1)).bind fun v329 => bif zac M l1 8 13 then ((f_X8_price l1 v329 M).bind fun r331 => (aI M l0 (l3 + 1)).bind fun v333 => bif zac M l2 9 58 then ((f_X9_price l2 v333 M).bind fun r335 => if r331 = r335 then (L_L_law_18 n l0 l1 l2 (l3 + 5) M) else (some (.inl (0, M)))) else none) else none) else (if v12 &&& 63 = 21 then ((aI M l0 (l3 + 1)).bind fun v341 => (aI M l0 (l3 + 2)).bind fun v343 => bif zac M l1 8 13 then ((f_X8_sells l1 v341 v343 M).bind fun r345 => (aI M l0 (l3 + 1)).bind fun v347 => (aI M l0 (l3 + 2)).bind fun v349 => bif zac M l2 9 58 then ((f_X9_sells l2 v347 v349 M).bind fun r351 => if r345 = r351 then (L_L_law_18 n l0 l1 l2 (l3 + 5) M) else (some (.inl (0, M)))) else none) else none) else (if v12 &&& 63 = 22 then ((aI M l0 (l3 + 1)).bind fun v357 => (aI M l0 (l3 + 2)).bind fun v359 => bif zac M l1 8 13 then ((f_X8_share l1 v357 v359 M).bind fun r361 => (aI M l0 (l3 + 1)).bind fun v363 => (aI M l0 (l3 + 2)).bind fun v365 => bif zac M l2 9 58 then ((f_X9_share l2 v363 v365 M).bind fun r367 => if r361 = r367 then (L_L_law_18 n l0 l1 l2 (l3 + 5) M) else (some (.inl (0, M)))) else none) else none) else (if v12 &&& 63 = 23 then ((aI M l0 (l3 + 1)).bind fun v373 => bif zac M l1 8 13 then ((f_X8_more l1 v373 M).bind fun r375 => (aI M l0 (l3 + 1)).bind fun v377 => bif zac M l2 9 58 then ((f_X9_more l2 v377 M).bind fun r379 => if r375 = r379 then (L_L_law_18 n l0 l1 l2 (l3 + 5) M) else (some (.inl (0, M)))) else none) else none) else (if v12 &&& 63 = 24 then ((aI M l0 (l3 + 1)).bind fun v385 => (aI M l0 (l3 + 2)).bind fun v387 => bif zac M l1 8 13 then (b2 (f_X8_fire l1 v385 v387 M) fun r389 M390 => (aI M390 l0 (l3 + 1)).bind fun v392 => (aI M390 l0 (l3 + 2)).bind fun v394 => bif zac M390 l2 9 58 then (b2 (f_X9_fire l2 v392 v394 M390) fun r396 M397 => if r389 = r396 then (L_L_law_18 n l0 l1 l2 (l3 + 5) M397) else (some (.inl (0, M397)))) else none) else none) else (if v12 &&& 63 = 25 then ((aI M l0 (l3 + 1)).bind fun v403 => bif zac M l1 8 13 then ((f_X8_rhymes l1 v403 M).bind fun r405 => (aI M l0 (l3 + 1)).bind fun v407 => bif zac M l2 9 58 then ((f_X9_rhymes l2 v407 M).bind fun r409 => if r405 = r409 then (L_L_law_18 n l0 l1 l2 (l3 + 5) M) else (some (.inl (0, M)))) else none) else none) else (if v12 &&& 63 = 26 then ((aI M l0 (l3 + 1)).bind fun v415 => (aI M l0 (l3 + 2)).bind fun v417 => bif zac M l1 8 13 then ((f_X8_silent l1 v415 v417 M).bind fun r419 => (aI M l0 (l3 + 1)).bind fun v421 => (aI M l0 (l3 + 2)).bind fun v423 => bif zac M l2 9 58 then ((f_X9_silent l2 v421 v423 M).bind fun r425 => if r419 = r425 then (L_L_law_18 n l0 l1 l2 (l3 + 5) M) else (some (.inl (0, M)))) else none) else none) else (if v12 &&& 63 = 27 then ((aI M l0 (l3 + 1)).bind fun v431 => (aI M l0 (l3 + 2)).bind fun v433 => (aI M l0 (l3 + 3)).bind fun v435 => if v435 = 0 then (bif zac M l1 8 13 then (b2 (f_X8_knot l1 v431 v433 0 M) fun r438 M439 => (aI M439 l0 (l3 + 1)).bind fun v441 => (aI M439 l0 (l3 + 2)).bind fun v443 => (aI M439 l0 (l3 + 3)).bind fun v445 => if v445 = 0 then (bif zac M439 l2 9 58 then (b2 (f_X9_knot l2 v441 v443 0 M439) fun r448 M449 => if r438 = r448 then (L_L_law_18 n l0 l1 l2 (l3 + 5) M449) else (some (.inl (0, M449)))) else none) else (bif zac M439 l2 9 58 then (b2 (f_X9_knot l2 v441 v443 1 M439) fun r453 M454 => if r438 = r453 then (L_L_law_18 n l0 l1 l2 (l3 + 5) M454) else (some (.inl (0, M454)))) else none)) else none) else (bif zac M l1 8 13 then (b2 (f_X8_knot l1 v431 v433 1 M) fun r459 M460 => (aI M460 l0 (l3 + 1)).bind fun v462 => (aI M460 l0 (l3 + 2)).bind fun v464 => (aI M460 l0 (l3 + 3)).bind fun v466 => if v466 = 0 then (bif zac M460 l2 9 58 then (b2 (f_X9_knot l2 v462 v464 0 M460) fun r469 M470 => if r459 = r469 then (L_L_law_18 n l0 l1 l2 (l3 + 5) M470) else (some (.inl (0, M470)))) else none) else (bif zac M460 l2 9 58 then (b2 (f_X9_knot l2 v462 v464 1 M460) fun r474 M475 => if r459 = r474 then (L_L_law_18 n l0 l1 l2 (l3 + 5) M475) else (some (.inl (0, M475)))) else none)) else none)) else (if v12 &&& 63 = 28 then (bif zac M l1 8 13 then ((f_X8_who l1 M).bind fun r481 => bif zac M l2 9 58 then ((f_X9_who l2 M).bind fun r483 => if r481 = r483 then (L_L_law_18 n l0 l1 l2 (l3 + 5) M) else (some (.inl (0, M)))) else none) else none) else (if v12 &&& 63 = 29 then (bif zac M l1 8 13 then ((f_X8_ask l1 M).bind fun r489 => bif zac M l2 9 58 then ((f_X9_ask l2 M).bind fun r491 => if r489 = r491 then (L_L_law_18 n l0 l1 l2 (l3 + 5) M) else (some (.inl (0, M)))) else none) else none) else (if v12 &&& 63 = 30 then ((aI M l0 (l3 + 1)).bind fun v497 => (aI M l0 (l3 + 2)).bind fun v499 => bif zac M l1 8 13 then (b2 (f_X8_write l1 v497 v499 M) fun r501 M502 => (aI M502 l0 (l3 + 1)).bind fun v504 => (aI M502 l0 (l3 + 2)).bind fun v506 => bif zac M502 l2 9 58 then (b2 (f_X9_write l2 v504 v506 M502) fun r508 M509 => if r501 = r508 then (L_L_law_18 n l0 l1 l2 (l3 + 5) M509) else (some (.inl (0, M509)))) else none) else none) else (if v12 &&& 63 = 31 then (bif zac M l1 8 13 then (b2 (f_X8_tear l1 M) fun r515 M516 => bif zac M516 l2 9 58 then (b2 (f_X9_tear l2 M516) fun r518 M519 => if r515 = r518 then (L_L_law_18 n l0 l1 l2 (l3 + 5) M519) else (some (.inl (0, M519)))) else none) else none) else (if v12 &&& 63 = 32 then (bif zac M l1 8 13 then ((f_X8_judge l1 M).bind fun r525 => bif zac M l2 9 58 then ((f_X9_judge l2 M).bind fun r527 => if r525 = r527 then (L_L_law_18 n l0 l1 l2 (l3 + 5) M) else (some (.inl (0, M)))) else none) else none) else (if v12 &&& 63 = 33 then ((aI M l0 (l3 + 1)).bind fun v533 => bif zac M l1 8 13 then (b2 (f_X8_seed l1 v533 M) fun r535 M536 => (aI M536 l0 (l3 + 1)).bind fun v538 => bif zac M536 l2 9 58 then (b2 (f_X9_seed l2 v538 M536) fun r540 M541 => if r535 = r540 then (L_L_law_18 n l0 l1 l2 (l3 + 5) M541) else (some (.inl (0, M541)))) else none) else none) else (if v12 &&& 63 = 34 then ((aI M l0 (l3 + 1)).bind fun v547 => bif zac M l1 8 13 then (b2 (f_X8_keep l1 v547 M) fun r549 M550 => (aI M550 l0 (l3 + 1)).bind fun v552 => bif zac M550 l2 9 58 then (b2 (f_X9_keep l2 v552 M550) fun r554 M555 => if r549 = r554 then (L_L_law_18 n l0 l1 l2 (l3 + 5) M555) else (some (.inl (0, M555)))) else none) else none) else (if v12 &&& 63 = 35 then ((aI M l0 (l3 + 1)).bind fun v561 => bif zac M l1 8 13 then (b2 (f_X8_goBack l1 v561 M) fun r563 M564 => (aI M564 l0 (l3 + 1)).bind fun v566 => bif zac M564 l2 9 58 then (b2 (f_X9_goBack l2 v566 M564) fun r568 M569 => if r563 = r568 then (L_L_law_18 n l0 l1 l2 (l3 + 5) M569) else (some (.inl (0, M569)))) else none) else none) else (L_L_law_18 n l0 l1 l2 (l3 + 5) M)))))))))))))))))))))))))))))))))))))
def f_L_law (l0 : Nat) (M : zM) : Option (Int32 × zM) := bif Nat.ble 1 l0 then ((mk M 8 13).bind fun M1 => (f_X8_init (M.1 + 1) M1).bind fun M3 => (mk M3 9 58).bind fun M5 => (f_X9_init (M3.1 + 1) M5).bind fun M7 => bs (L_L_law_18 zN l0 (M.1 + 1) (M3.1 + 1) 0 M7) some (fun M10 => some (1, M10))) else none
set_option maxRecDepth 100000 in
set_option maxHeartbeats 2000000 in
theorem LX_L_law_18 {G : zG} {d : Nat} : ∀ (n : Nat) (l0 : Nat) (l1 : Nat) (l2 : Nat) (l3 : Int32) (M : zM) (hl0 : l0 ≠ 0) (hl1 : l1 ≠ 0) (hl2 : l2 ≠ 0) (e : (Int32 × zM) ⊕ (zM)) {res : Option Value × zM}, L_L_law_18 n l0 l1 l2 l3 M = some e → (∀ r, e = .inl r → res = (some (.int r.1), r.2)) → (∀ (MX : zM), e = .inr MX → Ex G (d + 24) yL_law cL_law 4 (some .boolean) 1182 [.null, .null, .null, .null] [] MX res) → Ex G (d + 24) yL_law cL_law 4 (some .boolean) 18 [.ref l0, .ref l1, .ref l2, .int l3] [] M res := by
  intro n
  induction n with
  | zero =>
    intro l0 l1 l2 l3 M hl0 hl1 hl2 e res h K1 K2
    simp [L_L_law_18] at h
  | succ n ih =>
    intro l0 l1 l2 l3 M hl0 hl1 hl2 e res h K1 K2
    simp only [L_L_law_18] at h
    refine x_iload_n (pc := 18) dL_law_18 rfl rfl ?_
    refine x_aload_n (pc := 19) dL_law_19 rfl rfl hl0 ?_
    obtain ⟨v9, e10, h⟩ := ob h
    refine y_alen (pc := 20) dL_law_20 e10 ?_
    refine x_iconst (pc := 21) dL_law_21 (v := 5) rfl ?_
    refine x_isub (pc := 22) dL_law_22 ?_
    refine x_icmp_gt (pc := 23) dL_law_23 (t := 1182) rfl (fun c11 => ?_) (fun c11 => ?_)
    · rw [if_pos c11] at h
      obtain rfl := s1 h
      refine ex_weak (Ls2 := [.null, .null, .null, .null]) ⟨Or.inl rfl, Or.inl rfl, Or.inl rfl, Or.inl rfl, trivial⟩ ?_
      exact K2 _ rfl
    · rw [if_neg c11] at h
      refine x_aload_n (pc := 26) dL_law_26 rfl rfl hl0 ?_
      refine x_iload_n (pc := 27) dL_law_27 rfl rfl ?_
      obtain ⟨v12, e13, h⟩ := ob h
      refine y_iald (pc := 28) dL_law_28 e13 ?_
      refine x_bipush (pc := 29) dL_law_29 (v := 63) (by decide) ?_
      refine x_iand (pc := 31) dL_law_31 ?_
      by_cases c14 : v12 &&& 63 = 0
      · rw [if_pos c14] at h
        refine y_tableIn (pc := 32) dL_law_32 c14 (q := 0) (off := 160) (t := 192) (by decide) (by decide) (by decide) rfl ?_
        refine x_aload_n (pc := 192) dL_law_192 rfl rfl hl1 ?_
        refine x_aload_n (pc := 193) dL_law_193 rfl rfl hl0 ?_
        refine x_iload_n (pc := 194) dL_law_194 rfl rfl ?_
        refine x_iconst (pc := 195) dL_law_195 (v := 1) rfl ?_
        refine x_iadd (pc := 196) dL_law_196 ?_
        obtain ⟨v15, e16, h⟩ := ob h
        refine y_iald (pc := 197) dL_law_197 e16 ?_
        obtain ⟨g27, h⟩ := bt h
        obtain ⟨r17, M18, e19, h⟩ := ob2 h
        refine x_callV (av := [.int v15]) (st := []) (pc := 198) dL_law_198 (E_X8_feed (d := d + 22) e19) rfl (Nat.le_of_ble_eq_true rfl) zc_X8_feed rfl zm_L_13 zi_X8_feed zs_X8_feed (zac_ok g27) (by decide) rfl rfl (zst_ok rfl (Nat.le_of_ble_eq_true rfl)) rfl ?_
        refine x_aload_n (pc := 201) dL_law_201 rfl rfl hl2 ?_
        refine x_aload_n (pc := 202) dL_law_202 rfl rfl hl0 ?_
        refine x_iload_n (pc := 203) dL_law_203 rfl rfl ?_
        refine x_iconst (pc := 204) dL_law_204 (v := 1) rfl ?_
        refine x_iadd (pc := 205) dL_law_205 ?_
        obtain ⟨v20, e21, h⟩ := ob h
        refine y_iald (pc := 206) dL_law_206 e21 ?_
        obtain ⟨g26, h⟩ := bt h
        obtain ⟨r22, M23, e24, h⟩ := ob2 h
        refine x_callV (av := [.int v20]) (st := [.int r17]) (pc := 207) dL_law_207 (E_X9_feed (d := d + 22) e24) rfl (Nat.le_of_ble_eq_true rfl) zc_X9_feed rfl zm_L_17 zi_X9_feed zs_X9_feed (zac_ok g26) (by decide) rfl rfl (zst_ok rfl (Nat.le_of_ble_eq_true rfl)) rfl ?_
        refine x_icmp_eq (pc := 210) dL_law_210 (t := 1176) rfl (fun c25 => ?_) (fun c25 => ?_)
        · rw [if_pos c25] at h
          refine x_iinc (pc := 1176) dL_law_1176 rfl rfl (by decide) rfl ?_
          refine x_goto (pc := 1179) dL_law_1179 (t := 18) rfl ?_
          refine ex_weak (Ls2 := [.ref l0, .ref l1, .ref l2, .int (l3 + 5)]) ⟨Or.inr rfl, Or.inr rfl, Or.inr rfl, Or.inr rfl, trivial⟩ ?_
          exact ih _ _ _ _ _ hl0 hl1 hl2 _ h K1 K2
        · rw [if_neg c25] at h
          refine x_iconst (pc := 213) dL_law_213 (v := 0) rfl ?_
          obtain rfl := s1 h
          rw [K1 _ rfl]
          exact x_ret (pc := 214) dL_law_214 (ty := .boolean) rfl rfl
      · rw [if_neg c14] at h
        by_cases c28 : v12 &&& 63 = 1
        · rw [if_pos c28] at h
          refine y_tableIn (pc := 32) dL_law_32 c28 (q := 1) (off := 183) (t := 215) (by decide) (by decide) (by decide) rfl ?_
          refine x_aload_n (pc := 215) dL_law_215 rfl rfl hl1 ?_
          obtain ⟨g37, h⟩ := bt h
          obtain ⟨r29, M30, e31, h⟩ := ob2 h
          refine x_callV (av := []) (st := []) (pc := 216) dL_law_216 (E_X8_town (d := d + 18) e31) rfl (Nat.le_of_ble_eq_true rfl) zc_X8_town rfl zm_L_18 zi_X8_town zs_X8_town (zac_ok g37) (by decide) rfl rfl (zst_ok rfl (Nat.le_of_ble_eq_true rfl)) rfl ?_
          refine x_aload_n (pc := 219) dL_law_219 rfl rfl hl2 ?_
          obtain ⟨g36, h⟩ := bt h
          obtain ⟨r32, M33, e34, h⟩ := ob2 h
          refine x_callV (av := []) (st := [.int r29]) (pc := 220) dL_law_220 (E_X9_town (d := d + 17) e34) rfl (Nat.le_of_ble_eq_true rfl) zc_X9_town rfl zm_L_22 zi_X9_town zs_X9_town (zac_ok g36) (by decide) rfl rfl (zst_ok rfl (Nat.le_of_ble_eq_true rfl)) rfl ?_
          refine x_icmp_eq (pc := 223) dL_law_223 (t := 1176) rfl (fun c35 => ?_) (fun c35 => ?_)
          · rw [if_pos c35] at h
            refine x_iinc (pc := 1176) dL_law_1176 rfl rfl (by decide) rfl ?_
            refine x_goto (pc := 1179) dL_law_1179 (t := 18) rfl ?_
            refine ex_weak (Ls2 := [.ref l0, .ref l1, .ref l2, .int (l3 + 5)]) ⟨Or.inr rfl, Or.inr rfl, Or.inr rfl, Or.inr rfl, trivial⟩ ?_
            exact ih _ _ _ _ _ hl0 hl1 hl2 _ h K1 K2
          · rw [if_neg c35] at h
            refine x_iconst (pc := 226) dL_law_226 (v := 0) rfl ?_
            obtain rfl := s1 h
            rw [K1 _ rfl]
            exact x_ret (pc := 227) dL_law_227 (ty := .boolean) rfl rfl
        · rw [if_neg c28] at h
          by_cases c38 : v12 &&& 63 = 2
          · rw [if_pos c38] at h
            refine y_tableIn (pc := 32) dL_law_32 c38 (q := 2) (off := 196) (t := 228) (by decide) (by decide) (by decide) rfl ?_
            refine x_aload_n (pc := 228) dL_law_228 rfl rfl hl1 ?_
            obtain ⟨g45, h⟩ := bt h
            obtain ⟨r39, e40, h⟩ := ob h
            refine x_callV (av := []) (st := []) (pc := 229) dL_law_229 (E_X8_fault (d := d + 23) e40) rfl (Nat.le_of_ble_eq_true rfl) zc_X8_fault rfl zm_L_23 zi_X8_fault zs_X8_fault (zac_ok g45) (by decide) rfl rfl (zst_ok rfl (Nat.le_of_ble_eq_true rfl)) rfl ?_
            refine x_aload_n (pc := 232) dL_law_232 rfl rfl hl2 ?_
            obtain ⟨g44, h⟩ := bt h
            obtain ⟨r41, e42, h⟩ := ob h
            refine x_callV (av := []) (st := [.int r39]) (pc := 233) dL_law_233 (E_X9_fault (d := d + 23) e42) rfl (Nat.le_of_ble_eq_true rfl) zc_X9_fault rfl zm_L_26 zi_X9_fault zs_X9_fault (zac_ok g44) (by decide) rfl rfl (zst_ok rfl (Nat.le_of_ble_eq_true rfl)) rfl ?_
            refine x_icmp_eq (pc := 236) dL_law_236 (t := 1176) rfl (fun c43 => ?_) (fun c43 => ?_)
            · rw [if_pos c43] at h
              refine x_iinc (pc := 1176) dL_law_1176 rfl rfl (by decide) rfl ?_
              refine x_goto (pc := 1179) dL_law_1179 (t := 18) rfl ?_
              refine ex_weak (Ls2 := [.ref l0, .ref l1, .ref l2, .int (l3 + 5)]) ⟨Or.inr rfl, Or.inr rfl, Or.inr rfl, Or.inr rfl, trivial⟩ ?_
              exact ih _ _ _ _ _ hl0 hl1 hl2 _ h K1 K2
            · rw [if_neg c43] at h
              refine x_iconst (pc := 239) dL_law_239 (v := 0) rfl ?_
              obtain rfl := s1 h
              rw [K1 _ rfl]
              exact x_ret (pc := 240) dL_law_240 (ty := .boolean) rfl rfl
          · rw [if_neg c38] at h
            by_cases c46 : v12 &&& 63 = 3
            · rw [if_pos c46] at h
              refine y_tableIn (pc := 32) dL_law_32 c46 (q := 3) (off := 209) (t := 241) (by decide) (by decide) (by decide) rfl ?_
              refine x_aload_n (pc := 241) dL_law_241 rfl rfl hl1 ?_
              refine x_aload_n (pc := 242) dL_law_242 rfl rfl hl0 ?_
              refine x_iload_n (pc := 243) dL_law_243 rfl rfl ?_
              refine x_iconst (pc := 244) dL_law_244 (v := 1) rfl ?_
              refine x_iadd (pc := 245) dL_law_245 ?_
              obtain ⟨v47, e48, h⟩ := ob h
              refine y_iald (pc := 246) dL_law_246 e48 ?_
              obtain ⟨g57, h⟩ := bt h
              obtain ⟨r49, e50, h⟩ := ob h
              refine x_callV (av := [.int v47]) (st := []) (pc := 247) dL_law_247 (E_X8_told (d := d + 21) e50) rfl (Nat.le_of_ble_eq_true rfl) zc_X8_told rfl zm_L_27 zi_X8_told zs_X8_told (zac_ok g57) (by decide) rfl rfl (zst_ok rfl (Nat.le_of_ble_eq_true rfl)) rfl ?_
              refine x_aload_n (pc := 250) dL_law_250 rfl rfl hl2 ?_
              refine x_aload_n (pc := 251) dL_law_251 rfl rfl hl0 ?_
              refine x_iload_n (pc := 252) dL_law_252 rfl rfl ?_
              refine x_iconst (pc := 253) dL_law_253 (v := 1) rfl ?_
              refine x_iadd (pc := 254) dL_law_254 ?_
              obtain ⟨v51, e52, h⟩ := ob h
              refine y_iald (pc := 255) dL_law_255 e52 ?_
              obtain ⟨g56, h⟩ := bt h
              obtain ⟨r53, e54, h⟩ := ob h
              refine x_callV (av := [.int v51]) (st := [.int r49]) (pc := 256) dL_law_256 (E_X9_told (d := d + 22) e54) rfl (Nat.le_of_ble_eq_true rfl) zc_X9_told rfl zm_L_30 zi_X9_told zs_X9_told (zac_ok g56) (by decide) rfl rfl (zst_ok rfl (Nat.le_of_ble_eq_true rfl)) rfl ?_
              refine x_icmp_eq (pc := 259) dL_law_259 (t := 1176) rfl (fun c55 => ?_) (fun c55 => ?_)
              · rw [if_pos c55] at h
                refine x_iinc (pc := 1176) dL_law_1176 rfl rfl (by decide) rfl ?_
                refine x_goto (pc := 1179) dL_law_1179 (t := 18) rfl ?_
                refine ex_weak (Ls2 := [.ref l0, .ref l1, .ref l2, .int (l3 + 5)]) ⟨Or.inr rfl, Or.inr rfl, Or.inr rfl, Or.inr rfl, trivial⟩ ?_
                exact ih _ _ _ _ _ hl0 hl1 hl2 _ h K1 K2
              · rw [if_neg c55] at h
                refine x_iconst (pc := 262) dL_law_262 (v := 0) rfl ?_
                obtain rfl := s1 h
                rw [K1 _ rfl]
                exact x_ret (pc := 263) dL_law_263 (ty := .boolean) rfl rfl
            · rw [if_neg c46] at h
              by_cases c58 : v12 &&& 63 = 4
              · rw [if_pos c58] at h
                refine y_tableIn (pc := 32) dL_law_32 c58 (q := 4) (off := 232) (t := 264) (by decide) (by decide) (by decide) rfl ?_
                refine x_aload_n (pc := 264) dL_law_264 rfl rfl hl1 ?_
                refine x_aload_n (pc := 265) dL_law_265 rfl rfl hl0 ?_
                refine x_iload_n (pc := 266) dL_law_266 rfl rfl ?_
                refine x_iconst (pc := 267) dL_law_267 (v := 1) rfl ?_
                refine x_iadd (pc := 268) dL_law_268 ?_
                obtain ⟨v59, e60, h⟩ := ob h
                refine y_iald (pc := 269) dL_law_269 e60 ?_
                refine x_aload_n (pc := 270) dL_law_270 rfl rfl hl0 ?_
                refine x_iload_n (pc := 271) dL_law_271 rfl rfl ?_
                refine x_iconst (pc := 272) dL_law_272 (v := 2) rfl ?_
                refine x_iadd (pc := 273) dL_law_273 ?_
                obtain ⟨v61, e62, h⟩ := ob h
                refine y_iald (pc := 274) dL_law_274 e62 ?_
                obtain ⟨g73, h⟩ := bt h
                obtain ⟨r63, e64, h⟩ := ob h
                refine x_callV (av := [.int v59, .int v61]) (st := []) (pc := 275) dL_law_275 (E_X8_word (d := d + 21) e64) rfl (Nat.le_of_ble_eq_true rfl) zc_X8_word rfl zm_L_31 zi_X8_word zs_X8_word (zac_ok g73) (by decide) rfl rfl (zst_ok rfl (Nat.le_of_ble_eq_true rfl)) rfl ?_
                refine x_aload_n (pc := 278) dL_law_278 rfl rfl hl2 ?_
                refine x_aload_n (pc := 279) dL_law_279 rfl rfl hl0 ?_
                refine x_iload_n (pc := 280) dL_law_280 rfl rfl ?_
                refine x_iconst (pc := 281) dL_law_281 (v := 1) rfl ?_
                refine x_iadd (pc := 282) dL_law_282 ?_
                obtain ⟨v65, e66, h⟩ := ob h
                refine y_iald (pc := 283) dL_law_283 e66 ?_
                refine x_aload_n (pc := 284) dL_law_284 rfl rfl hl0 ?_
                refine x_iload_n (pc := 285) dL_law_285 rfl rfl ?_
                refine x_iconst (pc := 286) dL_law_286 (v := 2) rfl ?_
                refine x_iadd (pc := 287) dL_law_287 ?_
                obtain ⟨v67, e68, h⟩ := ob h
                refine y_iald (pc := 288) dL_law_288 e68 ?_
                obtain ⟨g72, h⟩ := bt h
                obtain ⟨r69, e70, h⟩ := ob h
                refine x_callV (av := [.int v65, .int v67]) (st := [.int r63]) (pc := 289) dL_law_289 (E_X9_word (d := d + 21) e70) rfl (Nat.le_of_ble_eq_true rfl) zc_X9_word rfl zm_L_35 zi_X9_word zs_X9_word (zac_ok g72) (by decide) rfl rfl (zst_ok rfl (Nat.le_of_ble_eq_true rfl)) rfl ?_
                refine x_icmp_eq (pc := 292) dL_law_292 (t := 1176) rfl (fun c71 => ?_) (fun c71 => ?_)
                · rw [if_pos c71] at h
                  refine x_iinc (pc := 1176) dL_law_1176 rfl rfl (by decide) rfl ?_
                  refine x_goto (pc := 1179) dL_law_1179 (t := 18) rfl ?_
                  refine ex_weak (Ls2 := [.ref l0, .ref l1, .ref l2, .int (l3 + 5)]) ⟨Or.inr rfl, Or.inr rfl, Or.inr rfl, Or.inr rfl, trivial⟩ ?_
                  exact ih _ _ _ _ _ hl0 hl1 hl2 _ h K1 K2
                · rw [if_neg c71] at h
                  refine x_iconst (pc := 295) dL_law_295 (v := 0) rfl ?_
                  obtain rfl := s1 h
                  rw [K1 _ rfl]
                  exact x_ret (pc := 296) dL_law_296 (ty := .boolean) rfl rfl
              · rw [if_neg c58] at h
                by_cases c74 : v12 &&& 63 = 5
                · rw [if_pos c74] at h
                  refine y_tableIn (pc := 32) dL_law_32 c74 (q := 5) (off := 265) (t := 297) (by decide) (by decide) (by decide) rfl ?_
                  refine x_aload_n (pc := 297) dL_law_297 rfl rfl hl1 ?_
                  refine x_aload_n (pc := 298) dL_law_298 rfl rfl hl0 ?_
                  refine x_iload_n (pc := 299) dL_law_299 rfl rfl ?_
                  refine x_iconst (pc := 300) dL_law_300 (v := 1) rfl ?_
                  refine x_iadd (pc := 301) dL_law_301 ?_
                  obtain ⟨v75, e76, h⟩ := ob h
                  refine y_iald (pc := 302) dL_law_302 e76 ?_
                  refine x_aload_n (pc := 303) dL_law_303 rfl rfl hl0 ?_
                  refine x_iload_n (pc := 304) dL_law_304 rfl rfl ?_
                  refine x_iconst (pc := 305) dL_law_305 (v := 2) rfl ?_
                  refine x_iadd (pc := 306) dL_law_306 ?_
                  obtain ⟨v77, e78, h⟩ := ob h
                  refine y_iald (pc := 307) dL_law_307 e78 ?_
                  obtain ⟨g89, h⟩ := bt h
                  obtain ⟨r79, e80, h⟩ := ob h
                  refine x_callV (av := [.int v75, .int v77]) (st := []) (pc := 308) dL_law_308 (E_X8_hoarded (d := d + 22) e80) rfl (Nat.le_of_ble_eq_true rfl) zc_X8_hoarded rfl zm_L_36 zi_X8_hoarded zs_X8_hoarded (zac_ok g89) (by decide) rfl rfl (zst_ok rfl (Nat.le_of_ble_eq_true rfl)) rfl ?_
                  refine x_aload_n (pc := 311) dL_law_311 rfl rfl hl2 ?_
                  refine x_aload_n (pc := 312) dL_law_312 rfl rfl hl0 ?_
                  refine x_iload_n (pc := 313) dL_law_313 rfl rfl ?_
                  refine x_iconst (pc := 314) dL_law_314 (v := 1) rfl ?_
                  refine x_iadd (pc := 315) dL_law_315 ?_
                  obtain ⟨v81, e82, h⟩ := ob h
                  refine y_iald (pc := 316) dL_law_316 e82 ?_
                  refine x_aload_n (pc := 317) dL_law_317 rfl rfl hl0 ?_
                  refine x_iload_n (pc := 318) dL_law_318 rfl rfl ?_
                  refine x_iconst (pc := 319) dL_law_319 (v := 2) rfl ?_
                  refine x_iadd (pc := 320) dL_law_320 ?_
                  obtain ⟨v83, e84, h⟩ := ob h
                  refine y_iald (pc := 321) dL_law_321 e84 ?_
                  obtain ⟨g88, h⟩ := bt h
                  obtain ⟨r85, e86, h⟩ := ob h
                  refine x_callV (av := [.int v81, .int v83]) (st := [.int r79]) (pc := 322) dL_law_322 (E_X9_hoarded (d := d + 21) e86) rfl (Nat.le_of_ble_eq_true rfl) zc_X9_hoarded rfl zm_L_39 zi_X9_hoarded zs_X9_hoarded (zac_ok g88) (by decide) rfl rfl (zst_ok rfl (Nat.le_of_ble_eq_true rfl)) rfl ?_
                  refine x_icmp_eq (pc := 325) dL_law_325 (t := 1176) rfl (fun c87 => ?_) (fun c87 => ?_)
                  · rw [if_pos c87] at h
                    refine x_iinc (pc := 1176) dL_law_1176 rfl rfl (by decide) rfl ?_
                    refine x_goto (pc := 1179) dL_law_1179 (t := 18) rfl ?_
                    refine ex_weak (Ls2 := [.ref l0, .ref l1, .ref l2, .int (l3 + 5)]) ⟨Or.inr rfl, Or.inr rfl, Or.inr rfl, Or.inr rfl, trivial⟩ ?_
                    exact ih _ _ _ _ _ hl0 hl1 hl2 _ h K1 K2
                  · rw [if_neg c87] at h
                    refine x_iconst (pc := 328) dL_law_328 (v := 0) rfl ?_
                    obtain rfl := s1 h
                    rw [K1 _ rfl]
                    exact x_ret (pc := 329) dL_law_329 (ty := .boolean) rfl rfl
                · rw [if_neg c74] at h
                  by_cases c90 : v12 &&& 63 = 6
                  · rw [if_pos c90] at h
                    refine y_tableIn (pc := 32) dL_law_32 c90 (q := 6) (off := 298) (t := 330) (by decide) (by decide) (by decide) rfl ?_
                    refine x_aload_n (pc := 330) dL_law_330 rfl rfl hl1 ?_
                    refine x_aload_n (pc := 331) dL_law_331 rfl rfl hl0 ?_
                    refine x_iload_n (pc := 332) dL_law_332 rfl rfl ?_
                    refine x_iconst (pc := 333) dL_law_333 (v := 1) rfl ?_
                    refine x_iadd (pc := 334) dL_law_334 ?_
                    obtain ⟨v91, e92, h⟩ := ob h
                    refine y_iald (pc := 335) dL_law_335 e92 ?_
                    refine x_aload_n (pc := 336) dL_law_336 rfl rfl hl0 ?_
                    refine x_iload_n (pc := 337) dL_law_337 rfl rfl ?_
                    refine x_iconst (pc := 338) dL_law_338 (v := 2) rfl ?_
                    refine x_iadd (pc := 339) dL_law_339 ?_
                    obtain ⟨v93, e94, h⟩ := ob h
                    refine y_iald (pc := 340) dL_law_340 e94 ?_
                    obtain ⟨g105, h⟩ := bt h
                    obtain ⟨r95, e96, h⟩ := ob h
                    refine x_callV (av := [.int v91, .int v93]) (st := []) (pc := 341) dL_law_341 (E_X8_need (d := d + 21) e96) rfl (Nat.le_of_ble_eq_true rfl) zc_X8_need rfl zm_L_40 zi_X8_need zs_X8_need (zac_ok g105) (by decide) rfl rfl (zst_ok rfl (Nat.le_of_ble_eq_true rfl)) rfl ?_
                    refine x_aload_n (pc := 344) dL_law_344 rfl rfl hl2 ?_
                    refine x_aload_n (pc := 345) dL_law_345 rfl rfl hl0 ?_
                    refine x_iload_n (pc := 346) dL_law_346 rfl rfl ?_
                    refine x_iconst (pc := 347) dL_law_347 (v := 1) rfl ?_
                    refine x_iadd (pc := 348) dL_law_348 ?_
                    obtain ⟨v97, e98, h⟩ := ob h
                    refine y_iald (pc := 349) dL_law_349 e98 ?_
                    refine x_aload_n (pc := 350) dL_law_350 rfl rfl hl0 ?_
                    refine x_iload_n (pc := 351) dL_law_351 rfl rfl ?_
                    refine x_iconst (pc := 352) dL_law_352 (v := 2) rfl ?_
                    refine x_iadd (pc := 353) dL_law_353 ?_
                    obtain ⟨v99, e100, h⟩ := ob h
                    refine y_iald (pc := 354) dL_law_354 e100 ?_
                    obtain ⟨g104, h⟩ := bt h
                    obtain ⟨r101, e102, h⟩ := ob h
                    refine x_callV (av := [.int v97, .int v99]) (st := [.int r95]) (pc := 355) dL_law_355 (E_X9_need (d := d + 21) e102) rfl (Nat.le_of_ble_eq_true rfl) zc_X9_need rfl zm_L_43 zi_X9_need zs_X9_need (zac_ok g104) (by decide) rfl rfl (zst_ok rfl (Nat.le_of_ble_eq_true rfl)) rfl ?_
                    refine x_icmp_eq (pc := 358) dL_law_358 (t := 1176) rfl (fun c103 => ?_) (fun c103 => ?_)
                    · rw [if_pos c103] at h
                      refine x_iinc (pc := 1176) dL_law_1176 rfl rfl (by decide) rfl ?_
                      refine x_goto (pc := 1179) dL_law_1179 (t := 18) rfl ?_
                      refine ex_weak (Ls2 := [.ref l0, .ref l1, .ref l2, .int (l3 + 5)]) ⟨Or.inr rfl, Or.inr rfl, Or.inr rfl, Or.inr rfl, trivial⟩ ?_
                      exact ih _ _ _ _ _ hl0 hl1 hl2 _ h K1 K2
                    · rw [if_neg c103] at h
                      refine x_iconst (pc := 361) dL_law_361 (v := 0) rfl ?_
                      obtain rfl := s1 h
                      rw [K1 _ rfl]
                      exact x_ret (pc := 362) dL_law_362 (ty := .boolean) rfl rfl
                  · rw [if_neg c90] at h
                    by_cases c106 : v12 &&& 63 = 7
                    · rw [if_pos c106] at h
                      refine y_tableIn (pc := 32) dL_law_32 c106 (q := 7) (off := 331) (t := 363) (by decide) (by decide) (by decide) rfl ?_
                      refine x_aload_n (pc := 363) dL_law_363 rfl rfl hl1 ?_
                      refine x_aload_n (pc := 364) dL_law_364 rfl rfl hl0 ?_
                      refine x_iload_n (pc := 365) dL_law_365 rfl rfl ?_
                      refine x_iconst (pc := 366) dL_law_366 (v := 1) rfl ?_
                      refine x_iadd (pc := 367) dL_law_367 ?_
                      obtain ⟨v107, e108, h⟩ := ob h
                      refine y_iald (pc := 368) dL_law_368 e108 ?_
                      obtain ⟨g119, h⟩ := bt h
                      obtain ⟨r109, M110, e111, h⟩ := ob2 h
                      refine x_callV (av := [.int v107]) (st := []) (pc := 369) dL_law_369 (E_X8_day (d := d + 17) e111) rfl (Nat.le_of_ble_eq_true rfl) zc_X8_day rfl zm_L_44 zi_X8_day zs_X8_day (zac_ok g119) (by decide) rfl rfl (zst_ok rfl (Nat.le_of_ble_eq_true rfl)) rfl ?_
                      refine x_aload_n (pc := 372) dL_law_372 rfl rfl hl2 ?_
                      refine x_aload_n (pc := 373) dL_law_373 rfl rfl hl0 ?_
                      refine x_iload_n (pc := 374) dL_law_374 rfl rfl ?_
                      refine x_iconst (pc := 375) dL_law_375 (v := 1) rfl ?_
                      refine x_iadd (pc := 376) dL_law_376 ?_
                      obtain ⟨v112, e113, h⟩ := ob h
                      refine y_iald (pc := 377) dL_law_377 e113 ?_
                      obtain ⟨g118, h⟩ := bt h
                      obtain ⟨r114, M115, e116, h⟩ := ob2 h
                      refine x_callV (av := [.int v112]) (st := [.int r109]) (pc := 378) dL_law_378 (E_X9_day (d := d + 18) e116) rfl (Nat.le_of_ble_eq_true rfl) zc_X9_day rfl zm_L_47 zi_X9_day zs_X9_day (zac_ok g118) (by decide) rfl rfl (zst_ok rfl (Nat.le_of_ble_eq_true rfl)) rfl ?_
                      refine x_icmp_eq (pc := 381) dL_law_381 (t := 1176) rfl (fun c117 => ?_) (fun c117 => ?_)
                      · rw [if_pos c117] at h
                        refine x_iinc (pc := 1176) dL_law_1176 rfl rfl (by decide) rfl ?_
                        refine x_goto (pc := 1179) dL_law_1179 (t := 18) rfl ?_
                        refine ex_weak (Ls2 := [.ref l0, .ref l1, .ref l2, .int (l3 + 5)]) ⟨Or.inr rfl, Or.inr rfl, Or.inr rfl, Or.inr rfl, trivial⟩ ?_
                        exact ih _ _ _ _ _ hl0 hl1 hl2 _ h K1 K2
                      · rw [if_neg c117] at h
                        refine x_iconst (pc := 384) dL_law_384 (v := 0) rfl ?_
                        obtain rfl := s1 h
                        rw [K1 _ rfl]
                        exact x_ret (pc := 385) dL_law_385 (ty := .boolean) rfl rfl
                    · rw [if_neg c106] at h
                      by_cases c120 : v12 &&& 63 = 8
                      · rw [if_pos c120] at h
                        refine y_tableIn (pc := 32) dL_law_32 c120 (q := 8) (off := 354) (t := 386) (by decide) (by decide) (by decide) rfl ?_
                        refine x_aload_n (pc := 386) dL_law_386 rfl rfl hl1 ?_
                        refine x_aload_n (pc := 387) dL_law_387 rfl rfl hl0 ?_
                        refine x_iload_n (pc := 388) dL_law_388 rfl rfl ?_
                        refine x_iconst (pc := 389) dL_law_389 (v := 1) rfl ?_
                        refine x_iadd (pc := 390) dL_law_390 ?_
                        obtain ⟨v121, e122, h⟩ := ob h
                        refine y_iald (pc := 391) dL_law_391 e122 ?_
                        refine x_aload_n (pc := 392) dL_law_392 rfl rfl hl0 ?_
                        refine x_iload_n (pc := 393) dL_law_393 rfl rfl ?_
                        refine x_iconst (pc := 394) dL_law_394 (v := 2) rfl ?_
                        refine x_iadd (pc := 395) dL_law_395 ?_
                        obtain ⟨v123, e124, h⟩ := ob h
                        refine y_iald (pc := 396) dL_law_396 e124 ?_
                        obtain ⟨g137, h⟩ := bt h
                        obtain ⟨r125, M126, e127, h⟩ := ob2 h
                        refine x_callV (av := [.int v121, .int v123]) (st := []) (pc := 397) dL_law_397 (E_X8_say (d := d + 21) e127) rfl (Nat.le_of_ble_eq_true rfl) zc_X8_say rfl zm_L_48 zi_X8_say zs_X8_say (zac_ok g137) (by decide) rfl rfl (zst_ok rfl (Nat.le_of_ble_eq_true rfl)) rfl ?_
                        refine x_aload_n (pc := 400) dL_law_400 rfl rfl hl2 ?_
                        refine x_aload_n (pc := 401) dL_law_401 rfl rfl hl0 ?_
                        refine x_iload_n (pc := 402) dL_law_402 rfl rfl ?_
                        refine x_iconst (pc := 403) dL_law_403 (v := 1) rfl ?_
                        refine x_iadd (pc := 404) dL_law_404 ?_
                        obtain ⟨v128, e129, h⟩ := ob h
                        refine y_iald (pc := 405) dL_law_405 e129 ?_
                        refine x_aload_n (pc := 406) dL_law_406 rfl rfl hl0 ?_
                        refine x_iload_n (pc := 407) dL_law_407 rfl rfl ?_
                        refine x_iconst (pc := 408) dL_law_408 (v := 2) rfl ?_
                        refine x_iadd (pc := 409) dL_law_409 ?_
                        obtain ⟨v130, e131, h⟩ := ob h
                        refine y_iald (pc := 410) dL_law_410 e131 ?_
                        obtain ⟨g136, h⟩ := bt h
                        obtain ⟨r132, M133, e134, h⟩ := ob2 h
                        refine x_callV (av := [.int v128, .int v130]) (st := [.int r125]) (pc := 411) dL_law_411 (E_X9_say (d := d + 21) e134) rfl (Nat.le_of_ble_eq_true rfl) zc_X9_say rfl zm_L_51 zi_X9_say zs_X9_say (zac_ok g136) (by decide) rfl rfl (zst_ok rfl (Nat.le_of_ble_eq_true rfl)) rfl ?_
                        refine x_icmp_eq (pc := 414) dL_law_414 (t := 1176) rfl (fun c135 => ?_) (fun c135 => ?_)
                        · rw [if_pos c135] at h
                          refine x_iinc (pc := 1176) dL_law_1176 rfl rfl (by decide) rfl ?_
                          refine x_goto (pc := 1179) dL_law_1179 (t := 18) rfl ?_
                          refine ex_weak (Ls2 := [.ref l0, .ref l1, .ref l2, .int (l3 + 5)]) ⟨Or.inr rfl, Or.inr rfl, Or.inr rfl, Or.inr rfl, trivial⟩ ?_
                          exact ih _ _ _ _ _ hl0 hl1 hl2 _ h K1 K2
                        · rw [if_neg c135] at h
                          refine x_iconst (pc := 417) dL_law_417 (v := 0) rfl ?_
                          obtain rfl := s1 h
                          rw [K1 _ rfl]
                          exact x_ret (pc := 418) dL_law_418 (ty := .boolean) rfl rfl
                      · rw [if_neg c120] at h
                        by_cases c138 : v12 &&& 63 = 9
                        · rw [if_pos c138] at h
                          refine y_tableIn (pc := 32) dL_law_32 c138 (q := 9) (off := 387) (t := 419) (by decide) (by decide) (by decide) rfl ?_
                          refine x_aload_n (pc := 419) dL_law_419 rfl rfl hl1 ?_
                          refine x_aload_n (pc := 420) dL_law_420 rfl rfl hl0 ?_
                          refine x_iload_n (pc := 421) dL_law_421 rfl rfl ?_
                          refine x_iconst (pc := 422) dL_law_422 (v := 1) rfl ?_
                          refine x_iadd (pc := 423) dL_law_423 ?_
                          obtain ⟨v139, e140, h⟩ := ob h
                          refine y_iald (pc := 424) dL_law_424 e140 ?_
                          refine x_aload_n (pc := 425) dL_law_425 rfl rfl hl0 ?_
                          refine x_iload_n (pc := 426) dL_law_426 rfl rfl ?_
                          refine x_iconst (pc := 427) dL_law_427 (v := 2) rfl ?_
                          refine x_iadd (pc := 428) dL_law_428 ?_
                          obtain ⟨v141, e142, h⟩ := ob h
                          refine y_iald (pc := 429) dL_law_429 e142 ?_
                          refine x_aload_n (pc := 430) dL_law_430 rfl rfl hl0 ?_
                          refine x_iload_n (pc := 431) dL_law_431 rfl rfl ?_
                          refine x_iconst (pc := 432) dL_law_432 (v := 3) rfl ?_
                          refine x_iadd (pc := 433) dL_law_433 ?_
                          obtain ⟨v143, e144, h⟩ := ob h
                          refine y_iald (pc := 434) dL_law_434 e144 ?_
                          obtain ⟨g159, h⟩ := bt h
                          obtain ⟨r145, M146, e147, h⟩ := ob2 h
                          refine x_callV (av := [.int v139, .int v141, .int v143]) (st := []) (pc := 435) dL_law_435 (E_X8_around (d := d + 20) e147) rfl (Nat.le_of_ble_eq_true rfl) zc_X8_around rfl zm_L_52 zi_X8_around zs_X8_around (zac_ok g159) (by decide) rfl rfl (zst_ok rfl (Nat.le_of_ble_eq_true rfl)) rfl ?_
                          refine x_aload_n (pc := 438) dL_law_438 rfl rfl hl2 ?_
                          refine x_aload_n (pc := 439) dL_law_439 rfl rfl hl0 ?_
                          refine x_iload_n (pc := 440) dL_law_440 rfl rfl ?_
                          refine x_iconst (pc := 441) dL_law_441 (v := 1) rfl ?_
                          refine x_iadd (pc := 442) dL_law_442 ?_
                          obtain ⟨v148, e149, h⟩ := ob h
                          refine y_iald (pc := 443) dL_law_443 e149 ?_
                          refine x_aload_n (pc := 444) dL_law_444 rfl rfl hl0 ?_
                          refine x_iload_n (pc := 445) dL_law_445 rfl rfl ?_
                          refine x_iconst (pc := 446) dL_law_446 (v := 2) rfl ?_
                          refine x_iadd (pc := 447) dL_law_447 ?_
                          obtain ⟨v150, e151, h⟩ := ob h
                          refine y_iald (pc := 448) dL_law_448 e151 ?_
                          refine x_aload_n (pc := 449) dL_law_449 rfl rfl hl0 ?_
                          refine x_iload_n (pc := 450) dL_law_450 rfl rfl ?_
                          refine x_iconst (pc := 451) dL_law_451 (v := 3) rfl ?_
                          refine x_iadd (pc := 452) dL_law_452 ?_
                          obtain ⟨v152, e153, h⟩ := ob h
                          refine y_iald (pc := 453) dL_law_453 e153 ?_
                          obtain ⟨g158, h⟩ := bt h
                          obtain ⟨r154, M155, e156, h⟩ := ob2 h
                          refine x_callV (av := [.int v148, .int v150, .int v152]) (st := [.int r145]) (pc := 454) dL_law_454 (E_X9_around (d := d + 20) e156) rfl (Nat.le_of_ble_eq_true rfl) zc_X9_around rfl zm_L_56 zi_X9_around zs_X9_around (zac_ok g158) (by decide) rfl rfl (zst_ok rfl (Nat.le_of_ble_eq_true rfl)) rfl ?_
                          refine x_icmp_eq (pc := 457) dL_law_457 (t := 1176) rfl (fun c157 => ?_) (fun c157 => ?_)
                          · rw [if_pos c157] at h
                            refine x_iinc (pc := 1176) dL_law_1176 rfl rfl (by decide) rfl ?_
                            refine x_goto (pc := 1179) dL_law_1179 (t := 18) rfl ?_
                            refine ex_weak (Ls2 := [.ref l0, .ref l1, .ref l2, .int (l3 + 5)]) ⟨Or.inr rfl, Or.inr rfl, Or.inr rfl, Or.inr rfl, trivial⟩ ?_
                            exact ih _ _ _ _ _ hl0 hl1 hl2 _ h K1 K2
                          · rw [if_neg c157] at h
                            refine x_iconst (pc := 460) dL_law_460 (v := 0) rfl ?_
                            obtain rfl := s1 h
                            rw [K1 _ rfl]
                            exact x_ret (pc := 461) dL_law_461 (ty := .boolean) rfl rfl
                        · rw [if_neg c138] at h
                          by_cases c160 : v12 &&& 63 = 10
                          · rw [if_pos c160] at h
                            refine y_tableIn (pc := 32) dL_law_32 c160 (q := 10) (off := 430) (t := 462) (by decide) (by decide) (by decide) rfl ?_
                            refine x_aload_n (pc := 462) dL_law_462 rfl rfl hl1 ?_
                            refine x_aload_n (pc := 463) dL_law_463 rfl rfl hl0 ?_
                            refine x_iload_n (pc := 464) dL_law_464 rfl rfl ?_
                            refine x_iconst (pc := 465) dL_law_465 (v := 1) rfl ?_
                            refine x_iadd (pc := 466) dL_law_466 ?_
                            obtain ⟨v161, e162, h⟩ := ob h
                            refine y_iald (pc := 467) dL_law_467 e162 ?_
                            obtain ⟨g173, h⟩ := bt h
                            obtain ⟨r163, M164, e165, h⟩ := ob2 h
                            refine x_callV (av := [.int v161]) (st := []) (pc := 468) dL_law_468 (E_X8_point (d := d + 21) e165) rfl (Nat.le_of_ble_eq_true rfl) zc_X8_point rfl zm_L_57 zi_X8_point zs_X8_point (zac_ok g173) (by decide) rfl rfl (zst_ok rfl (Nat.le_of_ble_eq_true rfl)) rfl ?_
                            refine x_aload_n (pc := 471) dL_law_471 rfl rfl hl2 ?_
                            refine x_aload_n (pc := 472) dL_law_472 rfl rfl hl0 ?_
                            refine x_iload_n (pc := 473) dL_law_473 rfl rfl ?_
                            refine x_iconst (pc := 474) dL_law_474 (v := 1) rfl ?_
                            refine x_iadd (pc := 475) dL_law_475 ?_
                            obtain ⟨v166, e167, h⟩ := ob h
                            refine y_iald (pc := 476) dL_law_476 e167 ?_
                            obtain ⟨g172, h⟩ := bt h
                            obtain ⟨r168, M169, e170, h⟩ := ob2 h
                            refine x_callV (av := [.int v166]) (st := [.int r163]) (pc := 477) dL_law_477 (E_X9_point (d := d + 21) e170) rfl (Nat.le_of_ble_eq_true rfl) zc_X9_point rfl zm_L_60 zi_X9_point zs_X9_point (zac_ok g172) (by decide) rfl rfl (zst_ok rfl (Nat.le_of_ble_eq_true rfl)) rfl ?_
                            refine x_icmp_eq (pc := 480) dL_law_480 (t := 1176) rfl (fun c171 => ?_) (fun c171 => ?_)
                            · rw [if_pos c171] at h
                              refine x_iinc (pc := 1176) dL_law_1176 rfl rfl (by decide) rfl ?_
                              refine x_goto (pc := 1179) dL_law_1179 (t := 18) rfl ?_
                              refine ex_weak (Ls2 := [.ref l0, .ref l1, .ref l2, .int (l3 + 5)]) ⟨Or.inr rfl, Or.inr rfl, Or.inr rfl, Or.inr rfl, trivial⟩ ?_
                              exact ih _ _ _ _ _ hl0 hl1 hl2 _ h K1 K2
                            · rw [if_neg c171] at h
                              refine x_iconst (pc := 483) dL_law_483 (v := 0) rfl ?_
                              obtain rfl := s1 h
                              rw [K1 _ rfl]
                              exact x_ret (pc := 484) dL_law_484 (ty := .boolean) rfl rfl
                          · rw [if_neg c160] at h
                            by_cases c174 : v12 &&& 63 = 11
                            · rw [if_pos c174] at h
                              refine y_tableIn (pc := 32) dL_law_32 c174 (q := 11) (off := 453) (t := 485) (by decide) (by decide) (by decide) rfl ?_
                              refine x_aload_n (pc := 485) dL_law_485 rfl rfl hl1 ?_
                              refine x_aload_n (pc := 486) dL_law_486 rfl rfl hl0 ?_
                              refine x_iload_n (pc := 487) dL_law_487 rfl rfl ?_
                              refine x_iconst (pc := 488) dL_law_488 (v := 1) rfl ?_
                              refine x_iadd (pc := 489) dL_law_489 ?_
                              obtain ⟨v175, e176, h⟩ := ob h
                              refine y_iald (pc := 490) dL_law_490 e176 ?_
                              refine x_aload_n (pc := 491) dL_law_491 rfl rfl hl0 ?_
                              refine x_iload_n (pc := 492) dL_law_492 rfl rfl ?_
                              refine x_iconst (pc := 493) dL_law_493 (v := 2) rfl ?_
                              refine x_iadd (pc := 494) dL_law_494 ?_
                              obtain ⟨v177, e178, h⟩ := ob h
                              refine y_iald (pc := 495) dL_law_495 e178 ?_
                              refine x_aload_n (pc := 496) dL_law_496 rfl rfl hl0 ?_
                              refine x_iload_n (pc := 497) dL_law_497 rfl rfl ?_
                              refine x_iconst (pc := 498) dL_law_498 (v := 3) rfl ?_
                              refine x_iadd (pc := 499) dL_law_499 ?_
                              obtain ⟨v179, e180, h⟩ := ob h
                              refine y_iald (pc := 500) dL_law_500 e180 ?_
                              obtain ⟨g195, h⟩ := bt h
                              obtain ⟨r181, M182, e183, h⟩ := ob2 h
                              refine x_callV (av := [.int v175, .int v177, .int v179]) (st := []) (pc := 501) dL_law_501 (E_X8_hoard (d := d + 21) e183) rfl (Nat.le_of_ble_eq_true rfl) zc_X8_hoard rfl zm_L_61 zi_X8_hoard zs_X8_hoard (zac_ok g195) (by decide) rfl rfl (zst_ok rfl (Nat.le_of_ble_eq_true rfl)) rfl ?_
                              refine x_aload_n (pc := 504) dL_law_504 rfl rfl hl2 ?_
                              refine x_aload_n (pc := 505) dL_law_505 rfl rfl hl0 ?_
                              refine x_iload_n (pc := 506) dL_law_506 rfl rfl ?_
                              refine x_iconst (pc := 507) dL_law_507 (v := 1) rfl ?_
                              refine x_iadd (pc := 508) dL_law_508 ?_
                              obtain ⟨v184, e185, h⟩ := ob h
                              refine y_iald (pc := 509) dL_law_509 e185 ?_
                              refine x_aload_n (pc := 510) dL_law_510 rfl rfl hl0 ?_
                              refine x_iload_n (pc := 511) dL_law_511 rfl rfl ?_
                              refine x_iconst (pc := 512) dL_law_512 (v := 2) rfl ?_
                              refine x_iadd (pc := 513) dL_law_513 ?_
                              obtain ⟨v186, e187, h⟩ := ob h
                              refine y_iald (pc := 514) dL_law_514 e187 ?_
                              refine x_aload_n (pc := 515) dL_law_515 rfl rfl hl0 ?_
                              refine x_iload_n (pc := 516) dL_law_516 rfl rfl ?_
                              refine x_iconst (pc := 517) dL_law_517 (v := 3) rfl ?_
                              refine x_iadd (pc := 518) dL_law_518 ?_
                              obtain ⟨v188, e189, h⟩ := ob h
                              refine y_iald (pc := 519) dL_law_519 e189 ?_
                              obtain ⟨g194, h⟩ := bt h
                              obtain ⟨r190, M191, e192, h⟩ := ob2 h
                              refine x_callV (av := [.int v184, .int v186, .int v188]) (st := [.int r181]) (pc := 520) dL_law_520 (E_X9_hoard (d := d + 21) e192) rfl (Nat.le_of_ble_eq_true rfl) zc_X9_hoard rfl zm_L_64 zi_X9_hoard zs_X9_hoard (zac_ok g194) (by decide) rfl rfl (zst_ok rfl (Nat.le_of_ble_eq_true rfl)) rfl ?_
                              refine x_icmp_eq (pc := 523) dL_law_523 (t := 1176) rfl (fun c193 => ?_) (fun c193 => ?_)
                              · rw [if_pos c193] at h
                                refine x_iinc (pc := 1176) dL_law_1176 rfl rfl (by decide) rfl ?_
                                refine x_goto (pc := 1179) dL_law_1179 (t := 18) rfl ?_
                                refine ex_weak (Ls2 := [.ref l0, .ref l1, .ref l2, .int (l3 + 5)]) ⟨Or.inr rfl, Or.inr rfl, Or.inr rfl, Or.inr rfl, trivial⟩ ?_
                                exact ih _ _ _ _ _ hl0 hl1 hl2 _ h K1 K2
                              · rw [if_neg c193] at h
                                refine x_iconst (pc := 526) dL_law_526 (v := 0) rfl ?_
                                obtain rfl := s1 h
                                rw [K1 _ rfl]
                                exact x_ret (pc := 527) dL_law_527 (ty := .boolean) rfl rfl
                            · rw [if_neg c174] at h
                              by_cases c196 : v12 &&& 63 = 12
                              · rw [if_pos c196] at h
                                refine y_tableIn (pc := 32) dL_law_32 c196 (q := 12) (off := 496) (t := 528) (by decide) (by decide) (by decide) rfl ?_
                                refine x_aload_n (pc := 528) dL_law_528 rfl rfl hl1 ?_
                                refine x_aload_n (pc := 529) dL_law_529 rfl rfl hl0 ?_
                                refine x_iload_n (pc := 530) dL_law_530 rfl rfl ?_
                                refine x_iconst (pc := 531) dL_law_531 (v := 1) rfl ?_
                                refine x_iadd (pc := 532) dL_law_532 ?_
                                obtain ⟨v197, e198, h⟩ := ob h
                                refine y_iald (pc := 533) dL_law_533 e198 ?_
                                refine x_aload_n (pc := 534) dL_law_534 rfl rfl hl0 ?_
                                refine x_iload_n (pc := 535) dL_law_535 rfl rfl ?_
                                refine x_iconst (pc := 536) dL_law_536 (v := 2) rfl ?_
                                refine x_iadd (pc := 537) dL_law_537 ?_
                                obtain ⟨v199, e200, h⟩ := ob h
                                refine y_iald (pc := 538) dL_law_538 e200 ?_
                                refine x_aload_n (pc := 539) dL_law_539 rfl rfl hl0 ?_
                                refine x_iload_n (pc := 540) dL_law_540 rfl rfl ?_
                                refine x_iconst (pc := 541) dL_law_541 (v := 3) rfl ?_
                                refine x_iadd (pc := 542) dL_law_542 ?_
                                obtain ⟨v201, e202, h⟩ := ob h
                                refine y_iald (pc := 543) dL_law_543 e202 ?_
                                refine x_aload_n (pc := 544) dL_law_544 rfl rfl hl0 ?_
                                refine x_iload_n (pc := 545) dL_law_545 rfl rfl ?_
                                refine x_iconst (pc := 546) dL_law_546 (v := 4) rfl ?_
                                refine x_iadd (pc := 547) dL_law_547 ?_
                                obtain ⟨v203, e204, h⟩ := ob h
                                refine y_iald (pc := 548) dL_law_548 e204 ?_
                                obtain ⟨g221, h⟩ := bt h
                                obtain ⟨r205, M206, e207, h⟩ := ob2 h
                                refine x_callV (av := [.int v197, .int v199, .int v201, .int v203]) (st := []) (pc := 549) dL_law_549 (E_X8_sell (d := d + 21) e207) rfl (Nat.le_of_ble_eq_true rfl) zc_X8_sell rfl zm_L_65 zi_X8_sell zs_X8_sell (zac_ok g221) (by decide) rfl rfl (zst_ok rfl (Nat.le_of_ble_eq_true rfl)) rfl ?_
                                refine x_aload_n (pc := 552) dL_law_552 rfl rfl hl2 ?_
                                refine x_aload_n (pc := 553) dL_law_553 rfl rfl hl0 ?_
                                refine x_iload_n (pc := 554) dL_law_554 rfl rfl ?_
                                refine x_iconst (pc := 555) dL_law_555 (v := 1) rfl ?_
                                refine x_iadd (pc := 556) dL_law_556 ?_
                                obtain ⟨v208, e209, h⟩ := ob h
                                refine y_iald (pc := 557) dL_law_557 e209 ?_
                                refine x_aload_n (pc := 558) dL_law_558 rfl rfl hl0 ?_
                                refine x_iload_n (pc := 559) dL_law_559 rfl rfl ?_
                                refine x_iconst (pc := 560) dL_law_560 (v := 2) rfl ?_
                                refine x_iadd (pc := 561) dL_law_561 ?_
                                obtain ⟨v210, e211, h⟩ := ob h
                                refine y_iald (pc := 562) dL_law_562 e211 ?_
                                refine x_aload_n (pc := 563) dL_law_563 rfl rfl hl0 ?_
                                refine x_iload_n (pc := 564) dL_law_564 rfl rfl ?_
                                refine x_iconst (pc := 565) dL_law_565 (v := 3) rfl ?_
                                refine x_iadd (pc := 566) dL_law_566 ?_
                                obtain ⟨v212, e213, h⟩ := ob h
                                refine y_iald (pc := 567) dL_law_567 e213 ?_
                                refine x_aload_n (pc := 568) dL_law_568 rfl rfl hl0 ?_
                                refine x_iload_n (pc := 569) dL_law_569 rfl rfl ?_
                                refine x_iconst (pc := 570) dL_law_570 (v := 4) rfl ?_
                                refine x_iadd (pc := 571) dL_law_571 ?_
                                obtain ⟨v214, e215, h⟩ := ob h
                                refine y_iald (pc := 572) dL_law_572 e215 ?_
                                obtain ⟨g220, h⟩ := bt h
                                obtain ⟨r216, M217, e218, h⟩ := ob2 h
                                refine x_callV (av := [.int v208, .int v210, .int v212, .int v214]) (st := [.int r205]) (pc := 573) dL_law_573 (E_X9_sell (d := d + 21) e218) rfl (Nat.le_of_ble_eq_true rfl) zc_X9_sell rfl zm_L_69 zi_X9_sell zs_X9_sell (zac_ok g220) (by decide) rfl rfl (zst_ok rfl (Nat.le_of_ble_eq_true rfl)) rfl ?_
                                refine x_icmp_eq (pc := 576) dL_law_576 (t := 1176) rfl (fun c219 => ?_) (fun c219 => ?_)
                                · rw [if_pos c219] at h
                                  refine x_iinc (pc := 1176) dL_law_1176 rfl rfl (by decide) rfl ?_
                                  refine x_goto (pc := 1179) dL_law_1179 (t := 18) rfl ?_
                                  refine ex_weak (Ls2 := [.ref l0, .ref l1, .ref l2, .int (l3 + 5)]) ⟨Or.inr rfl, Or.inr rfl, Or.inr rfl, Or.inr rfl, trivial⟩ ?_
                                  exact ih _ _ _ _ _ hl0 hl1 hl2 _ h K1 K2
                                · rw [if_neg c219] at h
                                  refine x_iconst (pc := 579) dL_law_579 (v := 0) rfl ?_
                                  obtain rfl := s1 h
                                  rw [K1 _ rfl]
                                  exact x_ret (pc := 580) dL_law_580 (ty := .boolean) rfl rfl
                              · rw [if_neg c196] at h
                                by_cases c222 : v12 &&& 63 = 13
                                · rw [if_pos c222] at h
                                  refine y_tableIn (pc := 32) dL_law_32 c222 (q := 13) (off := 549) (t := 581) (by decide) (by decide) (by decide) rfl ?_
                                  refine x_aload_n (pc := 581) dL_law_581 rfl rfl hl1 ?_
                                  refine x_aload_n (pc := 582) dL_law_582 rfl rfl hl0 ?_
                                  refine x_iload_n (pc := 583) dL_law_583 rfl rfl ?_
                                  refine x_iconst (pc := 584) dL_law_584 (v := 1) rfl ?_
                                  refine x_iadd (pc := 585) dL_law_585 ?_
                                  obtain ⟨v223, e224, h⟩ := ob h
                                  refine y_iald (pc := 586) dL_law_586 e224 ?_
                                  refine x_aload_n (pc := 587) dL_law_587 rfl rfl hl0 ?_
                                  refine x_iload_n (pc := 588) dL_law_588 rfl rfl ?_
                                  refine x_iconst (pc := 589) dL_law_589 (v := 2) rfl ?_
                                  refine x_iadd (pc := 590) dL_law_590 ?_
                                  obtain ⟨v225, e226, h⟩ := ob h
                                  refine y_iald (pc := 591) dL_law_591 e226 ?_
                                  obtain ⟨g239, h⟩ := bt h
                                  obtain ⟨r227, M228, e229, h⟩ := ob2 h
                                  refine x_callV (av := [.int v223, .int v225]) (st := []) (pc := 592) dL_law_592 (E_X8_raise (d := d + 21) e229) rfl (Nat.le_of_ble_eq_true rfl) zc_X8_raise rfl zm_L_70 zi_X8_raise zs_X8_raise (zac_ok g239) (by decide) rfl rfl (zst_ok rfl (Nat.le_of_ble_eq_true rfl)) rfl ?_
                                  refine x_aload_n (pc := 595) dL_law_595 rfl rfl hl2 ?_
                                  refine x_aload_n (pc := 596) dL_law_596 rfl rfl hl0 ?_
                                  refine x_iload_n (pc := 597) dL_law_597 rfl rfl ?_
                                  refine x_iconst (pc := 598) dL_law_598 (v := 1) rfl ?_
                                  refine x_iadd (pc := 599) dL_law_599 ?_
                                  obtain ⟨v230, e231, h⟩ := ob h
                                  refine y_iald (pc := 600) dL_law_600 e231 ?_
                                  refine x_aload_n (pc := 601) dL_law_601 rfl rfl hl0 ?_
                                  refine x_iload_n (pc := 602) dL_law_602 rfl rfl ?_
                                  refine x_iconst (pc := 603) dL_law_603 (v := 2) rfl ?_
                                  refine x_iadd (pc := 604) dL_law_604 ?_
                                  obtain ⟨v232, e233, h⟩ := ob h
                                  refine y_iald (pc := 605) dL_law_605 e233 ?_
                                  obtain ⟨g238, h⟩ := bt h
                                  obtain ⟨r234, M235, e236, h⟩ := ob2 h
                                  refine x_callV (av := [.int v230, .int v232]) (st := [.int r227]) (pc := 606) dL_law_606 (E_X9_raise (d := d + 21) e236) rfl (Nat.le_of_ble_eq_true rfl) zc_X9_raise rfl zm_L_73 zi_X9_raise zs_X9_raise (zac_ok g238) (by decide) rfl rfl (zst_ok rfl (Nat.le_of_ble_eq_true rfl)) rfl ?_
                                  refine x_icmp_eq (pc := 609) dL_law_609 (t := 1176) rfl (fun c237 => ?_) (fun c237 => ?_)
                                  · rw [if_pos c237] at h
                                    refine x_iinc (pc := 1176) dL_law_1176 rfl rfl (by decide) rfl ?_
                                    refine x_goto (pc := 1179) dL_law_1179 (t := 18) rfl ?_
                                    refine ex_weak (Ls2 := [.ref l0, .ref l1, .ref l2, .int (l3 + 5)]) ⟨Or.inr rfl, Or.inr rfl, Or.inr rfl, Or.inr rfl, trivial⟩ ?_
                                    exact ih _ _ _ _ _ hl0 hl1 hl2 _ h K1 K2
                                  · rw [if_neg c237] at h
                                    refine x_iconst (pc := 612) dL_law_612 (v := 0) rfl ?_
                                    obtain rfl := s1 h
                                    rw [K1 _ rfl]
                                    exact x_ret (pc := 613) dL_law_613 (ty := .boolean) rfl rfl
                                · rw [if_neg c222] at h
                                  by_cases c240 : v12 &&& 63 = 14
                                  · rw [if_pos c240] at h
                                    refine y_tableIn (pc := 32) dL_law_32 c240 (q := 14) (off := 582) (t := 614) (by decide) (by decide) (by decide) rfl ?_
                                    refine x_aload_n (pc := 614) dL_law_614 rfl rfl hl1 ?_
                                    refine x_aload_n (pc := 615) dL_law_615 rfl rfl hl0 ?_
                                    refine x_iload_n (pc := 616) dL_law_616 rfl rfl ?_
                                    refine x_iconst (pc := 617) dL_law_617 (v := 1) rfl ?_
                                    refine x_iadd (pc := 618) dL_law_618 ?_
                                    obtain ⟨v241, e242, h⟩ := ob h
                                    refine y_iald (pc := 619) dL_law_619 e242 ?_
                                    obtain ⟨g253, h⟩ := bt h
                                    obtain ⟨r243, M244, e245, h⟩ := ob2 h
                                    refine x_callV (av := [.int v241]) (st := []) (pc := 620) dL_law_620 (E_X8_drift (d := d + 17) e245) rfl (Nat.le_of_ble_eq_true rfl) zc_X8_drift rfl zm_L_74 zi_X8_drift zs_X8_drift (zac_ok g253) (by decide) rfl rfl (zst_ok rfl (Nat.le_of_ble_eq_true rfl)) rfl ?_
                                    refine x_aload_n (pc := 623) dL_law_623 rfl rfl hl2 ?_
                                    refine x_aload_n (pc := 624) dL_law_624 rfl rfl hl0 ?_
                                    refine x_iload_n (pc := 625) dL_law_625 rfl rfl ?_
                                    refine x_iconst (pc := 626) dL_law_626 (v := 1) rfl ?_
                                    refine x_iadd (pc := 627) dL_law_627 ?_
                                    obtain ⟨v246, e247, h⟩ := ob h
                                    refine y_iald (pc := 628) dL_law_628 e247 ?_
                                    obtain ⟨g252, h⟩ := bt h
                                    obtain ⟨r248, M249, e250, h⟩ := ob2 h
                                    refine x_callV (av := [.int v246]) (st := [.int r243]) (pc := 629) dL_law_629 (E_X9_drift (d := d + 18) e250) rfl (Nat.le_of_ble_eq_true rfl) zc_X9_drift rfl zm_L_77 zi_X9_drift zs_X9_drift (zac_ok g252) (by decide) rfl rfl (zst_ok rfl (Nat.le_of_ble_eq_true rfl)) rfl ?_
                                    refine x_icmp_eq (pc := 632) dL_law_632 (t := 1176) rfl (fun c251 => ?_) (fun c251 => ?_)
                                    · rw [if_pos c251] at h
                                      refine x_iinc (pc := 1176) dL_law_1176 rfl rfl (by decide) rfl ?_
                                      refine x_goto (pc := 1179) dL_law_1179 (t := 18) rfl ?_
                                      refine ex_weak (Ls2 := [.ref l0, .ref l1, .ref l2, .int (l3 + 5)]) ⟨Or.inr rfl, Or.inr rfl, Or.inr rfl, Or.inr rfl, trivial⟩ ?_
                                      exact ih _ _ _ _ _ hl0 hl1 hl2 _ h K1 K2
                                    · rw [if_neg c251] at h
                                      refine x_iconst (pc := 635) dL_law_635 (v := 0) rfl ?_
                                      obtain rfl := s1 h
                                      rw [K1 _ rfl]
                                      exact x_ret (pc := 636) dL_law_636 (ty := .boolean) rfl rfl
                                  · rw [if_neg c240] at h
                                    by_cases c254 : v12 &&& 63 = 15
                                    · rw [if_pos c254] at h
                                      refine y_tableIn (pc := 32) dL_law_32 c254 (q := 15) (off := 605) (t := 637) (by decide) (by decide) (by decide) rfl ?_
                                      refine x_aload_n (pc := 637) dL_law_637 rfl rfl hl1 ?_
                                      obtain ⟨g263, h⟩ := bt h
                                      obtain ⟨r255, M256, e257, h⟩ := ob2 h
                                      refine x_callV (av := []) (st := []) (pc := 638) dL_law_638 (E_X8_undo (d := d + 21) e257) rfl (Nat.le_of_ble_eq_true rfl) zc_X8_undo rfl zm_L_78 zi_X8_undo zs_X8_undo (zac_ok g263) (by decide) rfl rfl (zst_ok rfl (Nat.le_of_ble_eq_true rfl)) rfl ?_
                                      refine x_aload_n (pc := 641) dL_law_641 rfl rfl hl2 ?_
                                      obtain ⟨g262, h⟩ := bt h
                                      obtain ⟨r258, M259, e260, h⟩ := ob2 h
                                      refine x_callV (av := []) (st := [.int r255]) (pc := 642) dL_law_642 (E_X9_undo (d := d + 23) e260) rfl (Nat.le_of_ble_eq_true rfl) zc_X9_undo rfl zm_L_81 zi_X9_undo zs_X9_undo (zac_ok g262) (by decide) rfl rfl (zst_ok rfl (Nat.le_of_ble_eq_true rfl)) rfl ?_
                                      refine x_icmp_eq (pc := 645) dL_law_645 (t := 1176) rfl (fun c261 => ?_) (fun c261 => ?_)
                                      · rw [if_pos c261] at h
                                        refine x_iinc (pc := 1176) dL_law_1176 rfl rfl (by decide) rfl ?_
                                        refine x_goto (pc := 1179) dL_law_1179 (t := 18) rfl ?_
                                        refine ex_weak (Ls2 := [.ref l0, .ref l1, .ref l2, .int (l3 + 5)]) ⟨Or.inr rfl, Or.inr rfl, Or.inr rfl, Or.inr rfl, trivial⟩ ?_
                                        exact ih _ _ _ _ _ hl0 hl1 hl2 _ h K1 K2
                                      · rw [if_neg c261] at h
                                        refine x_iconst (pc := 648) dL_law_648 (v := 0) rfl ?_
                                        obtain rfl := s1 h
                                        rw [K1 _ rfl]
                                        exact x_ret (pc := 649) dL_law_649 (ty := .boolean) rfl rfl
                                    · rw [if_neg c254] at h
                                      by_cases c264 : v12 &&& 63 = 16
                                      · rw [if_pos c264] at h
                                        refine y_tableIn (pc := 32) dL_law_32 c264 (q := 16) (off := 618) (t := 650) (by decide) (by decide) (by decide) rfl ?_
                                        refine x_aload_n (pc := 650) dL_law_650 rfl rfl hl1 ?_
                                        refine x_aload_n (pc := 651) dL_law_651 rfl rfl hl0 ?_
                                        refine x_iload_n (pc := 652) dL_law_652 rfl rfl ?_
                                        refine x_iconst (pc := 653) dL_law_653 (v := 1) rfl ?_
                                        refine x_iadd (pc := 654) dL_law_654 ?_
                                        obtain ⟨v265, e266, h⟩ := ob h
                                        refine y_iald (pc := 655) dL_law_655 e266 ?_
                                        refine x_aload_n (pc := 656) dL_law_656 rfl rfl hl0 ?_
                                        refine x_iload_n (pc := 657) dL_law_657 rfl rfl ?_
                                        refine x_iconst (pc := 658) dL_law_658 (v := 2) rfl ?_
                                        refine x_iadd (pc := 659) dL_law_659 ?_
                                        obtain ⟨v267, e268, h⟩ := ob h
                                        refine y_iald (pc := 660) dL_law_660 e268 ?_
                                        refine x_aload_n (pc := 661) dL_law_661 rfl rfl hl0 ?_
                                        refine x_iload_n (pc := 662) dL_law_662 rfl rfl ?_
                                        refine x_iconst (pc := 663) dL_law_663 (v := 3) rfl ?_
                                        refine x_iadd (pc := 664) dL_law_664 ?_
                                        obtain ⟨v269, e270, h⟩ := ob h
                                        refine y_iald (pc := 665) dL_law_665 e270 ?_
                                        obtain ⟨g285, h⟩ := bt h
                                        obtain ⟨r271, M272, e273, h⟩ := ob2 h
                                        refine x_callV (av := [.int v265, .int v267, .int v269]) (st := []) (pc := 666) dL_law_666 (E_X8_cheapest (d := d + 19) e273) rfl (Nat.le_of_ble_eq_true rfl) zc_X8_cheapest rfl zm_L_82 zi_X8_cheapest zs_X8_cheapest (zac_ok g285) (by decide) rfl rfl (zst_ok rfl (Nat.le_of_ble_eq_true rfl)) rfl ?_
                                        refine x_aload_n (pc := 669) dL_law_669 rfl rfl hl2 ?_
                                        refine x_aload_n (pc := 670) dL_law_670 rfl rfl hl0 ?_
                                        refine x_iload_n (pc := 671) dL_law_671 rfl rfl ?_
                                        refine x_iconst (pc := 672) dL_law_672 (v := 1) rfl ?_
                                        refine x_iadd (pc := 673) dL_law_673 ?_
                                        obtain ⟨v274, e275, h⟩ := ob h
                                        refine y_iald (pc := 674) dL_law_674 e275 ?_
                                        refine x_aload_n (pc := 675) dL_law_675 rfl rfl hl0 ?_
                                        refine x_iload_n (pc := 676) dL_law_676 rfl rfl ?_
                                        refine x_iconst (pc := 677) dL_law_677 (v := 2) rfl ?_
                                        refine x_iadd (pc := 678) dL_law_678 ?_
                                        obtain ⟨v276, e277, h⟩ := ob h
                                        refine y_iald (pc := 679) dL_law_679 e277 ?_
                                        refine x_aload_n (pc := 680) dL_law_680 rfl rfl hl0 ?_
                                        refine x_iload_n (pc := 681) dL_law_681 rfl rfl ?_
                                        refine x_iconst (pc := 682) dL_law_682 (v := 3) rfl ?_
                                        refine x_iadd (pc := 683) dL_law_683 ?_
                                        obtain ⟨v278, e279, h⟩ := ob h
                                        refine y_iald (pc := 684) dL_law_684 e279 ?_
                                        obtain ⟨g284, h⟩ := bt h
                                        obtain ⟨r280, M281, e282, h⟩ := ob2 h
                                        refine x_callV (av := [.int v274, .int v276, .int v278]) (st := [.int r271]) (pc := 685) dL_law_685 (E_X9_cheapest (d := d + 20) e282) rfl (Nat.le_of_ble_eq_true rfl) zc_X9_cheapest rfl zm_L_85 zi_X9_cheapest zs_X9_cheapest (zac_ok g284) (by decide) rfl rfl (zst_ok rfl (Nat.le_of_ble_eq_true rfl)) rfl ?_
                                        refine x_icmp_eq (pc := 688) dL_law_688 (t := 1176) rfl (fun c283 => ?_) (fun c283 => ?_)
                                        · rw [if_pos c283] at h
                                          refine x_iinc (pc := 1176) dL_law_1176 rfl rfl (by decide) rfl ?_
                                          refine x_goto (pc := 1179) dL_law_1179 (t := 18) rfl ?_
                                          refine ex_weak (Ls2 := [.ref l0, .ref l1, .ref l2, .int (l3 + 5)]) ⟨Or.inr rfl, Or.inr rfl, Or.inr rfl, Or.inr rfl, trivial⟩ ?_
                                          exact ih _ _ _ _ _ hl0 hl1 hl2 _ h K1 K2
                                        · rw [if_neg c283] at h
                                          refine x_iconst (pc := 691) dL_law_691 (v := 0) rfl ?_
                                          obtain rfl := s1 h
                                          rw [K1 _ rfl]
                                          exact x_ret (pc := 692) dL_law_692 (ty := .boolean) rfl rfl
                                      · rw [if_neg c264] at h
                                        by_cases c286 : v12 &&& 63 = 17
                                        · rw [if_pos c286] at h
                                          refine y_tableIn (pc := 32) dL_law_32 c286 (q := 17) (off := 661) (t := 693) (by decide) (by decide) (by decide) rfl ?_
                                          refine x_aload_n (pc := 693) dL_law_693 rfl rfl hl1 ?_
                                          refine x_aload_n (pc := 694) dL_law_694 rfl rfl hl0 ?_
                                          refine x_iload_n (pc := 695) dL_law_695 rfl rfl ?_
                                          refine x_iconst (pc := 696) dL_law_696 (v := 1) rfl ?_
                                          refine x_iadd (pc := 697) dL_law_697 ?_
                                          obtain ⟨v287, e288, h⟩ := ob h
                                          refine y_iald (pc := 698) dL_law_698 e288 ?_
                                          obtain ⟨g299, h⟩ := bt h
                                          obtain ⟨r289, M290, e291, h⟩ := ob2 h
                                          refine x_callV (av := [.int v287]) (st := []) (pc := 699) dL_law_699 (E_X8_runsOut (d := d + 17) e291) rfl (Nat.le_of_ble_eq_true rfl) zc_X8_runsOut rfl zm_L_86 zi_X8_runsOut zs_X8_runsOut (zac_ok g299) (by decide) rfl rfl (zst_ok rfl (Nat.le_of_ble_eq_true rfl)) rfl ?_
                                          refine x_aload_n (pc := 702) dL_law_702 rfl rfl hl2 ?_
                                          refine x_aload_n (pc := 703) dL_law_703 rfl rfl hl0 ?_
                                          refine x_iload_n (pc := 704) dL_law_704 rfl rfl ?_
                                          refine x_iconst (pc := 705) dL_law_705 (v := 1) rfl ?_
                                          refine x_iadd (pc := 706) dL_law_706 ?_
                                          obtain ⟨v292, e293, h⟩ := ob h
                                          refine y_iald (pc := 707) dL_law_707 e293 ?_
                                          obtain ⟨g298, h⟩ := bt h
                                          obtain ⟨r294, M295, e296, h⟩ := ob2 h
                                          refine x_callV (av := [.int v292]) (st := [.int r289]) (pc := 708) dL_law_708 (E_X9_runsOut (d := d + 18) e296) rfl (Nat.le_of_ble_eq_true rfl) zc_X9_runsOut rfl zm_L_89 zi_X9_runsOut zs_X9_runsOut (zac_ok g298) (by decide) rfl rfl (zst_ok rfl (Nat.le_of_ble_eq_true rfl)) rfl ?_
                                          refine x_icmp_eq (pc := 711) dL_law_711 (t := 1176) rfl (fun c297 => ?_) (fun c297 => ?_)
                                          · rw [if_pos c297] at h
                                            refine x_iinc (pc := 1176) dL_law_1176 rfl rfl (by decide) rfl ?_
                                            refine x_goto (pc := 1179) dL_law_1179 (t := 18) rfl ?_
                                            refine ex_weak (Ls2 := [.ref l0, .ref l1, .ref l2, .int (l3 + 5)]) ⟨Or.inr rfl, Or.inr rfl, Or.inr rfl, Or.inr rfl, trivial⟩ ?_
                                            exact ih _ _ _ _ _ hl0 hl1 hl2 _ h K1 K2
                                          · rw [if_neg c297] at h
                                            refine x_iconst (pc := 714) dL_law_714 (v := 0) rfl ?_
                                            obtain rfl := s1 h
                                            rw [K1 _ rfl]
                                            exact x_ret (pc := 715) dL_law_715 (ty := .boolean) rfl rfl
                                        · rw [if_neg c286] at h
                                          by_cases c300 : v12 &&& 63 = 18
                                          · rw [if_pos c300] at h
                                            refine y_tableIn (pc := 32) dL_law_32 c300 (q := 18) (off := 684) (t := 716) (by decide) (by decide) (by decide) rfl ?_
                                            refine x_aload_n (pc := 716) dL_law_716 rfl rfl hl1 ?_
                                            refine x_aload_n (pc := 717) dL_law_717 rfl rfl hl0 ?_
                                            refine x_iload_n (pc := 718) dL_law_718 rfl rfl ?_
                                            refine x_iconst (pc := 719) dL_law_719 (v := 1) rfl ?_
                                            refine x_iadd (pc := 720) dL_law_720 ?_
                                            obtain ⟨v301, e302, h⟩ := ob h
                                            refine y_iald (pc := 721) dL_law_721 e302 ?_
                                            obtain ⟨g313, h⟩ := bt h
                                            obtain ⟨r303, M304, e305, h⟩ := ob2 h
                                            refine x_callV (av := [.int v301]) (st := []) (pc := 722) dL_law_722 (E_X8_willBe (d := d + 17) e305) rfl (Nat.le_of_ble_eq_true rfl) zc_X8_willBe rfl zm_L_90 zi_X8_willBe zs_X8_willBe (zac_ok g313) (by decide) rfl rfl (zst_ok rfl (Nat.le_of_ble_eq_true rfl)) rfl ?_
                                            refine x_aload_n (pc := 725) dL_law_725 rfl rfl hl2 ?_
                                            refine x_aload_n (pc := 726) dL_law_726 rfl rfl hl0 ?_
                                            refine x_iload_n (pc := 727) dL_law_727 rfl rfl ?_
                                            refine x_iconst (pc := 728) dL_law_728 (v := 1) rfl ?_
                                            refine x_iadd (pc := 729) dL_law_729 ?_
                                            obtain ⟨v306, e307, h⟩ := ob h
                                            refine y_iald (pc := 730) dL_law_730 e307 ?_
                                            obtain ⟨g312, h⟩ := bt h
                                            obtain ⟨r308, M309, e310, h⟩ := ob2 h
                                            refine x_callV (av := [.int v306]) (st := [.int r303]) (pc := 731) dL_law_731 (E_X9_willBe (d := d + 18) e310) rfl (Nat.le_of_ble_eq_true rfl) zc_X9_willBe rfl zm_L_93 zi_X9_willBe zs_X9_willBe (zac_ok g312) (by decide) rfl rfl (zst_ok rfl (Nat.le_of_ble_eq_true rfl)) rfl ?_
                                            refine x_icmp_eq (pc := 734) dL_law_734 (t := 1176) rfl (fun c311 => ?_) (fun c311 => ?_)
                                            · rw [if_pos c311] at h
                                              refine x_iinc (pc := 1176) dL_law_1176 rfl rfl (by decide) rfl ?_
                                              refine x_goto (pc := 1179) dL_law_1179 (t := 18) rfl ?_
                                              refine ex_weak (Ls2 := [.ref l0, .ref l1, .ref l2, .int (l3 + 5)]) ⟨Or.inr rfl, Or.inr rfl, Or.inr rfl, Or.inr rfl, trivial⟩ ?_
                                              exact ih _ _ _ _ _ hl0 hl1 hl2 _ h K1 K2
                                            · rw [if_neg c311] at h
                                              refine x_iconst (pc := 737) dL_law_737 (v := 0) rfl ?_
                                              obtain rfl := s1 h
                                              rw [K1 _ rfl]
                                              exact x_ret (pc := 738) dL_law_738 (ty := .boolean) rfl rfl
                                          · rw [if_neg c300] at h
                                            by_cases c314 : v12 &&& 63 = 19
                                            · rw [if_pos c314] at h
                                              refine y_tableIn (pc := 32) dL_law_32 c314 (q := 19) (off := 707) (t := 739) (by decide) (by decide) (by decide) rfl ?_
                                              refine x_aload_n (pc := 739) dL_law_739 rfl rfl hl1 ?_
                                              refine x_aload_n (pc := 740) dL_law_740 rfl rfl hl0 ?_
                                              refine x_iload_n (pc := 741) dL_law_741 rfl rfl ?_
                                              refine x_iconst (pc := 742) dL_law_742 (v := 1) rfl ?_
                                              refine x_iadd (pc := 743) dL_law_743 ?_
                                              obtain ⟨v315, e316, h⟩ := ob h
                                              refine y_iald (pc := 744) dL_law_744 e316 ?_
                                              obtain ⟨g327, h⟩ := bt h
                                              obtain ⟨r317, M318, e319, h⟩ := ob2 h
                                              refine x_callV (av := [.int v315]) (st := []) (pc := 745) dL_law_745 (E_X8_plan (d := d) e319) rfl (Nat.le_of_ble_eq_true rfl) zc_X8_plan rfl zm_L_94 zi_X8_plan zs_X8_plan (zac_ok g327) (by decide) rfl rfl (zst_ok rfl (Nat.le_of_ble_eq_true rfl)) rfl ?_
                                              refine x_aload_n (pc := 748) dL_law_748 rfl rfl hl2 ?_
                                              refine x_aload_n (pc := 749) dL_law_749 rfl rfl hl0 ?_
                                              refine x_iload_n (pc := 750) dL_law_750 rfl rfl ?_
                                              refine x_iconst (pc := 751) dL_law_751 (v := 1) rfl ?_
                                              refine x_iadd (pc := 752) dL_law_752 ?_
                                              obtain ⟨v320, e321, h⟩ := ob h
                                              refine y_iald (pc := 753) dL_law_753 e321 ?_
                                              obtain ⟨g326, h⟩ := bt h
                                              obtain ⟨r322, M323, e324, h⟩ := ob2 h
                                              refine x_callV (av := [.int v320]) (st := [.int r317]) (pc := 754) dL_law_754 (E_X9_plan (d := d + 18) e324) rfl (Nat.le_of_ble_eq_true rfl) zc_X9_plan rfl zm_L_97 zi_X9_plan zs_X9_plan (zac_ok g326) (by decide) rfl rfl (zst_ok rfl (Nat.le_of_ble_eq_true rfl)) rfl ?_
                                              refine x_icmp_eq (pc := 757) dL_law_757 (t := 1176) rfl (fun c325 => ?_) (fun c325 => ?_)
                                              · rw [if_pos c325] at h
                                                refine x_iinc (pc := 1176) dL_law_1176 rfl rfl (by decide) rfl ?_
                                                refine x_goto (pc := 1179) dL_law_1179 (t := 18) rfl ?_
                                                refine ex_weak (Ls2 := [.ref l0, .ref l1, .ref l2, .int (l3 + 5)]) ⟨Or.inr rfl, Or.inr rfl, Or.inr rfl, Or.inr rfl, trivial⟩ ?_
                                                exact ih _ _ _ _ _ hl0 hl1 hl2 _ h K1 K2
                                              · rw [if_neg c325] at h
                                                refine x_iconst (pc := 760) dL_law_760 (v := 0) rfl ?_
                                                obtain rfl := s1 h
                                                rw [K1 _ rfl]
                                                exact x_ret (pc := 761) dL_law_761 (ty := .boolean) rfl rfl
                                            · rw [if_neg c314] at h
                                              by_cases c328 : v12 &&& 63 = 20
                                              · rw [if_pos c328] at h
                                                refine y_tableIn (pc := 32) dL_law_32 c328 (q := 20) (off := 730) (t := 762) (by decide) (by decide) (by decide) rfl ?_
                                                refine x_aload_n (pc := 762) dL_law_762 rfl rfl hl1 ?_
                                                refine x_aload_n (pc := 763) dL_law_763 rfl rfl hl0 ?_
                                                refine x_iload_n (pc := 764) dL_law_764 rfl rfl ?_
                                                refine x_iconst (pc := 765) dL_law_765 (v := 1) rfl ?_
                                                refine x_iadd (pc := 766) dL_law_766 ?_
                                                obtain ⟨v329, e330, h⟩ := ob h
                                                refine y_iald (pc := 767) dL_law_767 e330 ?_
                                                obtain ⟨g339, h⟩ := bt h
                                                obtain ⟨r331, e332, h⟩ := ob h
                                                refine x_callV (av := [.int v329]) (st := []) (pc := 768) dL_law_768 (E_X8_price (d := d + 19) e332) rfl (Nat.le_of_ble_eq_true rfl) zc_X8_price rfl zm_L_98 zi_X8_price zs_X8_price (zac_ok g339) (by decide) rfl rfl (zst_ok rfl (Nat.le_of_ble_eq_true rfl)) rfl ?_
                                                refine x_aload_n (pc := 771) dL_law_771 rfl rfl hl2 ?_
                                                refine x_aload_n (pc := 772) dL_law_772 rfl rfl hl0 ?_
                                                refine x_iload_n (pc := 773) dL_law_773 rfl rfl ?_
                                                refine x_iconst (pc := 774) dL_law_774 (v := 1) rfl ?_
                                                refine x_iadd (pc := 775) dL_law_775 ?_
                                                obtain ⟨v333, e334, h⟩ := ob h
                                                refine y_iald (pc := 776) dL_law_776 e334 ?_
                                                obtain ⟨g338, h⟩ := bt h
                                                obtain ⟨r335, e336, h⟩ := ob h
                                                refine x_callV (av := [.int v333]) (st := [.int r331]) (pc := 777) dL_law_777 (E_X9_price (d := d + 20) e336) rfl (Nat.le_of_ble_eq_true rfl) zc_X9_price rfl zm_L_101 zi_X9_price zs_X9_price (zac_ok g338) (by decide) rfl rfl (zst_ok rfl (Nat.le_of_ble_eq_true rfl)) rfl ?_
                                                refine x_icmp_eq (pc := 780) dL_law_780 (t := 1176) rfl (fun c337 => ?_) (fun c337 => ?_)
                                                · rw [if_pos c337] at h
                                                  refine x_iinc (pc := 1176) dL_law_1176 rfl rfl (by decide) rfl ?_
                                                  refine x_goto (pc := 1179) dL_law_1179 (t := 18) rfl ?_
                                                  refine ex_weak (Ls2 := [.ref l0, .ref l1, .ref l2, .int (l3 + 5)]) ⟨Or.inr rfl, Or.inr rfl, Or.inr rfl, Or.inr rfl, trivial⟩ ?_
                                                  exact ih _ _ _ _ _ hl0 hl1 hl2 _ h K1 K2
                                                · rw [if_neg c337] at h
                                                  refine x_iconst (pc := 783) dL_law_783 (v := 0) rfl ?_
                                                  obtain rfl := s1 h
                                                  rw [K1 _ rfl]
                                                  exact x_ret (pc := 784) dL_law_784 (ty := .boolean) rfl rfl
                                              · rw [if_neg c328] at h
                                                by_cases c340 : v12 &&& 63 = 21
                                                · rw [if_pos c340] at h
                                                  refine y_tableIn (pc := 32) dL_law_32 c340 (q := 21) (off := 753) (t := 785) (by decide) (by decide) (by decide) rfl ?_
                                                  refine x_aload_n (pc := 785) dL_law_785 rfl rfl hl1 ?_
                                                  refine x_aload_n (pc := 786) dL_law_786 rfl rfl hl0 ?_
                                                  refine x_iload_n (pc := 787) dL_law_787 rfl rfl ?_
                                                  refine x_iconst (pc := 788) dL_law_788 (v := 1) rfl ?_
                                                  refine x_iadd (pc := 789) dL_law_789 ?_
                                                  obtain ⟨v341, e342, h⟩ := ob h
                                                  refine y_iald (pc := 790) dL_law_790 e342 ?_
                                                  refine x_aload_n (pc := 791) dL_law_791 rfl rfl hl0 ?_
                                                  refine x_iload_n (pc := 792) dL_law_792 rfl rfl ?_
                                                  refine x_iconst (pc := 793) dL_law_793 (v := 2) rfl ?_
                                                  refine x_iadd (pc := 794) dL_law_794 ?_
                                                  obtain ⟨v343, e344, h⟩ := ob h
                                                  refine y_iald (pc := 795) dL_law_795 e344 ?_
                                                  obtain ⟨g355, h⟩ := bt h
                                                  obtain ⟨r345, e346, h⟩ := ob h
                                                  refine x_callV (av := [.int v341, .int v343]) (st := []) (pc := 796) dL_law_796 (E_X8_sells (d := d + 18) e346) rfl (Nat.le_of_ble_eq_true rfl) zc_X8_sells rfl zm_L_102 zi_X8_sells zs_X8_sells (zac_ok g355) (by decide) rfl rfl (zst_ok rfl (Nat.le_of_ble_eq_true rfl)) rfl ?_
                                                  refine x_aload_n (pc := 799) dL_law_799 rfl rfl hl2 ?_
                                                  refine x_aload_n (pc := 800) dL_law_800 rfl rfl hl0 ?_
                                                  refine x_iload_n (pc := 801) dL_law_801 rfl rfl ?_
                                                  refine x_iconst (pc := 802) dL_law_802 (v := 1) rfl ?_
                                                  refine x_iadd (pc := 803) dL_law_803 ?_
                                                  obtain ⟨v347, e348, h⟩ := ob h
                                                  refine y_iald (pc := 804) dL_law_804 e348 ?_
                                                  refine x_aload_n (pc := 805) dL_law_805 rfl rfl hl0 ?_
                                                  refine x_iload_n (pc := 806) dL_law_806 rfl rfl ?_
                                                  refine x_iconst (pc := 807) dL_law_807 (v := 2) rfl ?_
                                                  refine x_iadd (pc := 808) dL_law_808 ?_
                                                  obtain ⟨v349, e350, h⟩ := ob h
                                                  refine y_iald (pc := 809) dL_law_809 e350 ?_
                                                  obtain ⟨g354, h⟩ := bt h
                                                  obtain ⟨r351, e352, h⟩ := ob h
                                                  refine x_callV (av := [.int v347, .int v349]) (st := [.int r345]) (pc := 810) dL_law_810 (E_X9_sells (d := d + 18) e352) rfl (Nat.le_of_ble_eq_true rfl) zc_X9_sells rfl zm_L_105 zi_X9_sells zs_X9_sells (zac_ok g354) (by decide) rfl rfl (zst_ok rfl (Nat.le_of_ble_eq_true rfl)) rfl ?_
                                                  refine x_icmp_eq (pc := 813) dL_law_813 (t := 1176) rfl (fun c353 => ?_) (fun c353 => ?_)
                                                  · rw [if_pos c353] at h
                                                    refine x_iinc (pc := 1176) dL_law_1176 rfl rfl (by decide) rfl ?_
                                                    refine x_goto (pc := 1179) dL_law_1179 (t := 18) rfl ?_
                                                    refine ex_weak (Ls2 := [.ref l0, .ref l1, .ref l2, .int (l3 + 5)]) ⟨Or.inr rfl, Or.inr rfl, Or.inr rfl, Or.inr rfl, trivial⟩ ?_
                                                    exact ih _ _ _ _ _ hl0 hl1 hl2 _ h K1 K2
                                                  · rw [if_neg c353] at h
                                                    refine x_iconst (pc := 816) dL_law_816 (v := 0) rfl ?_
                                                    obtain rfl := s1 h
                                                    rw [K1 _ rfl]
                                                    exact x_ret (pc := 817) dL_law_817 (ty := .boolean) rfl rfl
                                                · rw [if_neg c340] at h
                                                  by_cases c356 : v12 &&& 63 = 22
                                                  · rw [if_pos c356] at h
                                                    refine y_tableIn (pc := 32) dL_law_32 c356 (q := 22) (off := 786) (t := 818) (by decide) (by decide) (by decide) rfl ?_
                                                    refine x_aload_n (pc := 818) dL_law_818 rfl rfl hl1 ?_
                                                    refine x_aload_n (pc := 819) dL_law_819 rfl rfl hl0 ?_
                                                    refine x_iload_n (pc := 820) dL_law_820 rfl rfl ?_
                                                    refine x_iconst (pc := 821) dL_law_821 (v := 1) rfl ?_
                                                    refine x_iadd (pc := 822) dL_law_822 ?_
                                                    obtain ⟨v357, e358, h⟩ := ob h
                                                    refine y_iald (pc := 823) dL_law_823 e358 ?_
                                                    refine x_aload_n (pc := 824) dL_law_824 rfl rfl hl0 ?_
                                                    refine x_iload_n (pc := 825) dL_law_825 rfl rfl ?_
                                                    refine x_iconst (pc := 826) dL_law_826 (v := 2) rfl ?_
                                                    refine x_iadd (pc := 827) dL_law_827 ?_
                                                    obtain ⟨v359, e360, h⟩ := ob h
                                                    refine y_iald (pc := 828) dL_law_828 e360 ?_
                                                    obtain ⟨g371, h⟩ := bt h
                                                    obtain ⟨r361, e362, h⟩ := ob h
                                                    refine x_callV (av := [.int v357, .int v359]) (st := []) (pc := 829) dL_law_829 (E_X8_share (d := d + 19) e362) rfl (Nat.le_of_ble_eq_true rfl) zc_X8_share rfl zm_L_106 zi_X8_share zs_X8_share (zac_ok g371) (by decide) rfl rfl (zst_ok rfl (Nat.le_of_ble_eq_true rfl)) rfl ?_
                                                    refine x_aload_n (pc := 832) dL_law_832 rfl rfl hl2 ?_
                                                    refine x_aload_n (pc := 833) dL_law_833 rfl rfl hl0 ?_
                                                    refine x_iload_n (pc := 834) dL_law_834 rfl rfl ?_
                                                    refine x_iconst (pc := 835) dL_law_835 (v := 1) rfl ?_
                                                    refine x_iadd (pc := 836) dL_law_836 ?_
                                                    obtain ⟨v363, e364, h⟩ := ob h
                                                    refine y_iald (pc := 837) dL_law_837 e364 ?_
                                                    refine x_aload_n (pc := 838) dL_law_838 rfl rfl hl0 ?_
                                                    refine x_iload_n (pc := 839) dL_law_839 rfl rfl ?_
                                                    refine x_iconst (pc := 840) dL_law_840 (v := 2) rfl ?_
                                                    refine x_iadd (pc := 841) dL_law_841 ?_
                                                    obtain ⟨v365, e366, h⟩ := ob h
                                                    refine y_iald (pc := 842) dL_law_842 e366 ?_
                                                    obtain ⟨g370, h⟩ := bt h
                                                    obtain ⟨r367, e368, h⟩ := ob h
                                                    refine x_callV (av := [.int v363, .int v365]) (st := [.int r361]) (pc := 843) dL_law_843 (E_X9_share (d := d + 19) e368) rfl (Nat.le_of_ble_eq_true rfl) zc_X9_share rfl zm_L_109 zi_X9_share zs_X9_share (zac_ok g370) (by decide) rfl rfl (zst_ok rfl (Nat.le_of_ble_eq_true rfl)) rfl ?_
                                                    refine x_icmp_eq (pc := 846) dL_law_846 (t := 1176) rfl (fun c369 => ?_) (fun c369 => ?_)
                                                    · rw [if_pos c369] at h
                                                      refine x_iinc (pc := 1176) dL_law_1176 rfl rfl (by decide) rfl ?_
                                                      refine x_goto (pc := 1179) dL_law_1179 (t := 18) rfl ?_
                                                      refine ex_weak (Ls2 := [.ref l0, .ref l1, .ref l2, .int (l3 + 5)]) ⟨Or.inr rfl, Or.inr rfl, Or.inr rfl, Or.inr rfl, trivial⟩ ?_
                                                      exact ih _ _ _ _ _ hl0 hl1 hl2 _ h K1 K2
                                                    · rw [if_neg c369] at h
                                                      refine x_iconst (pc := 849) dL_law_849 (v := 0) rfl ?_
                                                      obtain rfl := s1 h
                                                      rw [K1 _ rfl]
                                                      exact x_ret (pc := 850) dL_law_850 (ty := .boolean) rfl rfl
                                                  · rw [if_neg c356] at h
                                                    by_cases c372 : v12 &&& 63 = 23
                                                    · rw [if_pos c372] at h
                                                      refine y_tableIn (pc := 32) dL_law_32 c372 (q := 23) (off := 819) (t := 851) (by decide) (by decide) (by decide) rfl ?_
                                                      refine x_aload_n (pc := 851) dL_law_851 rfl rfl hl1 ?_
                                                      refine x_aload_n (pc := 852) dL_law_852 rfl rfl hl0 ?_
                                                      refine x_iload_n (pc := 853) dL_law_853 rfl rfl ?_
                                                      refine x_iconst (pc := 854) dL_law_854 (v := 1) rfl ?_
                                                      refine x_iadd (pc := 855) dL_law_855 ?_
                                                      obtain ⟨v373, e374, h⟩ := ob h
                                                      refine y_iald (pc := 856) dL_law_856 e374 ?_
                                                      obtain ⟨g383, h⟩ := bt h
                                                      obtain ⟨r375, e376, h⟩ := ob h
                                                      refine x_callV (av := [.int v373]) (st := []) (pc := 857) dL_law_857 (E_X8_more (d := d + 19) e376) rfl (Nat.le_of_ble_eq_true rfl) zc_X8_more rfl zm_L_110 zi_X8_more zs_X8_more (zac_ok g383) (by decide) rfl rfl (zst_ok rfl (Nat.le_of_ble_eq_true rfl)) rfl ?_
                                                      refine x_aload_n (pc := 860) dL_law_860 rfl rfl hl2 ?_
                                                      refine x_aload_n (pc := 861) dL_law_861 rfl rfl hl0 ?_
                                                      refine x_iload_n (pc := 862) dL_law_862 rfl rfl ?_
                                                      refine x_iconst (pc := 863) dL_law_863 (v := 1) rfl ?_
                                                      refine x_iadd (pc := 864) dL_law_864 ?_
                                                      obtain ⟨v377, e378, h⟩ := ob h
                                                      refine y_iald (pc := 865) dL_law_865 e378 ?_
                                                      obtain ⟨g382, h⟩ := bt h
                                                      obtain ⟨r379, e380, h⟩ := ob h
                                                      refine x_callV (av := [.int v377]) (st := [.int r375]) (pc := 866) dL_law_866 (E_X9_more (d := d + 19) e380) rfl (Nat.le_of_ble_eq_true rfl) zc_X9_more rfl zm_L_113 zi_X9_more zs_X9_more (zac_ok g382) (by decide) rfl rfl (zst_ok rfl (Nat.le_of_ble_eq_true rfl)) rfl ?_
                                                      refine x_icmp_eq (pc := 869) dL_law_869 (t := 1176) rfl (fun c381 => ?_) (fun c381 => ?_)
                                                      · rw [if_pos c381] at h
                                                        refine x_iinc (pc := 1176) dL_law_1176 rfl rfl (by decide) rfl ?_
                                                        refine x_goto (pc := 1179) dL_law_1179 (t := 18) rfl ?_
                                                        refine ex_weak (Ls2 := [.ref l0, .ref l1, .ref l2, .int (l3 + 5)]) ⟨Or.inr rfl, Or.inr rfl, Or.inr rfl, Or.inr rfl, trivial⟩ ?_
                                                        exact ih _ _ _ _ _ hl0 hl1 hl2 _ h K1 K2
                                                      · rw [if_neg c381] at h
                                                        refine x_iconst (pc := 872) dL_law_872 (v := 0) rfl ?_
                                                        obtain rfl := s1 h
                                                        rw [K1 _ rfl]
                                                        exact x_ret (pc := 873) dL_law_873 (ty := .boolean) rfl rfl
                                                    · rw [if_neg c372] at h
                                                      by_cases c384 : v12 &&& 63 = 24
                                                      · rw [if_pos c384] at h
                                                        refine y_tableIn (pc := 32) dL_law_32 c384 (q := 24) (off := 842) (t := 874) (by decide) (by decide) (by decide) rfl ?_
                                                        refine x_aload_n (pc := 874) dL_law_874 rfl rfl hl1 ?_
                                                        refine x_aload_n (pc := 875) dL_law_875 rfl rfl hl0 ?_
                                                        refine x_iload_n (pc := 876) dL_law_876 rfl rfl ?_
                                                        refine x_iconst (pc := 877) dL_law_877 (v := 1) rfl ?_
                                                        refine x_iadd (pc := 878) dL_law_878 ?_
                                                        obtain ⟨v385, e386, h⟩ := ob h
                                                        refine y_iald (pc := 879) dL_law_879 e386 ?_
                                                        refine x_aload_n (pc := 880) dL_law_880 rfl rfl hl0 ?_
                                                        refine x_iload_n (pc := 881) dL_law_881 rfl rfl ?_
                                                        refine x_iconst (pc := 882) dL_law_882 (v := 2) rfl ?_
                                                        refine x_iadd (pc := 883) dL_law_883 ?_
                                                        obtain ⟨v387, e388, h⟩ := ob h
                                                        refine y_iald (pc := 884) dL_law_884 e388 ?_
                                                        obtain ⟨g401, h⟩ := bt h
                                                        obtain ⟨r389, M390, e391, h⟩ := ob2 h
                                                        refine x_callV (av := [.int v385, .int v387]) (st := []) (pc := 885) dL_law_885 (E_X8_fire (d := d + 22) e391) rfl (Nat.le_of_ble_eq_true rfl) zc_X8_fire rfl zm_L_114 zi_X8_fire zs_X8_fire (zac_ok g401) (by decide) rfl rfl (zst_ok rfl (Nat.le_of_ble_eq_true rfl)) rfl ?_
                                                        refine x_aload_n (pc := 888) dL_law_888 rfl rfl hl2 ?_
                                                        refine x_aload_n (pc := 889) dL_law_889 rfl rfl hl0 ?_
                                                        refine x_iload_n (pc := 890) dL_law_890 rfl rfl ?_
                                                        refine x_iconst (pc := 891) dL_law_891 (v := 1) rfl ?_
                                                        refine x_iadd (pc := 892) dL_law_892 ?_
                                                        obtain ⟨v392, e393, h⟩ := ob h
                                                        refine y_iald (pc := 893) dL_law_893 e393 ?_
                                                        refine x_aload_n (pc := 894) dL_law_894 rfl rfl hl0 ?_
                                                        refine x_iload_n (pc := 895) dL_law_895 rfl rfl ?_
                                                        refine x_iconst (pc := 896) dL_law_896 (v := 2) rfl ?_
                                                        refine x_iadd (pc := 897) dL_law_897 ?_
                                                        obtain ⟨v394, e395, h⟩ := ob h
                                                        refine y_iald (pc := 898) dL_law_898 e395 ?_
                                                        obtain ⟨g400, h⟩ := bt h
                                                        obtain ⟨r396, M397, e398, h⟩ := ob2 h
                                                        refine x_callV (av := [.int v392, .int v394]) (st := [.int r389]) (pc := 899) dL_law_899 (E_X9_fire (d := d + 22) e398) rfl (Nat.le_of_ble_eq_true rfl) zc_X9_fire rfl zm_L_117 zi_X9_fire zs_X9_fire (zac_ok g400) (by decide) rfl rfl (zst_ok rfl (Nat.le_of_ble_eq_true rfl)) rfl ?_
                                                        refine x_icmp_eq (pc := 902) dL_law_902 (t := 1176) rfl (fun c399 => ?_) (fun c399 => ?_)
                                                        · rw [if_pos c399] at h
                                                          refine x_iinc (pc := 1176) dL_law_1176 rfl rfl (by decide) rfl ?_
                                                          refine x_goto (pc := 1179) dL_law_1179 (t := 18) rfl ?_
                                                          refine ex_weak (Ls2 := [.ref l0, .ref l1, .ref l2, .int (l3 + 5)]) ⟨Or.inr rfl, Or.inr rfl, Or.inr rfl, Or.inr rfl, trivial⟩ ?_
                                                          exact ih _ _ _ _ _ hl0 hl1 hl2 _ h K1 K2
                                                        · rw [if_neg c399] at h
                                                          refine x_iconst (pc := 905) dL_law_905 (v := 0) rfl ?_
                                                          obtain rfl := s1 h
                                                          rw [K1 _ rfl]
                                                          exact x_ret (pc := 906) dL_law_906 (ty := .boolean) rfl rfl
                                                      · rw [if_neg c384] at h
                                                        by_cases c402 : v12 &&& 63 = 25
                                                        · rw [if_pos c402] at h
                                                          refine y_tableIn (pc := 32) dL_law_32 c402 (q := 25) (off := 875) (t := 907) (by decide) (by decide) (by decide) rfl ?_
                                                          refine x_aload_n (pc := 907) dL_law_907 rfl rfl hl1 ?_
                                                          refine x_aload_n (pc := 908) dL_law_908 rfl rfl hl0 ?_
                                                          refine x_iload_n (pc := 909) dL_law_909 rfl rfl ?_
                                                          refine x_iconst (pc := 910) dL_law_910 (v := 1) rfl ?_
                                                          refine x_iadd (pc := 911) dL_law_911 ?_
                                                          obtain ⟨v403, e404, h⟩ := ob h
                                                          refine y_iald (pc := 912) dL_law_912 e404 ?_
                                                          obtain ⟨g413, h⟩ := bt h
                                                          obtain ⟨r405, e406, h⟩ := ob h
                                                          refine x_callV (av := [.int v403]) (st := []) (pc := 913) dL_law_913 (E_X8_rhymes (d := d + 23) e406) rfl (Nat.le_of_ble_eq_true rfl) zc_X8_rhymes rfl zm_L_118 zi_X8_rhymes zs_X8_rhymes (zac_ok g413) (by decide) rfl rfl (zst_ok rfl (Nat.le_of_ble_eq_true rfl)) rfl ?_
                                                          refine x_aload_n (pc := 916) dL_law_916 rfl rfl hl2 ?_
                                                          refine x_aload_n (pc := 917) dL_law_917 rfl rfl hl0 ?_
                                                          refine x_iload_n (pc := 918) dL_law_918 rfl rfl ?_
                                                          refine x_iconst (pc := 919) dL_law_919 (v := 1) rfl ?_
                                                          refine x_iadd (pc := 920) dL_law_920 ?_
                                                          obtain ⟨v407, e408, h⟩ := ob h
                                                          refine y_iald (pc := 921) dL_law_921 e408 ?_
                                                          obtain ⟨g412, h⟩ := bt h
                                                          obtain ⟨r409, e410, h⟩ := ob h
                                                          refine x_callV (av := [.int v407]) (st := [.int r405]) (pc := 922) dL_law_922 (E_X9_rhymes (d := d + 23) e410) rfl (Nat.le_of_ble_eq_true rfl) zc_X9_rhymes rfl zm_L_121 zi_X9_rhymes zs_X9_rhymes (zac_ok g412) (by decide) rfl rfl (zst_ok rfl (Nat.le_of_ble_eq_true rfl)) rfl ?_
                                                          refine x_icmp_eq (pc := 925) dL_law_925 (t := 1176) rfl (fun c411 => ?_) (fun c411 => ?_)
                                                          · rw [if_pos c411] at h
                                                            refine x_iinc (pc := 1176) dL_law_1176 rfl rfl (by decide) rfl ?_
                                                            refine x_goto (pc := 1179) dL_law_1179 (t := 18) rfl ?_
                                                            refine ex_weak (Ls2 := [.ref l0, .ref l1, .ref l2, .int (l3 + 5)]) ⟨Or.inr rfl, Or.inr rfl, Or.inr rfl, Or.inr rfl, trivial⟩ ?_
                                                            exact ih _ _ _ _ _ hl0 hl1 hl2 _ h K1 K2
                                                          · rw [if_neg c411] at h
                                                            refine x_iconst (pc := 928) dL_law_928 (v := 0) rfl ?_
                                                            obtain rfl := s1 h
                                                            rw [K1 _ rfl]
                                                            exact x_ret (pc := 929) dL_law_929 (ty := .boolean) rfl rfl
                                                        · rw [if_neg c402] at h
                                                          by_cases c414 : v12 &&& 63 = 26
                                                          · rw [if_pos c414] at h
                                                            refine y_tableIn (pc := 32) dL_law_32 c414 (q := 26) (off := 898) (t := 930) (by decide) (by decide) (by decide) rfl ?_
                                                            refine x_aload_n (pc := 930) dL_law_930 rfl rfl hl1 ?_
                                                            refine x_aload_n (pc := 931) dL_law_931 rfl rfl hl0 ?_
                                                            refine x_iload_n (pc := 932) dL_law_932 rfl rfl ?_
                                                            refine x_iconst (pc := 933) dL_law_933 (v := 1) rfl ?_
                                                            refine x_iadd (pc := 934) dL_law_934 ?_
                                                            obtain ⟨v415, e416, h⟩ := ob h
                                                            refine y_iald (pc := 935) dL_law_935 e416 ?_
                                                            refine x_aload_n (pc := 936) dL_law_936 rfl rfl hl0 ?_
                                                            refine x_iload_n (pc := 937) dL_law_937 rfl rfl ?_
                                                            refine x_iconst (pc := 938) dL_law_938 (v := 2) rfl ?_
                                                            refine x_iadd (pc := 939) dL_law_939 ?_
                                                            obtain ⟨v417, e418, h⟩ := ob h
                                                            refine y_iald (pc := 940) dL_law_940 e418 ?_
                                                            obtain ⟨g429, h⟩ := bt h
                                                            obtain ⟨r419, e420, h⟩ := ob h
                                                            refine x_callV (av := [.int v415, .int v417]) (st := []) (pc := 941) dL_law_941 (E_X8_silent (d := d + 23) e420) rfl (Nat.le_of_ble_eq_true rfl) zc_X8_silent rfl zm_L_122 zi_X8_silent zs_X8_silent (zac_ok g429) (by decide) rfl rfl (zst_ok rfl (Nat.le_of_ble_eq_true rfl)) rfl ?_
                                                            refine x_aload_n (pc := 944) dL_law_944 rfl rfl hl2 ?_
                                                            refine x_aload_n (pc := 945) dL_law_945 rfl rfl hl0 ?_
                                                            refine x_iload_n (pc := 946) dL_law_946 rfl rfl ?_
                                                            refine x_iconst (pc := 947) dL_law_947 (v := 1) rfl ?_
                                                            refine x_iadd (pc := 948) dL_law_948 ?_
                                                            obtain ⟨v421, e422, h⟩ := ob h
                                                            refine y_iald (pc := 949) dL_law_949 e422 ?_
                                                            refine x_aload_n (pc := 950) dL_law_950 rfl rfl hl0 ?_
                                                            refine x_iload_n (pc := 951) dL_law_951 rfl rfl ?_
                                                            refine x_iconst (pc := 952) dL_law_952 (v := 2) rfl ?_
                                                            refine x_iadd (pc := 953) dL_law_953 ?_
                                                            obtain ⟨v423, e424, h⟩ := ob h
                                                            refine y_iald (pc := 954) dL_law_954 e424 ?_
                                                            obtain ⟨g428, h⟩ := bt h
                                                            obtain ⟨r425, e426, h⟩ := ob h
                                                            refine x_callV (av := [.int v421, .int v423]) (st := [.int r419]) (pc := 955) dL_law_955 (E_X9_silent (d := d + 22) e426) rfl (Nat.le_of_ble_eq_true rfl) zc_X9_silent rfl zm_L_125 zi_X9_silent zs_X9_silent (zac_ok g428) (by decide) rfl rfl (zst_ok rfl (Nat.le_of_ble_eq_true rfl)) rfl ?_
                                                            refine x_icmp_eq (pc := 958) dL_law_958 (t := 1176) rfl (fun c427 => ?_) (fun c427 => ?_)
                                                            · rw [if_pos c427] at h
                                                              refine x_iinc (pc := 1176) dL_law_1176 rfl rfl (by decide) rfl ?_
                                                              refine x_goto (pc := 1179) dL_law_1179 (t := 18) rfl ?_
                                                              refine ex_weak (Ls2 := [.ref l0, .ref l1, .ref l2, .int (l3 + 5)]) ⟨Or.inr rfl, Or.inr rfl, Or.inr rfl, Or.inr rfl, trivial⟩ ?_
                                                              exact ih _ _ _ _ _ hl0 hl1 hl2 _ h K1 K2
                                                            · rw [if_neg c427] at h
                                                              refine x_iconst (pc := 961) dL_law_961 (v := 0) rfl ?_
                                                              obtain rfl := s1 h
                                                              rw [K1 _ rfl]
                                                              exact x_ret (pc := 962) dL_law_962 (ty := .boolean) rfl rfl
                                                          · rw [if_neg c414] at h
                                                            by_cases c430 : v12 &&& 63 = 27
                                                            · rw [if_pos c430] at h
                                                              refine y_tableIn (pc := 32) dL_law_32 c430 (q := 27) (off := 931) (t := 963) (by decide) (by decide) (by decide) rfl ?_
                                                              refine x_aload_n (pc := 963) dL_law_963 rfl rfl hl1 ?_
                                                              refine x_aload_n (pc := 964) dL_law_964 rfl rfl hl0 ?_
                                                              refine x_iload_n (pc := 965) dL_law_965 rfl rfl ?_
                                                              refine x_iconst (pc := 966) dL_law_966 (v := 1) rfl ?_
                                                              refine x_iadd (pc := 967) dL_law_967 ?_
                                                              obtain ⟨v431, e432, h⟩ := ob h
                                                              refine y_iald (pc := 968) dL_law_968 e432 ?_
                                                              refine x_aload_n (pc := 969) dL_law_969 rfl rfl hl0 ?_
                                                              refine x_iload_n (pc := 970) dL_law_970 rfl rfl ?_
                                                              refine x_iconst (pc := 971) dL_law_971 (v := 2) rfl ?_
                                                              refine x_iadd (pc := 972) dL_law_972 ?_
                                                              obtain ⟨v433, e434, h⟩ := ob h
                                                              refine y_iald (pc := 973) dL_law_973 e434 ?_
                                                              refine x_aload_n (pc := 974) dL_law_974 rfl rfl hl0 ?_
                                                              refine x_iload_n (pc := 975) dL_law_975 rfl rfl ?_
                                                              refine x_iconst (pc := 976) dL_law_976 (v := 3) rfl ?_
                                                              refine x_iadd (pc := 977) dL_law_977 ?_
                                                              obtain ⟨v435, e436, h⟩ := ob h
                                                              refine y_iald (pc := 978) dL_law_978 e436 ?_
                                                              refine x_if_eq (pc := 979) dL_law_979 (t := 986) rfl (fun c437 => ?_) (fun c437 => ?_)
                                                              · rw [if_pos c437] at h
                                                                refine x_iconst (pc := 986) dL_law_986 (v := 0) rfl ?_
                                                                obtain ⟨g458, h⟩ := bt h
                                                                obtain ⟨r438, M439, e440, h⟩ := ob2 h
                                                                refine x_callV (av := [.int v431, .int v433, .int 0]) (st := []) (pc := 987) dL_law_987 (E_X8_knot (d := d + 22) e440) rfl (Nat.le_of_ble_eq_true rfl) zc_X8_knot rfl zm_L_126 zi_X8_knot zs_X8_knot (zac_ok g458) (by decide) rfl rfl (zst_ok rfl (Nat.le_of_ble_eq_true rfl)) rfl ?_
                                                                refine x_aload_n (pc := 990) dL_law_990 rfl rfl hl2 ?_
                                                                refine x_aload_n (pc := 991) dL_law_991 rfl rfl hl0 ?_
                                                                refine x_iload_n (pc := 992) dL_law_992 rfl rfl ?_
                                                                refine x_iconst (pc := 993) dL_law_993 (v := 1) rfl ?_
                                                                refine x_iadd (pc := 994) dL_law_994 ?_
                                                                obtain ⟨v441, e442, h⟩ := ob h
                                                                refine y_iald (pc := 995) dL_law_995 e442 ?_
                                                                refine x_aload_n (pc := 996) dL_law_996 rfl rfl hl0 ?_
                                                                refine x_iload_n (pc := 997) dL_law_997 rfl rfl ?_
                                                                refine x_iconst (pc := 998) dL_law_998 (v := 2) rfl ?_
                                                                refine x_iadd (pc := 999) dL_law_999 ?_
                                                                obtain ⟨v443, e444, h⟩ := ob h
                                                                refine y_iald (pc := 1000) dL_law_1000 e444 ?_
                                                                refine x_aload_n (pc := 1001) dL_law_1001 rfl rfl hl0 ?_
                                                                refine x_iload_n (pc := 1002) dL_law_1002 rfl rfl ?_
                                                                refine x_iconst (pc := 1003) dL_law_1003 (v := 3) rfl ?_
                                                                refine x_iadd (pc := 1004) dL_law_1004 ?_
                                                                obtain ⟨v445, e446, h⟩ := ob h
                                                                refine y_iald (pc := 1005) dL_law_1005 e446 ?_
                                                                refine x_if_eq (pc := 1006) dL_law_1006 (t := 1013) rfl (fun c447 => ?_) (fun c447 => ?_)
                                                                · rw [if_pos c447] at h
                                                                  refine x_iconst (pc := 1013) dL_law_1013 (v := 0) rfl ?_
                                                                  obtain ⟨g452, h⟩ := bt h
                                                                  obtain ⟨r448, M449, e450, h⟩ := ob2 h
                                                                  refine x_callV (av := [.int v441, .int v443, .int 0]) (st := [.int r438]) (pc := 1014) dL_law_1014 (E_X9_knot (d := d + 21) e450) rfl (Nat.le_of_ble_eq_true rfl) zc_X9_knot rfl zm_L_130 zi_X9_knot zs_X9_knot (zac_ok g452) (by decide) rfl rfl (zst_ok rfl (Nat.le_of_ble_eq_true rfl)) rfl ?_
                                                                  refine x_icmp_eq (pc := 1017) dL_law_1017 (t := 1176) rfl (fun c451 => ?_) (fun c451 => ?_)
                                                                  · rw [if_pos c451] at h
                                                                    refine x_iinc (pc := 1176) dL_law_1176 rfl rfl (by decide) rfl ?_
                                                                    refine x_goto (pc := 1179) dL_law_1179 (t := 18) rfl ?_
                                                                    refine ex_weak (Ls2 := [.ref l0, .ref l1, .ref l2, .int (l3 + 5)]) ⟨Or.inr rfl, Or.inr rfl, Or.inr rfl, Or.inr rfl, trivial⟩ ?_
                                                                    exact ih _ _ _ _ _ hl0 hl1 hl2 _ h K1 K2
                                                                  · rw [if_neg c451] at h
                                                                    refine x_iconst (pc := 1020) dL_law_1020 (v := 0) rfl ?_
                                                                    obtain rfl := s1 h
                                                                    rw [K1 _ rfl]
                                                                    exact x_ret (pc := 1021) dL_law_1021 (ty := .boolean) rfl rfl
                                                                · rw [if_neg c447] at h
                                                                  refine x_iconst (pc := 1009) dL_law_1009 (v := 1) rfl ?_
                                                                  refine x_goto (pc := 1010) dL_law_1010 (t := 1014) rfl ?_
                                                                  obtain ⟨g457, h⟩ := bt h
                                                                  obtain ⟨r453, M454, e455, h⟩ := ob2 h
                                                                  refine x_callV (av := [.int v441, .int v443, .int 1]) (st := [.int r438]) (pc := 1014) dL_law_1014 (E_X9_knot (d := d + 21) e455) rfl (Nat.le_of_ble_eq_true rfl) zc_X9_knot rfl zm_L_130 zi_X9_knot zs_X9_knot (zac_ok g457) (by decide) rfl rfl (zst_ok rfl (Nat.le_of_ble_eq_true rfl)) rfl ?_
                                                                  refine x_icmp_eq (pc := 1017) dL_law_1017 (t := 1176) rfl (fun c456 => ?_) (fun c456 => ?_)
                                                                  · rw [if_pos c456] at h
                                                                    refine x_iinc (pc := 1176) dL_law_1176 rfl rfl (by decide) rfl ?_
                                                                    refine x_goto (pc := 1179) dL_law_1179 (t := 18) rfl ?_
                                                                    refine ex_weak (Ls2 := [.ref l0, .ref l1, .ref l2, .int (l3 + 5)]) ⟨Or.inr rfl, Or.inr rfl, Or.inr rfl, Or.inr rfl, trivial⟩ ?_
                                                                    exact ih _ _ _ _ _ hl0 hl1 hl2 _ h K1 K2
                                                                  · rw [if_neg c456] at h
                                                                    refine x_iconst (pc := 1020) dL_law_1020 (v := 0) rfl ?_
                                                                    obtain rfl := s1 h
                                                                    rw [K1 _ rfl]
                                                                    exact x_ret (pc := 1021) dL_law_1021 (ty := .boolean) rfl rfl
                                                              · rw [if_neg c437] at h
                                                                refine x_iconst (pc := 982) dL_law_982 (v := 1) rfl ?_
                                                                refine x_goto (pc := 983) dL_law_983 (t := 987) rfl ?_
                                                                obtain ⟨g479, h⟩ := bt h
                                                                obtain ⟨r459, M460, e461, h⟩ := ob2 h
                                                                refine x_callV (av := [.int v431, .int v433, .int 1]) (st := []) (pc := 987) dL_law_987 (E_X8_knot (d := d + 22) e461) rfl (Nat.le_of_ble_eq_true rfl) zc_X8_knot rfl zm_L_126 zi_X8_knot zs_X8_knot (zac_ok g479) (by decide) rfl rfl (zst_ok rfl (Nat.le_of_ble_eq_true rfl)) rfl ?_
                                                                refine x_aload_n (pc := 990) dL_law_990 rfl rfl hl2 ?_
                                                                refine x_aload_n (pc := 991) dL_law_991 rfl rfl hl0 ?_
                                                                refine x_iload_n (pc := 992) dL_law_992 rfl rfl ?_
                                                                refine x_iconst (pc := 993) dL_law_993 (v := 1) rfl ?_
                                                                refine x_iadd (pc := 994) dL_law_994 ?_
                                                                obtain ⟨v462, e463, h⟩ := ob h
                                                                refine y_iald (pc := 995) dL_law_995 e463 ?_
                                                                refine x_aload_n (pc := 996) dL_law_996 rfl rfl hl0 ?_
                                                                refine x_iload_n (pc := 997) dL_law_997 rfl rfl ?_
                                                                refine x_iconst (pc := 998) dL_law_998 (v := 2) rfl ?_
                                                                refine x_iadd (pc := 999) dL_law_999 ?_
                                                                obtain ⟨v464, e465, h⟩ := ob h
                                                                refine y_iald (pc := 1000) dL_law_1000 e465 ?_
                                                                refine x_aload_n (pc := 1001) dL_law_1001 rfl rfl hl0 ?_
                                                                refine x_iload_n (pc := 1002) dL_law_1002 rfl rfl ?_
                                                                refine x_iconst (pc := 1003) dL_law_1003 (v := 3) rfl ?_
                                                                refine x_iadd (pc := 1004) dL_law_1004 ?_
                                                                obtain ⟨v466, e467, h⟩ := ob h
                                                                refine y_iald (pc := 1005) dL_law_1005 e467 ?_
                                                                refine x_if_eq (pc := 1006) dL_law_1006 (t := 1013) rfl (fun c468 => ?_) (fun c468 => ?_)
                                                                · rw [if_pos c468] at h
                                                                  refine x_iconst (pc := 1013) dL_law_1013 (v := 0) rfl ?_
                                                                  obtain ⟨g473, h⟩ := bt h
                                                                  obtain ⟨r469, M470, e471, h⟩ := ob2 h
                                                                  refine x_callV (av := [.int v462, .int v464, .int 0]) (st := [.int r459]) (pc := 1014) dL_law_1014 (E_X9_knot (d := d + 21) e471) rfl (Nat.le_of_ble_eq_true rfl) zc_X9_knot rfl zm_L_130 zi_X9_knot zs_X9_knot (zac_ok g473) (by decide) rfl rfl (zst_ok rfl (Nat.le_of_ble_eq_true rfl)) rfl ?_
                                                                  refine x_icmp_eq (pc := 1017) dL_law_1017 (t := 1176) rfl (fun c472 => ?_) (fun c472 => ?_)
                                                                  · rw [if_pos c472] at h
                                                                    refine x_iinc (pc := 1176) dL_law_1176 rfl rfl (by decide) rfl ?_
                                                                    refine x_goto (pc := 1179) dL_law_1179 (t := 18) rfl ?_
                                                                    refine ex_weak (Ls2 := [.ref l0, .ref l1, .ref l2, .int (l3 + 5)]) ⟨Or.inr rfl, Or.inr rfl, Or.inr rfl, Or.inr rfl, trivial⟩ ?_
                                                                    exact ih _ _ _ _ _ hl0 hl1 hl2 _ h K1 K2
                                                                  · rw [if_neg c472] at h
                                                                    refine x_iconst (pc := 1020) dL_law_1020 (v := 0) rfl ?_
                                                                    obtain rfl := s1 h
                                                                    rw [K1 _ rfl]
                                                                    exact x_ret (pc := 1021) dL_law_1021 (ty := .boolean) rfl rfl
                                                                · rw [if_neg c468] at h
                                                                  refine x_iconst (pc := 1009) dL_law_1009 (v := 1) rfl ?_
                                                                  refine x_goto (pc := 1010) dL_law_1010 (t := 1014) rfl ?_
                                                                  obtain ⟨g478, h⟩ := bt h
                                                                  obtain ⟨r474, M475, e476, h⟩ := ob2 h
                                                                  refine x_callV (av := [.int v462, .int v464, .int 1]) (st := [.int r459]) (pc := 1014) dL_law_1014 (E_X9_knot (d := d + 21) e476) rfl (Nat.le_of_ble_eq_true rfl) zc_X9_knot rfl zm_L_130 zi_X9_knot zs_X9_knot (zac_ok g478) (by decide) rfl rfl (zst_ok rfl (Nat.le_of_ble_eq_true rfl)) rfl ?_
                                                                  refine x_icmp_eq (pc := 1017) dL_law_1017 (t := 1176) rfl (fun c477 => ?_) (fun c477 => ?_)
                                                                  · rw [if_pos c477] at h
                                                                    refine x_iinc (pc := 1176) dL_law_1176 rfl rfl (by decide) rfl ?_
                                                                    refine x_goto (pc := 1179) dL_law_1179 (t := 18) rfl ?_
                                                                    refine ex_weak (Ls2 := [.ref l0, .ref l1, .ref l2, .int (l3 + 5)]) ⟨Or.inr rfl, Or.inr rfl, Or.inr rfl, Or.inr rfl, trivial⟩ ?_
                                                                    exact ih _ _ _ _ _ hl0 hl1 hl2 _ h K1 K2
                                                                  · rw [if_neg c477] at h
                                                                    refine x_iconst (pc := 1020) dL_law_1020 (v := 0) rfl ?_
                                                                    obtain rfl := s1 h
                                                                    rw [K1 _ rfl]
                                                                    exact x_ret (pc := 1021) dL_law_1021 (ty := .boolean) rfl rfl
                                                            · rw [if_neg c430] at h
                                                              by_cases c480 : v12 &&& 63 = 28
                                                              · rw [if_pos c480] at h
                                                                refine y_tableIn (pc := 32) dL_law_32 c480 (q := 28) (off := 990) (t := 1022) (by decide) (by decide) (by decide) rfl ?_
                                                                refine x_aload_n (pc := 1022) dL_law_1022 rfl rfl hl1 ?_
                                                                obtain ⟨g487, h⟩ := bt h
                                                                obtain ⟨r481, e482, h⟩ := ob h
                                                                refine x_callV (av := []) (st := []) (pc := 1023) dL_law_1023 (E_X8_who (d := d + 20) e482) rfl (Nat.le_of_ble_eq_true rfl) zc_X8_who rfl zm_L_131 zi_X8_who zs_X8_who (zac_ok g487) (by decide) rfl rfl (zst_ok rfl (Nat.le_of_ble_eq_true rfl)) rfl ?_
                                                                refine x_aload_n (pc := 1026) dL_law_1026 rfl rfl hl2 ?_
                                                                obtain ⟨g486, h⟩ := bt h
                                                                obtain ⟨r483, e484, h⟩ := ob h
                                                                refine x_callV (av := []) (st := [.int r481]) (pc := 1027) dL_law_1027 (E_X9_who (d := d + 20) e484) rfl (Nat.le_of_ble_eq_true rfl) zc_X9_who rfl zm_L_134 zi_X9_who zs_X9_who (zac_ok g486) (by decide) rfl rfl (zst_ok rfl (Nat.le_of_ble_eq_true rfl)) rfl ?_
                                                                refine x_icmp_eq (pc := 1030) dL_law_1030 (t := 1176) rfl (fun c485 => ?_) (fun c485 => ?_)
                                                                · rw [if_pos c485] at h
                                                                  refine x_iinc (pc := 1176) dL_law_1176 rfl rfl (by decide) rfl ?_
                                                                  refine x_goto (pc := 1179) dL_law_1179 (t := 18) rfl ?_
                                                                  refine ex_weak (Ls2 := [.ref l0, .ref l1, .ref l2, .int (l3 + 5)]) ⟨Or.inr rfl, Or.inr rfl, Or.inr rfl, Or.inr rfl, trivial⟩ ?_
                                                                  exact ih _ _ _ _ _ hl0 hl1 hl2 _ h K1 K2
                                                                · rw [if_neg c485] at h
                                                                  refine x_iconst (pc := 1033) dL_law_1033 (v := 0) rfl ?_
                                                                  obtain rfl := s1 h
                                                                  rw [K1 _ rfl]
                                                                  exact x_ret (pc := 1034) dL_law_1034 (ty := .boolean) rfl rfl
                                                              · rw [if_neg c480] at h
                                                                by_cases c488 : v12 &&& 63 = 29
                                                                · rw [if_pos c488] at h
                                                                  refine y_tableIn (pc := 32) dL_law_32 c488 (q := 29) (off := 1003) (t := 1035) (by decide) (by decide) (by decide) rfl ?_
                                                                  refine x_aload_n (pc := 1035) dL_law_1035 rfl rfl hl1 ?_
                                                                  obtain ⟨g495, h⟩ := bt h
                                                                  obtain ⟨r489, e490, h⟩ := ob h
                                                                  refine x_callV (av := []) (st := []) (pc := 1036) dL_law_1036 (E_X8_ask (d := d + 20) e490) rfl (Nat.le_of_ble_eq_true rfl) zc_X8_ask rfl zm_L_135 zi_X8_ask zs_X8_ask (zac_ok g495) (by decide) rfl rfl (zst_ok rfl (Nat.le_of_ble_eq_true rfl)) rfl ?_
                                                                  refine x_aload_n (pc := 1039) dL_law_1039 rfl rfl hl2 ?_
                                                                  obtain ⟨g494, h⟩ := bt h
                                                                  obtain ⟨r491, e492, h⟩ := ob h
                                                                  refine x_callV (av := []) (st := [.int r489]) (pc := 1040) dL_law_1040 (E_X9_ask (d := d + 20) e492) rfl (Nat.le_of_ble_eq_true rfl) zc_X9_ask rfl zm_L_138 zi_X9_ask zs_X9_ask (zac_ok g494) (by decide) rfl rfl (zst_ok rfl (Nat.le_of_ble_eq_true rfl)) rfl ?_
                                                                  refine x_icmp_eq (pc := 1043) dL_law_1043 (t := 1176) rfl (fun c493 => ?_) (fun c493 => ?_)
                                                                  · rw [if_pos c493] at h
                                                                    refine x_iinc (pc := 1176) dL_law_1176 rfl rfl (by decide) rfl ?_
                                                                    refine x_goto (pc := 1179) dL_law_1179 (t := 18) rfl ?_
                                                                    refine ex_weak (Ls2 := [.ref l0, .ref l1, .ref l2, .int (l3 + 5)]) ⟨Or.inr rfl, Or.inr rfl, Or.inr rfl, Or.inr rfl, trivial⟩ ?_
                                                                    exact ih _ _ _ _ _ hl0 hl1 hl2 _ h K1 K2
                                                                  · rw [if_neg c493] at h
                                                                    refine x_iconst (pc := 1046) dL_law_1046 (v := 0) rfl ?_
                                                                    obtain rfl := s1 h
                                                                    rw [K1 _ rfl]
                                                                    exact x_ret (pc := 1047) dL_law_1047 (ty := .boolean) rfl rfl
                                                                · rw [if_neg c488] at h
                                                                  by_cases c496 : v12 &&& 63 = 30
                                                                  · rw [if_pos c496] at h
                                                                    refine y_tableIn (pc := 32) dL_law_32 c496 (q := 30) (off := 1016) (t := 1048) (by decide) (by decide) (by decide) rfl ?_
                                                                    refine x_aload_n (pc := 1048) dL_law_1048 rfl rfl hl1 ?_
                                                                    refine x_aload_n (pc := 1049) dL_law_1049 rfl rfl hl0 ?_
                                                                    refine x_iload_n (pc := 1050) dL_law_1050 rfl rfl ?_
                                                                    refine x_iconst (pc := 1051) dL_law_1051 (v := 1) rfl ?_
                                                                    refine x_iadd (pc := 1052) dL_law_1052 ?_
                                                                    obtain ⟨v497, e498, h⟩ := ob h
                                                                    refine y_iald (pc := 1053) dL_law_1053 e498 ?_
                                                                    refine x_aload_n (pc := 1054) dL_law_1054 rfl rfl hl0 ?_
                                                                    refine x_iload_n (pc := 1055) dL_law_1055 rfl rfl ?_
                                                                    refine x_iconst (pc := 1056) dL_law_1056 (v := 2) rfl ?_
                                                                    refine x_iadd (pc := 1057) dL_law_1057 ?_
                                                                    obtain ⟨v499, e500, h⟩ := ob h
                                                                    refine y_iald (pc := 1058) dL_law_1058 e500 ?_
                                                                    obtain ⟨g513, h⟩ := bt h
                                                                    obtain ⟨r501, M502, e503, h⟩ := ob2 h
                                                                    refine x_callV (av := [.int v497, .int v499]) (st := []) (pc := 1059) dL_law_1059 (E_X8_write (d := d + 22) e503) rfl (Nat.le_of_ble_eq_true rfl) zc_X8_write rfl zm_L_139 zi_X8_write zs_X8_write (zac_ok g513) (by decide) rfl rfl (zst_ok rfl (Nat.le_of_ble_eq_true rfl)) rfl ?_
                                                                    refine x_aload_n (pc := 1062) dL_law_1062 rfl rfl hl2 ?_
                                                                    refine x_aload_n (pc := 1063) dL_law_1063 rfl rfl hl0 ?_
                                                                    refine x_iload_n (pc := 1064) dL_law_1064 rfl rfl ?_
                                                                    refine x_iconst (pc := 1065) dL_law_1065 (v := 1) rfl ?_
                                                                    refine x_iadd (pc := 1066) dL_law_1066 ?_
                                                                    obtain ⟨v504, e505, h⟩ := ob h
                                                                    refine y_iald (pc := 1067) dL_law_1067 e505 ?_
                                                                    refine x_aload_n (pc := 1068) dL_law_1068 rfl rfl hl0 ?_
                                                                    refine x_iload_n (pc := 1069) dL_law_1069 rfl rfl ?_
                                                                    refine x_iconst (pc := 1070) dL_law_1070 (v := 2) rfl ?_
                                                                    refine x_iadd (pc := 1071) dL_law_1071 ?_
                                                                    obtain ⟨v506, e507, h⟩ := ob h
                                                                    refine y_iald (pc := 1072) dL_law_1072 e507 ?_
                                                                    obtain ⟨g512, h⟩ := bt h
                                                                    obtain ⟨r508, M509, e510, h⟩ := ob2 h
                                                                    refine x_callV (av := [.int v504, .int v506]) (st := [.int r501]) (pc := 1073) dL_law_1073 (E_X9_write (d := d + 21) e510) rfl (Nat.le_of_ble_eq_true rfl) zc_X9_write rfl zm_L_142 zi_X9_write zs_X9_write (zac_ok g512) (by decide) rfl rfl (zst_ok rfl (Nat.le_of_ble_eq_true rfl)) rfl ?_
                                                                    refine x_icmp_eq (pc := 1076) dL_law_1076 (t := 1176) rfl (fun c511 => ?_) (fun c511 => ?_)
                                                                    · rw [if_pos c511] at h
                                                                      refine x_iinc (pc := 1176) dL_law_1176 rfl rfl (by decide) rfl ?_
                                                                      refine x_goto (pc := 1179) dL_law_1179 (t := 18) rfl ?_
                                                                      refine ex_weak (Ls2 := [.ref l0, .ref l1, .ref l2, .int (l3 + 5)]) ⟨Or.inr rfl, Or.inr rfl, Or.inr rfl, Or.inr rfl, trivial⟩ ?_
                                                                      exact ih _ _ _ _ _ hl0 hl1 hl2 _ h K1 K2
                                                                    · rw [if_neg c511] at h
                                                                      refine x_iconst (pc := 1079) dL_law_1079 (v := 0) rfl ?_
                                                                      obtain rfl := s1 h
                                                                      rw [K1 _ rfl]
                                                                      exact x_ret (pc := 1080) dL_law_1080 (ty := .boolean) rfl rfl
                                                                  · rw [if_neg c496] at h
                                                                    by_cases c514 : v12 &&& 63 = 31
                                                                    · rw [if_pos c514] at h
                                                                      refine y_tableIn (pc := 32) dL_law_32 c514 (q := 31) (off := 1049) (t := 1081) (by decide) (by decide) (by decide) rfl ?_
                                                                      refine x_aload_n (pc := 1081) dL_law_1081 rfl rfl hl1 ?_
                                                                      obtain ⟨g523, h⟩ := bt h
                                                                      obtain ⟨r515, M516, e517, h⟩ := ob2 h
                                                                      refine x_callV (av := []) (st := []) (pc := 1082) dL_law_1082 (E_X8_tear (d := d + 22) e517) rfl (Nat.le_of_ble_eq_true rfl) zc_X8_tear rfl zm_L_143 zi_X8_tear zs_X8_tear (zac_ok g523) (by decide) rfl rfl (zst_ok rfl (Nat.le_of_ble_eq_true rfl)) rfl ?_
                                                                      refine x_aload_n (pc := 1085) dL_law_1085 rfl rfl hl2 ?_
                                                                      obtain ⟨g522, h⟩ := bt h
                                                                      obtain ⟨r518, M519, e520, h⟩ := ob2 h
                                                                      refine x_callV (av := []) (st := [.int r515]) (pc := 1086) dL_law_1086 (E_X9_tear (d := d + 23) e520) rfl (Nat.le_of_ble_eq_true rfl) zc_X9_tear rfl zm_L_146 zi_X9_tear zs_X9_tear (zac_ok g522) (by decide) rfl rfl (zst_ok rfl (Nat.le_of_ble_eq_true rfl)) rfl ?_
                                                                      refine x_icmp_eq (pc := 1089) dL_law_1089 (t := 1176) rfl (fun c521 => ?_) (fun c521 => ?_)
                                                                      · rw [if_pos c521] at h
                                                                        refine x_iinc (pc := 1176) dL_law_1176 rfl rfl (by decide) rfl ?_
                                                                        refine x_goto (pc := 1179) dL_law_1179 (t := 18) rfl ?_
                                                                        refine ex_weak (Ls2 := [.ref l0, .ref l1, .ref l2, .int (l3 + 5)]) ⟨Or.inr rfl, Or.inr rfl, Or.inr rfl, Or.inr rfl, trivial⟩ ?_
                                                                        exact ih _ _ _ _ _ hl0 hl1 hl2 _ h K1 K2
                                                                      · rw [if_neg c521] at h
                                                                        refine x_iconst (pc := 1092) dL_law_1092 (v := 0) rfl ?_
                                                                        obtain rfl := s1 h
                                                                        rw [K1 _ rfl]
                                                                        exact x_ret (pc := 1093) dL_law_1093 (ty := .boolean) rfl rfl
                                                                    · rw [if_neg c514] at h
                                                                      by_cases c524 : v12 &&& 63 = 32
                                                                      · rw [if_pos c524] at h
                                                                        refine y_tableIn (pc := 32) dL_law_32 c524 (q := 32) (off := 1062) (t := 1094) (by decide) (by decide) (by decide) rfl ?_
                                                                        refine x_aload_n (pc := 1094) dL_law_1094 rfl rfl hl1 ?_
                                                                        obtain ⟨g531, h⟩ := bt h
                                                                        obtain ⟨r525, e526, h⟩ := ob h
                                                                        refine x_callV (av := []) (st := []) (pc := 1095) dL_law_1095 (E_X8_judge (d := d + 22) e526) rfl (Nat.le_of_ble_eq_true rfl) zc_X8_judge rfl zm_L_147 zi_X8_judge zs_X8_judge (zac_ok g531) (by decide) rfl rfl (zst_ok rfl (Nat.le_of_ble_eq_true rfl)) rfl ?_
                                                                        refine x_aload_n (pc := 1098) dL_law_1098 rfl rfl hl2 ?_
                                                                        obtain ⟨g530, h⟩ := bt h
                                                                        obtain ⟨r527, e528, h⟩ := ob h
                                                                        refine x_callV (av := []) (st := [.int r525]) (pc := 1099) dL_law_1099 (E_X9_judge (d := d + 23) e528) rfl (Nat.le_of_ble_eq_true rfl) zc_X9_judge rfl zm_L_150 zi_X9_judge zs_X9_judge (zac_ok g530) (by decide) rfl rfl (zst_ok rfl (Nat.le_of_ble_eq_true rfl)) rfl ?_
                                                                        refine x_icmp_eq (pc := 1102) dL_law_1102 (t := 1176) rfl (fun c529 => ?_) (fun c529 => ?_)
                                                                        · rw [if_pos c529] at h
                                                                          refine x_iinc (pc := 1176) dL_law_1176 rfl rfl (by decide) rfl ?_
                                                                          refine x_goto (pc := 1179) dL_law_1179 (t := 18) rfl ?_
                                                                          refine ex_weak (Ls2 := [.ref l0, .ref l1, .ref l2, .int (l3 + 5)]) ⟨Or.inr rfl, Or.inr rfl, Or.inr rfl, Or.inr rfl, trivial⟩ ?_
                                                                          exact ih _ _ _ _ _ hl0 hl1 hl2 _ h K1 K2
                                                                        · rw [if_neg c529] at h
                                                                          refine x_iconst (pc := 1105) dL_law_1105 (v := 0) rfl ?_
                                                                          obtain rfl := s1 h
                                                                          rw [K1 _ rfl]
                                                                          exact x_ret (pc := 1106) dL_law_1106 (ty := .boolean) rfl rfl
                                                                      · rw [if_neg c524] at h
                                                                        by_cases c532 : v12 &&& 63 = 33
                                                                        · rw [if_pos c532] at h
                                                                          refine y_tableIn (pc := 32) dL_law_32 c532 (q := 33) (off := 1075) (t := 1107) (by decide) (by decide) (by decide) rfl ?_
                                                                          refine x_aload_n (pc := 1107) dL_law_1107 rfl rfl hl1 ?_
                                                                          refine x_aload_n (pc := 1108) dL_law_1108 rfl rfl hl0 ?_
                                                                          refine x_iload_n (pc := 1109) dL_law_1109 rfl rfl ?_
                                                                          refine x_iconst (pc := 1110) dL_law_1110 (v := 1) rfl ?_
                                                                          refine x_iadd (pc := 1111) dL_law_1111 ?_
                                                                          obtain ⟨v533, e534, h⟩ := ob h
                                                                          refine y_iald (pc := 1112) dL_law_1112 e534 ?_
                                                                          obtain ⟨g545, h⟩ := bt h
                                                                          obtain ⟨r535, M536, e537, h⟩ := ob2 h
                                                                          refine x_callV (av := [.int v533]) (st := []) (pc := 1113) dL_law_1113 (E_X8_seed (d := d + 23) e537) rfl (Nat.le_of_ble_eq_true rfl) zc_X8_seed rfl zm_L_151 zi_X8_seed zs_X8_seed (zac_ok g545) (by decide) rfl rfl (zst_ok rfl (Nat.le_of_ble_eq_true rfl)) rfl ?_
                                                                          refine x_aload_n (pc := 1116) dL_law_1116 rfl rfl hl2 ?_
                                                                          refine x_aload_n (pc := 1117) dL_law_1117 rfl rfl hl0 ?_
                                                                          refine x_iload_n (pc := 1118) dL_law_1118 rfl rfl ?_
                                                                          refine x_iconst (pc := 1119) dL_law_1119 (v := 1) rfl ?_
                                                                          refine x_iadd (pc := 1120) dL_law_1120 ?_
                                                                          obtain ⟨v538, e539, h⟩ := ob h
                                                                          refine y_iald (pc := 1121) dL_law_1121 e539 ?_
                                                                          obtain ⟨g544, h⟩ := bt h
                                                                          obtain ⟨r540, M541, e542, h⟩ := ob2 h
                                                                          refine x_callV (av := [.int v538]) (st := [.int r535]) (pc := 1122) dL_law_1122 (E_X9_seed (d := d + 23) e542) rfl (Nat.le_of_ble_eq_true rfl) zc_X9_seed rfl zm_L_154 zi_X9_seed zs_X9_seed (zac_ok g544) (by decide) rfl rfl (zst_ok rfl (Nat.le_of_ble_eq_true rfl)) rfl ?_
                                                                          refine x_icmp_eq (pc := 1125) dL_law_1125 (t := 1176) rfl (fun c543 => ?_) (fun c543 => ?_)
                                                                          · rw [if_pos c543] at h
                                                                            refine x_iinc (pc := 1176) dL_law_1176 rfl rfl (by decide) rfl ?_
                                                                            refine x_goto (pc := 1179) dL_law_1179 (t := 18) rfl ?_
                                                                            refine ex_weak (Ls2 := [.ref l0, .ref l1, .ref l2, .int (l3 + 5)]) ⟨Or.inr rfl, Or.inr rfl, Or.inr rfl, Or.inr rfl, trivial⟩ ?_
                                                                            exact ih _ _ _ _ _ hl0 hl1 hl2 _ h K1 K2
                                                                          · rw [if_neg c543] at h
                                                                            refine x_iconst (pc := 1128) dL_law_1128 (v := 0) rfl ?_
                                                                            obtain rfl := s1 h
                                                                            rw [K1 _ rfl]
                                                                            exact x_ret (pc := 1129) dL_law_1129 (ty := .boolean) rfl rfl
                                                                        · rw [if_neg c532] at h
                                                                          by_cases c546 : v12 &&& 63 = 34
                                                                          · rw [if_pos c546] at h
                                                                            refine y_tableIn (pc := 32) dL_law_32 c546 (q := 34) (off := 1098) (t := 1130) (by decide) (by decide) (by decide) rfl ?_
                                                                            refine x_aload_n (pc := 1130) dL_law_1130 rfl rfl hl1 ?_
                                                                            refine x_aload_n (pc := 1131) dL_law_1131 rfl rfl hl0 ?_
                                                                            refine x_iload_n (pc := 1132) dL_law_1132 rfl rfl ?_
                                                                            refine x_iconst (pc := 1133) dL_law_1133 (v := 1) rfl ?_
                                                                            refine x_iadd (pc := 1134) dL_law_1134 ?_
                                                                            obtain ⟨v547, e548, h⟩ := ob h
                                                                            refine y_iald (pc := 1135) dL_law_1135 e548 ?_
                                                                            obtain ⟨g559, h⟩ := bt h
                                                                            obtain ⟨r549, M550, e551, h⟩ := ob2 h
                                                                            refine x_callV (av := [.int v547]) (st := []) (pc := 1136) dL_law_1136 (E_X8_keep (d := d + 22) e551) rfl (Nat.le_of_ble_eq_true rfl) zc_X8_keep rfl zm_L_155 zi_X8_keep zs_X8_keep (zac_ok g559) (by decide) rfl rfl (zst_ok rfl (Nat.le_of_ble_eq_true rfl)) rfl ?_
                                                                            refine x_aload_n (pc := 1139) dL_law_1139 rfl rfl hl2 ?_
                                                                            refine x_aload_n (pc := 1140) dL_law_1140 rfl rfl hl0 ?_
                                                                            refine x_iload_n (pc := 1141) dL_law_1141 rfl rfl ?_
                                                                            refine x_iconst (pc := 1142) dL_law_1142 (v := 1) rfl ?_
                                                                            refine x_iadd (pc := 1143) dL_law_1143 ?_
                                                                            obtain ⟨v552, e553, h⟩ := ob h
                                                                            refine y_iald (pc := 1144) dL_law_1144 e553 ?_
                                                                            obtain ⟨g558, h⟩ := bt h
                                                                            obtain ⟨r554, M555, e556, h⟩ := ob2 h
                                                                            refine x_callV (av := [.int v552]) (st := [.int r549]) (pc := 1145) dL_law_1145 (E_X9_keep (d := d + 22) e556) rfl (Nat.le_of_ble_eq_true rfl) zc_X9_keep rfl zm_L_158 zi_X9_keep zs_X9_keep (zac_ok g558) (by decide) rfl rfl (zst_ok rfl (Nat.le_of_ble_eq_true rfl)) rfl ?_
                                                                            refine x_icmp_eq (pc := 1148) dL_law_1148 (t := 1176) rfl (fun c557 => ?_) (fun c557 => ?_)
                                                                            · rw [if_pos c557] at h
                                                                              refine x_iinc (pc := 1176) dL_law_1176 rfl rfl (by decide) rfl ?_
                                                                              refine x_goto (pc := 1179) dL_law_1179 (t := 18) rfl ?_
                                                                              refine ex_weak (Ls2 := [.ref l0, .ref l1, .ref l2, .int (l3 + 5)]) ⟨Or.inr rfl, Or.inr rfl, Or.inr rfl, Or.inr rfl, trivial⟩ ?_
                                                                              exact ih _ _ _ _ _ hl0 hl1 hl2 _ h K1 K2
                                                                            · rw [if_neg c557] at h
                                                                              refine x_iconst (pc := 1151) dL_law_1151 (v := 0) rfl ?_
                                                                              obtain rfl := s1 h
                                                                              rw [K1 _ rfl]
                                                                              exact x_ret (pc := 1152) dL_law_1152 (ty := .boolean) rfl rfl
                                                                          · rw [if_neg c546] at h
                                                                            by_cases c560 : v12 &&& 63 = 35
                                                                            · rw [if_pos c560] at h
                                                                              refine y_tableIn (pc := 32) dL_law_32 c560 (q := 35) (off := 1121) (t := 1153) (by decide) (by decide) (by decide) rfl ?_
                                                                              refine x_aload_n (pc := 1153) dL_law_1153 rfl rfl hl1 ?_
                                                                              refine x_aload_n (pc := 1154) dL_law_1154 rfl rfl hl0 ?_
                                                                              refine x_iload_n (pc := 1155) dL_law_1155 rfl rfl ?_
                                                                              refine x_iconst (pc := 1156) dL_law_1156 (v := 1) rfl ?_
                                                                              refine x_iadd (pc := 1157) dL_law_1157 ?_
                                                                              obtain ⟨v561, e562, h⟩ := ob h
                                                                              refine y_iald (pc := 1158) dL_law_1158 e562 ?_
                                                                              obtain ⟨g573, h⟩ := bt h
                                                                              obtain ⟨r563, M564, e565, h⟩ := ob2 h
                                                                              refine x_callV (av := [.int v561]) (st := []) (pc := 1159) dL_law_1159 (E_X8_goBack (d := d + 22) e565) rfl (Nat.le_of_ble_eq_true rfl) zc_X8_goBack rfl zm_L_159 zi_X8_goBack zs_X8_goBack (zac_ok g573) (by decide) rfl rfl (zst_ok rfl (Nat.le_of_ble_eq_true rfl)) rfl ?_
                                                                              refine x_aload_n (pc := 1162) dL_law_1162 rfl rfl hl2 ?_
                                                                              refine x_aload_n (pc := 1163) dL_law_1163 rfl rfl hl0 ?_
                                                                              refine x_iload_n (pc := 1164) dL_law_1164 rfl rfl ?_
                                                                              refine x_iconst (pc := 1165) dL_law_1165 (v := 1) rfl ?_
                                                                              refine x_iadd (pc := 1166) dL_law_1166 ?_
                                                                              obtain ⟨v566, e567, h⟩ := ob h
                                                                              refine y_iald (pc := 1167) dL_law_1167 e567 ?_
                                                                              obtain ⟨g572, h⟩ := bt h
                                                                              obtain ⟨r568, M569, e570, h⟩ := ob2 h
                                                                              refine x_callV (av := [.int v566]) (st := [.int r563]) (pc := 1168) dL_law_1168 (E_X9_goBack (d := d + 22) e570) rfl (Nat.le_of_ble_eq_true rfl) zc_X9_goBack rfl zm_L_162 zi_X9_goBack zs_X9_goBack (zac_ok g572) (by decide) rfl rfl (zst_ok rfl (Nat.le_of_ble_eq_true rfl)) rfl ?_
                                                                              refine x_icmp_eq (pc := 1171) dL_law_1171 (t := 1176) rfl (fun c571 => ?_) (fun c571 => ?_)
                                                                              · rw [if_pos c571] at h
                                                                                refine x_iinc (pc := 1176) dL_law_1176 rfl rfl (by decide) rfl ?_
                                                                                refine x_goto (pc := 1179) dL_law_1179 (t := 18) rfl ?_
                                                                                refine ex_weak (Ls2 := [.ref l0, .ref l1, .ref l2, .int (l3 + 5)]) ⟨Or.inr rfl, Or.inr rfl, Or.inr rfl, Or.inr rfl, trivial⟩ ?_
                                                                                exact ih _ _ _ _ _ hl0 hl1 hl2 _ h K1 K2
                                                                              · rw [if_neg c571] at h
                                                                                refine x_iconst (pc := 1174) dL_law_1174 (v := 0) rfl ?_
                                                                                obtain rfl := s1 h
                                                                                rw [K1 _ rfl]
                                                                                exact x_ret (pc := 1175) dL_law_1175 (ty := .boolean) rfl rfl
                                                                            · rw [if_neg c560] at h
                                                                              refine x_tableOut (pc := 32) dL_law_32 (y_out (n := 35) (by decide) (fun j hj => ?_)) (t := 1176) rfl ?_
                                                                              · match j, hj with
                                                                                | 0, _ => exact c14
                                                                                | 1, _ => exact c28
                                                                                | 2, _ => exact c38
                                                                                | 3, _ => exact c46
                                                                                | 4, _ => exact c58
                                                                                | 5, _ => exact c74
                                                                                | 6, _ => exact c90
                                                                                | 7, _ => exact c106
                                                                                | 8, _ => exact c120
                                                                                | 9, _ => exact c138
                                                                                | 10, _ => exact c160
                                                                                | 11, _ => exact c174
                                                                                | 12, _ => exact c196
                                                                                | 13, _ => exact c222
                                                                                | 14, _ => exact c240
                                                                                | 15, _ => exact c254
                                                                                | 16, _ => exact c264
                                                                                | 17, _ => exact c286
                                                                                | 18, _ => exact c300
                                                                                | 19, _ => exact c314
                                                                                | 20, _ => exact c328
                                                                                | 21, _ => exact c340
                                                                                | 22, _ => exact c356
                                                                                | 23, _ => exact c372
                                                                                | 24, _ => exact c384
                                                                                | 25, _ => exact c402
                                                                                | 26, _ => exact c414
                                                                                | 27, _ => exact c430
                                                                                | 28, _ => exact c480
                                                                                | 29, _ => exact c488
                                                                                | 30, _ => exact c496
                                                                                | 31, _ => exact c514
                                                                                | 32, _ => exact c524
                                                                                | 33, _ => exact c532
                                                                                | 34, _ => exact c546
                                                                                | 35, _ => exact c560
                                                                                | j + 36, hj => omega
                                                                              · refine x_iinc (pc := 1176) dL_law_1176 rfl rfl (by decide) rfl ?_
                                                                                refine x_goto (pc := 1179) dL_law_1179 (t := 18) rfl ?_
                                                                                refine ex_weak (Ls2 := [.ref l0, .ref l1, .ref l2, .int (l3 + 5)]) ⟨Or.inr rfl, Or.inr rfl, Or.inr rfl, Or.inr rfl, trivial⟩ ?_
                                                                                exact ih _ _ _ _ _ hl0 hl1 hl2 _ h K1 K2
set_option maxRecDepth 100000 in
set_option maxHeartbeats 2000000 in
theorem E_L_law {G : zG} {d : Nat} {l0 : Nat} {M MR : zM} {r : Int32} (h : f_L_law l0 M = some (r, MR)) : Ex G (d + 24) yL_law cL_law 4 (some .boolean) 0 (zent0 [.ref l0] 4) [] M (some (.int r), MR) := by
  unfold f_L_law at h
  obtain ⟨zz0, h⟩ := bt h
  have hl0 := bz zz0
  show Ex _ _ _ _ _ _ 0 [.ref l0, .null, .null, .null] [] _ _
  obtain ⟨M1, e2, h⟩ := ob h
  refine y_new (pc := 0) dL_law_0 zn_L_7 e2 ?_
  refine x_dup (pc := 3) dL_law_3 rv_cr ?_
  obtain ⟨M3, e4, h⟩ := ob h
  refine x_callI (av := []) (st := [.ref (M.1 + 1)]) (pc := 4) dL_law_4 (E_X8_init (d := d + 21) e4) rfl (Nat.le_of_ble_eq_true rfl) zc_X8_init rfl zm_L_9 zi_X8_init rfl (Nat.succ_ne_zero _) rfl (zst_ok rfl (Nat.le_of_ble_eq_true rfl)) rfl ?_
  refine x_astore_n (pc := 7) dL_law_7 rfl (by decide) rfl (Nat.succ_ne_zero _) ?_
  obtain ⟨M5, e6, h⟩ := ob h
  refine y_new (pc := 8) dL_law_8 zn_L_10 e6 ?_
  refine x_dup (pc := 11) dL_law_11 rv_cr ?_
  obtain ⟨M7, e8, h⟩ := ob h
  refine x_callI (av := []) (st := [.ref (M3.1 + 1)]) (pc := 12) dL_law_12 (E_X9_init (d := d + 23) e8) rfl (Nat.le_of_ble_eq_true rfl) zc_X9_init rfl zm_L_12 zi_X9_init rfl (Nat.succ_ne_zero _) rfl (zst_ok rfl (Nat.le_of_ble_eq_true rfl)) rfl ?_
  refine x_astore_n (pc := 15) dL_law_15 rfl (by decide) rfl (Nat.succ_ne_zero _) ?_
  refine x_iconst (pc := 16) dL_law_16 (v := 0) rfl ?_
  refine x_istore_n (pc := 17) dL_law_17 rfl (by decide) rfl ?_
  refine ex_weak (Ls2 := [.ref l0, .ref (M.1 + 1), .ref (M3.1 + 1), .int 0]) ⟨Or.inr rfl, Or.inr rfl, Or.inr rfl, Or.inr rfl, trivial⟩ ?_
  rcases obs h with ⟨r11, e9, h⟩ | ⟨M10, e9, h⟩
  · cases h
    exact LX_L_law_18 zN _ _ _ _ _ hl0 (Nat.succ_ne_zero _) (Nat.succ_ne_zero _) _ e9 (fun r q => by cases q; rfl) (by intros; contradiction)
  · refine LX_L_law_18 zN _ _ _ _ _ hl0 (Nat.succ_ne_zero _) (Nat.succ_ne_zero _) _ e9 (fun r q => by cases q) ?_
    intro u12 q
    cases q
    refine x_iconst (pc := 1182) dL_law_1182 (v := 1) rfl ?_
    obtain ⟨rfl, rfl⟩ := s2 h
    exact x_ret (pc := 1183) dL_law_1183 (ty := .boolean) rfl rfl
