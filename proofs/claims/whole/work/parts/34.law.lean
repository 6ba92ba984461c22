def fL_law (xs : Nat → Int32) (Ln : Nat) : Nat → Int32 → LT → Option (Int32 × LT)
  | 0, _, _ => none
  | n + 1, i, σ => if ((Int32.ofNat Ln) - (4 : Int32)) < i then (some ((1 : Int32), σ)) else (gd (inb i Ln) (jp (fun (σ3 : LT) => fL_law xs Ln n (i + (4 : Int32)) σ3) (fun (J2282 : LT → Option (Int32 × LT)) => if ((xs i.toNatClampNeg) &&& (63 : Int32)) = (0 : Int32) then (gd (inb (i + (1 : Int32)) Ln) (gd (inb (i + (2 : Int32)) Ln) (gd (inb (i + (3 : Int32)) Ln) (bd (fL_addStation (xs (i + (1 : Int32)).toNatClampNeg) (xs (i + (2 : Int32)).toNatClampNeg) (xs (i + (3 : Int32)).toNatClampNeg) σ) (fun (r8 : Int32) (σ9 : LT) => gd (inb (i + (1 : Int32)) Ln) (gd (inb (i + (2 : Int32)) Ln) (gd (inb (i + (3 : Int32)) Ln) (bd (fX7_addStation (xs (i + (1 : Int32)).toNatClampNeg) (xs (i + (2 : Int32)).toNatClampNeg) (xs (i + (3 : Int32)).toNatClampNeg) σ9.2.1) (fun (r14 : Int32) (σ15 : Sg) => lt' (σ9.1, σ15, σ9.2.2) (fun (σ17 : LT) => bd (fX7_thrown  σ17.2.1) (fun (r18 : Int32) (σ19 : Sg) => lt' (σ17.1, σ19, σ17.2.2) (fun (σ21 : LT) => if r18 = r8 then (jp (fun (σ23 : LT) => J2282  σ23) (fun (J281 : LT → Option (Int32 × LT)) => if r8 = 0 then (if (lg_cmp (σ21.2.2 0) r14.toInt64) = 0 then (J281  σ21) else (some ((0 : Int32), σ21))) else (J281  σ21))) else (some ((0 : Int32), σ21)))))))))))))) else if ((xs i.toNatClampNeg) &&& (63 : Int32)) = (1 : Int32) then (bd (fL_removeStation  σ) (fun (r27 : Int32) (σ28 : LT) => bd (fX7_removeStation  σ28.2.1) (fun (r30 : Int32) (σ31 : Sg) => lt' (σ28.1, σ31, σ28.2.2) (fun (σ33 : LT) => bd (fX7_thrown  σ33.2.1) (fun (r34 : Int32) (σ35 : Sg) => lt' (σ33.1, σ35, σ33.2.2) (fun (σ37 : LT) => if r34 = r27 then (jp (fun (σ39 : LT) => J2282  σ39) (fun (J325 : LT → Option (Int32 × LT)) => if r27 = 0 then (if (lg_cmp (σ37.2.2 0) r30.toInt64) = 0 then (J325  σ37) else (some ((0 : Int32), σ37))) else (J325  σ37))) else (some ((0 : Int32), σ37)))))))) else if ((xs i.toNatClampNeg) &&& (63 : Int32)) = (2 : Int32) then (gd (inb (i + (1 : Int32)) Ln) (gd (inb (i + (2 : Int32)) Ln) (jp (fun (v45 : Int32) (σ46 : LT) => bd (fL_setParticipates (xs (i + (1 : Int32)).toNatClampNeg) v45 σ46) (fun (r47 : Int32) (σ48 : LT) => gd (inb (i + (1 : Int32)) Ln) (gd (inb (i + (2 : Int32)) Ln) (jp (fun (v52 : Int32) (σ53 : LT) => bd (fX7_setParticipates (xs (i + (1 : Int32)).toNatClampNeg) v52 σ53.2.1) (fun (r54 : Int32) (σ55 : Sg) => lt' (σ53.1, σ55, σ53.2.2) (fun (σ57 : LT) => bd (fX7_thrown  σ57.2.1) (fun (r58 : Int32) (σ59 : Sg) => lt' (σ57.1, σ59, σ57.2.2) (fun (σ61 : LT) => if r58 = r47 then (jp (fun (σ63 : LT) => J2282  σ63) (fun (J416 : LT → Option (Int32 × LT)) => if r47 = 0 then (jp (fun (v65 : Int64) (σ66 : LT) => if (lg_cmp (σ61.2.2 0) v65) = 0 then (J416  σ66) else (some ((0 : Int32), σ66))) (fun (J410 : Int64 → LT → Option (Int32 × LT)) => if r54 = 0 then (J410 (0 : Int64) σ61) else (J410 (1 : Int64) σ61))) else (J416  σ61))) else (some ((0 : Int32), σ61))))))) (fun (J376 : Int32 → LT → Option (Int32 × LT)) => if (xs (i + (2 : Int32)).toNatClampNeg) = 0 then (J376 (0 : Int32) σ48) else (J376 (1 : Int32) σ48)))))) (fun (J349 : Int32 → LT → Option (Int32 × LT)) => if (xs (i + (2 : Int32)).toNatClampNeg) = 0 then (J349 (0 : Int32) σ) else (J349 (1 : Int32) σ))))) else if ((xs i.toNatClampNeg) &&& (63 : Int32)) = (3 : Int32) then (gd (inb (i + (1 : Int32)) Ln) (gd (inb (i + (2 : Int32)) Ln) (bd (fL_setValue (xs (i + (1 : Int32)).toNatClampNeg) (xs (i + (2 : Int32)).toNatClampNeg) σ) (fun (r74 : Int32) (σ75 : LT) => gd (inb (i + (1 : Int32)) Ln) (gd (inb (i + (2 : Int32)) Ln) (bd (fX7_setValue (xs (i + (1 : Int32)).toNatClampNeg) (xs (i + (2 : Int32)).toNatClampNeg) σ75.2.1) (fun (r79 : Int32) (σ80 : Sg) => lt' (σ75.1, σ80, σ75.2.2) (fun (σ82 : LT) => bd (fX7_thrown  σ82.2.1) (fun (r83 : Int32) (σ84 : Sg) => lt' (σ82.1, σ84, σ82.2.2) (fun (σ86 : LT) => if r83 = r74 then (jp (fun (σ88 : LT) => J2282  σ88) (fun (J484 : LT → Option (Int32 × LT)) => if r74 = 0 then (if (lg_cmp (σ86.2.2 0) r79.toInt64) = 0 then (J484  σ86) else (some ((0 : Int32), σ86))) else (J484  σ86))) else (some ((0 : Int32), σ86)))))))))))) else if ((xs i.toNatClampNeg) &&& (63 : Int32)) = (4 : Int32) then (gd (inb (i + (1 : Int32)) Ln) (bd (fL_setAvailable (xs (i + (1 : Int32)).toNatClampNeg) σ) (fun (r93 : Int32) (σ94 : LT) => gd (inb (i + (1 : Int32)) Ln) (bd (fX7_setAvailable (xs (i + (1 : Int32)).toNatClampNeg) σ94.2.1) (fun (r97 : Int32) (σ98 : Sg) => lt' (σ94.1, σ98, σ94.2.2) (fun (σ100 : LT) => bd (fX7_thrown  σ100.2.1) (fun (r101 : Int32) (σ102 : Sg) => lt' (σ100.1, σ102, σ100.2.2) (fun (σ104 : LT) => if r101 = r93 then (jp (fun (σ106 : LT) => J2282  σ106) (fun (J540 : LT → Option (Int32 × LT)) => if r93 = 0 then (if (lg_cmp (σ104.2.2 0) r97.toInt64) = 0 then (J540  σ104) else (some ((0 : Int32), σ104))) else (J540  σ104))) else (some ((0 : Int32), σ104)))))))))) else if ((xs i.toNatClampNeg) &&& (63 : Int32)) = (5 : Int32) then (gd (inb (i + (1 : Int32)) Ln) (bd (fL_append (xs (i + (1 : Int32)).toNatClampNeg) σ) (fun (r111 : Int32) (σ112 : LT) => gd (inb (i + (1 : Int32)) Ln) (bd (fX7_append (xs (i + (1 : Int32)).toNatClampNeg) σ112.2.1) (fun (r115 : Int32) (σ116 : Sg) => lt' (σ112.1, σ116, σ112.2.2) (fun (σ118 : LT) => bd (fX7_thrown  σ118.2.1) (fun (r119 : Int32) (σ120 : Sg) => lt' (σ118.1, σ120, σ118.2.2) (fun (σ122 : LT) => if r119 = r111 then (jp (fun (σ124 : LT) => J2282  σ124) (fun (J596 : LT → Option (Int32 × LT)) => if r111 = 0 then (if (lg_cmp (σ122.2.2 0) r115.toInt64) = 0 then (J596  σ122) else (some ((0 : Int32), σ122))) else (J596  σ122))) else (some ((0 : Int32), σ122)))))))))) else if ((xs i.toNatClampNeg) &&& (63 : Int32)) = (6 : Int32) then (bd (fL_setConflicts  σ) (fun (r128 : Int32) (σ129 : LT) => bd (fX7_setConflicts  σ129.2.1) (fun (r131 : Int32) (σ132 : Sg) => lt' (σ129.1, σ132, σ129.2.2) (fun (σ134 : LT) => bd (fX7_thrown  σ134.2.1) (fun (r135 : Int32) (σ136 : Sg) => lt' (σ134.1, σ136, σ134.2.2) (fun (σ138 : LT) => if r135 = r128 then (jp (fun (σ140 : LT) => J2282  σ140) (fun (J640 : LT → Option (Int32 × LT)) => if r128 = 0 then (if (lg_cmp (σ138.2.2 0) r131.toInt64) = 0 then (J640  σ138) else (some ((0 : Int32), σ138))) else (J640  σ138))) else (some ((0 : Int32), σ138)))))))) else if ((xs i.toNatClampNeg) &&& (63 : Int32)) = (7 : Int32) then (bd (fX6_errorPosition  σ.1) (fun (r144 : Int32) (σ145 : Sg) => lt' (σ145, σ.2) (fun (σ147 : LT) => bd (fX7_errorPosition  σ147.2.1) (fun (r148 : Int32) (σ149 : Sg) => lt' (σ147.1, σ149, σ147.2.2) (fun (σ151 : LT) => if r144 = r148 then (J2282  σ151) else (some ((0 : Int32), σ151))))))) else if ((xs i.toNatClampNeg) &&& (63 : Int32)) = (8 : Int32) then (gd (inb (i + (1 : Int32)) Ln) (gd (inb (i + (2 : Int32)) Ln) (gd (inb (i + (3 : Int32)) Ln) (bd (fL_hasConflict (xs (i + (1 : Int32)).toNatClampNeg) (xs (i + (2 : Int32)).toNatClampNeg) (xs (i + (3 : Int32)).toNatClampNeg) σ) (fun (r157 : Int32) (σ158 : LT) => gd (inb (i + (1 : Int32)) Ln) (gd (inb (i + (2 : Int32)) Ln) (gd (inb (i + (3 : Int32)) Ln) (bd (fX7_hasConflict (xs (i + (1 : Int32)).toNatClampNeg) (xs (i + (2 : Int32)).toNatClampNeg) (xs (i + (3 : Int32)).toNatClampNeg) σ158.2.1) (fun (r163 : Int32) (σ164 : Sg) => lt' (σ158.1, σ164, σ158.2.2) (fun (σ166 : LT) => bd (fX7_thrown  σ166.2.1) (fun (r167 : Int32) (σ168 : Sg) => lt' (σ166.1, σ168, σ166.2.2) (fun (σ170 : LT) => if r167 = r157 then (jp (fun (σ172 : LT) => J2282  σ172) (fun (J740 : LT → Option (Int32 × LT)) => if r157 = 0 then (jp (fun (v174 : Int64) (σ175 : LT) => if (lg_cmp (σ170.2.2 0) v174) = 0 then (J740  σ175) else (some ((0 : Int32), σ175))) (fun (J734 : Int64 → LT → Option (Int32 × LT)) => if r163 = 0 then (J734 (0 : Int64) σ170) else (J734 (1 : Int64) σ170))) else (J740  σ170))) else (some ((0 : Int32), σ170)))))))))))))) else if ((xs i.toNatClampNeg) &&& (63 : Int32)) = (9 : Int32) then (gd (inb (i + (1 : Int32)) Ln) (bd (fL_conflicts (xs (i + (1 : Int32)).toNatClampNeg) σ) (fun (r180 : Int32) (σ181 : LT) => gd (inb (i + (1 : Int32)) Ln) (bd (fX7_conflicts (xs (i + (1 : Int32)).toNatClampNeg) σ181.2.1) (fun (r184 : Int32) (σ185 : Sg) => lt' (σ181.1, σ185, σ181.2.2) (fun (σ187 : LT) => bd (fX7_thrown  σ187.2.1) (fun (r188 : Int32) (σ189 : Sg) => lt' (σ187.1, σ189, σ187.2.2) (fun (σ191 : LT) => if r188 = r180 then (jp (fun (σ193 : LT) => J2282  σ193) (fun (J796 : LT → Option (Int32 × LT)) => if r180 = 0 then (if (lg_cmp (σ191.2.2 0) r184.toInt64) = 0 then (J796  σ191) else (some ((0 : Int32), σ191))) else (J796  σ191))) else (some ((0 : Int32), σ191)))))))))) else if ((xs i.toNatClampNeg) &&& (63 : Int32)) = (10 : Int32) then (gd (inb (i + (1 : Int32)) Ln) (gd (inb (i + (2 : Int32)) Ln) (bd (fL_station (xs (i + (1 : Int32)).toNatClampNeg) (xs (i + (2 : Int32)).toNatClampNeg) σ) (fun (r199 : Int32) (σ200 : LT) => gd (inb (i + (1 : Int32)) Ln) (gd (inb (i + (2 : Int32)) Ln) (bd (fX7_station (xs (i + (1 : Int32)).toNatClampNeg) (xs (i + (2 : Int32)).toNatClampNeg) σ200.2.1) (fun (r204 : Int32) (σ205 : Sg) => lt' (σ200.1, σ205, σ200.2.2) (fun (σ207 : LT) => bd (fX7_thrown  σ207.2.1) (fun (r208 : Int32) (σ209 : Sg) => lt' (σ207.1, σ209, σ207.2.2) (fun (σ211 : LT) => if r208 = r199 then (jp (fun (σ213 : LT) => J2282  σ213) (fun (J864 : LT → Option (Int32 × LT)) => if r199 = 0 then (if (lg_cmp (σ211.2.2 0) r204.toInt64) = 0 then (J864  σ211) else (some ((0 : Int32), σ211))) else (J864  σ211))) else (some ((0 : Int32), σ211)))))))))))) else if ((xs i.toNatClampNeg) &&& (63 : Int32)) = (11 : Int32) then (gd (inb (i + (1 : Int32)) Ln) (bd (fL_volumeBits (xs (i + (1 : Int32)).toNatClampNeg) σ) (fun (r218 : Int32) (σ219 : LT) => gd (inb (i + (1 : Int32)) Ln) (bd (fX7_volumeBits (xs (i + (1 : Int32)).toNatClampNeg) σ219.2.1) (fun (r222 : Int32) (σ223 : Sg) => lt' (σ219.1, σ223, σ219.2.2) (fun (σ225 : LT) => bd (fX7_thrown  σ225.2.1) (fun (r226 : Int32) (σ227 : Sg) => lt' (σ225.1, σ227, σ225.2.2) (fun (σ229 : LT) => if r226 = r218 then (jp (fun (σ231 : LT) => J2282  σ231) (fun (J920 : LT → Option (Int32 × LT)) => if r218 = 0 then (if (lg_cmp (σ229.2.2 0) r222.toInt64) = 0 then (J920  σ229) else (some ((0 : Int32), σ229))) else (J920  σ229))) else (some ((0 : Int32), σ229)))))))))) else if ((xs i.toNatClampNeg) &&& (63 : Int32)) = (12 : Int32) then (gd (inb (i + (1 : Int32)) Ln) (gd (inb (i + (2 : Int32)) Ln) (bd (fL_priceAt (xs (i + (1 : Int32)).toNatClampNeg) (xs (i + (2 : Int32)).toNatClampNeg) σ) (fun (r237 : Int32) (σ238 : LT) => gd (inb (i + (1 : Int32)) Ln) (gd (inb (i + (2 : Int32)) Ln) (bd (fX7_priceAt (xs (i + (1 : Int32)).toNatClampNeg) (xs (i + (2 : Int32)).toNatClampNeg) σ238.2.1) (fun (r242 : Int32) (σ243 : Sg) => lt' (σ238.1, σ243, σ238.2.2) (fun (σ245 : LT) => bd (fX7_thrown  σ245.2.1) (fun (r246 : Int32) (σ247 : Sg) => lt' (σ245.1, σ247, σ245.2.2) (fun (σ249 : LT) => if r246 = r237 then (jp (fun (σ251 : LT) => J2282  σ251) (fun (J988 : LT → Option (Int32 × LT)) => if r237 = 0 then (if (lg_cmp (σ249.2.2 0) r242.toInt64) = 0 then (J988  σ249) else (some ((0 : Int32), σ249))) else (J988  σ249))) else (some ((0 : Int32), σ249)))))))))))) else if ((xs i.toNatClampNeg) &&& (63 : Int32)) = (13 : Int32) then (gd (inb (i + (1 : Int32)) Ln) (bd (fL_isFeasible (xs (i + (1 : Int32)).toNatClampNeg) σ) (fun (r256 : Int32) (σ257 : LT) => gd (inb (i + (1 : Int32)) Ln) (bd (fX7_isFeasible (xs (i + (1 : Int32)).toNatClampNeg) σ257.2.1) (fun (r260 : Int32) (σ261 : Sg) => lt' (σ257.1, σ261, σ257.2.2) (fun (σ263 : LT) => bd (fX7_thrown  σ263.2.1) (fun (r264 : Int32) (σ265 : Sg) => lt' (σ263.1, σ265, σ263.2.2) (fun (σ267 : LT) => if r264 = r256 then (jp (fun (σ269 : LT) => J2282  σ269) (fun (J1051 : LT → Option (Int32 × LT)) => if r256 = 0 then (jp (fun (v271 : Int64) (σ272 : LT) => if (lg_cmp (σ267.2.2 0) v271) = 0 then (J1051  σ272) else (some ((0 : Int32), σ272))) (fun (J1045 : Int64 → LT → Option (Int32 × LT)) => if r260 = 0 then (J1045 (0 : Int64) σ267) else (J1045 (1 : Int64) σ267))) else (J1051  σ267))) else (some ((0 : Int32), σ267)))))))))) else if ((xs i.toNatClampNeg) &&& (63 : Int32)) = (14 : Int32) then (gd (inb (i + (1 : Int32)) Ln) (bd (fL_assign (xs (i + (1 : Int32)).toNatClampNeg) σ) (fun (r277 : Int32) (σ278 : LT) => gd (inb (i + (1 : Int32)) Ln) (bd (fX7_assign (xs (i + (1 : Int32)).toNatClampNeg) σ278.2.1) (fun (r281 : Int32) (σ282 : Sg) => lt' (σ278.1, σ282, σ278.2.2) (fun (σ284 : LT) => bd (fX7_thrown  σ284.2.1) (fun (r285 : Int32) (σ286 : Sg) => lt' (σ284.1, σ286, σ284.2.2) (fun (σ288 : LT) => if r285 = r277 then (jp (fun (σ290 : LT) => J2282  σ290) (fun (J1107 : LT → Option (Int32 × LT)) => if r277 = 0 then (if (lg_cmp (σ288.2.2 0) r281.toInt64) = 0 then (J1107  σ288) else (some ((0 : Int32), σ288))) else (J1107  σ288))) else (some ((0 : Int32), σ288)))))))))) else if ((xs i.toNatClampNeg) &&& (63 : Int32)) = (15 : Int32) then (gd (inb (i + (1 : Int32)) Ln) (bd (fL_repack (xs (i + (1 : Int32)).toNatClampNeg) σ) (fun (r295 : Int32) (σ296 : LT) => gd (inb (i + (1 : Int32)) Ln) (bd (fX7_repack (xs (i + (1 : Int32)).toNatClampNeg) σ296.2.1) (fun (r299 : Int32) (σ300 : Sg) => lt' (σ296.1, σ300, σ296.2.2) (fun (σ302 : LT) => bd (fX7_thrown  σ302.2.1) (fun (r303 : Int32) (σ304 : Sg) => lt' (σ302.1, σ304, σ302.2.2) (fun (σ306 : LT) => if r303 = r295 then (jp (fun (σ308 : LT) => J2282  σ308) (fun (J1163 : LT → Option (Int32 × LT)) => if r295 = 0 then (if (lg_cmp (σ306.2.2 0) r299.toInt64) = 0 then (J1163  σ306) else (some ((0 : Int32), σ306))) else (J1163  σ306))) else (some ((0 : Int32), σ306)))))))))) else if ((xs i.toNatClampNeg) &&& (63 : Int32)) = (16 : Int32) then (gd (inb (i + (1 : Int32)) Ln) (bd (fL_assignments (xs (i + (1 : Int32)).toNatClampNeg) σ) (fun (r313 : Int32) (σ314 : LT) => gd (inb (i + (1 : Int32)) Ln) (bd (fX7_assignments (xs (i + (1 : Int32)).toNatClampNeg) σ314.2.1) (fun (r317 : Int32) (σ318 : Sg) => lt' (σ314.1, σ318, σ314.2.2) (fun (σ320 : LT) => bd (fX7_thrown  σ320.2.1) (fun (r321 : Int32) (σ322 : Sg) => lt' (σ320.1, σ322, σ320.2.2) (fun (σ324 : LT) => if r321 = r313 then (jp (fun (σ326 : LT) => J2282  σ326) (fun (J1219 : LT → Option (Int32 × LT)) => if r313 = 0 then (if (lg_cmp (σ324.2.2 0) r317.toInt64) = 0 then (J1219  σ324) else (some ((0 : Int32), σ324))) else (J1219  σ324))) else (some ((0 : Int32), σ324)))))))))) else if ((xs i.toNatClampNeg) &&& (63 : Int32)) = (17 : Int32) then (gd (inb (i + (1 : Int32)) Ln) (bd (fL_channelsNeeded (xs (i + (1 : Int32)).toNatClampNeg) σ) (fun (r331 : Int32) (σ332 : LT) => gd (inb (i + (1 : Int32)) Ln) (bd (fX7_channelsNeeded (xs (i + (1 : Int32)).toNatClampNeg) σ332.2.1) (fun (r335 : Int32) (σ336 : Sg) => lt' (σ332.1, σ336, σ332.2.2) (fun (σ338 : LT) => bd (fX7_thrown  σ338.2.1) (fun (r339 : Int32) (σ340 : Sg) => lt' (σ338.1, σ340, σ338.2.2) (fun (σ342 : LT) => if r339 = r331 then (jp (fun (σ344 : LT) => J2282  σ344) (fun (J1275 : LT → Option (Int32 × LT)) => if r331 = 0 then (if (lg_cmp (σ342.2.2 0) r335.toInt64) = 0 then (J1275  σ342) else (some ((0 : Int32), σ342))) else (J1275  σ342))) else (some ((0 : Int32), σ342)))))))))) else if ((xs i.toNatClampNeg) &&& (63 : Int32)) = (18 : Int32) then (gd (inb (i + (1 : Int32)) Ln) (gd (inb (i + (2 : Int32)) Ln) (bd (fL_core (xs (i + (1 : Int32)).toNatClampNeg) (xs (i + (2 : Int32)).toNatClampNeg) σ) (fun (r350 : Int32) (σ351 : LT) => gd (inb (i + (1 : Int32)) Ln) (gd (inb (i + (2 : Int32)) Ln) (bd (fX7_core (xs (i + (1 : Int32)).toNatClampNeg) (xs (i + (2 : Int32)).toNatClampNeg) σ351.2.1) (fun (r355 : Int32) (σ356 : Sg) => lt' (σ351.1, σ356, σ351.2.2) (fun (σ358 : LT) => bd (fX7_thrown  σ358.2.1) (fun (r359 : Int32) (σ360 : Sg) => lt' (σ358.1, σ360, σ358.2.2) (fun (σ362 : LT) => if r359 = r350 then (jp (fun (σ364 : LT) => J2282  σ364) (fun (J1343 : LT → Option (Int32 × LT)) => if r350 = 0 then (if (lg_cmp (σ362.2.2 0) r355.toInt64) = 0 then (J1343  σ362) else (some ((0 : Int32), σ362))) else (J1343  σ362))) else (some ((0 : Int32), σ362)))))))))))) else if ((xs i.toNatClampNeg) &&& (63 : Int32)) = (19 : Int32) then (gd (inb (i + (1 : Int32)) Ln) (bd (fL_open (xs (i + (1 : Int32)).toNatClampNeg) σ) (fun (r369 : Int32) (σ370 : LT) => gd (inb (i + (1 : Int32)) Ln) (bd (fX7_open (xs (i + (1 : Int32)).toNatClampNeg) σ370.2.1) (fun (r373 : Int32) (σ374 : Sg) => lt' (σ370.1, σ374, σ370.2.2) (fun (σ376 : LT) => bd (fX7_thrown  σ376.2.1) (fun (r377 : Int32) (σ378 : Sg) => lt' (σ376.1, σ378, σ376.2.2) (fun (σ380 : LT) => if r377 = r369 then (jp (fun (σ382 : LT) => J2282  σ382) (fun (J1399 : LT → Option (Int32 × LT)) => if r369 = 0 then (if (lg_cmp (σ380.2.2 0) r373.toInt64) = 0 then (J1399  σ380) else (some ((0 : Int32), σ380))) else (J1399  σ380))) else (some ((0 : Int32), σ380)))))))))) else if ((xs i.toNatClampNeg) &&& (63 : Int32)) = (20 : Int32) then (gd (inb (i + (1 : Int32)) Ln) (bd (fL_round (xs (i + (1 : Int32)).toNatClampNeg) σ) (fun (r387 : Int32) (σ388 : LT) => gd (inb (i + (1 : Int32)) Ln) (bd (fX7_round (xs (i + (1 : Int32)).toNatClampNeg) σ388.2.1) (fun (r391 : Int32) (σ392 : Sg) => lt' (σ388.1, σ392, σ388.2.2) (fun (σ394 : LT) => bd (fX7_thrown  σ394.2.1) (fun (r395 : Int32) (σ396 : Sg) => lt' (σ394.1, σ396, σ394.2.2) (fun (σ398 : LT) => if r395 = r387 then (jp (fun (σ400 : LT) => J2282  σ400) (fun (J1455 : LT → Option (Int32 × LT)) => if r387 = 0 then (if (lg_cmp (σ398.2.2 0) r391.toInt64) = 0 then (J1455  σ398) else (some ((0 : Int32), σ398))) else (J1455  σ398))) else (some ((0 : Int32), σ398)))))))))) else if ((xs i.toNatClampNeg) &&& (63 : Int32)) = (21 : Int32) then (gd (inb (i + (1 : Int32)) Ln) (bd (fL_run (xs (i + (1 : Int32)).toNatClampNeg) σ) (fun (r405 : Int32) (σ406 : LT) => gd (inb (i + (1 : Int32)) Ln) (bd (fX7_run (xs (i + (1 : Int32)).toNatClampNeg) σ406.2.1) (fun (r409 : Int32) (σ410 : Sg) => lt' (σ406.1, σ410, σ406.2.2) (fun (σ412 : LT) => bd (fX7_thrown  σ412.2.1) (fun (r413 : Int32) (σ414 : Sg) => lt' (σ412.1, σ414, σ412.2.2) (fun (σ416 : LT) => if r413 = r405 then (jp (fun (σ418 : LT) => J2282  σ418) (fun (J1511 : LT → Option (Int32 × LT)) => if r405 = 0 then (if (lg_cmp (σ416.2.2 0) r409.toInt64) = 0 then (J1511  σ416) else (some ((0 : Int32), σ416))) else (J1511  σ416))) else (some ((0 : Int32), σ416)))))))))) else if ((xs i.toNatClampNeg) &&& (63 : Int32)) = (22 : Int32) then (gd (inb (i + (1 : Int32)) Ln) (bd (fL_back (xs (i + (1 : Int32)).toNatClampNeg) σ) (fun (r423 : Int32) (σ424 : LT) => gd (inb (i + (1 : Int32)) Ln) (bd (fX7_back (xs (i + (1 : Int32)).toNatClampNeg) σ424.2.1) (fun (r427 : Int32) (σ428 : Sg) => lt' (σ424.1, σ428, σ424.2.2) (fun (σ430 : LT) => bd (fX7_thrown  σ430.2.1) (fun (r431 : Int32) (σ432 : Sg) => lt' (σ430.1, σ432, σ430.2.2) (fun (σ434 : LT) => if r431 = r423 then (jp (fun (σ436 : LT) => J2282  σ436) (fun (J1567 : LT → Option (Int32 × LT)) => if r423 = 0 then (if (lg_cmp (σ434.2.2 0) r427.toInt64) = 0 then (J1567  σ434) else (some ((0 : Int32), σ434))) else (J1567  σ434))) else (some ((0 : Int32), σ434)))))))))) else if ((xs i.toNatClampNeg) &&& (63 : Int32)) = (23 : Int32) then (bd (fL_close  σ) (fun (r440 : Int32) (σ441 : LT) => bd (fX7_close  σ441.2.1) (fun (r443 : Int32) (σ444 : Sg) => lt' (σ441.1, σ444, σ441.2.2) (fun (σ446 : LT) => bd (fX7_thrown  σ446.2.1) (fun (r447 : Int32) (σ448 : Sg) => lt' (σ446.1, σ448, σ446.2.2) (fun (σ450 : LT) => if r447 = r440 then (jp (fun (σ452 : LT) => J2282  σ452) (fun (J1611 : LT → Option (Int32 × LT)) => if r440 = 0 then (if (lg_cmp (σ450.2.2 0) r443.toInt64) = 0 then (J1611  σ450) else (some ((0 : Int32), σ450))) else (J1611  σ450))) else (some ((0 : Int32), σ450)))))))) else if ((xs i.toNatClampNeg) &&& (63 : Int32)) = (24 : Int32) then (bd (fL_cancel  σ) (fun (r456 : Int32) (σ457 : LT) => bd (fX7_cancel  σ457.2.1) (fun (r459 : Int32) (σ460 : Sg) => lt' (σ457.1, σ460, σ457.2.2) (fun (σ462 : LT) => bd (fX7_thrown  σ462.2.1) (fun (r463 : Int32) (σ464 : Sg) => lt' (σ462.1, σ464, σ462.2.2) (fun (σ466 : LT) => if r463 = r456 then (jp (fun (σ468 : LT) => J2282  σ468) (fun (J1655 : LT → Option (Int32 × LT)) => if r456 = 0 then (if (lg_cmp (σ466.2.2 0) r459.toInt64) = 0 then (J1655  σ466) else (some ((0 : Int32), σ466))) else (J1655  σ466))) else (some ((0 : Int32), σ466)))))))) else if ((xs i.toNatClampNeg) &&& (63 : Int32)) = (25 : Int32) then (gd (inb (i + (1 : Int32)) Ln) (bd (fL_state (xs (i + (1 : Int32)).toNatClampNeg) σ) (fun (r473 : Int32) (σ474 : LT) => gd (inb (i + (1 : Int32)) Ln) (bd (fX7_state (xs (i + (1 : Int32)).toNatClampNeg) σ474.2.1) (fun (r477 : Int32) (σ478 : Sg) => lt' (σ474.1, σ478, σ474.2.2) (fun (σ480 : LT) => bd (fX7_thrown  σ480.2.1) (fun (r481 : Int32) (σ482 : Sg) => lt' (σ480.1, σ482, σ480.2.2) (fun (σ484 : LT) => if r481 = r473 then (jp (fun (σ486 : LT) => J2282  σ486) (fun (J1711 : LT → Option (Int32 × LT)) => if r473 = 0 then (if (lg_cmp (σ484.2.2 0) r477.toInt64) = 0 then (J1711  σ484) else (some ((0 : Int32), σ484))) else (J1711  σ484))) else (some ((0 : Int32), σ484)))))))))) else if ((xs i.toNatClampNeg) &&& (63 : Int32)) = (26 : Int32) then (gd (inb (i + (1 : Int32)) Ln) (bd (fL_price (xs (i + (1 : Int32)).toNatClampNeg) σ) (fun (r491 : Int32) (σ492 : LT) => gd (inb (i + (1 : Int32)) Ln) (bd (fX7_price (xs (i + (1 : Int32)).toNatClampNeg) σ492.2.1) (fun (r495 : Int32) (σ496 : Sg) => lt' (σ492.1, σ496, σ492.2.2) (fun (σ498 : LT) => bd (fX7_thrown  σ498.2.1) (fun (r499 : Int32) (σ500 : Sg) => lt' (σ498.1, σ500, σ498.2.2) (fun (σ502 : LT) => if r499 = r491 then (jp (fun (σ504 : LT) => J2282  σ504) (fun (J1767 : LT → Option (Int32 × LT)) => if r491 = 0 then (if (lg_cmp (σ502.2.2 0) r495.toInt64) = 0 then (J1767  σ502) else (some ((0 : Int32), σ502))) else (J1767  σ502))) else (some ((0 : Int32), σ502)))))))))) else if ((xs i.toNatClampNeg) &&& (63 : Int32)) = (27 : Int32) then (gd (inb (i + (1 : Int32)) Ln) (bd (fL_frozenBy (xs (i + (1 : Int32)).toNatClampNeg) σ) (fun (r509 : Int32) (σ510 : LT) => gd (inb (i + (1 : Int32)) Ln) (bd (fX7_frozenBy (xs (i + (1 : Int32)).toNatClampNeg) σ510.2.1) (fun (r513 : Int32) (σ514 : Sg) => lt' (σ510.1, σ514, σ510.2.2) (fun (σ516 : LT) => bd (fX7_thrown  σ516.2.1) (fun (r517 : Int32) (σ518 : Sg) => lt' (σ516.1, σ518, σ516.2.2) (fun (σ520 : LT) => if r517 = r509 then (jp (fun (σ522 : LT) => J2282  σ522) (fun (J1823 : LT → Option (Int32 × LT)) => if r509 = 0 then (if (lg_cmp (σ520.2.2 0) r513.toInt64) = 0 then (J1823  σ520) else (some ((0 : Int32), σ520))) else (J1823  σ520))) else (some ((0 : Int32), σ520)))))))))) else if ((xs i.toNatClampNeg) &&& (63 : Int32)) = (28 : Int32) then (gd (inb (i + (1 : Int32)) Ln) (bd (fL_auction (xs (i + (1 : Int32)).toNatClampNeg) σ) (fun (r527 : Int32) (σ528 : LT) => gd (inb (i + (1 : Int32)) Ln) (bd (fX7_auction (xs (i + (1 : Int32)).toNatClampNeg) σ528.2.1) (fun (r531 : Int32) (σ532 : Sg) => lt' (σ528.1, σ532, σ528.2.2) (fun (σ534 : LT) => bd (fX7_thrown  σ534.2.1) (fun (r535 : Int32) (σ536 : Sg) => lt' (σ534.1, σ536, σ534.2.2) (fun (σ538 : LT) => if r535 = r527 then (jp (fun (σ540 : LT) => J2282  σ540) (fun (J1879 : LT → Option (Int32 × LT)) => if r527 = 0 then (if (lg_cmp (σ538.2.2 0) r531.toInt64) = 0 then (J1879  σ538) else (some ((0 : Int32), σ538))) else (J1879  σ538))) else (some ((0 : Int32), σ538)))))))))) else if ((xs i.toNatClampNeg) &&& (63 : Int32)) = (29 : Int32) then (gd (inb (i + (1 : Int32)) Ln) (bd (fL_event (xs (i + (1 : Int32)).toNatClampNeg) σ) (fun (r545 : Int32) (σ546 : LT) => gd (inb (i + (1 : Int32)) Ln) (bd (fX7_event (xs (i + (1 : Int32)).toNatClampNeg) σ546.2.1) (fun (r549 : Int32) (σ550 : Sg) => lt' (σ546.1, σ550, σ546.2.2) (fun (σ552 : LT) => bd (fX7_thrown  σ552.2.1) (fun (r553 : Int32) (σ554 : Sg) => lt' (σ552.1, σ554, σ552.2.2) (fun (σ556 : LT) => if r553 = r545 then (jp (fun (σ558 : LT) => J2282  σ558) (fun (J1935 : LT → Option (Int32 × LT)) => if r545 = 0 then (if (lg_cmp (σ556.2.2 0) r549.toInt64) = 0 then (J1935  σ556) else (some ((0 : Int32), σ556))) else (J1935  σ556))) else (some ((0 : Int32), σ556)))))))))) else if ((xs i.toNatClampNeg) &&& (63 : Int32)) = (30 : Int32) then (gd (inb (i + (1 : Int32)) Ln) (bd (fL_order (xs (i + (1 : Int32)).toNatClampNeg) σ) (fun (r563 : Int32) (σ564 : LT) => gd (inb (i + (1 : Int32)) Ln) (bd (fX7_order (xs (i + (1 : Int32)).toNatClampNeg) σ564.2.1) (fun (r567 : Int32) (σ568 : Sg) => lt' (σ564.1, σ568, σ564.2.2) (fun (σ570 : LT) => bd (fX7_thrown  σ570.2.1) (fun (r571 : Int32) (σ572 : Sg) => lt' (σ570.1, σ572, σ570.2.2) (fun (σ574 : LT) => if r571 = r563 then (jp (fun (σ576 : LT) => J2282  σ576) (fun (J1991 : LT → Option (Int32 × LT)) => if r563 = 0 then (if (lg_cmp (σ574.2.2 0) r567.toInt64) = 0 then (J1991  σ574) else (some ((0 : Int32), σ574))) else (J1991  σ574))) else (some ((0 : Int32), σ574)))))))))) else if ((xs i.toNatClampNeg) &&& (63 : Int32)) = (31 : Int32) then (bd (fL_best  σ) (fun (r580 : Int32) (σ581 : LT) => bd (fX7_best  σ581.2.1) (fun (r583 : Int32) (σ584 : Sg) => lt' (σ581.1, σ584, σ581.2.2) (fun (σ586 : LT) => bd (fX7_thrown  σ586.2.1) (fun (r587 : Int32) (σ588 : Sg) => lt' (σ586.1, σ588, σ586.2.2) (fun (σ590 : LT) => if r587 = r580 then (jp (fun (σ592 : LT) => J2282  σ592) (fun (J2035 : LT → Option (Int32 × LT)) => if r580 = 0 then (if (lg_cmp (σ590.2.2 0) r583.toInt64) = 0 then (J2035  σ590) else (some ((0 : Int32), σ590))) else (J2035  σ590))) else (some ((0 : Int32), σ590)))))))) else if ((xs i.toNatClampNeg) &&& (63 : Int32)) = (32 : Int32) then (bd (fL_leastLoss  σ) (fun (r596 : Int32) (σ597 : LT) => bd (fX7_leastLoss  σ597.2.1) (fun (r599 : Int32) (σ600 : Sg) => lt' (σ597.1, σ600, σ597.2.2) (fun (σ602 : LT) => bd (fX7_thrown  σ602.2.1) (fun (r603 : Int32) (σ604 : Sg) => lt' (σ602.1, σ604, σ602.2.2) (fun (σ606 : LT) => if r603 = r596 then (jp (fun (σ608 : LT) => J2282  σ608) (fun (J2079 : LT → Option (Int32 × LT)) => if r596 = 0 then (if (lg_cmp (σ606.2.2 0) r599.toInt64) = 0 then (J2079  σ606) else (some ((0 : Int32), σ606))) else (J2079  σ606))) else (some ((0 : Int32), σ606)))))))) else if ((xs i.toNatClampNeg) &&& (63 : Int32)) = (33 : Int32) then (bd (fL_efficiencyBits  σ) (fun (r612 : Int32) (σ613 : LT) => bd (fX7_efficiencyBits  σ613.2.1) (fun (r615 : Int32) (σ616 : Sg) => lt' (σ613.1, σ616, σ613.2.2) (fun (σ618 : LT) => bd (fX7_thrown  σ618.2.1) (fun (r619 : Int32) (σ620 : Sg) => lt' (σ618.1, σ620, σ618.2.2) (fun (σ622 : LT) => if r619 = r612 then (jp (fun (σ624 : LT) => J2282  σ624) (fun (J2123 : LT → Option (Int32 × LT)) => if r612 = 0 then (if (lg_cmp (σ622.2.2 0) r615.toInt64) = 0 then (J2123  σ622) else (some ((0 : Int32), σ622))) else (J2123  σ622))) else (some ((0 : Int32), σ622)))))))) else if ((xs i.toNatClampNeg) &&& (63 : Int32)) = (34 : Int32) then (bd (fL_meanPriceBits  σ) (fun (r628 : Int32) (σ629 : LT) => bd (fX7_meanPriceBits  σ629.2.1) (fun (r631 : Int64) (σ632 : Sg) => lt' (σ629.1, σ632, σ629.2.2) (fun (σ634 : LT) => bd (fX7_thrown  σ634.2.1) (fun (r635 : Int32) (σ636 : Sg) => lt' (σ634.1, σ636, σ634.2.2) (fun (σ638 : LT) => if r635 = r628 then (jp (fun (σ640 : LT) => J2282  σ640) (fun (J2166 : LT → Option (Int32 × LT)) => if r628 = 0 then (if (lg_cmp (σ638.2.2 0) r631) = 0 then (J2166  σ638) else (some ((0 : Int32), σ638))) else (J2166  σ638))) else (some ((0 : Int32), σ638)))))))) else if ((xs i.toNatClampNeg) &&& (63 : Int32)) = (35 : Int32) then (gd (inb (i + (1 : Int32)) Ln) (bd (fL_count (xs (i + (1 : Int32)).toNatClampNeg) σ) (fun (r645 : Int32) (σ646 : LT) => gd (inb (i + (1 : Int32)) Ln) (bd (fX7_count (xs (i + (1 : Int32)).toNatClampNeg) σ646.2.1) (fun (r649 : Int32) (σ650 : Sg) => lt' (σ646.1, σ650, σ646.2.2) (fun (σ652 : LT) => bd (fX7_thrown  σ652.2.1) (fun (r653 : Int32) (σ654 : Sg) => lt' (σ652.1, σ654, σ652.2.2) (fun (σ656 : LT) => if r653 = r645 then (jp (fun (σ658 : LT) => J2282  σ658) (fun (J2222 : LT → Option (Int32 × LT)) => if r645 = 0 then (if (lg_cmp (σ656.2.2 0) r649.toInt64) = 0 then (J2222  σ656) else (some ((0 : Int32), σ656))) else (J2222  σ656))) else (some ((0 : Int32), σ656)))))))))) else if ((xs i.toNatClampNeg) &&& (63 : Int32)) = (36 : Int32) then (bd (fX6_save  σ.1) (fun (r662 : Int32) (σ663 : Sg) => lt' (σ663, σ.2) (fun (σ665 : LT) => bd (fX7_save  σ665.2.1) (fun (r666 : Int32) (σ667 : Sg) => lt' (σ665.1, σ667, σ665.2.2) (fun (σ669 : LT) => if r662 = r666 then (J2282  σ669) else (some ((0 : Int32), σ669))))))) else if ((xs i.toNatClampNeg) &&& (63 : Int32)) = (37 : Int32) then (bd (fL_restore  σ) (fun (r672 : Int32) (σ673 : LT) => bd (fX7_restore  σ673.2.1) (fun (r675 : Int32) (σ676 : Sg) => lt' (σ673.1, σ676, σ673.2.2) (fun (σ678 : LT) => bd (fX7_thrown  σ678.2.1) (fun (r679 : Int32) (σ680 : Sg) => lt' (σ678.1, σ680, σ678.2.2) (fun (σ682 : LT) => if r679 = r672 then (jp (fun (σ684 : LT) => J2282  σ684) (fun (J2279 : LT → Option (Int32 × LT)) => if r672 = 0 then (if (lg_cmp (σ682.2.2 0) r675.toInt64) = 0 then (J2279  σ682) else (some ((0 : Int32), σ682))) else (J2279  σ682))) else (some ((0 : Int32), σ682)))))))) else (J2282  σ))))
set_option maxHeartbeats 4000000 in
theorem wlL_law {X : Cx} {G : Gx} {ad : Nat → Nat} {Q : State → Prop} {xs : Nat → Int32} {b Ln : Nat} {σf : LT} (C : OK wL X G ad RL cL_law 8 room_1) (hX : va_X b Ln xs (x_s X) (x_s X).heap) (hbl : b < (x_s X).heap.size) (hbA : ¬ Aof wL ad (x_s X).heap.size b)
    (FL : ∀ {k s pc : Nat} {L : List (Nat × Value)} {σ : LT}, k ≤ 603072 → s ≤ 7149674 → decode cL_law pc = .ok (.ireturn, 1) → V wL X G ad 8 Q k s σ pc L [.int 1]) :
    ∀ (n k s : Nat) (_ : k + 128 * n ≤ 600000) (_ : s + 768 * n ≤ 7000000) (i : Int32) (σ : LT), fL_law xs Ln n i σ = some (1, σf) → V wL X G ad 8 Q k s σ 23 [(0, .ref b), (1, .ref (ad 0)), (2, .ref (ad 77)), (3, .ref (ad 100)), (4, .int i)] [] := by
  intro n
  induction n with
  | zero =>
    intro k s hk hs i σ hf
    exact absurd hf (by simp [fL_law])
  | succ n ih =>
    intro k s hk hs
    have hk1 : k + 128 ≤ 603072 := by omega
    have hs1 : s + 768 ≤ 7149674 := Nat.le_trans (Nat.add_le_add_left (Nat.le_mul_of_pos_right 768 (Nat.succ_pos n)) s) (Nat.le_trans hs (Nat.le_of_ble_eq_true rfl))
    have hk2 : (k + 128) + 128 * n ≤ 600000 := by omega
    have hs2 : (s + 768) + 768 * n ≤ 7000000 := by omega
    intro i σ hf
    rw [fL_law] at hf
    refine V_iload (q := 25) C dL_law_23 rfl 4 rfl ?_
    refine V_aload_n (q := 26) C dL_law_25 rfl rfl 0 rfl ?_
    refine V_slen (q := 27) C hX hbl hbA dL_law_26 rfl ?_
    refine V_iconst (v := 4) (q := 28) C dL_law_27 rfl ic_4 ?_
    refine V_isub (q := 29) C dL_law_28 rfl ?_
    refine V_icmp_gt (t := 2288) (q := 32) C dL_law_29 (by decide) rfl (fun c1 => ?_) (fun c1 => ?_)
    · replace hf := (ite_s hf).1 c1
      refine V_iconst (v := 1) (q := 2289) C dL_law_2288 rfl ic_1 ?_
      exact FL (Nat.le_trans (Nat.add_le_add_left (show 0 ≤ 128 by decide) k) hk1) (Nat.le_trans (Nat.add_le_add_left (show 0 ≤ 768 by decide) s) hs1) dL_law_2289
    · replace hf := (ite_s hf).2 c1
      refine V_aload_n (q := 33) C dL_law_32 rfl rfl 0 rfl ?_
      refine V_iload (q := 35) C dL_law_33 rfl 4 rfl ?_
      obtain ⟨g2, hf⟩ := gd_s hf
      refine V_sld (q := 36) C hX hbl hbA (inb_in g2) dL_law_35 rfl ?_
      refine V_bipush (v := 63) (q := 38) C dL_law_36 rfl bc_63 ?_
      refine V_iand (q := 39) C dL_law_38 rfl ?_
      obtain ⟨J2282, eJ2282, hf⟩ := jp_s hf
      have hJ2282 : ∀ (σ3 : LT), J2282 σ3 = some (1, σf) → V wL X G ad 8 Q (k + 100) (s + 600) σ3 2282 [(0, .ref b), (1, .ref (ad 0)), (2, .ref (ad 77)), (3, .ref (ad 100)), (4, .int i)] [] := by
        intro σ3 hf
        subst eJ2282
        refine V_iinc (L' := [(4, .int (i + (4 : Int32))), (0, .ref b), (1, .ref (ad 0)), (2, .ref (ad 77)), (3, .ref (ad 100))]) (q := 2285) C dL_law_2282 rfl 4 rfl (congrArg (fun y => i + y) ic_4) (by decide) rfl ?_
        refine V_goto (t := 23) C dL_law_2285 (by decide) ?_
        refine V_sub (L' := [(0, .ref b), (1, .ref (ad 0)), (2, .ref (ad 77)), (3, .ref (ad 100)), (4, .int (i + (4 : Int32)))]) [1, 2, 3, 4, 0] rfl ?_
        refine V_wide (k2 := k + 128) (n2 := s + 768) (Nat.add_le_add_left (show 100 ≤ 128 by decide) k) (Nat.add_le_add_left (show 600 ≤ 768 by decide) s) ?_
        exact ih (k + 128) (s + 768) hk2 hs2 _ _ hf
      by_cases c4 : ((xs i.toNatClampNeg) &&& (63 : Int32)) = (0 : Int32)
      · replace hf := (ite_s hf).1 c4
        refine V_tabIn (t := 204) C dL_law_39 (by rw [c4]; decide) (by rw [c4]; decide) (off := 165) (by rw [c4]; decide) (by decide) ?_
        refine V_aload_n (q := 205) C dL_law_204 rfl rfl 1 rfl ?_
        refine V_aload_n (q := 206) C dL_law_205 rfl rfl 0 rfl ?_
        refine V_iload (q := 208) C dL_law_206 rfl 4 rfl ?_
        refine V_iconst (v := 1) (q := 209) C dL_law_208 rfl ic_1 ?_
        refine V_iadd (q := 210) C dL_law_209 rfl ?_
        obtain ⟨g5, hf⟩ := gd_s hf
        refine V_sld (q := 211) C hX hbl hbA (inb_in g5) dL_law_210 rfl ?_
        refine V_aload_n (q := 212) C dL_law_211 rfl rfl 0 rfl ?_
        refine V_iload (q := 214) C dL_law_212 rfl 4 rfl ?_
        refine V_iconst (v := 2) (q := 215) C dL_law_214 rfl ic_2 ?_
        refine V_iadd (q := 216) C dL_law_215 rfl ?_
        obtain ⟨g6, hf⟩ := gd_s hf
        refine V_sld (q := 217) C hX hbl hbA (inb_in g6) dL_law_216 rfl ?_
        refine V_aload_n (q := 218) C dL_law_217 rfl rfl 0 rfl ?_
        refine V_iload (q := 220) C dL_law_218 rfl 4 rfl ?_
        refine V_iconst (v := 3) (q := 221) C dL_law_220 rfl ic_3 ?_
        refine V_iadd (q := 222) C dL_law_221 rfl ?_
        obtain ⟨g7, hf⟩ := gd_s hf
        refine V_sld (q := 223) C hX hbl hbA (inb_in g7) dL_law_222 rfl ?_
        refine V_aload_n (q := 224) C dL_law_223 rfl rfl 3 rfl ?_
        obtain ⟨r8, σ9, h10, hf⟩ := bd_s hf
        refine V_callSW (av := [.ref (ad 0), .int (xs (i + (1 : Int32)).toNatClampNeg), .int (xs (i + (2 : Int32)).toNatClampNeg), .int (xs (i + (3 : Int32)).toNatClampNeg), .ref (ad 100)]) (st := []) (st1 := [.int r8]) (q := 227) C (conL_addStation _ _ _ _ _ _ _ _ _ h10) q_412 q_106 q_410 q_411 nmL_addStation (rmk rfl rfl (by decide) (by decide) (Nat.le_trans (Nat.add_le_add_left (show 4 ≤ 128 by decide) k) hk1) (Nat.le_trans (Nat.add_le_add_left (show 24 ≤ 768 by decide) s) hs1)) rfl rfl (Nat.le_of_ble_eq_true rfl) dL_law_224 rfl rfl ?_
        refine V_wide (k2 := (k + 4)) (n2 := (s + 24)) (Nat.le_refl _) (Nat.le_refl _) ?_
        refine V_istore (L' := [(5, .int r8), (0, .ref b), (1, .ref (ad 0)), (2, .ref (ad 77)), (3, .ref (ad 100)), (4, .int i)]) (q := 229) C dL_law_227 rfl (by decide) rfl ?_
        refine V_aload_n (q := 230) C dL_law_229 rfl rfl 3 rfl ?_
        refine V_aload_n (q := 231) C dL_law_230 rfl rfl 1 rfl ?_
        refine V_iload (q := 233) C dL_law_231 rfl 5 rfl ?_
        refine V_iconst (v := 1) (q := 234) C dL_law_233 rfl ic_1 ?_
        refine V_iadd (q := 235) C dL_law_234 rfl ?_
        obtain ⟨g11, hf⟩ := gd_s hf
        refine V_sld (q := 236) C hX hbl hbA (inb_in g11) dL_law_235 rfl ?_
        refine V_aload_n (q := 237) C dL_law_236 rfl rfl 1 rfl ?_
        refine V_iload (q := 239) C dL_law_237 rfl 5 rfl ?_
        refine V_iconst (v := 2) (q := 240) C dL_law_239 rfl ic_2 ?_
        refine V_iadd (q := 241) C dL_law_240 rfl ?_
        obtain ⟨g12, hf⟩ := gd_s hf
        refine V_sld (q := 242) C hX hbl hbA (inb_in g12) dL_law_241 rfl ?_
        refine V_aload_n (q := 243) C dL_law_242 rfl rfl 1 rfl ?_
        refine V_iload (q := 245) C dL_law_243 rfl 5 rfl ?_
        refine V_iconst (v := 3) (q := 246) C dL_law_245 rfl ic_3 ?_
        refine V_iadd (q := 247) C dL_law_246 rfl ?_
        obtain ⟨g13, hf⟩ := gd_s hf
        refine V_sld (q := 248) C hX hbl hbA (inb_in g13) dL_law_247 rfl ?_
        obtain ⟨r14, σ15, h16, hf⟩ := bd_s hf
        refine V_callVs (av := [.int (xs (i + (1 : Int32)).toNatClampNeg), .int (xs (i + (2 : Int32)).toNatClampNeg), .int (xs (i + (3 : Int32)).toNatClampNeg)]) (st := []) (st1 := [.int r14]) (q := 251) (subM (τ := σ9)) C 0 (by decide) (eM_0 G (fun i => ad (77 + i)) (σ9.2.1 0)) rfl rfl (conX7_addStation _ _ _ _ _ _ _ _ _ h16) q_1241 q_114 q_1238 q_1239 q_1240 nmX7_addStation (rmk rfl rfl (by decide) (by decide) (Nat.le_trans (Nat.add_le_add_left (show 4 ≤ 128 by decide) k) hk1) (Nat.le_trans (Nat.add_le_add_left (show 24 ≤ 768 by decide) s) hs1)) rfl rfl (Nat.le_of_ble_eq_true rfl) dL_law_248 rfl rfl ?_
        refine V_lets hf (fun σ17 hf => ?_)
        refine V_wide (k2 := (k + 4)) (n2 := (s + 24)) (Nat.le_refl _) (Nat.le_refl _) ?_
        refine V_istore (L' := [(6, .int r14), (5, .int r8), (0, .ref b), (1, .ref (ad 0)), (2, .ref (ad 77)), (3, .ref (ad 100)), (4, .int i)]) (q := 253) C dL_law_251 rfl (by decide) rfl ?_
        refine V_aload_n (q := 254) C dL_law_253 rfl rfl 4 rfl ?_
        obtain ⟨r18, σ19, h20, hf⟩ := bd_s hf
        refine V_callVs (av := []) (st := []) (st1 := [.int r18]) (q := 257) (subM (τ := σ17)) C 0 (by decide) (eM_0 G (fun i => ad (77 + i)) (σ17.2.1 0)) rfl rfl (conX7_thrown _ _ _  _ _ _ h20) q_1237 q_114 q_1234 q_1235 q_1236 nmX7_thrown (rmk rfl rfl (by decide) (by decide) (Nat.le_trans (Nat.add_le_add_left (show 4 ≤ 128 by decide) k) hk1) (Nat.le_trans (Nat.add_le_add_left (show 24 ≤ 768 by decide) s) hs1)) rfl rfl (Nat.le_of_ble_eq_true rfl) dL_law_254 rfl rfl ?_
        refine V_lets hf (fun σ21 hf => ?_)
        refine V_wide (k2 := (k + 4)) (n2 := (s + 24)) (Nat.le_refl _) (Nat.le_refl _) ?_
        refine V_iload (q := 259) C dL_law_257 rfl 1 rfl ?_
        refine V_icmp_eq (t := 264) (q := 262) C dL_law_259 (by decide) rfl (fun c22 => ?_) (fun c22 => ?_)
        · replace hf := (ite_s hf).1 c22
          refine V_iload (q := 266) C dL_law_264 rfl 1 rfl ?_
          obtain ⟨J281, eJ281, hf⟩ := jp_s hf
          have hJ281 : ∀ (σ23 : LT), J281 σ23 = some (1, σf) → V wL X G ad 8 Q (k + 20) (s + 120) σ23 281 [(0, .ref b), (1, .ref (ad 0)), (2, .ref (ad 77)), (3, .ref (ad 100)), (4, .int i)] [] := by
            intro σ23 hf
            subst eJ281
            refine V_goto (t := 2282) C dL_law_281 (by decide) ?_
            refine V_wide (k2 := (k + 100)) (n2 := (s + 600)) (Nat.add_le_add_left (show 20 ≤ 100 by decide) k) (Nat.add_le_add_left (show 120 ≤ 600 by decide) s) ?_
            exact hJ2282 _ hf
          refine V_if_ne (t := 281) (q := 269) C dL_law_266 (by decide) rfl (fun c24 => ?_) (fun c24 => ?_)
          · replace hf := (ite_s hf).2 c24
            refine V_sub (L' := [(0, .ref b), (1, .ref (ad 0)), (2, .ref (ad 77)), (3, .ref (ad 100)), (4, .int i)]) [2, 3, 4, 5, 6] rfl ?_
            refine V_wide (k2 := (k + 20)) (n2 := (s + 120)) (Nat.add_le_add_left (show 4 ≤ 20 by decide) k) (Nat.add_le_add_left (show 24 ≤ 120 by decide) s) ?_
            exact hJ281 _ hf
          · replace hf := (ite_s hf).1 c24
            refine V_aload_n (q := 270) C dL_law_269 rfl rfl 5 rfl ?_
            refine V_iconst (v := 0) (q := 271) C dL_law_270 rfl ic_0 ?_
            refine V_outR (q := 272) C dL_law_271 rfl ?_
            refine V_iload (q := 274) C dL_law_272 rfl 0 rfl ?_
            refine V_i2l (q := 275) C dL_law_274 rfl ?_
            refine V_lcmp (q := 276) C dL_law_275 rfl ?_
            refine V_if_eq (t := 281) (q := 279) C dL_law_276 (by decide) rfl (fun c25 => ?_) (fun c25 => ?_)
            · replace hf := (ite_s hf).1 c25
              refine V_sub (L' := [(0, .ref b), (1, .ref (ad 0)), (2, .ref (ad 77)), (3, .ref (ad 100)), (4, .int i)]) [2, 3, 4, 5, 6] rfl ?_
              refine V_wide (k2 := (k + 20)) (n2 := (s + 120)) (Nat.add_le_add_left (show 4 ≤ 20 by decide) k) (Nat.add_le_add_left (show 24 ≤ 120 by decide) s) ?_
              exact hJ281 _ hf
            · replace hf := (ite_s hf).2 c25
              refine V_iconst (v := 0) (q := 280) C dL_law_279 rfl ic_0 ?_
              exact absurd (pr_s hf).1 (by decide)
        · replace hf := (ite_s hf).2 c22
          refine V_iconst (v := 0) (q := 263) C dL_law_262 rfl ic_0 ?_
          exact absurd (pr_s hf).1 (by decide)
      · replace hf := (ite_s hf).2 c4
        by_cases c26 : ((xs i.toNatClampNeg) &&& (63 : Int32)) = (1 : Int32)
        · replace hf := (ite_s hf).1 c26
          refine V_tabIn (t := 284) C dL_law_39 (by rw [c26]; decide) (by rw [c26]; decide) (off := 245) (by rw [c26]; decide) (by decide) ?_
          refine V_aload_n (q := 285) C dL_law_284 rfl rfl 1 rfl ?_
          refine V_aload_n (q := 286) C dL_law_285 rfl rfl 3 rfl ?_
          obtain ⟨r27, σ28, h29, hf⟩ := bd_s hf
          refine V_callSW (av := [.ref (ad 0), .ref (ad 100)]) (st := []) (st1 := [.int r27]) (q := 289) C (conL_removeStation _ _ _  _ _ _ h29) q_548 q_106 q_546 q_547 nmL_removeStation (rmk rfl rfl (by decide) (by decide) (Nat.le_trans (Nat.add_le_add_left (show 2 ≤ 128 by decide) k) hk1) (Nat.le_trans (Nat.add_le_add_left (show 12 ≤ 768 by decide) s) hs1)) rfl rfl (Nat.le_of_ble_eq_true rfl) dL_law_286 rfl rfl ?_
          refine V_wide (k2 := (k + 2)) (n2 := (s + 12)) (Nat.le_refl _) (Nat.le_refl _) ?_
          refine V_istore (L' := [(5, .int r27), (0, .ref b), (1, .ref (ad 0)), (2, .ref (ad 77)), (3, .ref (ad 100)), (4, .int i)]) (q := 291) C dL_law_289 rfl (by decide) rfl ?_
          refine V_aload_n (q := 292) C dL_law_291 rfl rfl 3 rfl ?_
          obtain ⟨r30, σ31, h32, hf⟩ := bd_s hf
          refine V_callVs (av := []) (st := []) (st1 := [.int r30]) (q := 295) (subM (τ := σ28)) C 0 (by decide) (eM_0 G (fun i => ad (77 + i)) (σ28.2.1 0)) rfl rfl (conX7_removeStation _ _ _  _ _ _ h32) q_1259 q_114 q_1256 q_1257 q_1258 nmX7_removeStation (rmk rfl rfl (by decide) (by decide) (Nat.le_trans (Nat.add_le_add_left (show 2 ≤ 128 by decide) k) hk1) (Nat.le_trans (Nat.add_le_add_left (show 12 ≤ 768 by decide) s) hs1)) rfl rfl (Nat.le_of_ble_eq_true rfl) dL_law_292 rfl rfl ?_
          refine V_lets hf (fun σ33 hf => ?_)
          refine V_wide (k2 := (k + 2)) (n2 := (s + 12)) (Nat.le_refl _) (Nat.le_refl _) ?_
          refine V_istore (L' := [(6, .int r30), (5, .int r27), (0, .ref b), (1, .ref (ad 0)), (2, .ref (ad 77)), (3, .ref (ad 100)), (4, .int i)]) (q := 297) C dL_law_295 rfl (by decide) rfl ?_
          refine V_aload_n (q := 298) C dL_law_297 rfl rfl 4 rfl ?_
          obtain ⟨r34, σ35, h36, hf⟩ := bd_s hf
          refine V_callVs (av := []) (st := []) (st1 := [.int r34]) (q := 301) (subM (τ := σ33)) C 0 (by decide) (eM_0 G (fun i => ad (77 + i)) (σ33.2.1 0)) rfl rfl (conX7_thrown _ _ _  _ _ _ h36) q_1237 q_114 q_1234 q_1235 q_1236 nmX7_thrown (rmk rfl rfl (by decide) (by decide) (Nat.le_trans (Nat.add_le_add_left (show 2 ≤ 128 by decide) k) hk1) (Nat.le_trans (Nat.add_le_add_left (show 12 ≤ 768 by decide) s) hs1)) rfl rfl (Nat.le_of_ble_eq_true rfl) dL_law_298 rfl rfl ?_
          refine V_lets hf (fun σ37 hf => ?_)
          refine V_wide (k2 := (k + 2)) (n2 := (s + 12)) (Nat.le_refl _) (Nat.le_refl _) ?_
          refine V_iload (q := 303) C dL_law_301 rfl 1 rfl ?_
          refine V_icmp_eq (t := 308) (q := 306) C dL_law_303 (by decide) rfl (fun c38 => ?_) (fun c38 => ?_)
          · replace hf := (ite_s hf).1 c38
            refine V_iload (q := 310) C dL_law_308 rfl 1 rfl ?_
            obtain ⟨J325, eJ325, hf⟩ := jp_s hf
            have hJ325 : ∀ (σ39 : LT), J325 σ39 = some (1, σf) → V wL X G ad 8 Q (k + 18) (s + 108) σ39 325 [(0, .ref b), (1, .ref (ad 0)), (2, .ref (ad 77)), (3, .ref (ad 100)), (4, .int i)] [] := by
              intro σ39 hf
              subst eJ325
              refine V_goto (t := 2282) C dL_law_325 (by decide) ?_
              refine V_wide (k2 := (k + 100)) (n2 := (s + 600)) (Nat.add_le_add_left (show 18 ≤ 100 by decide) k) (Nat.add_le_add_left (show 108 ≤ 600 by decide) s) ?_
              exact hJ2282 _ hf
            refine V_if_ne (t := 325) (q := 313) C dL_law_310 (by decide) rfl (fun c40 => ?_) (fun c40 => ?_)
            · replace hf := (ite_s hf).2 c40
              refine V_sub (L' := [(0, .ref b), (1, .ref (ad 0)), (2, .ref (ad 77)), (3, .ref (ad 100)), (4, .int i)]) [2, 3, 4, 5, 6] rfl ?_
              refine V_wide (k2 := (k + 18)) (n2 := (s + 108)) (Nat.add_le_add_left (show 2 ≤ 18 by decide) k) (Nat.add_le_add_left (show 12 ≤ 108 by decide) s) ?_
              exact hJ325 _ hf
            · replace hf := (ite_s hf).1 c40
              refine V_aload_n (q := 314) C dL_law_313 rfl rfl 5 rfl ?_
              refine V_iconst (v := 0) (q := 315) C dL_law_314 rfl ic_0 ?_
              refine V_outR (q := 316) C dL_law_315 rfl ?_
              refine V_iload (q := 318) C dL_law_316 rfl 0 rfl ?_
              refine V_i2l (q := 319) C dL_law_318 rfl ?_
              refine V_lcmp (q := 320) C dL_law_319 rfl ?_
              refine V_if_eq (t := 325) (q := 323) C dL_law_320 (by decide) rfl (fun c41 => ?_) (fun c41 => ?_)
              · replace hf := (ite_s hf).1 c41
                refine V_sub (L' := [(0, .ref b), (1, .ref (ad 0)), (2, .ref (ad 77)), (3, .ref (ad 100)), (4, .int i)]) [2, 3, 4, 5, 6] rfl ?_
                refine V_wide (k2 := (k + 18)) (n2 := (s + 108)) (Nat.add_le_add_left (show 2 ≤ 18 by decide) k) (Nat.add_le_add_left (show 12 ≤ 108 by decide) s) ?_
                exact hJ325 _ hf
              · replace hf := (ite_s hf).2 c41
                refine V_iconst (v := 0) (q := 324) C dL_law_323 rfl ic_0 ?_
                exact absurd (pr_s hf).1 (by decide)
          · replace hf := (ite_s hf).2 c38
            refine V_iconst (v := 0) (q := 307) C dL_law_306 rfl ic_0 ?_
            exact absurd (pr_s hf).1 (by decide)
        · replace hf := (ite_s hf).2 c26
          by_cases c42 : ((xs i.toNatClampNeg) &&& (63 : Int32)) = (2 : Int32)
          · replace hf := (ite_s hf).1 c42
            refine V_tabIn (t := 328) C dL_law_39 (by rw [c42]; decide) (by rw [c42]; decide) (off := 289) (by rw [c42]; decide) (by decide) ?_
            refine V_aload_n (q := 329) C dL_law_328 rfl rfl 1 rfl ?_
            refine V_aload_n (q := 330) C dL_law_329 rfl rfl 0 rfl ?_
            refine V_iload (q := 332) C dL_law_330 rfl 4 rfl ?_
            refine V_iconst (v := 1) (q := 333) C dL_law_332 rfl ic_1 ?_
            refine V_iadd (q := 334) C dL_law_333 rfl ?_
            obtain ⟨g43, hf⟩ := gd_s hf
            refine V_sld (q := 335) C hX hbl hbA (inb_in g43) dL_law_334 rfl ?_
            refine V_aload_n (q := 336) C dL_law_335 rfl rfl 0 rfl ?_
            refine V_iload (q := 338) C dL_law_336 rfl 4 rfl ?_
            refine V_iconst (v := 2) (q := 339) C dL_law_338 rfl ic_2 ?_
            refine V_iadd (q := 340) C dL_law_339 rfl ?_
            obtain ⟨g44, hf⟩ := gd_s hf
            refine V_sld (q := 341) C hX hbl hbA (inb_in g44) dL_law_340 rfl ?_
            obtain ⟨J349, eJ349, hf⟩ := jp_s hf
            have hJ349 : ∀ (v45 : Int32) (σ46 : LT), J349 v45 σ46 = some (1, σf) → V wL X G ad 8 Q (k + 16) (s + 96) σ46 349 [(0, .ref b), (1, .ref (ad 0)), (2, .ref (ad 77)), (3, .ref (ad 100)), (4, .int i)] [.int v45, .int (xs (i + (1 : Int32)).toNatClampNeg), .ref (ad 0)] := by
              intro v45 σ46 hf
              subst eJ349
              refine V_aload_n (q := 350) C dL_law_349 rfl rfl 3 rfl ?_
              obtain ⟨r47, σ48, h49, hf⟩ := bd_s hf
              refine V_callSW (av := [.ref (ad 0), .int (xs (i + (1 : Int32)).toNatClampNeg), .int v45, .ref (ad 100)]) (st := []) (st1 := [.int r47]) (q := 353) C (conL_setParticipates _ _ _ _ _ _ _ _ h49) q_564 q_106 q_562 q_563 nmL_setParticipates (rmk rfl rfl (by decide) (by decide) (Nat.le_trans (Nat.add_le_add_left (show 18 ≤ 128 by decide) k) hk1) (Nat.le_trans (Nat.add_le_add_left (show 108 ≤ 768 by decide) s) hs1)) rfl rfl (Nat.le_of_ble_eq_true rfl) dL_law_350 rfl rfl ?_
              refine V_wide (k2 := (k + 18)) (n2 := (s + 108)) (Nat.le_refl _) (Nat.le_refl _) ?_
              refine V_istore (L' := [(5, .int r47), (0, .ref b), (1, .ref (ad 0)), (2, .ref (ad 77)), (3, .ref (ad 100)), (4, .int i)]) (q := 355) C dL_law_353 rfl (by decide) rfl ?_
              refine V_aload_n (q := 356) C dL_law_355 rfl rfl 3 rfl ?_
              refine V_aload_n (q := 357) C dL_law_356 rfl rfl 1 rfl ?_
              refine V_iload (q := 359) C dL_law_357 rfl 5 rfl ?_
              refine V_iconst (v := 1) (q := 360) C dL_law_359 rfl ic_1 ?_
              refine V_iadd (q := 361) C dL_law_360 rfl ?_
              obtain ⟨g50, hf⟩ := gd_s hf
              refine V_sld (q := 362) C hX hbl hbA (inb_in g50) dL_law_361 rfl ?_
              refine V_aload_n (q := 363) C dL_law_362 rfl rfl 1 rfl ?_
              refine V_iload (q := 365) C dL_law_363 rfl 5 rfl ?_
              refine V_iconst (v := 2) (q := 366) C dL_law_365 rfl ic_2 ?_
              refine V_iadd (q := 367) C dL_law_366 rfl ?_
              obtain ⟨g51, hf⟩ := gd_s hf
              refine V_sld (q := 368) C hX hbl hbA (inb_in g51) dL_law_367 rfl ?_
              obtain ⟨J376, eJ376, hf⟩ := jp_s hf
              have hJ376 : ∀ (v52 : Int32) (σ53 : LT), J376 v52 σ53 = some (1, σf) → V wL X G ad 8 Q (k + 34) (s + 204) σ53 376 [(0, .ref b), (1, .ref (ad 0)), (2, .ref (ad 77)), (3, .ref (ad 100)), (4, .int i), (5, .int r47)] [.int v52, .int (xs (i + (1 : Int32)).toNatClampNeg), .ref (ad 77)] := by
                intro v52 σ53 hf
                subst eJ376
                obtain ⟨r54, σ55, h56, hf⟩ := bd_s hf
                refine V_callVs (av := [.int (xs (i + (1 : Int32)).toNatClampNeg), .int v52]) (st := []) (st1 := [.int r54]) (q := 379) (subM (τ := σ53)) C 0 (by decide) (eM_0 G (fun i => ad (77 + i)) (σ53.2.1 0)) rfl rfl (conX7_setParticipates _ _ _ _ _ _ _ _ h56) q_1263 q_114 q_1260 q_1261 q_1262 nmX7_setParticipates (rmk rfl rfl (by decide) (by decide) (Nat.le_trans (Nat.add_le_add_left (show 34 ≤ 128 by decide) k) hk1) (Nat.le_trans (Nat.add_le_add_left (show 204 ≤ 768 by decide) s) hs1)) rfl rfl (Nat.le_of_ble_eq_true rfl) dL_law_376 rfl rfl ?_
                refine V_lets hf (fun σ57 hf => ?_)
                refine V_wide (k2 := (k + 34)) (n2 := (s + 204)) (Nat.le_refl _) (Nat.le_refl _) ?_
                refine V_istore (L' := [(6, .int r54), (0, .ref b), (1, .ref (ad 0)), (2, .ref (ad 77)), (3, .ref (ad 100)), (4, .int i), (5, .int r47)]) (q := 381) C dL_law_379 rfl (by decide) rfl ?_
                refine V_aload_n (q := 382) C dL_law_381 rfl rfl 3 rfl ?_
                obtain ⟨r58, σ59, h60, hf⟩ := bd_s hf
                refine V_callVs (av := []) (st := []) (st1 := [.int r58]) (q := 385) (subM (τ := σ57)) C 0 (by decide) (eM_0 G (fun i => ad (77 + i)) (σ57.2.1 0)) rfl rfl (conX7_thrown _ _ _  _ _ _ h60) q_1237 q_114 q_1234 q_1235 q_1236 nmX7_thrown (rmk rfl rfl (by decide) (by decide) (Nat.le_trans (Nat.add_le_add_left (show 34 ≤ 128 by decide) k) hk1) (Nat.le_trans (Nat.add_le_add_left (show 204 ≤ 768 by decide) s) hs1)) rfl rfl (Nat.le_of_ble_eq_true rfl) dL_law_382 rfl rfl ?_
                refine V_lets hf (fun σ61 hf => ?_)
                refine V_wide (k2 := (k + 34)) (n2 := (s + 204)) (Nat.le_refl _) (Nat.le_refl _) ?_
                refine V_iload (q := 387) C dL_law_385 rfl 6 rfl ?_
                refine V_icmp_eq (t := 392) (q := 390) C dL_law_387 (by decide) rfl (fun c62 => ?_) (fun c62 => ?_)
                · replace hf := (ite_s hf).1 c62
                  refine V_iload (q := 394) C dL_law_392 rfl 6 rfl ?_
                  obtain ⟨J416, eJ416, hf⟩ := jp_s hf
                  have hJ416 : ∀ (σ63 : LT), J416 σ63 = some (1, σf) → V wL X G ad 8 Q (k + 50) (s + 300) σ63 416 [(0, .ref b), (1, .ref (ad 0)), (2, .ref (ad 77)), (3, .ref (ad 100)), (4, .int i)] [] := by
                    intro σ63 hf
                    subst eJ416
                    refine V_goto (t := 2282) C dL_law_416 (by decide) ?_
                    refine V_wide (k2 := (k + 100)) (n2 := (s + 600)) (Nat.add_le_add_left (show 50 ≤ 100 by decide) k) (Nat.add_le_add_left (show 300 ≤ 600 by decide) s) ?_
                    exact hJ2282 _ hf
                  refine V_if_ne (t := 416) (q := 397) C dL_law_394 (by decide) rfl (fun c64 => ?_) (fun c64 => ?_)
                  · replace hf := (ite_s hf).2 c64
                    refine V_sub (L' := [(0, .ref b), (1, .ref (ad 0)), (2, .ref (ad 77)), (3, .ref (ad 100)), (4, .int i)]) [1, 2, 3, 4, 5] rfl ?_
                    refine V_wide (k2 := (k + 50)) (n2 := (s + 300)) (Nat.add_le_add_left (show 34 ≤ 50 by decide) k) (Nat.add_le_add_left (show 204 ≤ 300 by decide) s) ?_
                    exact hJ416 _ hf
                  · replace hf := (ite_s hf).1 c64
                    refine V_aload_n (q := 398) C dL_law_397 rfl rfl 4 rfl ?_
                    refine V_iconst (v := 0) (q := 399) C dL_law_398 rfl ic_0 ?_
                    refine V_outR (q := 400) C dL_law_399 rfl ?_
                    refine V_iload (q := 402) C dL_law_400 rfl 0 rfl ?_
                    obtain ⟨J410, eJ410, hf⟩ := jp_s hf
                    have hJ410 : ∀ (v65 : Int64) (σ66 : LT), J410 v65 σ66 = some (1, σf) → V wL X G ad 8 Q (k + 50) (s + 300) σ66 410 [(0, .ref b), (1, .ref (ad 0)), (2, .ref (ad 77)), (3, .ref (ad 100)), (4, .int i)] [.long v65, .long (σ61.2.2 0)] := by
                      intro v65 σ66 hf
                      subst eJ410
                      refine V_lcmp (q := 411) C dL_law_410 rfl ?_
                      refine V_if_eq (t := 416) (q := 414) C dL_law_411 (by decide) rfl (fun c67 => ?_) (fun c67 => ?_)
                      · replace hf := (ite_s hf).1 c67
                        exact hJ416 _ hf
                      · replace hf := (ite_s hf).2 c67
                        refine V_iconst (v := 0) (q := 415) C dL_law_414 rfl ic_0 ?_
                        exact absurd (pr_s hf).1 (by decide)
                    refine V_if_eq (t := 409) (q := 405) C dL_law_402 (by decide) rfl (fun c68 => ?_) (fun c68 => ?_)
                    · replace hf := (ite_s hf).1 c68
                      refine V_lconst (v := 0) (q := 410) C dL_law_409 rfl (by decide) ?_
                      refine V_sub (L' := [(0, .ref b), (1, .ref (ad 0)), (2, .ref (ad 77)), (3, .ref (ad 100)), (4, .int i)]) [1, 2, 3, 4, 5] rfl ?_
                      refine V_wide (k2 := (k + 50)) (n2 := (s + 300)) (Nat.add_le_add_left (show 34 ≤ 50 by decide) k) (Nat.add_le_add_left (show 204 ≤ 300 by decide) s) ?_
                      exact hJ410 _ _ hf
                    · replace hf := (ite_s hf).2 c68
                      refine V_lconst (v := 1) (q := 406) C dL_law_405 rfl (by decide) ?_
                      refine V_goto (t := 410) C dL_law_406 (by decide) ?_
                      refine V_sub (L' := [(0, .ref b), (1, .ref (ad 0)), (2, .ref (ad 77)), (3, .ref (ad 100)), (4, .int i)]) [1, 2, 3, 4, 5] rfl ?_
                      refine V_wide (k2 := (k + 50)) (n2 := (s + 300)) (Nat.add_le_add_left (show 34 ≤ 50 by decide) k) (Nat.add_le_add_left (show 204 ≤ 300 by decide) s) ?_
                      exact hJ410 _ _ hf
                · replace hf := (ite_s hf).2 c62
                  refine V_iconst (v := 0) (q := 391) C dL_law_390 rfl ic_0 ?_
                  exact absurd (pr_s hf).1 (by decide)
              refine V_if_eq (t := 375) (q := 371) C dL_law_368 (by decide) rfl (fun c69 => ?_) (fun c69 => ?_)
              · replace hf := (ite_s hf).1 c69
                refine V_iconst (v := 0) (q := 376) C dL_law_375 rfl ic_0 ?_
                refine V_sub (L' := [(0, .ref b), (1, .ref (ad 0)), (2, .ref (ad 77)), (3, .ref (ad 100)), (4, .int i), (5, .int r47)]) [1, 2, 3, 4, 5, 0] rfl ?_
                refine V_wide (k2 := (k + 34)) (n2 := (s + 204)) (Nat.add_le_add_left (show 18 ≤ 34 by decide) k) (Nat.add_le_add_left (show 108 ≤ 204 by decide) s) ?_
                exact hJ376 _ _ hf
              · replace hf := (ite_s hf).2 c69
                refine V_iconst (v := 1) (q := 372) C dL_law_371 rfl ic_1 ?_
                refine V_goto (t := 376) C dL_law_372 (by decide) ?_
                refine V_sub (L' := [(0, .ref b), (1, .ref (ad 0)), (2, .ref (ad 77)), (3, .ref (ad 100)), (4, .int i), (5, .int r47)]) [1, 2, 3, 4, 5, 0] rfl ?_
                refine V_wide (k2 := (k + 34)) (n2 := (s + 204)) (Nat.add_le_add_left (show 18 ≤ 34 by decide) k) (Nat.add_le_add_left (show 108 ≤ 204 by decide) s) ?_
                exact hJ376 _ _ hf
            refine V_if_eq (t := 348) (q := 344) C dL_law_341 (by decide) rfl (fun c70 => ?_) (fun c70 => ?_)
            · replace hf := (ite_s hf).1 c70
              refine V_iconst (v := 0) (q := 349) C dL_law_348 rfl ic_0 ?_
              refine V_wide (k2 := (k + 16)) (n2 := (s + 96)) (Nat.add_le_add_left (show 0 ≤ 16 by decide) k) (Nat.add_le_add_left (show 0 ≤ 96 by decide) s) ?_
              exact hJ349 _ _ hf
            · replace hf := (ite_s hf).2 c70
              refine V_iconst (v := 1) (q := 345) C dL_law_344 rfl ic_1 ?_
              refine V_goto (t := 349) C dL_law_345 (by decide) ?_
              refine V_wide (k2 := (k + 16)) (n2 := (s + 96)) (Nat.add_le_add_left (show 0 ≤ 16 by decide) k) (Nat.add_le_add_left (show 0 ≤ 96 by decide) s) ?_
              exact hJ349 _ _ hf
          · replace hf := (ite_s hf).2 c42
            by_cases c71 : ((xs i.toNatClampNeg) &&& (63 : Int32)) = (3 : Int32)
            · replace hf := (ite_s hf).1 c71
              refine V_tabIn (t := 419) C dL_law_39 (by rw [c71]; decide) (by rw [c71]; decide) (off := 380) (by rw [c71]; decide) (by decide) ?_
              refine V_aload_n (q := 420) C dL_law_419 rfl rfl 1 rfl ?_
              refine V_aload_n (q := 421) C dL_law_420 rfl rfl 0 rfl ?_
              refine V_iload (q := 423) C dL_law_421 rfl 4 rfl ?_
              refine V_iconst (v := 1) (q := 424) C dL_law_423 rfl ic_1 ?_
              refine V_iadd (q := 425) C dL_law_424 rfl ?_
              obtain ⟨g72, hf⟩ := gd_s hf
              refine V_sld (q := 426) C hX hbl hbA (inb_in g72) dL_law_425 rfl ?_
              refine V_aload_n (q := 427) C dL_law_426 rfl rfl 0 rfl ?_
              refine V_iload (q := 429) C dL_law_427 rfl 4 rfl ?_
              refine V_iconst (v := 2) (q := 430) C dL_law_429 rfl ic_2 ?_
              refine V_iadd (q := 431) C dL_law_430 rfl ?_
              obtain ⟨g73, hf⟩ := gd_s hf
              refine V_sld (q := 432) C hX hbl hbA (inb_in g73) dL_law_431 rfl ?_
              refine V_aload_n (q := 433) C dL_law_432 rfl rfl 3 rfl ?_
              obtain ⟨r74, σ75, h76, hf⟩ := bd_s hf
              refine V_callSW (av := [.ref (ad 0), .int (xs (i + (1 : Int32)).toNatClampNeg), .int (xs (i + (2 : Int32)).toNatClampNeg), .ref (ad 100)]) (st := []) (st1 := [.int r74]) (q := 436) C (conL_setValue _ _ _ _ _ _ _ _ h76) q_615 q_106 q_613 q_614 nmL_setValue (rmk rfl rfl (by decide) (by decide) (Nat.le_trans (Nat.add_le_add_left (show 3 ≤ 128 by decide) k) hk1) (Nat.le_trans (Nat.add_le_add_left (show 18 ≤ 768 by decide) s) hs1)) rfl rfl (Nat.le_of_ble_eq_true rfl) dL_law_433 rfl rfl ?_
              refine V_wide (k2 := (k + 3)) (n2 := (s + 18)) (Nat.le_refl _) (Nat.le_refl _) ?_
              refine V_istore (L' := [(5, .int r74), (0, .ref b), (1, .ref (ad 0)), (2, .ref (ad 77)), (3, .ref (ad 100)), (4, .int i)]) (q := 438) C dL_law_436 rfl (by decide) rfl ?_
              refine V_aload_n (q := 439) C dL_law_438 rfl rfl 3 rfl ?_
              refine V_aload_n (q := 440) C dL_law_439 rfl rfl 1 rfl ?_
              refine V_iload (q := 442) C dL_law_440 rfl 5 rfl ?_
              refine V_iconst (v := 1) (q := 443) C dL_law_442 rfl ic_1 ?_
              refine V_iadd (q := 444) C dL_law_443 rfl ?_
              obtain ⟨g77, hf⟩ := gd_s hf
              refine V_sld (q := 445) C hX hbl hbA (inb_in g77) dL_law_444 rfl ?_
              refine V_aload_n (q := 446) C dL_law_445 rfl rfl 1 rfl ?_
              refine V_iload (q := 448) C dL_law_446 rfl 5 rfl ?_
              refine V_iconst (v := 2) (q := 449) C dL_law_448 rfl ic_2 ?_
              refine V_iadd (q := 450) C dL_law_449 rfl ?_
              obtain ⟨g78, hf⟩ := gd_s hf
              refine V_sld (q := 451) C hX hbl hbA (inb_in g78) dL_law_450 rfl ?_
              obtain ⟨r79, σ80, h81, hf⟩ := bd_s hf
              refine V_callVs (av := [.int (xs (i + (1 : Int32)).toNatClampNeg), .int (xs (i + (2 : Int32)).toNatClampNeg)]) (st := []) (st1 := [.int r79]) (q := 454) (subM (τ := σ75)) C 0 (by decide) (eM_0 G (fun i => ad (77 + i)) (σ75.2.1 0)) rfl rfl (conX7_setValue _ _ _ _ _ _ _ _ h81) q_1271 q_114 q_1268 q_1269 q_1270 nmX7_setValue (rmk rfl rfl (by decide) (by decide) (Nat.le_trans (Nat.add_le_add_left (show 3 ≤ 128 by decide) k) hk1) (Nat.le_trans (Nat.add_le_add_left (show 18 ≤ 768 by decide) s) hs1)) rfl rfl (Nat.le_of_ble_eq_true rfl) dL_law_451 rfl rfl ?_
              refine V_lets hf (fun σ82 hf => ?_)
              refine V_wide (k2 := (k + 3)) (n2 := (s + 18)) (Nat.le_refl _) (Nat.le_refl _) ?_
              refine V_istore (L' := [(6, .int r79), (5, .int r74), (0, .ref b), (1, .ref (ad 0)), (2, .ref (ad 77)), (3, .ref (ad 100)), (4, .int i)]) (q := 456) C dL_law_454 rfl (by decide) rfl ?_
              refine V_aload_n (q := 457) C dL_law_456 rfl rfl 4 rfl ?_
              obtain ⟨r83, σ84, h85, hf⟩ := bd_s hf
              refine V_callVs (av := []) (st := []) (st1 := [.int r83]) (q := 460) (subM (τ := σ82)) C 0 (by decide) (eM_0 G (fun i => ad (77 + i)) (σ82.2.1 0)) rfl rfl (conX7_thrown _ _ _  _ _ _ h85) q_1237 q_114 q_1234 q_1235 q_1236 nmX7_thrown (rmk rfl rfl (by decide) (by decide) (Nat.le_trans (Nat.add_le_add_left (show 3 ≤ 128 by decide) k) hk1) (Nat.le_trans (Nat.add_le_add_left (show 18 ≤ 768 by decide) s) hs1)) rfl rfl (Nat.le_of_ble_eq_true rfl) dL_law_457 rfl rfl ?_
              refine V_lets hf (fun σ86 hf => ?_)
              refine V_wide (k2 := (k + 3)) (n2 := (s + 18)) (Nat.le_refl _) (Nat.le_refl _) ?_
              refine V_iload (q := 462) C dL_law_460 rfl 1 rfl ?_
              refine V_icmp_eq (t := 467) (q := 465) C dL_law_462 (by decide) rfl (fun c87 => ?_) (fun c87 => ?_)
              · replace hf := (ite_s hf).1 c87
                refine V_iload (q := 469) C dL_law_467 rfl 1 rfl ?_
                obtain ⟨J484, eJ484, hf⟩ := jp_s hf
                have hJ484 : ∀ (σ88 : LT), J484 σ88 = some (1, σf) → V wL X G ad 8 Q (k + 19) (s + 114) σ88 484 [(0, .ref b), (1, .ref (ad 0)), (2, .ref (ad 77)), (3, .ref (ad 100)), (4, .int i)] [] := by
                  intro σ88 hf
                  subst eJ484
                  refine V_goto (t := 2282) C dL_law_484 (by decide) ?_
                  refine V_wide (k2 := (k + 100)) (n2 := (s + 600)) (Nat.add_le_add_left (show 19 ≤ 100 by decide) k) (Nat.add_le_add_left (show 114 ≤ 600 by decide) s) ?_
                  exact hJ2282 _ hf
                refine V_if_ne (t := 484) (q := 472) C dL_law_469 (by decide) rfl (fun c89 => ?_) (fun c89 => ?_)
                · replace hf := (ite_s hf).2 c89
                  refine V_sub (L' := [(0, .ref b), (1, .ref (ad 0)), (2, .ref (ad 77)), (3, .ref (ad 100)), (4, .int i)]) [2, 3, 4, 5, 6] rfl ?_
                  refine V_wide (k2 := (k + 19)) (n2 := (s + 114)) (Nat.add_le_add_left (show 3 ≤ 19 by decide) k) (Nat.add_le_add_left (show 18 ≤ 114 by decide) s) ?_
                  exact hJ484 _ hf
                · replace hf := (ite_s hf).1 c89
                  refine V_aload_n (q := 473) C dL_law_472 rfl rfl 5 rfl ?_
                  refine V_iconst (v := 0) (q := 474) C dL_law_473 rfl ic_0 ?_
                  refine V_outR (q := 475) C dL_law_474 rfl ?_
                  refine V_iload (q := 477) C dL_law_475 rfl 0 rfl ?_
                  refine V_i2l (q := 478) C dL_law_477 rfl ?_
                  refine V_lcmp (q := 479) C dL_law_478 rfl ?_
                  refine V_if_eq (t := 484) (q := 482) C dL_law_479 (by decide) rfl (fun c90 => ?_) (fun c90 => ?_)
                  · replace hf := (ite_s hf).1 c90
                    refine V_sub (L' := [(0, .ref b), (1, .ref (ad 0)), (2, .ref (ad 77)), (3, .ref (ad 100)), (4, .int i)]) [2, 3, 4, 5, 6] rfl ?_
                    refine V_wide (k2 := (k + 19)) (n2 := (s + 114)) (Nat.add_le_add_left (show 3 ≤ 19 by decide) k) (Nat.add_le_add_left (show 18 ≤ 114 by decide) s) ?_
                    exact hJ484 _ hf
                  · replace hf := (ite_s hf).2 c90
                    refine V_iconst (v := 0) (q := 483) C dL_law_482 rfl ic_0 ?_
                    exact absurd (pr_s hf).1 (by decide)
              · replace hf := (ite_s hf).2 c87
                refine V_iconst (v := 0) (q := 466) C dL_law_465 rfl ic_0 ?_
                exact absurd (pr_s hf).1 (by decide)
            · replace hf := (ite_s hf).2 c71
              by_cases c91 : ((xs i.toNatClampNeg) &&& (63 : Int32)) = (4 : Int32)
              · replace hf := (ite_s hf).1 c91
                refine V_tabIn (t := 487) C dL_law_39 (by rw [c91]; decide) (by rw [c91]; decide) (off := 448) (by rw [c91]; decide) (by decide) ?_
                refine V_aload_n (q := 488) C dL_law_487 rfl rfl 1 rfl ?_
                refine V_aload_n (q := 489) C dL_law_488 rfl rfl 0 rfl ?_
                refine V_iload (q := 491) C dL_law_489 rfl 4 rfl ?_
                refine V_iconst (v := 1) (q := 492) C dL_law_491 rfl ic_1 ?_
                refine V_iadd (q := 493) C dL_law_492 rfl ?_
                obtain ⟨g92, hf⟩ := gd_s hf
                refine V_sld (q := 494) C hX hbl hbA (inb_in g92) dL_law_493 rfl ?_
                refine V_aload_n (q := 495) C dL_law_494 rfl rfl 3 rfl ?_
                obtain ⟨r93, σ94, h95, hf⟩ := bd_s hf
                refine V_callSW (av := [.ref (ad 0), .int (xs (i + (1 : Int32)).toNatClampNeg), .ref (ad 100)]) (st := []) (st1 := [.int r93]) (q := 498) C (conL_setAvailable _ _ _ _ _ _ _ h95) q_622 q_106 q_620 q_621 nmL_setAvailable (rmk rfl rfl (by decide) (by decide) (Nat.le_trans (Nat.add_le_add_left (show 2 ≤ 128 by decide) k) hk1) (Nat.le_trans (Nat.add_le_add_left (show 12 ≤ 768 by decide) s) hs1)) rfl rfl (Nat.le_of_ble_eq_true rfl) dL_law_495 rfl rfl ?_
                refine V_wide (k2 := (k + 2)) (n2 := (s + 12)) (Nat.le_refl _) (Nat.le_refl _) ?_
                refine V_istore (L' := [(5, .int r93), (0, .ref b), (1, .ref (ad 0)), (2, .ref (ad 77)), (3, .ref (ad 100)), (4, .int i)]) (q := 500) C dL_law_498 rfl (by decide) rfl ?_
                refine V_aload_n (q := 501) C dL_law_500 rfl rfl 3 rfl ?_
                refine V_aload_n (q := 502) C dL_law_501 rfl rfl 1 rfl ?_
                refine V_iload (q := 504) C dL_law_502 rfl 5 rfl ?_
                refine V_iconst (v := 1) (q := 505) C dL_law_504 rfl ic_1 ?_
                refine V_iadd (q := 506) C dL_law_505 rfl ?_
                obtain ⟨g96, hf⟩ := gd_s hf
                refine V_sld (q := 507) C hX hbl hbA (inb_in g96) dL_law_506 rfl ?_
                obtain ⟨r97, σ98, h99, hf⟩ := bd_s hf
                refine V_callVs (av := [.int (xs (i + (1 : Int32)).toNatClampNeg)]) (st := []) (st1 := [.int r97]) (q := 510) (subM (τ := σ94)) C 0 (by decide) (eM_0 G (fun i => ad (77 + i)) (σ94.2.1 0)) rfl rfl (conX7_setAvailable _ _ _ _ _ _ _ h99) q_1275 q_114 q_1272 q_1273 q_1274 nmX7_setAvailable (rmk rfl rfl (by decide) (by decide) (Nat.le_trans (Nat.add_le_add_left (show 2 ≤ 128 by decide) k) hk1) (Nat.le_trans (Nat.add_le_add_left (show 12 ≤ 768 by decide) s) hs1)) rfl rfl (Nat.le_of_ble_eq_true rfl) dL_law_507 rfl rfl ?_
                refine V_lets hf (fun σ100 hf => ?_)
                refine V_wide (k2 := (k + 2)) (n2 := (s + 12)) (Nat.le_refl _) (Nat.le_refl _) ?_
                refine V_istore (L' := [(6, .int r97), (5, .int r93), (0, .ref b), (1, .ref (ad 0)), (2, .ref (ad 77)), (3, .ref (ad 100)), (4, .int i)]) (q := 512) C dL_law_510 rfl (by decide) rfl ?_
                refine V_aload_n (q := 513) C dL_law_512 rfl rfl 4 rfl ?_
                obtain ⟨r101, σ102, h103, hf⟩ := bd_s hf
                refine V_callVs (av := []) (st := []) (st1 := [.int r101]) (q := 516) (subM (τ := σ100)) C 0 (by decide) (eM_0 G (fun i => ad (77 + i)) (σ100.2.1 0)) rfl rfl (conX7_thrown _ _ _  _ _ _ h103) q_1237 q_114 q_1234 q_1235 q_1236 nmX7_thrown (rmk rfl rfl (by decide) (by decide) (Nat.le_trans (Nat.add_le_add_left (show 2 ≤ 128 by decide) k) hk1) (Nat.le_trans (Nat.add_le_add_left (show 12 ≤ 768 by decide) s) hs1)) rfl rfl (Nat.le_of_ble_eq_true rfl) dL_law_513 rfl rfl ?_
                refine V_lets hf (fun σ104 hf => ?_)
                refine V_wide (k2 := (k + 2)) (n2 := (s + 12)) (Nat.le_refl _) (Nat.le_refl _) ?_
                refine V_iload (q := 518) C dL_law_516 rfl 1 rfl ?_
                refine V_icmp_eq (t := 523) (q := 521) C dL_law_518 (by decide) rfl (fun c105 => ?_) (fun c105 => ?_)
                · replace hf := (ite_s hf).1 c105
                  refine V_iload (q := 525) C dL_law_523 rfl 1 rfl ?_
                  obtain ⟨J540, eJ540, hf⟩ := jp_s hf
                  have hJ540 : ∀ (σ106 : LT), J540 σ106 = some (1, σf) → V wL X G ad 8 Q (k + 18) (s + 108) σ106 540 [(0, .ref b), (1, .ref (ad 0)), (2, .ref (ad 77)), (3, .ref (ad 100)), (4, .int i)] [] := by
                    intro σ106 hf
                    subst eJ540
                    refine V_goto (t := 2282) C dL_law_540 (by decide) ?_
                    refine V_wide (k2 := (k + 100)) (n2 := (s + 600)) (Nat.add_le_add_left (show 18 ≤ 100 by decide) k) (Nat.add_le_add_left (show 108 ≤ 600 by decide) s) ?_
                    exact hJ2282 _ hf
                  refine V_if_ne (t := 540) (q := 528) C dL_law_525 (by decide) rfl (fun c107 => ?_) (fun c107 => ?_)
                  · replace hf := (ite_s hf).2 c107
                    refine V_sub (L' := [(0, .ref b), (1, .ref (ad 0)), (2, .ref (ad 77)), (3, .ref (ad 100)), (4, .int i)]) [2, 3, 4, 5, 6] rfl ?_
                    refine V_wide (k2 := (k + 18)) (n2 := (s + 108)) (Nat.add_le_add_left (show 2 ≤ 18 by decide) k) (Nat.add_le_add_left (show 12 ≤ 108 by decide) s) ?_
                    exact hJ540 _ hf
                  · replace hf := (ite_s hf).1 c107
                    refine V_aload_n (q := 529) C dL_law_528 rfl rfl 5 rfl ?_
                    refine V_iconst (v := 0) (q := 530) C dL_law_529 rfl ic_0 ?_
                    refine V_outR (q := 531) C dL_law_530 rfl ?_
                    refine V_iload (q := 533) C dL_law_531 rfl 0 rfl ?_
                    refine V_i2l (q := 534) C dL_law_533 rfl ?_
                    refine V_lcmp (q := 535) C dL_law_534 rfl ?_
                    refine V_if_eq (t := 540) (q := 538) C dL_law_535 (by decide) rfl (fun c108 => ?_) (fun c108 => ?_)
                    · replace hf := (ite_s hf).1 c108
                      refine V_sub (L' := [(0, .ref b), (1, .ref (ad 0)), (2, .ref (ad 77)), (3, .ref (ad 100)), (4, .int i)]) [2, 3, 4, 5, 6] rfl ?_
                      refine V_wide (k2 := (k + 18)) (n2 := (s + 108)) (Nat.add_le_add_left (show 2 ≤ 18 by decide) k) (Nat.add_le_add_left (show 12 ≤ 108 by decide) s) ?_
                      exact hJ540 _ hf
                    · replace hf := (ite_s hf).2 c108
                      refine V_iconst (v := 0) (q := 539) C dL_law_538 rfl ic_0 ?_
                      exact absurd (pr_s hf).1 (by decide)
                · replace hf := (ite_s hf).2 c105
                  refine V_iconst (v := 0) (q := 522) C dL_law_521 rfl ic_0 ?_
                  exact absurd (pr_s hf).1 (by decide)
              · replace hf := (ite_s hf).2 c91
                by_cases c109 : ((xs i.toNatClampNeg) &&& (63 : Int32)) = (5 : Int32)
                · replace hf := (ite_s hf).1 c109
                  refine V_tabIn (t := 543) C dL_law_39 (by rw [c109]; decide) (by rw [c109]; decide) (off := 504) (by rw [c109]; decide) (by decide) ?_
                  refine V_aload_n (q := 544) C dL_law_543 rfl rfl 1 rfl ?_
                  refine V_aload_n (q := 545) C dL_law_544 rfl rfl 0 rfl ?_
                  refine V_iload (q := 547) C dL_law_545 rfl 4 rfl ?_
                  refine V_iconst (v := 1) (q := 548) C dL_law_547 rfl ic_1 ?_
                  refine V_iadd (q := 549) C dL_law_548 rfl ?_
                  obtain ⟨g110, hf⟩ := gd_s hf
                  refine V_sld (q := 550) C hX hbl hbA (inb_in g110) dL_law_549 rfl ?_
                  refine V_aload_n (q := 551) C dL_law_550 rfl rfl 3 rfl ?_
                  obtain ⟨r111, σ112, h113, hf⟩ := bd_s hf
                  refine V_callSW (av := [.ref (ad 0), .int (xs (i + (1 : Int32)).toNatClampNeg), .ref (ad 100)]) (st := []) (st1 := [.int r111]) (q := 554) C (conL_append _ _ _ _ _ _ _ h113) q_629 q_106 q_627 q_628 nmL_append (rmk rfl rfl (by decide) (by decide) (Nat.le_trans (Nat.add_le_add_left (show 1 ≤ 128 by decide) k) hk1) (Nat.le_trans (Nat.add_le_add_left (show 6 ≤ 768 by decide) s) hs1)) rfl rfl (Nat.le_of_ble_eq_true rfl) dL_law_551 rfl rfl ?_
                  refine V_wide (k2 := (k + 1)) (n2 := (s + 6)) (Nat.le_refl _) (Nat.le_refl _) ?_
                  refine V_istore (L' := [(5, .int r111), (0, .ref b), (1, .ref (ad 0)), (2, .ref (ad 77)), (3, .ref (ad 100)), (4, .int i)]) (q := 556) C dL_law_554 rfl (by decide) rfl ?_
                  refine V_aload_n (q := 557) C dL_law_556 rfl rfl 3 rfl ?_
                  refine V_aload_n (q := 558) C dL_law_557 rfl rfl 1 rfl ?_
                  refine V_iload (q := 560) C dL_law_558 rfl 5 rfl ?_
                  refine V_iconst (v := 1) (q := 561) C dL_law_560 rfl ic_1 ?_
                  refine V_iadd (q := 562) C dL_law_561 rfl ?_
                  obtain ⟨g114, hf⟩ := gd_s hf
                  refine V_sld (q := 563) C hX hbl hbA (inb_in g114) dL_law_562 rfl ?_
                  obtain ⟨r115, σ116, h117, hf⟩ := bd_s hf
                  refine V_callVs (av := [.int (xs (i + (1 : Int32)).toNatClampNeg)]) (st := []) (st1 := [.int r115]) (q := 566) (subM (τ := σ112)) C 0 (by decide) (eM_0 G (fun i => ad (77 + i)) (σ112.2.1 0)) rfl rfl (conX7_append _ _ _ _ _ _ _ h117) q_1279 q_114 q_1276 q_1277 q_1278 nmX7_append (rmk rfl rfl (by decide) (by decide) (Nat.le_trans (Nat.add_le_add_left (show 1 ≤ 128 by decide) k) hk1) (Nat.le_trans (Nat.add_le_add_left (show 6 ≤ 768 by decide) s) hs1)) rfl rfl (Nat.le_of_ble_eq_true rfl) dL_law_563 rfl rfl ?_
                  refine V_lets hf (fun σ118 hf => ?_)
                  refine V_wide (k2 := (k + 1)) (n2 := (s + 6)) (Nat.le_refl _) (Nat.le_refl _) ?_
                  refine V_istore (L' := [(6, .int r115), (5, .int r111), (0, .ref b), (1, .ref (ad 0)), (2, .ref (ad 77)), (3, .ref (ad 100)), (4, .int i)]) (q := 568) C dL_law_566 rfl (by decide) rfl ?_
                  refine V_aload_n (q := 569) C dL_law_568 rfl rfl 4 rfl ?_
                  obtain ⟨r119, σ120, h121, hf⟩ := bd_s hf
                  refine V_callVs (av := []) (st := []) (st1 := [.int r119]) (q := 572) (subM (τ := σ118)) C 0 (by decide) (eM_0 G (fun i => ad (77 + i)) (σ118.2.1 0)) rfl rfl (conX7_thrown _ _ _  _ _ _ h121) q_1237 q_114 q_1234 q_1235 q_1236 nmX7_thrown (rmk rfl rfl (by decide) (by decide) (Nat.le_trans (Nat.add_le_add_left (show 1 ≤ 128 by decide) k) hk1) (Nat.le_trans (Nat.add_le_add_left (show 6 ≤ 768 by decide) s) hs1)) rfl rfl (Nat.le_of_ble_eq_true rfl) dL_law_569 rfl rfl ?_
                  refine V_lets hf (fun σ122 hf => ?_)
                  refine V_wide (k2 := (k + 1)) (n2 := (s + 6)) (Nat.le_refl _) (Nat.le_refl _) ?_
                  refine V_iload (q := 574) C dL_law_572 rfl 1 rfl ?_
                  refine V_icmp_eq (t := 579) (q := 577) C dL_law_574 (by decide) rfl (fun c123 => ?_) (fun c123 => ?_)
                  · replace hf := (ite_s hf).1 c123
                    refine V_iload (q := 581) C dL_law_579 rfl 1 rfl ?_
                    obtain ⟨J596, eJ596, hf⟩ := jp_s hf
                    have hJ596 : ∀ (σ124 : LT), J596 σ124 = some (1, σf) → V wL X G ad 8 Q (k + 17) (s + 102) σ124 596 [(0, .ref b), (1, .ref (ad 0)), (2, .ref (ad 77)), (3, .ref (ad 100)), (4, .int i)] [] := by
                      intro σ124 hf
                      subst eJ596
                      refine V_goto (t := 2282) C dL_law_596 (by decide) ?_
                      refine V_wide (k2 := (k + 100)) (n2 := (s + 600)) (Nat.add_le_add_left (show 17 ≤ 100 by decide) k) (Nat.add_le_add_left (show 102 ≤ 600 by decide) s) ?_
                      exact hJ2282 _ hf
                    refine V_if_ne (t := 596) (q := 584) C dL_law_581 (by decide) rfl (fun c125 => ?_) (fun c125 => ?_)
                    · replace hf := (ite_s hf).2 c125
                      refine V_sub (L' := [(0, .ref b), (1, .ref (ad 0)), (2, .ref (ad 77)), (3, .ref (ad 100)), (4, .int i)]) [2, 3, 4, 5, 6] rfl ?_
                      refine V_wide (k2 := (k + 17)) (n2 := (s + 102)) (Nat.add_le_add_left (show 1 ≤ 17 by decide) k) (Nat.add_le_add_left (show 6 ≤ 102 by decide) s) ?_
                      exact hJ596 _ hf
                    · replace hf := (ite_s hf).1 c125
                      refine V_aload_n (q := 585) C dL_law_584 rfl rfl 5 rfl ?_
                      refine V_iconst (v := 0) (q := 586) C dL_law_585 rfl ic_0 ?_
                      refine V_outR (q := 587) C dL_law_586 rfl ?_
                      refine V_iload (q := 589) C dL_law_587 rfl 0 rfl ?_
                      refine V_i2l (q := 590) C dL_law_589 rfl ?_
                      refine V_lcmp (q := 591) C dL_law_590 rfl ?_
                      refine V_if_eq (t := 596) (q := 594) C dL_law_591 (by decide) rfl (fun c126 => ?_) (fun c126 => ?_)
                      · replace hf := (ite_s hf).1 c126
                        refine V_sub (L' := [(0, .ref b), (1, .ref (ad 0)), (2, .ref (ad 77)), (3, .ref (ad 100)), (4, .int i)]) [2, 3, 4, 5, 6] rfl ?_
                        refine V_wide (k2 := (k + 17)) (n2 := (s + 102)) (Nat.add_le_add_left (show 1 ≤ 17 by decide) k) (Nat.add_le_add_left (show 6 ≤ 102 by decide) s) ?_
                        exact hJ596 _ hf
                      · replace hf := (ite_s hf).2 c126
                        refine V_iconst (v := 0) (q := 595) C dL_law_594 rfl ic_0 ?_
                        exact absurd (pr_s hf).1 (by decide)
                  · replace hf := (ite_s hf).2 c123
                    refine V_iconst (v := 0) (q := 578) C dL_law_577 rfl ic_0 ?_
                    exact absurd (pr_s hf).1 (by decide)
                · replace hf := (ite_s hf).2 c109
                  by_cases c127 : ((xs i.toNatClampNeg) &&& (63 : Int32)) = (6 : Int32)
                  · replace hf := (ite_s hf).1 c127
                    refine V_tabIn (t := 599) C dL_law_39 (by rw [c127]; decide) (by rw [c127]; decide) (off := 560) (by rw [c127]; decide) (by decide) ?_
                    refine V_aload_n (q := 600) C dL_law_599 rfl rfl 1 rfl ?_
                    refine V_aload_n (q := 601) C dL_law_600 rfl rfl 3 rfl ?_
                    obtain ⟨r128, σ129, h130, hf⟩ := bd_s hf
                    refine V_callSW (av := [.ref (ad 0), .ref (ad 100)]) (st := []) (st1 := [.int r128]) (q := 604) C (conL_setConflicts _ _ _  _ _ _ h130) q_642 q_106 q_640 q_641 nmL_setConflicts (rmk rfl rfl (by decide) (by decide) (Nat.le_trans (Nat.add_le_add_left (show 2 ≤ 128 by decide) k) hk1) (Nat.le_trans (Nat.add_le_add_left (show 12 ≤ 768 by decide) s) hs1)) rfl rfl (Nat.le_of_ble_eq_true rfl) dL_law_601 rfl rfl ?_
                    refine V_wide (k2 := (k + 2)) (n2 := (s + 12)) (Nat.le_refl _) (Nat.le_refl _) ?_
                    refine V_istore (L' := [(5, .int r128), (0, .ref b), (1, .ref (ad 0)), (2, .ref (ad 77)), (3, .ref (ad 100)), (4, .int i)]) (q := 606) C dL_law_604 rfl (by decide) rfl ?_
                    refine V_aload_n (q := 607) C dL_law_606 rfl rfl 3 rfl ?_
                    obtain ⟨r131, σ132, h133, hf⟩ := bd_s hf
                    refine V_callVs (av := []) (st := []) (st1 := [.int r131]) (q := 610) (subM (τ := σ129)) C 0 (by decide) (eM_0 G (fun i => ad (77 + i)) (σ129.2.1 0)) rfl rfl (conX7_setConflicts _ _ _  _ _ _ h133) q_1283 q_114 q_1280 q_1281 q_1282 nmX7_setConflicts (rmk rfl rfl (by decide) (by decide) (Nat.le_trans (Nat.add_le_add_left (show 2 ≤ 128 by decide) k) hk1) (Nat.le_trans (Nat.add_le_add_left (show 12 ≤ 768 by decide) s) hs1)) rfl rfl (Nat.le_of_ble_eq_true rfl) dL_law_607 rfl rfl ?_
                    refine V_lets hf (fun σ134 hf => ?_)
                    refine V_wide (k2 := (k + 2)) (n2 := (s + 12)) (Nat.le_refl _) (Nat.le_refl _) ?_
                    refine V_istore (L' := [(6, .int r131), (5, .int r128), (0, .ref b), (1, .ref (ad 0)), (2, .ref (ad 77)), (3, .ref (ad 100)), (4, .int i)]) (q := 612) C dL_law_610 rfl (by decide) rfl ?_
                    refine V_aload_n (q := 613) C dL_law_612 rfl rfl 4 rfl ?_
                    obtain ⟨r135, σ136, h137, hf⟩ := bd_s hf
                    refine V_callVs (av := []) (st := []) (st1 := [.int r135]) (q := 616) (subM (τ := σ134)) C 0 (by decide) (eM_0 G (fun i => ad (77 + i)) (σ134.2.1 0)) rfl rfl (conX7_thrown _ _ _  _ _ _ h137) q_1237 q_114 q_1234 q_1235 q_1236 nmX7_thrown (rmk rfl rfl (by decide) (by decide) (Nat.le_trans (Nat.add_le_add_left (show 2 ≤ 128 by decide) k) hk1) (Nat.le_trans (Nat.add_le_add_left (show 12 ≤ 768 by decide) s) hs1)) rfl rfl (Nat.le_of_ble_eq_true rfl) dL_law_613 rfl rfl ?_
                    refine V_lets hf (fun σ138 hf => ?_)
                    refine V_wide (k2 := (k + 2)) (n2 := (s + 12)) (Nat.le_refl _) (Nat.le_refl _) ?_
                    refine V_iload (q := 618) C dL_law_616 rfl 1 rfl ?_
                    refine V_icmp_eq (t := 623) (q := 621) C dL_law_618 (by decide) rfl (fun c139 => ?_) (fun c139 => ?_)
                    · replace hf := (ite_s hf).1 c139
                      refine V_iload (q := 625) C dL_law_623 rfl 1 rfl ?_
                      obtain ⟨J640, eJ640, hf⟩ := jp_s hf
                      have hJ640 : ∀ (σ140 : LT), J640 σ140 = some (1, σf) → V wL X G ad 8 Q (k + 18) (s + 108) σ140 640 [(0, .ref b), (1, .ref (ad 0)), (2, .ref (ad 77)), (3, .ref (ad 100)), (4, .int i)] [] := by
                        intro σ140 hf
                        subst eJ640
                        refine V_goto (t := 2282) C dL_law_640 (by decide) ?_
                        refine V_wide (k2 := (k + 100)) (n2 := (s + 600)) (Nat.add_le_add_left (show 18 ≤ 100 by decide) k) (Nat.add_le_add_left (show 108 ≤ 600 by decide) s) ?_
                        exact hJ2282 _ hf
                      refine V_if_ne (t := 640) (q := 628) C dL_law_625 (by decide) rfl (fun c141 => ?_) (fun c141 => ?_)
                      · replace hf := (ite_s hf).2 c141
                        refine V_sub (L' := [(0, .ref b), (1, .ref (ad 0)), (2, .ref (ad 77)), (3, .ref (ad 100)), (4, .int i)]) [2, 3, 4, 5, 6] rfl ?_
                        refine V_wide (k2 := (k + 18)) (n2 := (s + 108)) (Nat.add_le_add_left (show 2 ≤ 18 by decide) k) (Nat.add_le_add_left (show 12 ≤ 108 by decide) s) ?_
                        exact hJ640 _ hf
                      · replace hf := (ite_s hf).1 c141
                        refine V_aload_n (q := 629) C dL_law_628 rfl rfl 5 rfl ?_
                        refine V_iconst (v := 0) (q := 630) C dL_law_629 rfl ic_0 ?_
                        refine V_outR (q := 631) C dL_law_630 rfl ?_
                        refine V_iload (q := 633) C dL_law_631 rfl 0 rfl ?_
                        refine V_i2l (q := 634) C dL_law_633 rfl ?_
                        refine V_lcmp (q := 635) C dL_law_634 rfl ?_
                        refine V_if_eq (t := 640) (q := 638) C dL_law_635 (by decide) rfl (fun c142 => ?_) (fun c142 => ?_)
                        · replace hf := (ite_s hf).1 c142
                          refine V_sub (L' := [(0, .ref b), (1, .ref (ad 0)), (2, .ref (ad 77)), (3, .ref (ad 100)), (4, .int i)]) [2, 3, 4, 5, 6] rfl ?_
                          refine V_wide (k2 := (k + 18)) (n2 := (s + 108)) (Nat.add_le_add_left (show 2 ≤ 18 by decide) k) (Nat.add_le_add_left (show 12 ≤ 108 by decide) s) ?_
                          exact hJ640 _ hf
                        · replace hf := (ite_s hf).2 c142
                          refine V_iconst (v := 0) (q := 639) C dL_law_638 rfl ic_0 ?_
                          exact absurd (pr_s hf).1 (by decide)
                    · replace hf := (ite_s hf).2 c139
                      refine V_iconst (v := 0) (q := 622) C dL_law_621 rfl ic_0 ?_
                      exact absurd (pr_s hf).1 (by decide)
                  · replace hf := (ite_s hf).2 c127
                    by_cases c143 : ((xs i.toNatClampNeg) &&& (63 : Int32)) = (7 : Int32)
                    · replace hf := (ite_s hf).1 c143
                      refine V_tabIn (t := 643) C dL_law_39 (by rw [c143]; decide) (by rw [c143]; decide) (off := 604) (by rw [c143]; decide) (by decide) ?_
                      refine V_aload_n (q := 644) C dL_law_643 rfl rfl 1 rfl ?_
                      obtain ⟨r144, σ145, h146, hf⟩ := bd_s hf
                      refine V_callVs (av := []) (st := []) (st1 := [.int r144]) (q := 647) (subX (τ := σ)) C 0 (by decide) (eX_0 G ad _) rfl rfl (conX6_errorPosition _ _ _  _ _ _ h146) q_393 q_107 q_390 q_391 q_392 nmX6_errorPosition (rmk rfl rfl (by decide) (by decide) (Nat.le_trans (Nat.add_le_add_left (show 0 ≤ 128 by decide) k) hk1) (Nat.le_trans (Nat.add_le_add_left (show 0 ≤ 768 by decide) s) hs1)) rfl rfl (Nat.le_of_ble_eq_true rfl) dL_law_644 rfl rfl ?_
                      refine V_lets hf (fun σ147 hf => ?_)
                      refine V_wide (k2 := k) (n2 := s) (Nat.le_refl _) (Nat.le_refl _) ?_
                      refine V_aload_n (q := 648) C dL_law_647 rfl rfl 2 rfl ?_
                      obtain ⟨r148, σ149, h150, hf⟩ := bd_s hf
                      refine V_callVs (av := []) (st := [.int r144]) (st1 := [.int r148, .int r144]) (q := 651) (subM (τ := σ147)) C 0 (by decide) (eM_0 G (fun i => ad (77 + i)) (σ147.2.1 0)) rfl rfl (conX7_errorPosition _ _ _  _ _ _ h150) q_1307 q_114 q_1304 q_1305 q_1306 nmX7_errorPosition (rmk rfl rfl (by decide) (by decide) (Nat.le_trans (Nat.add_le_add_left (show 0 ≤ 128 by decide) k) hk1) (Nat.le_trans (Nat.add_le_add_left (show 0 ≤ 768 by decide) s) hs1)) rfl rfl (Nat.le_of_ble_eq_true rfl) dL_law_648 rfl rfl ?_
                      refine V_lets hf (fun σ151 hf => ?_)
                      refine V_wide (k2 := k) (n2 := s) (Nat.le_refl _) (Nat.le_refl _) ?_
                      refine V_icmp_eq (t := 2282) (q := 654) C dL_law_651 (by decide) rfl (fun c152 => ?_) (fun c152 => ?_)
                      · replace hf := (ite_s hf).1 c152
                        refine V_wide (k2 := (k + 100)) (n2 := (s + 600)) (Nat.add_le_add_left (show 0 ≤ 100 by decide) k) (Nat.add_le_add_left (show 0 ≤ 600 by decide) s) ?_
                        exact hJ2282 _ hf
                      · replace hf := (ite_s hf).2 c152
                        refine V_iconst (v := 0) (q := 655) C dL_law_654 rfl ic_0 ?_
                        exact absurd (pr_s hf).1 (by decide)
                    · replace hf := (ite_s hf).2 c143
                      by_cases c153 : ((xs i.toNatClampNeg) &&& (63 : Int32)) = (8 : Int32)
                      · replace hf := (ite_s hf).1 c153
                        refine V_tabIn (t := 656) C dL_law_39 (by rw [c153]; decide) (by rw [c153]; decide) (off := 617) (by rw [c153]; decide) (by decide) ?_
                        refine V_aload_n (q := 657) C dL_law_656 rfl rfl 1 rfl ?_
                        refine V_aload_n (q := 658) C dL_law_657 rfl rfl 0 rfl ?_
                        refine V_iload (q := 660) C dL_law_658 rfl 4 rfl ?_
                        refine V_iconst (v := 1) (q := 661) C dL_law_660 rfl ic_1 ?_
                        refine V_iadd (q := 662) C dL_law_661 rfl ?_
                        obtain ⟨g154, hf⟩ := gd_s hf
                        refine V_sld (q := 663) C hX hbl hbA (inb_in g154) dL_law_662 rfl ?_
                        refine V_aload_n (q := 664) C dL_law_663 rfl rfl 0 rfl ?_
                        refine V_iload (q := 666) C dL_law_664 rfl 4 rfl ?_
                        refine V_iconst (v := 2) (q := 667) C dL_law_666 rfl ic_2 ?_
                        refine V_iadd (q := 668) C dL_law_667 rfl ?_
                        obtain ⟨g155, hf⟩ := gd_s hf
                        refine V_sld (q := 669) C hX hbl hbA (inb_in g155) dL_law_668 rfl ?_
                        refine V_aload_n (q := 670) C dL_law_669 rfl rfl 0 rfl ?_
                        refine V_iload (q := 672) C dL_law_670 rfl 4 rfl ?_
                        refine V_iconst (v := 3) (q := 673) C dL_law_672 rfl ic_3 ?_
                        refine V_iadd (q := 674) C dL_law_673 rfl ?_
                        obtain ⟨g156, hf⟩ := gd_s hf
                        refine V_sld (q := 675) C hX hbl hbA (inb_in g156) dL_law_674 rfl ?_
                        refine V_aload_n (q := 676) C dL_law_675 rfl rfl 3 rfl ?_
                        obtain ⟨r157, σ158, h159, hf⟩ := bd_s hf
                        refine V_callSW (av := [.ref (ad 0), .int (xs (i + (1 : Int32)).toNatClampNeg), .int (xs (i + (2 : Int32)).toNatClampNeg), .int (xs (i + (3 : Int32)).toNatClampNeg), .ref (ad 100)]) (st := []) (st1 := [.int r157]) (q := 679) C (conL_hasConflict _ _ _ _ _ _ _ _ _ h159) q_686 q_106 q_684 q_685 nmL_hasConflict (rmk rfl rfl (by decide) (by decide) (Nat.le_trans (Nat.add_le_add_left (show 3 ≤ 128 by decide) k) hk1) (Nat.le_trans (Nat.add_le_add_left (show 18 ≤ 768 by decide) s) hs1)) rfl rfl (Nat.le_of_ble_eq_true rfl) dL_law_676 rfl rfl ?_
                        refine V_wide (k2 := (k + 3)) (n2 := (s + 18)) (Nat.le_refl _) (Nat.le_refl _) ?_
                        refine V_istore (L' := [(5, .int r157), (0, .ref b), (1, .ref (ad 0)), (2, .ref (ad 77)), (3, .ref (ad 100)), (4, .int i)]) (q := 681) C dL_law_679 rfl (by decide) rfl ?_
                        refine V_aload_n (q := 682) C dL_law_681 rfl rfl 3 rfl ?_
                        refine V_aload_n (q := 683) C dL_law_682 rfl rfl 1 rfl ?_
                        refine V_iload (q := 685) C dL_law_683 rfl 5 rfl ?_
                        refine V_iconst (v := 1) (q := 686) C dL_law_685 rfl ic_1 ?_
                        refine V_iadd (q := 687) C dL_law_686 rfl ?_
                        obtain ⟨g160, hf⟩ := gd_s hf
                        refine V_sld (q := 688) C hX hbl hbA (inb_in g160) dL_law_687 rfl ?_
                        refine V_aload_n (q := 689) C dL_law_688 rfl rfl 1 rfl ?_
                        refine V_iload (q := 691) C dL_law_689 rfl 5 rfl ?_
                        refine V_iconst (v := 2) (q := 692) C dL_law_691 rfl ic_2 ?_
                        refine V_iadd (q := 693) C dL_law_692 rfl ?_
                        obtain ⟨g161, hf⟩ := gd_s hf
                        refine V_sld (q := 694) C hX hbl hbA (inb_in g161) dL_law_693 rfl ?_
                        refine V_aload_n (q := 695) C dL_law_694 rfl rfl 1 rfl ?_
                        refine V_iload (q := 697) C dL_law_695 rfl 5 rfl ?_
                        refine V_iconst (v := 3) (q := 698) C dL_law_697 rfl ic_3 ?_
                        refine V_iadd (q := 699) C dL_law_698 rfl ?_
                        obtain ⟨g162, hf⟩ := gd_s hf
                        refine V_sld (q := 700) C hX hbl hbA (inb_in g162) dL_law_699 rfl ?_
                        obtain ⟨r163, σ164, h165, hf⟩ := bd_s hf
                        refine V_callVs (av := [.int (xs (i + (1 : Int32)).toNatClampNeg), .int (xs (i + (2 : Int32)).toNatClampNeg), .int (xs (i + (3 : Int32)).toNatClampNeg)]) (st := []) (st1 := [.int r163]) (q := 703) (subM (τ := σ158)) C 0 (by decide) (eM_0 G (fun i => ad (77 + i)) (σ158.2.1 0)) rfl rfl (conX7_hasConflict _ _ _ _ _ _ _ _ _ h165) q_1311 q_114 q_1308 q_1309 q_1310 nmX7_hasConflict (rmk rfl rfl (by decide) (by decide) (Nat.le_trans (Nat.add_le_add_left (show 3 ≤ 128 by decide) k) hk1) (Nat.le_trans (Nat.add_le_add_left (show 18 ≤ 768 by decide) s) hs1)) rfl rfl (Nat.le_of_ble_eq_true rfl) dL_law_700 rfl rfl ?_
                        refine V_lets hf (fun σ166 hf => ?_)
                        refine V_wide (k2 := (k + 3)) (n2 := (s + 18)) (Nat.le_refl _) (Nat.le_refl _) ?_
                        refine V_istore (L' := [(6, .int r163), (5, .int r157), (0, .ref b), (1, .ref (ad 0)), (2, .ref (ad 77)), (3, .ref (ad 100)), (4, .int i)]) (q := 705) C dL_law_703 rfl (by decide) rfl ?_
                        refine V_aload_n (q := 706) C dL_law_705 rfl rfl 4 rfl ?_
                        obtain ⟨r167, σ168, h169, hf⟩ := bd_s hf
                        refine V_callVs (av := []) (st := []) (st1 := [.int r167]) (q := 709) (subM (τ := σ166)) C 0 (by decide) (eM_0 G (fun i => ad (77 + i)) (σ166.2.1 0)) rfl rfl (conX7_thrown _ _ _  _ _ _ h169) q_1237 q_114 q_1234 q_1235 q_1236 nmX7_thrown (rmk rfl rfl (by decide) (by decide) (Nat.le_trans (Nat.add_le_add_left (show 3 ≤ 128 by decide) k) hk1) (Nat.le_trans (Nat.add_le_add_left (show 18 ≤ 768 by decide) s) hs1)) rfl rfl (Nat.le_of_ble_eq_true rfl) dL_law_706 rfl rfl ?_
                        refine V_lets hf (fun σ170 hf => ?_)
                        refine V_wide (k2 := (k + 3)) (n2 := (s + 18)) (Nat.le_refl _) (Nat.le_refl _) ?_
                        refine V_iload (q := 711) C dL_law_709 rfl 1 rfl ?_
                        refine V_icmp_eq (t := 716) (q := 714) C dL_law_711 (by decide) rfl (fun c171 => ?_) (fun c171 => ?_)
                        · replace hf := (ite_s hf).1 c171
                          refine V_iload (q := 718) C dL_law_716 rfl 1 rfl ?_
                          obtain ⟨J740, eJ740, hf⟩ := jp_s hf
                          have hJ740 : ∀ (σ172 : LT), J740 σ172 = some (1, σf) → V wL X G ad 8 Q (k + 19) (s + 114) σ172 740 [(0, .ref b), (1, .ref (ad 0)), (2, .ref (ad 77)), (3, .ref (ad 100)), (4, .int i)] [] := by
                            intro σ172 hf
                            subst eJ740
                            refine V_goto (t := 2282) C dL_law_740 (by decide) ?_
                            refine V_wide (k2 := (k + 100)) (n2 := (s + 600)) (Nat.add_le_add_left (show 19 ≤ 100 by decide) k) (Nat.add_le_add_left (show 114 ≤ 600 by decide) s) ?_
                            exact hJ2282 _ hf
                          refine V_if_ne (t := 740) (q := 721) C dL_law_718 (by decide) rfl (fun c173 => ?_) (fun c173 => ?_)
                          · replace hf := (ite_s hf).2 c173
                            refine V_sub (L' := [(0, .ref b), (1, .ref (ad 0)), (2, .ref (ad 77)), (3, .ref (ad 100)), (4, .int i)]) [2, 3, 4, 5, 6] rfl ?_
                            refine V_wide (k2 := (k + 19)) (n2 := (s + 114)) (Nat.add_le_add_left (show 3 ≤ 19 by decide) k) (Nat.add_le_add_left (show 18 ≤ 114 by decide) s) ?_
                            exact hJ740 _ hf
                          · replace hf := (ite_s hf).1 c173
                            refine V_aload_n (q := 722) C dL_law_721 rfl rfl 5 rfl ?_
                            refine V_iconst (v := 0) (q := 723) C dL_law_722 rfl ic_0 ?_
                            refine V_outR (q := 724) C dL_law_723 rfl ?_
                            refine V_iload (q := 726) C dL_law_724 rfl 0 rfl ?_
                            obtain ⟨J734, eJ734, hf⟩ := jp_s hf
                            have hJ734 : ∀ (v174 : Int64) (σ175 : LT), J734 v174 σ175 = some (1, σf) → V wL X G ad 8 Q (k + 19) (s + 114) σ175 734 [(0, .ref b), (1, .ref (ad 0)), (2, .ref (ad 77)), (3, .ref (ad 100)), (4, .int i)] [.long v174, .long (σ170.2.2 0)] := by
                              intro v174 σ175 hf
                              subst eJ734
                              refine V_lcmp (q := 735) C dL_law_734 rfl ?_
                              refine V_if_eq (t := 740) (q := 738) C dL_law_735 (by decide) rfl (fun c176 => ?_) (fun c176 => ?_)
                              · replace hf := (ite_s hf).1 c176
                                exact hJ740 _ hf
                              · replace hf := (ite_s hf).2 c176
                                refine V_iconst (v := 0) (q := 739) C dL_law_738 rfl ic_0 ?_
                                exact absurd (pr_s hf).1 (by decide)
                            refine V_if_eq (t := 733) (q := 729) C dL_law_726 (by decide) rfl (fun c177 => ?_) (fun c177 => ?_)
                            · replace hf := (ite_s hf).1 c177
                              refine V_lconst (v := 0) (q := 734) C dL_law_733 rfl (by decide) ?_
                              refine V_sub (L' := [(0, .ref b), (1, .ref (ad 0)), (2, .ref (ad 77)), (3, .ref (ad 100)), (4, .int i)]) [2, 3, 4, 5, 6] rfl ?_
                              refine V_wide (k2 := (k + 19)) (n2 := (s + 114)) (Nat.add_le_add_left (show 3 ≤ 19 by decide) k) (Nat.add_le_add_left (show 18 ≤ 114 by decide) s) ?_
                              exact hJ734 _ _ hf
                            · replace hf := (ite_s hf).2 c177
                              refine V_lconst (v := 1) (q := 730) C dL_law_729 rfl (by decide) ?_
                              refine V_goto (t := 734) C dL_law_730 (by decide) ?_
                              refine V_sub (L' := [(0, .ref b), (1, .ref (ad 0)), (2, .ref (ad 77)), (3, .ref (ad 100)), (4, .int i)]) [2, 3, 4, 5, 6] rfl ?_
                              refine V_wide (k2 := (k + 19)) (n2 := (s + 114)) (Nat.add_le_add_left (show 3 ≤ 19 by decide) k) (Nat.add_le_add_left (show 18 ≤ 114 by decide) s) ?_
                              exact hJ734 _ _ hf
                        · replace hf := (ite_s hf).2 c171
                          refine V_iconst (v := 0) (q := 715) C dL_law_714 rfl ic_0 ?_
                          exact absurd (pr_s hf).1 (by decide)
                      · replace hf := (ite_s hf).2 c153
                        by_cases c178 : ((xs i.toNatClampNeg) &&& (63 : Int32)) = (9 : Int32)
                        · replace hf := (ite_s hf).1 c178
                          refine V_tabIn (t := 743) C dL_law_39 (by rw [c178]; decide) (by rw [c178]; decide) (off := 704) (by rw [c178]; decide) (by decide) ?_
                          refine V_aload_n (q := 744) C dL_law_743 rfl rfl 1 rfl ?_
                          refine V_aload_n (q := 745) C dL_law_744 rfl rfl 0 rfl ?_
                          refine V_iload (q := 747) C dL_law_745 rfl 4 rfl ?_
                          refine V_iconst (v := 1) (q := 748) C dL_law_747 rfl ic_1 ?_
                          refine V_iadd (q := 749) C dL_law_748 rfl ?_
                          obtain ⟨g179, hf⟩ := gd_s hf
                          refine V_sld (q := 750) C hX hbl hbA (inb_in g179) dL_law_749 rfl ?_
                          refine V_aload_n (q := 751) C dL_law_750 rfl rfl 3 rfl ?_
                          obtain ⟨r180, σ181, h182, hf⟩ := bd_s hf
                          refine V_callSW (av := [.ref (ad 0), .int (xs (i + (1 : Int32)).toNatClampNeg), .ref (ad 100)]) (st := []) (st1 := [.int r180]) (q := 754) C (conL_conflicts _ _ _ _ _ _ _ h182) q_694 q_106 q_692 q_693 nmL_conflicts (rmk rfl rfl (by decide) (by decide) (Nat.le_trans (Nat.add_le_add_left (show 1 ≤ 128 by decide) k) hk1) (Nat.le_trans (Nat.add_le_add_left (show 6 ≤ 768 by decide) s) hs1)) rfl rfl (Nat.le_of_ble_eq_true rfl) dL_law_751 rfl rfl ?_
                          refine V_wide (k2 := (k + 1)) (n2 := (s + 6)) (Nat.le_refl _) (Nat.le_refl _) ?_
                          refine V_istore (L' := [(5, .int r180), (0, .ref b), (1, .ref (ad 0)), (2, .ref (ad 77)), (3, .ref (ad 100)), (4, .int i)]) (q := 756) C dL_law_754 rfl (by decide) rfl ?_
                          refine V_aload_n (q := 757) C dL_law_756 rfl rfl 3 rfl ?_
                          refine V_aload_n (q := 758) C dL_law_757 rfl rfl 1 rfl ?_
                          refine V_iload (q := 760) C dL_law_758 rfl 5 rfl ?_
                          refine V_iconst (v := 1) (q := 761) C dL_law_760 rfl ic_1 ?_
                          refine V_iadd (q := 762) C dL_law_761 rfl ?_
                          obtain ⟨g183, hf⟩ := gd_s hf
                          refine V_sld (q := 763) C hX hbl hbA (inb_in g183) dL_law_762 rfl ?_
                          obtain ⟨r184, σ185, h186, hf⟩ := bd_s hf
                          refine V_callVs (av := [.int (xs (i + (1 : Int32)).toNatClampNeg)]) (st := []) (st1 := [.int r184]) (q := 766) (subM (τ := σ181)) C 0 (by decide) (eM_0 G (fun i => ad (77 + i)) (σ181.2.1 0)) rfl rfl (conX7_conflicts _ _ _ _ _ _ _ h186) q_1318 q_114 q_1315 q_1316 q_1317 nmX7_conflicts (rmk rfl rfl (by decide) (by decide) (Nat.le_trans (Nat.add_le_add_left (show 1 ≤ 128 by decide) k) hk1) (Nat.le_trans (Nat.add_le_add_left (show 6 ≤ 768 by decide) s) hs1)) rfl rfl (Nat.le_of_ble_eq_true rfl) dL_law_763 rfl rfl ?_
                          refine V_lets hf (fun σ187 hf => ?_)
                          refine V_wide (k2 := (k + 1)) (n2 := (s + 6)) (Nat.le_refl _) (Nat.le_refl _) ?_
                          refine V_istore (L' := [(6, .int r184), (5, .int r180), (0, .ref b), (1, .ref (ad 0)), (2, .ref (ad 77)), (3, .ref (ad 100)), (4, .int i)]) (q := 768) C dL_law_766 rfl (by decide) rfl ?_
                          refine V_aload_n (q := 769) C dL_law_768 rfl rfl 4 rfl ?_
                          obtain ⟨r188, σ189, h190, hf⟩ := bd_s hf
                          refine V_callVs (av := []) (st := []) (st1 := [.int r188]) (q := 772) (subM (τ := σ187)) C 0 (by decide) (eM_0 G (fun i => ad (77 + i)) (σ187.2.1 0)) rfl rfl (conX7_thrown _ _ _  _ _ _ h190) q_1237 q_114 q_1234 q_1235 q_1236 nmX7_thrown (rmk rfl rfl (by decide) (by decide) (Nat.le_trans (Nat.add_le_add_left (show 1 ≤ 128 by decide) k) hk1) (Nat.le_trans (Nat.add_le_add_left (show 6 ≤ 768 by decide) s) hs1)) rfl rfl (Nat.le_of_ble_eq_true rfl) dL_law_769 rfl rfl ?_
                          refine V_lets hf (fun σ191 hf => ?_)
                          refine V_wide (k2 := (k + 1)) (n2 := (s + 6)) (Nat.le_refl _) (Nat.le_refl _) ?_
                          refine V_iload (q := 774) C dL_law_772 rfl 1 rfl ?_
                          refine V_icmp_eq (t := 779) (q := 777) C dL_law_774 (by decide) rfl (fun c192 => ?_) (fun c192 => ?_)
                          · replace hf := (ite_s hf).1 c192
                            refine V_iload (q := 781) C dL_law_779 rfl 1 rfl ?_
                            obtain ⟨J796, eJ796, hf⟩ := jp_s hf
                            have hJ796 : ∀ (σ193 : LT), J796 σ193 = some (1, σf) → V wL X G ad 8 Q (k + 17) (s + 102) σ193 796 [(0, .ref b), (1, .ref (ad 0)), (2, .ref (ad 77)), (3, .ref (ad 100)), (4, .int i)] [] := by
                              intro σ193 hf
                              subst eJ796
                              refine V_goto (t := 2282) C dL_law_796 (by decide) ?_
                              refine V_wide (k2 := (k + 100)) (n2 := (s + 600)) (Nat.add_le_add_left (show 17 ≤ 100 by decide) k) (Nat.add_le_add_left (show 102 ≤ 600 by decide) s) ?_
                              exact hJ2282 _ hf
                            refine V_if_ne (t := 796) (q := 784) C dL_law_781 (by decide) rfl (fun c194 => ?_) (fun c194 => ?_)
                            · replace hf := (ite_s hf).2 c194
                              refine V_sub (L' := [(0, .ref b), (1, .ref (ad 0)), (2, .ref (ad 77)), (3, .ref (ad 100)), (4, .int i)]) [2, 3, 4, 5, 6] rfl ?_
                              refine V_wide (k2 := (k + 17)) (n2 := (s + 102)) (Nat.add_le_add_left (show 1 ≤ 17 by decide) k) (Nat.add_le_add_left (show 6 ≤ 102 by decide) s) ?_
                              exact hJ796 _ hf
                            · replace hf := (ite_s hf).1 c194
                              refine V_aload_n (q := 785) C dL_law_784 rfl rfl 5 rfl ?_
                              refine V_iconst (v := 0) (q := 786) C dL_law_785 rfl ic_0 ?_
                              refine V_outR (q := 787) C dL_law_786 rfl ?_
                              refine V_iload (q := 789) C dL_law_787 rfl 0 rfl ?_
                              refine V_i2l (q := 790) C dL_law_789 rfl ?_
                              refine V_lcmp (q := 791) C dL_law_790 rfl ?_
                              refine V_if_eq (t := 796) (q := 794) C dL_law_791 (by decide) rfl (fun c195 => ?_) (fun c195 => ?_)
                              · replace hf := (ite_s hf).1 c195
                                refine V_sub (L' := [(0, .ref b), (1, .ref (ad 0)), (2, .ref (ad 77)), (3, .ref (ad 100)), (4, .int i)]) [2, 3, 4, 5, 6] rfl ?_
                                refine V_wide (k2 := (k + 17)) (n2 := (s + 102)) (Nat.add_le_add_left (show 1 ≤ 17 by decide) k) (Nat.add_le_add_left (show 6 ≤ 102 by decide) s) ?_
                                exact hJ796 _ hf
                              · replace hf := (ite_s hf).2 c195
                                refine V_iconst (v := 0) (q := 795) C dL_law_794 rfl ic_0 ?_
                                exact absurd (pr_s hf).1 (by decide)
                          · replace hf := (ite_s hf).2 c192
                            refine V_iconst (v := 0) (q := 778) C dL_law_777 rfl ic_0 ?_
                            exact absurd (pr_s hf).1 (by decide)
                        · replace hf := (ite_s hf).2 c178
                          by_cases c196 : ((xs i.toNatClampNeg) &&& (63 : Int32)) = (10 : Int32)
                          · replace hf := (ite_s hf).1 c196
                            refine V_tabIn (t := 799) C dL_law_39 (by rw [c196]; decide) (by rw [c196]; decide) (off := 760) (by rw [c196]; decide) (by decide) ?_
                            refine V_aload_n (q := 800) C dL_law_799 rfl rfl 1 rfl ?_
                            refine V_aload_n (q := 801) C dL_law_800 rfl rfl 0 rfl ?_
                            refine V_iload (q := 803) C dL_law_801 rfl 4 rfl ?_
                            refine V_iconst (v := 1) (q := 804) C dL_law_803 rfl ic_1 ?_
                            refine V_iadd (q := 805) C dL_law_804 rfl ?_
                            obtain ⟨g197, hf⟩ := gd_s hf
                            refine V_sld (q := 806) C hX hbl hbA (inb_in g197) dL_law_805 rfl ?_
                            refine V_aload_n (q := 807) C dL_law_806 rfl rfl 0 rfl ?_
                            refine V_iload (q := 809) C dL_law_807 rfl 4 rfl ?_
                            refine V_iconst (v := 2) (q := 810) C dL_law_809 rfl ic_2 ?_
                            refine V_iadd (q := 811) C dL_law_810 rfl ?_
                            obtain ⟨g198, hf⟩ := gd_s hf
                            refine V_sld (q := 812) C hX hbl hbA (inb_in g198) dL_law_811 rfl ?_
                            refine V_aload_n (q := 813) C dL_law_812 rfl rfl 3 rfl ?_
                            obtain ⟨r199, σ200, h201, hf⟩ := bd_s hf
                            refine V_callSW (av := [.ref (ad 0), .int (xs (i + (1 : Int32)).toNatClampNeg), .int (xs (i + (2 : Int32)).toNatClampNeg), .ref (ad 100)]) (st := []) (st1 := [.int r199]) (q := 816) C (conL_station _ _ _ _ _ _ _ _ h201) q_716 q_106 q_714 q_715 nmL_station (rmk rfl rfl (by decide) (by decide) (Nat.le_trans (Nat.add_le_add_left (show 2 ≤ 128 by decide) k) hk1) (Nat.le_trans (Nat.add_le_add_left (show 12 ≤ 768 by decide) s) hs1)) rfl rfl (Nat.le_of_ble_eq_true rfl) dL_law_813 rfl rfl ?_
                            refine V_wide (k2 := (k + 2)) (n2 := (s + 12)) (Nat.le_refl _) (Nat.le_refl _) ?_
                            refine V_istore (L' := [(5, .int r199), (0, .ref b), (1, .ref (ad 0)), (2, .ref (ad 77)), (3, .ref (ad 100)), (4, .int i)]) (q := 818) C dL_law_816 rfl (by decide) rfl ?_
                            refine V_aload_n (q := 819) C dL_law_818 rfl rfl 3 rfl ?_
                            refine V_aload_n (q := 820) C dL_law_819 rfl rfl 1 rfl ?_
                            refine V_iload (q := 822) C dL_law_820 rfl 5 rfl ?_
                            refine V_iconst (v := 1) (q := 823) C dL_law_822 rfl ic_1 ?_
                            refine V_iadd (q := 824) C dL_law_823 rfl ?_
                            obtain ⟨g202, hf⟩ := gd_s hf
                            refine V_sld (q := 825) C hX hbl hbA (inb_in g202) dL_law_824 rfl ?_
                            refine V_aload_n (q := 826) C dL_law_825 rfl rfl 1 rfl ?_
                            refine V_iload (q := 828) C dL_law_826 rfl 5 rfl ?_
                            refine V_iconst (v := 2) (q := 829) C dL_law_828 rfl ic_2 ?_
                            refine V_iadd (q := 830) C dL_law_829 rfl ?_
                            obtain ⟨g203, hf⟩ := gd_s hf
                            refine V_sld (q := 831) C hX hbl hbA (inb_in g203) dL_law_830 rfl ?_
                            obtain ⟨r204, σ205, h206, hf⟩ := bd_s hf
                            refine V_callVs (av := [.int (xs (i + (1 : Int32)).toNatClampNeg), .int (xs (i + (2 : Int32)).toNatClampNeg)]) (st := []) (st1 := [.int r204]) (q := 834) (subM (τ := σ200)) C 0 (by decide) (eM_0 G (fun i => ad (77 + i)) (σ200.2.1 0)) rfl rfl (conX7_station _ _ _ _ _ _ _ _ h206) q_1334 q_114 q_1331 q_1332 q_1333 nmX7_station (rmk rfl rfl (by decide) (by decide) (Nat.le_trans (Nat.add_le_add_left (show 2 ≤ 128 by decide) k) hk1) (Nat.le_trans (Nat.add_le_add_left (show 12 ≤ 768 by decide) s) hs1)) rfl rfl (Nat.le_of_ble_eq_true rfl) dL_law_831 rfl rfl ?_
                            refine V_lets hf (fun σ207 hf => ?_)
                            refine V_wide (k2 := (k + 2)) (n2 := (s + 12)) (Nat.le_refl _) (Nat.le_refl _) ?_
                            refine V_istore (L' := [(6, .int r204), (5, .int r199), (0, .ref b), (1, .ref (ad 0)), (2, .ref (ad 77)), (3, .ref (ad 100)), (4, .int i)]) (q := 836) C dL_law_834 rfl (by decide) rfl ?_
                            refine V_aload_n (q := 837) C dL_law_836 rfl rfl 4 rfl ?_
                            obtain ⟨r208, σ209, h210, hf⟩ := bd_s hf
                            refine V_callVs (av := []) (st := []) (st1 := [.int r208]) (q := 840) (subM (τ := σ207)) C 0 (by decide) (eM_0 G (fun i => ad (77 + i)) (σ207.2.1 0)) rfl rfl (conX7_thrown _ _ _  _ _ _ h210) q_1237 q_114 q_1234 q_1235 q_1236 nmX7_thrown (rmk rfl rfl (by decide) (by decide) (Nat.le_trans (Nat.add_le_add_left (show 2 ≤ 128 by decide) k) hk1) (Nat.le_trans (Nat.add_le_add_left (show 12 ≤ 768 by decide) s) hs1)) rfl rfl (Nat.le_of_ble_eq_true rfl) dL_law_837 rfl rfl ?_
                            refine V_lets hf (fun σ211 hf => ?_)
                            refine V_wide (k2 := (k + 2)) (n2 := (s + 12)) (Nat.le_refl _) (Nat.le_refl _) ?_
                            refine V_iload (q := 842) C dL_law_840 rfl 1 rfl ?_
                            refine V_icmp_eq (t := 847) (q := 845) C dL_law_842 (by decide) rfl (fun c212 => ?_) (fun c212 => ?_)
                            · replace hf := (ite_s hf).1 c212
                              refine V_iload (q := 849) C dL_law_847 rfl 1 rfl ?_
                              obtain ⟨J864, eJ864, hf⟩ := jp_s hf
                              have hJ864 : ∀ (σ213 : LT), J864 σ213 = some (1, σf) → V wL X G ad 8 Q (k + 18) (s + 108) σ213 864 [(0, .ref b), (1, .ref (ad 0)), (2, .ref (ad 77)), (3, .ref (ad 100)), (4, .int i)] [] := by
                                intro σ213 hf
                                subst eJ864
                                refine V_goto (t := 2282) C dL_law_864 (by decide) ?_
                                refine V_wide (k2 := (k + 100)) (n2 := (s + 600)) (Nat.add_le_add_left (show 18 ≤ 100 by decide) k) (Nat.add_le_add_left (show 108 ≤ 600 by decide) s) ?_
                                exact hJ2282 _ hf
                              refine V_if_ne (t := 864) (q := 852) C dL_law_849 (by decide) rfl (fun c214 => ?_) (fun c214 => ?_)
                              · replace hf := (ite_s hf).2 c214
                                refine V_sub (L' := [(0, .ref b), (1, .ref (ad 0)), (2, .ref (ad 77)), (3, .ref (ad 100)), (4, .int i)]) [2, 3, 4, 5, 6] rfl ?_
                                refine V_wide (k2 := (k + 18)) (n2 := (s + 108)) (Nat.add_le_add_left (show 2 ≤ 18 by decide) k) (Nat.add_le_add_left (show 12 ≤ 108 by decide) s) ?_
                                exact hJ864 _ hf
                              · replace hf := (ite_s hf).1 c214
                                refine V_aload_n (q := 853) C dL_law_852 rfl rfl 5 rfl ?_
                                refine V_iconst (v := 0) (q := 854) C dL_law_853 rfl ic_0 ?_
                                refine V_outR (q := 855) C dL_law_854 rfl ?_
                                refine V_iload (q := 857) C dL_law_855 rfl 0 rfl ?_
                                refine V_i2l (q := 858) C dL_law_857 rfl ?_
                                refine V_lcmp (q := 859) C dL_law_858 rfl ?_
                                refine V_if_eq (t := 864) (q := 862) C dL_law_859 (by decide) rfl (fun c215 => ?_) (fun c215 => ?_)
                                · replace hf := (ite_s hf).1 c215
                                  refine V_sub (L' := [(0, .ref b), (1, .ref (ad 0)), (2, .ref (ad 77)), (3, .ref (ad 100)), (4, .int i)]) [2, 3, 4, 5, 6] rfl ?_
                                  refine V_wide (k2 := (k + 18)) (n2 := (s + 108)) (Nat.add_le_add_left (show 2 ≤ 18 by decide) k) (Nat.add_le_add_left (show 12 ≤ 108 by decide) s) ?_
                                  exact hJ864 _ hf
                                · replace hf := (ite_s hf).2 c215
                                  refine V_iconst (v := 0) (q := 863) C dL_law_862 rfl ic_0 ?_
                                  exact absurd (pr_s hf).1 (by decide)
                            · replace hf := (ite_s hf).2 c212
                              refine V_iconst (v := 0) (q := 846) C dL_law_845 rfl ic_0 ?_
                              exact absurd (pr_s hf).1 (by decide)
                          · replace hf := (ite_s hf).2 c196
                            by_cases c216 : ((xs i.toNatClampNeg) &&& (63 : Int32)) = (11 : Int32)
                            · replace hf := (ite_s hf).1 c216
                              refine V_tabIn (t := 867) C dL_law_39 (by rw [c216]; decide) (by rw [c216]; decide) (off := 828) (by rw [c216]; decide) (by decide) ?_
                              refine V_aload_n (q := 868) C dL_law_867 rfl rfl 1 rfl ?_
                              refine V_aload_n (q := 869) C dL_law_868 rfl rfl 0 rfl ?_
                              refine V_iload (q := 871) C dL_law_869 rfl 4 rfl ?_
                              refine V_iconst (v := 1) (q := 872) C dL_law_871 rfl ic_1 ?_
                              refine V_iadd (q := 873) C dL_law_872 rfl ?_
                              obtain ⟨g217, hf⟩ := gd_s hf
                              refine V_sld (q := 874) C hX hbl hbA (inb_in g217) dL_law_873 rfl ?_
                              refine V_aload_n (q := 875) C dL_law_874 rfl rfl 3 rfl ?_
                              obtain ⟨r218, σ219, h220, hf⟩ := bd_s hf
                              refine V_callSW (av := [.ref (ad 0), .int (xs (i + (1 : Int32)).toNatClampNeg), .ref (ad 100)]) (st := []) (st1 := [.int r218]) (q := 878) C (conL_volumeBits _ _ _ _ _ _ _ h220) q_734 q_106 q_732 q_733 nmL_volumeBits (rmk rfl rfl (by decide) (by decide) (Nat.le_trans (Nat.add_le_add_left (show 1 ≤ 128 by decide) k) hk1) (Nat.le_trans (Nat.add_le_add_left (show 6 ≤ 768 by decide) s) hs1)) rfl rfl (Nat.le_of_ble_eq_true rfl) dL_law_875 rfl rfl ?_
                              refine V_wide (k2 := (k + 1)) (n2 := (s + 6)) (Nat.le_refl _) (Nat.le_refl _) ?_
                              refine V_istore (L' := [(5, .int r218), (0, .ref b), (1, .ref (ad 0)), (2, .ref (ad 77)), (3, .ref (ad 100)), (4, .int i)]) (q := 880) C dL_law_878 rfl (by decide) rfl ?_
                              refine V_aload_n (q := 881) C dL_law_880 rfl rfl 3 rfl ?_
                              refine V_aload_n (q := 882) C dL_law_881 rfl rfl 1 rfl ?_
                              refine V_iload (q := 884) C dL_law_882 rfl 5 rfl ?_
                              refine V_iconst (v := 1) (q := 885) C dL_law_884 rfl ic_1 ?_
                              refine V_iadd (q := 886) C dL_law_885 rfl ?_
                              obtain ⟨g221, hf⟩ := gd_s hf
                              refine V_sld (q := 887) C hX hbl hbA (inb_in g221) dL_law_886 rfl ?_
                              obtain ⟨r222, σ223, h224, hf⟩ := bd_s hf
                              refine V_callVs (av := [.int (xs (i + (1 : Int32)).toNatClampNeg)]) (st := []) (st1 := [.int r222]) (q := 890) (subM (τ := σ219)) C 0 (by decide) (eM_0 G (fun i => ad (77 + i)) (σ219.2.1 0)) rfl rfl (conX7_volumeBits _ _ _ _ _ _ _ h224) q_1345 q_114 q_1342 q_1343 q_1344 nmX7_volumeBits (rmk rfl rfl (by decide) (by decide) (Nat.le_trans (Nat.add_le_add_left (show 1 ≤ 128 by decide) k) hk1) (Nat.le_trans (Nat.add_le_add_left (show 6 ≤ 768 by decide) s) hs1)) rfl rfl (Nat.le_of_ble_eq_true rfl) dL_law_887 rfl rfl ?_
                              refine V_lets hf (fun σ225 hf => ?_)
                              refine V_wide (k2 := (k + 1)) (n2 := (s + 6)) (Nat.le_refl _) (Nat.le_refl _) ?_
                              refine V_istore (L' := [(6, .int r222), (5, .int r218), (0, .ref b), (1, .ref (ad 0)), (2, .ref (ad 77)), (3, .ref (ad 100)), (4, .int i)]) (q := 892) C dL_law_890 rfl (by decide) rfl ?_
                              refine V_aload_n (q := 893) C dL_law_892 rfl rfl 4 rfl ?_
                              obtain ⟨r226, σ227, h228, hf⟩ := bd_s hf
                              refine V_callVs (av := []) (st := []) (st1 := [.int r226]) (q := 896) (subM (τ := σ225)) C 0 (by decide) (eM_0 G (fun i => ad (77 + i)) (σ225.2.1 0)) rfl rfl (conX7_thrown _ _ _  _ _ _ h228) q_1237 q_114 q_1234 q_1235 q_1236 nmX7_thrown (rmk rfl rfl (by decide) (by decide) (Nat.le_trans (Nat.add_le_add_left (show 1 ≤ 128 by decide) k) hk1) (Nat.le_trans (Nat.add_le_add_left (show 6 ≤ 768 by decide) s) hs1)) rfl rfl (Nat.le_of_ble_eq_true rfl) dL_law_893 rfl rfl ?_
                              refine V_lets hf (fun σ229 hf => ?_)
                              refine V_wide (k2 := (k + 1)) (n2 := (s + 6)) (Nat.le_refl _) (Nat.le_refl _) ?_
                              refine V_iload (q := 898) C dL_law_896 rfl 1 rfl ?_
                              refine V_icmp_eq (t := 903) (q := 901) C dL_law_898 (by decide) rfl (fun c230 => ?_) (fun c230 => ?_)
                              · replace hf := (ite_s hf).1 c230
                                refine V_iload (q := 905) C dL_law_903 rfl 1 rfl ?_
                                obtain ⟨J920, eJ920, hf⟩ := jp_s hf
                                have hJ920 : ∀ (σ231 : LT), J920 σ231 = some (1, σf) → V wL X G ad 8 Q (k + 17) (s + 102) σ231 920 [(0, .ref b), (1, .ref (ad 0)), (2, .ref (ad 77)), (3, .ref (ad 100)), (4, .int i)] [] := by
                                  intro σ231 hf
                                  subst eJ920
                                  refine V_goto (t := 2282) C dL_law_920 (by decide) ?_
                                  refine V_wide (k2 := (k + 100)) (n2 := (s + 600)) (Nat.add_le_add_left (show 17 ≤ 100 by decide) k) (Nat.add_le_add_left (show 102 ≤ 600 by decide) s) ?_
                                  exact hJ2282 _ hf
                                refine V_if_ne (t := 920) (q := 908) C dL_law_905 (by decide) rfl (fun c232 => ?_) (fun c232 => ?_)
                                · replace hf := (ite_s hf).2 c232
                                  refine V_sub (L' := [(0, .ref b), (1, .ref (ad 0)), (2, .ref (ad 77)), (3, .ref (ad 100)), (4, .int i)]) [2, 3, 4, 5, 6] rfl ?_
                                  refine V_wide (k2 := (k + 17)) (n2 := (s + 102)) (Nat.add_le_add_left (show 1 ≤ 17 by decide) k) (Nat.add_le_add_left (show 6 ≤ 102 by decide) s) ?_
                                  exact hJ920 _ hf
                                · replace hf := (ite_s hf).1 c232
                                  refine V_aload_n (q := 909) C dL_law_908 rfl rfl 5 rfl ?_
                                  refine V_iconst (v := 0) (q := 910) C dL_law_909 rfl ic_0 ?_
                                  refine V_outR (q := 911) C dL_law_910 rfl ?_
                                  refine V_iload (q := 913) C dL_law_911 rfl 0 rfl ?_
                                  refine V_i2l (q := 914) C dL_law_913 rfl ?_
                                  refine V_lcmp (q := 915) C dL_law_914 rfl ?_
                                  refine V_if_eq (t := 920) (q := 918) C dL_law_915 (by decide) rfl (fun c233 => ?_) (fun c233 => ?_)
                                  · replace hf := (ite_s hf).1 c233
                                    refine V_sub (L' := [(0, .ref b), (1, .ref (ad 0)), (2, .ref (ad 77)), (3, .ref (ad 100)), (4, .int i)]) [2, 3, 4, 5, 6] rfl ?_
                                    refine V_wide (k2 := (k + 17)) (n2 := (s + 102)) (Nat.add_le_add_left (show 1 ≤ 17 by decide) k) (Nat.add_le_add_left (show 6 ≤ 102 by decide) s) ?_
                                    exact hJ920 _ hf
                                  · replace hf := (ite_s hf).2 c233
                                    refine V_iconst (v := 0) (q := 919) C dL_law_918 rfl ic_0 ?_
                                    exact absurd (pr_s hf).1 (by decide)
                              · replace hf := (ite_s hf).2 c230
                                refine V_iconst (v := 0) (q := 902) C dL_law_901 rfl ic_0 ?_
                                exact absurd (pr_s hf).1 (by decide)
                            · replace hf := (ite_s hf).2 c216
                              by_cases c234 : ((xs i.toNatClampNeg) &&& (63 : Int32)) = (12 : Int32)
                              · replace hf := (ite_s hf).1 c234
                                refine V_tabIn (t := 923) C dL_law_39 (by rw [c234]; decide) (by rw [c234]; decide) (off := 884) (by rw [c234]; decide) (by decide) ?_
                                refine V_aload_n (q := 924) C dL_law_923 rfl rfl 1 rfl ?_
                                refine V_aload_n (q := 925) C dL_law_924 rfl rfl 0 rfl ?_
                                refine V_iload (q := 927) C dL_law_925 rfl 4 rfl ?_
                                refine V_iconst (v := 1) (q := 928) C dL_law_927 rfl ic_1 ?_
                                refine V_iadd (q := 929) C dL_law_928 rfl ?_
                                obtain ⟨g235, hf⟩ := gd_s hf
                                refine V_sld (q := 930) C hX hbl hbA (inb_in g235) dL_law_929 rfl ?_
                                refine V_aload_n (q := 931) C dL_law_930 rfl rfl 0 rfl ?_
                                refine V_iload (q := 933) C dL_law_931 rfl 4 rfl ?_
                                refine V_iconst (v := 2) (q := 934) C dL_law_933 rfl ic_2 ?_
                                refine V_iadd (q := 935) C dL_law_934 rfl ?_
                                obtain ⟨g236, hf⟩ := gd_s hf
                                refine V_sld (q := 936) C hX hbl hbA (inb_in g236) dL_law_935 rfl ?_
                                refine V_aload_n (q := 937) C dL_law_936 rfl rfl 3 rfl ?_
                                obtain ⟨r237, σ238, h239, hf⟩ := bd_s hf
                                refine V_callSW (av := [.ref (ad 0), .int (xs (i + (1 : Int32)).toNatClampNeg), .int (xs (i + (2 : Int32)).toNatClampNeg), .ref (ad 100)]) (st := []) (st1 := [.int r237]) (q := 940) C (conL_priceAt _ _ _ _ _ _ _ _ h239) q_754 q_106 q_752 q_753 nmL_priceAt (rmk rfl rfl (by decide) (by decide) (Nat.le_trans (Nat.add_le_add_left (show 2 ≤ 128 by decide) k) hk1) (Nat.le_trans (Nat.add_le_add_left (show 12 ≤ 768 by decide) s) hs1)) rfl rfl (Nat.le_of_ble_eq_true rfl) dL_law_937 rfl rfl ?_
                                refine V_wide (k2 := (k + 2)) (n2 := (s + 12)) (Nat.le_refl _) (Nat.le_refl _) ?_
                                refine V_istore (L' := [(5, .int r237), (0, .ref b), (1, .ref (ad 0)), (2, .ref (ad 77)), (3, .ref (ad 100)), (4, .int i)]) (q := 942) C dL_law_940 rfl (by decide) rfl ?_
                                refine V_aload_n (q := 943) C dL_law_942 rfl rfl 3 rfl ?_
                                refine V_aload_n (q := 944) C dL_law_943 rfl rfl 1 rfl ?_
                                refine V_iload (q := 946) C dL_law_944 rfl 5 rfl ?_
                                refine V_iconst (v := 1) (q := 947) C dL_law_946 rfl ic_1 ?_
                                refine V_iadd (q := 948) C dL_law_947 rfl ?_
                                obtain ⟨g240, hf⟩ := gd_s hf
                                refine V_sld (q := 949) C hX hbl hbA (inb_in g240) dL_law_948 rfl ?_
                                refine V_aload_n (q := 950) C dL_law_949 rfl rfl 1 rfl ?_
                                refine V_iload (q := 952) C dL_law_950 rfl 5 rfl ?_
                                refine V_iconst (v := 2) (q := 953) C dL_law_952 rfl ic_2 ?_
                                refine V_iadd (q := 954) C dL_law_953 rfl ?_
                                obtain ⟨g241, hf⟩ := gd_s hf
                                refine V_sld (q := 955) C hX hbl hbA (inb_in g241) dL_law_954 rfl ?_
                                obtain ⟨r242, σ243, h244, hf⟩ := bd_s hf
                                refine V_callVs (av := [.int (xs (i + (1 : Int32)).toNatClampNeg), .int (xs (i + (2 : Int32)).toNatClampNeg)]) (st := []) (st1 := [.int r242]) (q := 958) (subM (τ := σ238)) C 0 (by decide) (eM_0 G (fun i => ad (77 + i)) (σ238.2.1 0)) rfl rfl (conX7_priceAt _ _ _ _ _ _ _ _ h244) q_1364 q_114 q_1361 q_1362 q_1363 nmX7_priceAt (rmk rfl rfl (by decide) (by decide) (Nat.le_trans (Nat.add_le_add_left (show 2 ≤ 128 by decide) k) hk1) (Nat.le_trans (Nat.add_le_add_left (show 12 ≤ 768 by decide) s) hs1)) rfl rfl (Nat.le_of_ble_eq_true rfl) dL_law_955 rfl rfl ?_
                                refine V_lets hf (fun σ245 hf => ?_)
                                refine V_wide (k2 := (k + 2)) (n2 := (s + 12)) (Nat.le_refl _) (Nat.le_refl _) ?_
                                refine V_istore (L' := [(6, .int r242), (5, .int r237), (0, .ref b), (1, .ref (ad 0)), (2, .ref (ad 77)), (3, .ref (ad 100)), (4, .int i)]) (q := 960) C dL_law_958 rfl (by decide) rfl ?_
                                refine V_aload_n (q := 961) C dL_law_960 rfl rfl 4 rfl ?_
                                obtain ⟨r246, σ247, h248, hf⟩ := bd_s hf
                                refine V_callVs (av := []) (st := []) (st1 := [.int r246]) (q := 964) (subM (τ := σ245)) C 0 (by decide) (eM_0 G (fun i => ad (77 + i)) (σ245.2.1 0)) rfl rfl (conX7_thrown _ _ _  _ _ _ h248) q_1237 q_114 q_1234 q_1235 q_1236 nmX7_thrown (rmk rfl rfl (by decide) (by decide) (Nat.le_trans (Nat.add_le_add_left (show 2 ≤ 128 by decide) k) hk1) (Nat.le_trans (Nat.add_le_add_left (show 12 ≤ 768 by decide) s) hs1)) rfl rfl (Nat.le_of_ble_eq_true rfl) dL_law_961 rfl rfl ?_
                                refine V_lets hf (fun σ249 hf => ?_)
                                refine V_wide (k2 := (k + 2)) (n2 := (s + 12)) (Nat.le_refl _) (Nat.le_refl _) ?_
                                refine V_iload (q := 966) C dL_law_964 rfl 1 rfl ?_
                                refine V_icmp_eq (t := 971) (q := 969) C dL_law_966 (by decide) rfl (fun c250 => ?_) (fun c250 => ?_)
                                · replace hf := (ite_s hf).1 c250
                                  refine V_iload (q := 973) C dL_law_971 rfl 1 rfl ?_
                                  obtain ⟨J988, eJ988, hf⟩ := jp_s hf
                                  have hJ988 : ∀ (σ251 : LT), J988 σ251 = some (1, σf) → V wL X G ad 8 Q (k + 18) (s + 108) σ251 988 [(0, .ref b), (1, .ref (ad 0)), (2, .ref (ad 77)), (3, .ref (ad 100)), (4, .int i)] [] := by
                                    intro σ251 hf
                                    subst eJ988
                                    refine V_goto (t := 2282) C dL_law_988 (by decide) ?_
                                    refine V_wide (k2 := (k + 100)) (n2 := (s + 600)) (Nat.add_le_add_left (show 18 ≤ 100 by decide) k) (Nat.add_le_add_left (show 108 ≤ 600 by decide) s) ?_
                                    exact hJ2282 _ hf
                                  refine V_if_ne (t := 988) (q := 976) C dL_law_973 (by decide) rfl (fun c252 => ?_) (fun c252 => ?_)
                                  · replace hf := (ite_s hf).2 c252
                                    refine V_sub (L' := [(0, .ref b), (1, .ref (ad 0)), (2, .ref (ad 77)), (3, .ref (ad 100)), (4, .int i)]) [2, 3, 4, 5, 6] rfl ?_
                                    refine V_wide (k2 := (k + 18)) (n2 := (s + 108)) (Nat.add_le_add_left (show 2 ≤ 18 by decide) k) (Nat.add_le_add_left (show 12 ≤ 108 by decide) s) ?_
                                    exact hJ988 _ hf
                                  · replace hf := (ite_s hf).1 c252
                                    refine V_aload_n (q := 977) C dL_law_976 rfl rfl 5 rfl ?_
                                    refine V_iconst (v := 0) (q := 978) C dL_law_977 rfl ic_0 ?_
                                    refine V_outR (q := 979) C dL_law_978 rfl ?_
                                    refine V_iload (q := 981) C dL_law_979 rfl 0 rfl ?_
                                    refine V_i2l (q := 982) C dL_law_981 rfl ?_
                                    refine V_lcmp (q := 983) C dL_law_982 rfl ?_
                                    refine V_if_eq (t := 988) (q := 986) C dL_law_983 (by decide) rfl (fun c253 => ?_) (fun c253 => ?_)
                                    · replace hf := (ite_s hf).1 c253
                                      refine V_sub (L' := [(0, .ref b), (1, .ref (ad 0)), (2, .ref (ad 77)), (3, .ref (ad 100)), (4, .int i)]) [2, 3, 4, 5, 6] rfl ?_
                                      refine V_wide (k2 := (k + 18)) (n2 := (s + 108)) (Nat.add_le_add_left (show 2 ≤ 18 by decide) k) (Nat.add_le_add_left (show 12 ≤ 108 by decide) s) ?_
                                      exact hJ988 _ hf
                                    · replace hf := (ite_s hf).2 c253
                                      refine V_iconst (v := 0) (q := 987) C dL_law_986 rfl ic_0 ?_
                                      exact absurd (pr_s hf).1 (by decide)
                                · replace hf := (ite_s hf).2 c250
                                  refine V_iconst (v := 0) (q := 970) C dL_law_969 rfl ic_0 ?_
                                  exact absurd (pr_s hf).1 (by decide)
                              · replace hf := (ite_s hf).2 c234
                                by_cases c254 : ((xs i.toNatClampNeg) &&& (63 : Int32)) = (13 : Int32)
                                · replace hf := (ite_s hf).1 c254
                                  refine V_tabIn (t := 991) C dL_law_39 (by rw [c254]; decide) (by rw [c254]; decide) (off := 952) (by rw [c254]; decide) (by decide) ?_
                                  refine V_aload_n (q := 992) C dL_law_991 rfl rfl 1 rfl ?_
                                  refine V_aload_n (q := 993) C dL_law_992 rfl rfl 0 rfl ?_
                                  refine V_iload (q := 995) C dL_law_993 rfl 4 rfl ?_
                                  refine V_iconst (v := 1) (q := 996) C dL_law_995 rfl ic_1 ?_
                                  refine V_iadd (q := 997) C dL_law_996 rfl ?_
                                  obtain ⟨g255, hf⟩ := gd_s hf
                                  refine V_sld (q := 998) C hX hbl hbA (inb_in g255) dL_law_997 rfl ?_
                                  refine V_aload_n (q := 999) C dL_law_998 rfl rfl 3 rfl ?_
                                  obtain ⟨r256, σ257, h258, hf⟩ := bd_s hf
                                  refine V_callSW (av := [.ref (ad 0), .int (xs (i + (1 : Int32)).toNatClampNeg), .ref (ad 100)]) (st := []) (st1 := [.int r256]) (q := 1002) C (conL_isFeasible _ _ _ _ _ _ _ h258) q_767 q_106 q_765 q_766 nmL_isFeasible (rmk rfl rfl (by decide) (by decide) (Nat.le_trans (Nat.add_le_add_left (show 1 ≤ 128 by decide) k) hk1) (Nat.le_trans (Nat.add_le_add_left (show 6 ≤ 768 by decide) s) hs1)) rfl rfl (Nat.le_of_ble_eq_true rfl) dL_law_999 rfl rfl ?_
                                  refine V_wide (k2 := (k + 1)) (n2 := (s + 6)) (Nat.le_refl _) (Nat.le_refl _) ?_
                                  refine V_istore (L' := [(5, .int r256), (0, .ref b), (1, .ref (ad 0)), (2, .ref (ad 77)), (3, .ref (ad 100)), (4, .int i)]) (q := 1004) C dL_law_1002 rfl (by decide) rfl ?_
                                  refine V_aload_n (q := 1005) C dL_law_1004 rfl rfl 3 rfl ?_
                                  refine V_aload_n (q := 1006) C dL_law_1005 rfl rfl 1 rfl ?_
                                  refine V_iload (q := 1008) C dL_law_1006 rfl 5 rfl ?_
                                  refine V_iconst (v := 1) (q := 1009) C dL_law_1008 rfl ic_1 ?_
                                  refine V_iadd (q := 1010) C dL_law_1009 rfl ?_
                                  obtain ⟨g259, hf⟩ := gd_s hf
                                  refine V_sld (q := 1011) C hX hbl hbA (inb_in g259) dL_law_1010 rfl ?_
                                  obtain ⟨r260, σ261, h262, hf⟩ := bd_s hf
                                  refine V_callVs (av := [.int (xs (i + (1 : Int32)).toNatClampNeg)]) (st := []) (st1 := [.int r260]) (q := 1014) (subM (τ := σ257)) C 0 (by decide) (eM_0 G (fun i => ad (77 + i)) (σ257.2.1 0)) rfl rfl (conX7_isFeasible _ _ _ _ _ _ _ h262) q_1372 q_114 q_1369 q_1370 q_1371 nmX7_isFeasible (rmk rfl rfl (by decide) (by decide) (Nat.le_trans (Nat.add_le_add_left (show 1 ≤ 128 by decide) k) hk1) (Nat.le_trans (Nat.add_le_add_left (show 6 ≤ 768 by decide) s) hs1)) rfl rfl (Nat.le_of_ble_eq_true rfl) dL_law_1011 rfl rfl ?_
                                  refine V_lets hf (fun σ263 hf => ?_)
                                  refine V_wide (k2 := (k + 1)) (n2 := (s + 6)) (Nat.le_refl _) (Nat.le_refl _) ?_
                                  refine V_istore (L' := [(6, .int r260), (5, .int r256), (0, .ref b), (1, .ref (ad 0)), (2, .ref (ad 77)), (3, .ref (ad 100)), (4, .int i)]) (q := 1016) C dL_law_1014 rfl (by decide) rfl ?_
                                  refine V_aload_n (q := 1017) C dL_law_1016 rfl rfl 4 rfl ?_
                                  obtain ⟨r264, σ265, h266, hf⟩ := bd_s hf
                                  refine V_callVs (av := []) (st := []) (st1 := [.int r264]) (q := 1020) (subM (τ := σ263)) C 0 (by decide) (eM_0 G (fun i => ad (77 + i)) (σ263.2.1 0)) rfl rfl (conX7_thrown _ _ _  _ _ _ h266) q_1237 q_114 q_1234 q_1235 q_1236 nmX7_thrown (rmk rfl rfl (by decide) (by decide) (Nat.le_trans (Nat.add_le_add_left (show 1 ≤ 128 by decide) k) hk1) (Nat.le_trans (Nat.add_le_add_left (show 6 ≤ 768 by decide) s) hs1)) rfl rfl (Nat.le_of_ble_eq_true rfl) dL_law_1017 rfl rfl ?_
                                  refine V_lets hf (fun σ267 hf => ?_)
                                  refine V_wide (k2 := (k + 1)) (n2 := (s + 6)) (Nat.le_refl _) (Nat.le_refl _) ?_
                                  refine V_iload (q := 1022) C dL_law_1020 rfl 1 rfl ?_
                                  refine V_icmp_eq (t := 1027) (q := 1025) C dL_law_1022 (by decide) rfl (fun c268 => ?_) (fun c268 => ?_)
                                  · replace hf := (ite_s hf).1 c268
                                    refine V_iload (q := 1029) C dL_law_1027 rfl 1 rfl ?_
                                    obtain ⟨J1051, eJ1051, hf⟩ := jp_s hf
                                    have hJ1051 : ∀ (σ269 : LT), J1051 σ269 = some (1, σf) → V wL X G ad 8 Q (k + 17) (s + 102) σ269 1051 [(0, .ref b), (1, .ref (ad 0)), (2, .ref (ad 77)), (3, .ref (ad 100)), (4, .int i)] [] := by
                                      intro σ269 hf
                                      subst eJ1051
                                      refine V_goto (t := 2282) C dL_law_1051 (by decide) ?_
                                      refine V_wide (k2 := (k + 100)) (n2 := (s + 600)) (Nat.add_le_add_left (show 17 ≤ 100 by decide) k) (Nat.add_le_add_left (show 102 ≤ 600 by decide) s) ?_
                                      exact hJ2282 _ hf
                                    refine V_if_ne (t := 1051) (q := 1032) C dL_law_1029 (by decide) rfl (fun c270 => ?_) (fun c270 => ?_)
                                    · replace hf := (ite_s hf).2 c270
                                      refine V_sub (L' := [(0, .ref b), (1, .ref (ad 0)), (2, .ref (ad 77)), (3, .ref (ad 100)), (4, .int i)]) [2, 3, 4, 5, 6] rfl ?_
                                      refine V_wide (k2 := (k + 17)) (n2 := (s + 102)) (Nat.add_le_add_left (show 1 ≤ 17 by decide) k) (Nat.add_le_add_left (show 6 ≤ 102 by decide) s) ?_
                                      exact hJ1051 _ hf
                                    · replace hf := (ite_s hf).1 c270
                                      refine V_aload_n (q := 1033) C dL_law_1032 rfl rfl 5 rfl ?_
                                      refine V_iconst (v := 0) (q := 1034) C dL_law_1033 rfl ic_0 ?_
                                      refine V_outR (q := 1035) C dL_law_1034 rfl ?_
                                      refine V_iload (q := 1037) C dL_law_1035 rfl 0 rfl ?_
                                      obtain ⟨J1045, eJ1045, hf⟩ := jp_s hf
                                      have hJ1045 : ∀ (v271 : Int64) (σ272 : LT), J1045 v271 σ272 = some (1, σf) → V wL X G ad 8 Q (k + 17) (s + 102) σ272 1045 [(0, .ref b), (1, .ref (ad 0)), (2, .ref (ad 77)), (3, .ref (ad 100)), (4, .int i)] [.long v271, .long (σ267.2.2 0)] := by
                                        intro v271 σ272 hf
                                        subst eJ1045
                                        refine V_lcmp (q := 1046) C dL_law_1045 rfl ?_
                                        refine V_if_eq (t := 1051) (q := 1049) C dL_law_1046 (by decide) rfl (fun c273 => ?_) (fun c273 => ?_)
                                        · replace hf := (ite_s hf).1 c273
                                          exact hJ1051 _ hf
                                        · replace hf := (ite_s hf).2 c273
                                          refine V_iconst (v := 0) (q := 1050) C dL_law_1049 rfl ic_0 ?_
                                          exact absurd (pr_s hf).1 (by decide)
                                      refine V_if_eq (t := 1044) (q := 1040) C dL_law_1037 (by decide) rfl (fun c274 => ?_) (fun c274 => ?_)
                                      · replace hf := (ite_s hf).1 c274
                                        refine V_lconst (v := 0) (q := 1045) C dL_law_1044 rfl (by decide) ?_
                                        refine V_sub (L' := [(0, .ref b), (1, .ref (ad 0)), (2, .ref (ad 77)), (3, .ref (ad 100)), (4, .int i)]) [2, 3, 4, 5, 6] rfl ?_
                                        refine V_wide (k2 := (k + 17)) (n2 := (s + 102)) (Nat.add_le_add_left (show 1 ≤ 17 by decide) k) (Nat.add_le_add_left (show 6 ≤ 102 by decide) s) ?_
                                        exact hJ1045 _ _ hf
                                      · replace hf := (ite_s hf).2 c274
                                        refine V_lconst (v := 1) (q := 1041) C dL_law_1040 rfl (by decide) ?_
                                        refine V_goto (t := 1045) C dL_law_1041 (by decide) ?_
                                        refine V_sub (L' := [(0, .ref b), (1, .ref (ad 0)), (2, .ref (ad 77)), (3, .ref (ad 100)), (4, .int i)]) [2, 3, 4, 5, 6] rfl ?_
                                        refine V_wide (k2 := (k + 17)) (n2 := (s + 102)) (Nat.add_le_add_left (show 1 ≤ 17 by decide) k) (Nat.add_le_add_left (show 6 ≤ 102 by decide) s) ?_
                                        exact hJ1045 _ _ hf
                                  · replace hf := (ite_s hf).2 c268
                                    refine V_iconst (v := 0) (q := 1026) C dL_law_1025 rfl ic_0 ?_
                                    exact absurd (pr_s hf).1 (by decide)
                                · replace hf := (ite_s hf).2 c254
                                  by_cases c275 : ((xs i.toNatClampNeg) &&& (63 : Int32)) = (14 : Int32)
                                  · replace hf := (ite_s hf).1 c275
                                    refine V_tabIn (t := 1054) C dL_law_39 (by rw [c275]; decide) (by rw [c275]; decide) (off := 1015) (by rw [c275]; decide) (by decide) ?_
                                    refine V_aload_n (q := 1055) C dL_law_1054 rfl rfl 1 rfl ?_
                                    refine V_aload_n (q := 1056) C dL_law_1055 rfl rfl 0 rfl ?_
                                    refine V_iload (q := 1058) C dL_law_1056 rfl 4 rfl ?_
                                    refine V_iconst (v := 1) (q := 1059) C dL_law_1058 rfl ic_1 ?_
                                    refine V_iadd (q := 1060) C dL_law_1059 rfl ?_
                                    obtain ⟨g276, hf⟩ := gd_s hf
                                    refine V_sld (q := 1061) C hX hbl hbA (inb_in g276) dL_law_1060 rfl ?_
                                    refine V_aload_n (q := 1062) C dL_law_1061 rfl rfl 3 rfl ?_
                                    obtain ⟨r277, σ278, h279, hf⟩ := bd_s hf
                                    refine V_callSW (av := [.ref (ad 0), .int (xs (i + (1 : Int32)).toNatClampNeg), .ref (ad 100)]) (st := []) (st1 := [.int r277]) (q := 1065) C (conL_assign _ _ _ _ _ _ _ h279) q_840 q_106 q_838 q_839 nmL_assign (rmk rfl rfl (by decide) (by decide) (Nat.le_trans (Nat.add_le_add_left (show 2 ≤ 128 by decide) k) hk1) (Nat.le_trans (Nat.add_le_add_left (show 12 ≤ 768 by decide) s) hs1)) rfl rfl (Nat.le_of_ble_eq_true rfl) dL_law_1062 rfl rfl ?_
                                    refine V_wide (k2 := (k + 2)) (n2 := (s + 12)) (Nat.le_refl _) (Nat.le_refl _) ?_
                                    refine V_istore (L' := [(5, .int r277), (0, .ref b), (1, .ref (ad 0)), (2, .ref (ad 77)), (3, .ref (ad 100)), (4, .int i)]) (q := 1067) C dL_law_1065 rfl (by decide) rfl ?_
                                    refine V_aload_n (q := 1068) C dL_law_1067 rfl rfl 3 rfl ?_
                                    refine V_aload_n (q := 1069) C dL_law_1068 rfl rfl 1 rfl ?_
                                    refine V_iload (q := 1071) C dL_law_1069 rfl 5 rfl ?_
                                    refine V_iconst (v := 1) (q := 1072) C dL_law_1071 rfl ic_1 ?_
                                    refine V_iadd (q := 1073) C dL_law_1072 rfl ?_
                                    obtain ⟨g280, hf⟩ := gd_s hf
                                    refine V_sld (q := 1074) C hX hbl hbA (inb_in g280) dL_law_1073 rfl ?_
                                    obtain ⟨r281, σ282, h283, hf⟩ := bd_s hf
                                    refine V_callVs (av := [.int (xs (i + (1 : Int32)).toNatClampNeg)]) (st := []) (st1 := [.int r281]) (q := 1077) (subM (τ := σ278)) C 0 (by decide) (eM_0 G (fun i => ad (77 + i)) (σ278.2.1 0)) rfl rfl (conX7_assign _ _ _ _ _ _ _ h283) q_1404 q_114 q_1401 q_1402 q_1403 nmX7_assign (rmk rfl rfl (by decide) (by decide) (Nat.le_trans (Nat.add_le_add_left (show 2 ≤ 128 by decide) k) hk1) (Nat.le_trans (Nat.add_le_add_left (show 12 ≤ 768 by decide) s) hs1)) rfl rfl (Nat.le_of_ble_eq_true rfl) dL_law_1074 rfl rfl ?_
                                    refine V_lets hf (fun σ284 hf => ?_)
                                    refine V_wide (k2 := (k + 2)) (n2 := (s + 12)) (Nat.le_refl _) (Nat.le_refl _) ?_
                                    refine V_istore (L' := [(6, .int r281), (5, .int r277), (0, .ref b), (1, .ref (ad 0)), (2, .ref (ad 77)), (3, .ref (ad 100)), (4, .int i)]) (q := 1079) C dL_law_1077 rfl (by decide) rfl ?_
                                    refine V_aload_n (q := 1080) C dL_law_1079 rfl rfl 4 rfl ?_
                                    obtain ⟨r285, σ286, h287, hf⟩ := bd_s hf
                                    refine V_callVs (av := []) (st := []) (st1 := [.int r285]) (q := 1083) (subM (τ := σ284)) C 0 (by decide) (eM_0 G (fun i => ad (77 + i)) (σ284.2.1 0)) rfl rfl (conX7_thrown _ _ _  _ _ _ h287) q_1237 q_114 q_1234 q_1235 q_1236 nmX7_thrown (rmk rfl rfl (by decide) (by decide) (Nat.le_trans (Nat.add_le_add_left (show 2 ≤ 128 by decide) k) hk1) (Nat.le_trans (Nat.add_le_add_left (show 12 ≤ 768 by decide) s) hs1)) rfl rfl (Nat.le_of_ble_eq_true rfl) dL_law_1080 rfl rfl ?_
                                    refine V_lets hf (fun σ288 hf => ?_)
                                    refine V_wide (k2 := (k + 2)) (n2 := (s + 12)) (Nat.le_refl _) (Nat.le_refl _) ?_
                                    refine V_iload (q := 1085) C dL_law_1083 rfl 1 rfl ?_
                                    refine V_icmp_eq (t := 1090) (q := 1088) C dL_law_1085 (by decide) rfl (fun c289 => ?_) (fun c289 => ?_)
                                    · replace hf := (ite_s hf).1 c289
                                      refine V_iload (q := 1092) C dL_law_1090 rfl 1 rfl ?_
                                      obtain ⟨J1107, eJ1107, hf⟩ := jp_s hf
                                      have hJ1107 : ∀ (σ290 : LT), J1107 σ290 = some (1, σf) → V wL X G ad 8 Q (k + 18) (s + 108) σ290 1107 [(0, .ref b), (1, .ref (ad 0)), (2, .ref (ad 77)), (3, .ref (ad 100)), (4, .int i)] [] := by
                                        intro σ290 hf
                                        subst eJ1107
                                        refine V_goto (t := 2282) C dL_law_1107 (by decide) ?_
                                        refine V_wide (k2 := (k + 100)) (n2 := (s + 600)) (Nat.add_le_add_left (show 18 ≤ 100 by decide) k) (Nat.add_le_add_left (show 108 ≤ 600 by decide) s) ?_
                                        exact hJ2282 _ hf
                                      refine V_if_ne (t := 1107) (q := 1095) C dL_law_1092 (by decide) rfl (fun c291 => ?_) (fun c291 => ?_)
                                      · replace hf := (ite_s hf).2 c291
                                        refine V_sub (L' := [(0, .ref b), (1, .ref (ad 0)), (2, .ref (ad 77)), (3, .ref (ad 100)), (4, .int i)]) [2, 3, 4, 5, 6] rfl ?_
                                        refine V_wide (k2 := (k + 18)) (n2 := (s + 108)) (Nat.add_le_add_left (show 2 ≤ 18 by decide) k) (Nat.add_le_add_left (show 12 ≤ 108 by decide) s) ?_
                                        exact hJ1107 _ hf
                                      · replace hf := (ite_s hf).1 c291
                                        refine V_aload_n (q := 1096) C dL_law_1095 rfl rfl 5 rfl ?_
                                        refine V_iconst (v := 0) (q := 1097) C dL_law_1096 rfl ic_0 ?_
                                        refine V_outR (q := 1098) C dL_law_1097 rfl ?_
                                        refine V_iload (q := 1100) C dL_law_1098 rfl 0 rfl ?_
                                        refine V_i2l (q := 1101) C dL_law_1100 rfl ?_
                                        refine V_lcmp (q := 1102) C dL_law_1101 rfl ?_
                                        refine V_if_eq (t := 1107) (q := 1105) C dL_law_1102 (by decide) rfl (fun c292 => ?_) (fun c292 => ?_)
                                        · replace hf := (ite_s hf).1 c292
                                          refine V_sub (L' := [(0, .ref b), (1, .ref (ad 0)), (2, .ref (ad 77)), (3, .ref (ad 100)), (4, .int i)]) [2, 3, 4, 5, 6] rfl ?_
                                          refine V_wide (k2 := (k + 18)) (n2 := (s + 108)) (Nat.add_le_add_left (show 2 ≤ 18 by decide) k) (Nat.add_le_add_left (show 12 ≤ 108 by decide) s) ?_
                                          exact hJ1107 _ hf
                                        · replace hf := (ite_s hf).2 c292
                                          refine V_iconst (v := 0) (q := 1106) C dL_law_1105 rfl ic_0 ?_
                                          exact absurd (pr_s hf).1 (by decide)
                                    · replace hf := (ite_s hf).2 c289
                                      refine V_iconst (v := 0) (q := 1089) C dL_law_1088 rfl ic_0 ?_
                                      exact absurd (pr_s hf).1 (by decide)
                                  · replace hf := (ite_s hf).2 c275
                                    by_cases c293 : ((xs i.toNatClampNeg) &&& (63 : Int32)) = (15 : Int32)
                                    · replace hf := (ite_s hf).1 c293
                                      refine V_tabIn (t := 1110) C dL_law_39 (by rw [c293]; decide) (by rw [c293]; decide) (off := 1071) (by rw [c293]; decide) (by decide) ?_
                                      refine V_aload_n (q := 1111) C dL_law_1110 rfl rfl 1 rfl ?_
                                      refine V_aload_n (q := 1112) C dL_law_1111 rfl rfl 0 rfl ?_
                                      refine V_iload (q := 1114) C dL_law_1112 rfl 4 rfl ?_
                                      refine V_iconst (v := 1) (q := 1115) C dL_law_1114 rfl ic_1 ?_
                                      refine V_iadd (q := 1116) C dL_law_1115 rfl ?_
                                      obtain ⟨g294, hf⟩ := gd_s hf
                                      refine V_sld (q := 1117) C hX hbl hbA (inb_in g294) dL_law_1116 rfl ?_
                                      refine V_aload_n (q := 1118) C dL_law_1117 rfl rfl 3 rfl ?_
                                      obtain ⟨r295, σ296, h297, hf⟩ := bd_s hf
                                      refine V_callSW (av := [.ref (ad 0), .int (xs (i + (1 : Int32)).toNatClampNeg), .ref (ad 100)]) (st := []) (st1 := [.int r295]) (q := 1121) C (conL_repack _ _ _ _ _ _ _ h297) q_869 q_106 q_867 q_868 nmL_repack (rmk rfl rfl (by decide) (by decide) (Nat.le_trans (Nat.add_le_add_left (show 2 ≤ 128 by decide) k) hk1) (Nat.le_trans (Nat.add_le_add_left (show 12 ≤ 768 by decide) s) hs1)) rfl rfl (Nat.le_of_ble_eq_true rfl) dL_law_1118 rfl rfl ?_
                                      refine V_wide (k2 := (k + 2)) (n2 := (s + 12)) (Nat.le_refl _) (Nat.le_refl _) ?_
                                      refine V_istore (L' := [(5, .int r295), (0, .ref b), (1, .ref (ad 0)), (2, .ref (ad 77)), (3, .ref (ad 100)), (4, .int i)]) (q := 1123) C dL_law_1121 rfl (by decide) rfl ?_
                                      refine V_aload_n (q := 1124) C dL_law_1123 rfl rfl 3 rfl ?_
                                      refine V_aload_n (q := 1125) C dL_law_1124 rfl rfl 1 rfl ?_
                                      refine V_iload (q := 1127) C dL_law_1125 rfl 5 rfl ?_
                                      refine V_iconst (v := 1) (q := 1128) C dL_law_1127 rfl ic_1 ?_
                                      refine V_iadd (q := 1129) C dL_law_1128 rfl ?_
                                      obtain ⟨g298, hf⟩ := gd_s hf
                                      refine V_sld (q := 1130) C hX hbl hbA (inb_in g298) dL_law_1129 rfl ?_
                                      obtain ⟨r299, σ300, h301, hf⟩ := bd_s hf
                                      refine V_callVs (av := [.int (xs (i + (1 : Int32)).toNatClampNeg)]) (st := []) (st1 := [.int r299]) (q := 1133) (subM (τ := σ296)) C 0 (by decide) (eM_0 G (fun i => ad (77 + i)) (σ296.2.1 0)) rfl rfl (conX7_repack _ _ _ _ _ _ _ h301) q_1420 q_114 q_1417 q_1418 q_1419 nmX7_repack (rmk rfl rfl (by decide) (by decide) (Nat.le_trans (Nat.add_le_add_left (show 2 ≤ 128 by decide) k) hk1) (Nat.le_trans (Nat.add_le_add_left (show 12 ≤ 768 by decide) s) hs1)) rfl rfl (Nat.le_of_ble_eq_true rfl) dL_law_1130 rfl rfl ?_
                                      refine V_lets hf (fun σ302 hf => ?_)
                                      refine V_wide (k2 := (k + 2)) (n2 := (s + 12)) (Nat.le_refl _) (Nat.le_refl _) ?_
                                      refine V_istore (L' := [(6, .int r299), (5, .int r295), (0, .ref b), (1, .ref (ad 0)), (2, .ref (ad 77)), (3, .ref (ad 100)), (4, .int i)]) (q := 1135) C dL_law_1133 rfl (by decide) rfl ?_
                                      refine V_aload_n (q := 1136) C dL_law_1135 rfl rfl 4 rfl ?_
                                      obtain ⟨r303, σ304, h305, hf⟩ := bd_s hf
                                      refine V_callVs (av := []) (st := []) (st1 := [.int r303]) (q := 1139) (subM (τ := σ302)) C 0 (by decide) (eM_0 G (fun i => ad (77 + i)) (σ302.2.1 0)) rfl rfl (conX7_thrown _ _ _  _ _ _ h305) q_1237 q_114 q_1234 q_1235 q_1236 nmX7_thrown (rmk rfl rfl (by decide) (by decide) (Nat.le_trans (Nat.add_le_add_left (show 2 ≤ 128 by decide) k) hk1) (Nat.le_trans (Nat.add_le_add_left (show 12 ≤ 768 by decide) s) hs1)) rfl rfl (Nat.le_of_ble_eq_true rfl) dL_law_1136 rfl rfl ?_
                                      refine V_lets hf (fun σ306 hf => ?_)
                                      refine V_wide (k2 := (k + 2)) (n2 := (s + 12)) (Nat.le_refl _) (Nat.le_refl _) ?_
                                      refine V_iload (q := 1141) C dL_law_1139 rfl 1 rfl ?_
                                      refine V_icmp_eq (t := 1146) (q := 1144) C dL_law_1141 (by decide) rfl (fun c307 => ?_) (fun c307 => ?_)
                                      · replace hf := (ite_s hf).1 c307
                                        refine V_iload (q := 1148) C dL_law_1146 rfl 1 rfl ?_
                                        obtain ⟨J1163, eJ1163, hf⟩ := jp_s hf
                                        have hJ1163 : ∀ (σ308 : LT), J1163 σ308 = some (1, σf) → V wL X G ad 8 Q (k + 18) (s + 108) σ308 1163 [(0, .ref b), (1, .ref (ad 0)), (2, .ref (ad 77)), (3, .ref (ad 100)), (4, .int i)] [] := by
                                          intro σ308 hf
                                          subst eJ1163
                                          refine V_goto (t := 2282) C dL_law_1163 (by decide) ?_
                                          refine V_wide (k2 := (k + 100)) (n2 := (s + 600)) (Nat.add_le_add_left (show 18 ≤ 100 by decide) k) (Nat.add_le_add_left (show 108 ≤ 600 by decide) s) ?_
                                          exact hJ2282 _ hf
                                        refine V_if_ne (t := 1163) (q := 1151) C dL_law_1148 (by decide) rfl (fun c309 => ?_) (fun c309 => ?_)
                                        · replace hf := (ite_s hf).2 c309
                                          refine V_sub (L' := [(0, .ref b), (1, .ref (ad 0)), (2, .ref (ad 77)), (3, .ref (ad 100)), (4, .int i)]) [2, 3, 4, 5, 6] rfl ?_
                                          refine V_wide (k2 := (k + 18)) (n2 := (s + 108)) (Nat.add_le_add_left (show 2 ≤ 18 by decide) k) (Nat.add_le_add_left (show 12 ≤ 108 by decide) s) ?_
                                          exact hJ1163 _ hf
                                        · replace hf := (ite_s hf).1 c309
                                          refine V_aload_n (q := 1152) C dL_law_1151 rfl rfl 5 rfl ?_
                                          refine V_iconst (v := 0) (q := 1153) C dL_law_1152 rfl ic_0 ?_
                                          refine V_outR (q := 1154) C dL_law_1153 rfl ?_
                                          refine V_iload (q := 1156) C dL_law_1154 rfl 0 rfl ?_
                                          refine V_i2l (q := 1157) C dL_law_1156 rfl ?_
                                          refine V_lcmp (q := 1158) C dL_law_1157 rfl ?_
                                          refine V_if_eq (t := 1163) (q := 1161) C dL_law_1158 (by decide) rfl (fun c310 => ?_) (fun c310 => ?_)
                                          · replace hf := (ite_s hf).1 c310
                                            refine V_sub (L' := [(0, .ref b), (1, .ref (ad 0)), (2, .ref (ad 77)), (3, .ref (ad 100)), (4, .int i)]) [2, 3, 4, 5, 6] rfl ?_
                                            refine V_wide (k2 := (k + 18)) (n2 := (s + 108)) (Nat.add_le_add_left (show 2 ≤ 18 by decide) k) (Nat.add_le_add_left (show 12 ≤ 108 by decide) s) ?_
                                            exact hJ1163 _ hf
                                          · replace hf := (ite_s hf).2 c310
                                            refine V_iconst (v := 0) (q := 1162) C dL_law_1161 rfl ic_0 ?_
                                            exact absurd (pr_s hf).1 (by decide)
                                      · replace hf := (ite_s hf).2 c307
                                        refine V_iconst (v := 0) (q := 1145) C dL_law_1144 rfl ic_0 ?_
                                        exact absurd (pr_s hf).1 (by decide)
                                    · replace hf := (ite_s hf).2 c293
                                      by_cases c311 : ((xs i.toNatClampNeg) &&& (63 : Int32)) = (16 : Int32)
                                      · replace hf := (ite_s hf).1 c311
                                        refine V_tabIn (t := 1166) C dL_law_39 (by rw [c311]; decide) (by rw [c311]; decide) (off := 1127) (by rw [c311]; decide) (by decide) ?_
                                        refine V_aload_n (q := 1167) C dL_law_1166 rfl rfl 1 rfl ?_
                                        refine V_aload_n (q := 1168) C dL_law_1167 rfl rfl 0 rfl ?_
                                        refine V_iload (q := 1170) C dL_law_1168 rfl 4 rfl ?_
                                        refine V_iconst (v := 1) (q := 1171) C dL_law_1170 rfl ic_1 ?_
                                        refine V_iadd (q := 1172) C dL_law_1171 rfl ?_
                                        obtain ⟨g312, hf⟩ := gd_s hf
                                        refine V_sld (q := 1173) C hX hbl hbA (inb_in g312) dL_law_1172 rfl ?_
                                        refine V_aload_n (q := 1174) C dL_law_1173 rfl rfl 3 rfl ?_
                                        obtain ⟨r313, σ314, h315, hf⟩ := bd_s hf
                                        refine V_callSW (av := [.ref (ad 0), .int (xs (i + (1 : Int32)).toNatClampNeg), .ref (ad 100)]) (st := []) (st1 := [.int r313]) (q := 1177) C (conL_assignments _ _ _ _ _ _ _ h315) q_876 q_106 q_874 q_875 nmL_assignments (rmk rfl rfl (by decide) (by decide) (Nat.le_trans (Nat.add_le_add_left (show 1 ≤ 128 by decide) k) hk1) (Nat.le_trans (Nat.add_le_add_left (show 6 ≤ 768 by decide) s) hs1)) rfl rfl (Nat.le_of_ble_eq_true rfl) dL_law_1174 rfl rfl ?_
                                        refine V_wide (k2 := (k + 1)) (n2 := (s + 6)) (Nat.le_refl _) (Nat.le_refl _) ?_
                                        refine V_istore (L' := [(5, .int r313), (0, .ref b), (1, .ref (ad 0)), (2, .ref (ad 77)), (3, .ref (ad 100)), (4, .int i)]) (q := 1179) C dL_law_1177 rfl (by decide) rfl ?_
                                        refine V_aload_n (q := 1180) C dL_law_1179 rfl rfl 3 rfl ?_
                                        refine V_aload_n (q := 1181) C dL_law_1180 rfl rfl 1 rfl ?_
                                        refine V_iload (q := 1183) C dL_law_1181 rfl 5 rfl ?_
                                        refine V_iconst (v := 1) (q := 1184) C dL_law_1183 rfl ic_1 ?_
                                        refine V_iadd (q := 1185) C dL_law_1184 rfl ?_
                                        obtain ⟨g316, hf⟩ := gd_s hf
                                        refine V_sld (q := 1186) C hX hbl hbA (inb_in g316) dL_law_1185 rfl ?_
                                        obtain ⟨r317, σ318, h319, hf⟩ := bd_s hf
                                        refine V_callVs (av := [.int (xs (i + (1 : Int32)).toNatClampNeg)]) (st := []) (st1 := [.int r317]) (q := 1189) (subM (τ := σ314)) C 0 (by decide) (eM_0 G (fun i => ad (77 + i)) (σ314.2.1 0)) rfl rfl (conX7_assignments _ _ _ _ _ _ _ h319) q_1424 q_114 q_1421 q_1422 q_1423 nmX7_assignments (rmk rfl rfl (by decide) (by decide) (Nat.le_trans (Nat.add_le_add_left (show 1 ≤ 128 by decide) k) hk1) (Nat.le_trans (Nat.add_le_add_left (show 6 ≤ 768 by decide) s) hs1)) rfl rfl (Nat.le_of_ble_eq_true rfl) dL_law_1186 rfl rfl ?_
                                        refine V_lets hf (fun σ320 hf => ?_)
                                        refine V_wide (k2 := (k + 1)) (n2 := (s + 6)) (Nat.le_refl _) (Nat.le_refl _) ?_
                                        refine V_istore (L' := [(6, .int r317), (5, .int r313), (0, .ref b), (1, .ref (ad 0)), (2, .ref (ad 77)), (3, .ref (ad 100)), (4, .int i)]) (q := 1191) C dL_law_1189 rfl (by decide) rfl ?_
                                        refine V_aload_n (q := 1192) C dL_law_1191 rfl rfl 4 rfl ?_
                                        obtain ⟨r321, σ322, h323, hf⟩ := bd_s hf
                                        refine V_callVs (av := []) (st := []) (st1 := [.int r321]) (q := 1195) (subM (τ := σ320)) C 0 (by decide) (eM_0 G (fun i => ad (77 + i)) (σ320.2.1 0)) rfl rfl (conX7_thrown _ _ _  _ _ _ h323) q_1237 q_114 q_1234 q_1235 q_1236 nmX7_thrown (rmk rfl rfl (by decide) (by decide) (Nat.le_trans (Nat.add_le_add_left (show 1 ≤ 128 by decide) k) hk1) (Nat.le_trans (Nat.add_le_add_left (show 6 ≤ 768 by decide) s) hs1)) rfl rfl (Nat.le_of_ble_eq_true rfl) dL_law_1192 rfl rfl ?_
                                        refine V_lets hf (fun σ324 hf => ?_)
                                        refine V_wide (k2 := (k + 1)) (n2 := (s + 6)) (Nat.le_refl _) (Nat.le_refl _) ?_
                                        refine V_iload (q := 1197) C dL_law_1195 rfl 1 rfl ?_
                                        refine V_icmp_eq (t := 1202) (q := 1200) C dL_law_1197 (by decide) rfl (fun c325 => ?_) (fun c325 => ?_)
                                        · replace hf := (ite_s hf).1 c325
                                          refine V_iload (q := 1204) C dL_law_1202 rfl 1 rfl ?_
                                          obtain ⟨J1219, eJ1219, hf⟩ := jp_s hf
                                          have hJ1219 : ∀ (σ326 : LT), J1219 σ326 = some (1, σf) → V wL X G ad 8 Q (k + 17) (s + 102) σ326 1219 [(0, .ref b), (1, .ref (ad 0)), (2, .ref (ad 77)), (3, .ref (ad 100)), (4, .int i)] [] := by
                                            intro σ326 hf
                                            subst eJ1219
                                            refine V_goto (t := 2282) C dL_law_1219 (by decide) ?_
                                            refine V_wide (k2 := (k + 100)) (n2 := (s + 600)) (Nat.add_le_add_left (show 17 ≤ 100 by decide) k) (Nat.add_le_add_left (show 102 ≤ 600 by decide) s) ?_
                                            exact hJ2282 _ hf
                                          refine V_if_ne (t := 1219) (q := 1207) C dL_law_1204 (by decide) rfl (fun c327 => ?_) (fun c327 => ?_)
                                          · replace hf := (ite_s hf).2 c327
                                            refine V_sub (L' := [(0, .ref b), (1, .ref (ad 0)), (2, .ref (ad 77)), (3, .ref (ad 100)), (4, .int i)]) [2, 3, 4, 5, 6] rfl ?_
                                            refine V_wide (k2 := (k + 17)) (n2 := (s + 102)) (Nat.add_le_add_left (show 1 ≤ 17 by decide) k) (Nat.add_le_add_left (show 6 ≤ 102 by decide) s) ?_
                                            exact hJ1219 _ hf
                                          · replace hf := (ite_s hf).1 c327
                                            refine V_aload_n (q := 1208) C dL_law_1207 rfl rfl 5 rfl ?_
                                            refine V_iconst (v := 0) (q := 1209) C dL_law_1208 rfl ic_0 ?_
                                            refine V_outR (q := 1210) C dL_law_1209 rfl ?_
                                            refine V_iload (q := 1212) C dL_law_1210 rfl 0 rfl ?_
                                            refine V_i2l (q := 1213) C dL_law_1212 rfl ?_
                                            refine V_lcmp (q := 1214) C dL_law_1213 rfl ?_
                                            refine V_if_eq (t := 1219) (q := 1217) C dL_law_1214 (by decide) rfl (fun c328 => ?_) (fun c328 => ?_)
                                            · replace hf := (ite_s hf).1 c328
                                              refine V_sub (L' := [(0, .ref b), (1, .ref (ad 0)), (2, .ref (ad 77)), (3, .ref (ad 100)), (4, .int i)]) [2, 3, 4, 5, 6] rfl ?_
                                              refine V_wide (k2 := (k + 17)) (n2 := (s + 102)) (Nat.add_le_add_left (show 1 ≤ 17 by decide) k) (Nat.add_le_add_left (show 6 ≤ 102 by decide) s) ?_
                                              exact hJ1219 _ hf
                                            · replace hf := (ite_s hf).2 c328
                                              refine V_iconst (v := 0) (q := 1218) C dL_law_1217 rfl ic_0 ?_
                                              exact absurd (pr_s hf).1 (by decide)
                                        · replace hf := (ite_s hf).2 c325
                                          refine V_iconst (v := 0) (q := 1201) C dL_law_1200 rfl ic_0 ?_
                                          exact absurd (pr_s hf).1 (by decide)
                                      · replace hf := (ite_s hf).2 c311
                                        by_cases c329 : ((xs i.toNatClampNeg) &&& (63 : Int32)) = (17 : Int32)
                                        · replace hf := (ite_s hf).1 c329
                                          refine V_tabIn (t := 1222) C dL_law_39 (by rw [c329]; decide) (by rw [c329]; decide) (off := 1183) (by rw [c329]; decide) (by decide) ?_
                                          refine V_aload_n (q := 1223) C dL_law_1222 rfl rfl 1 rfl ?_
                                          refine V_aload_n (q := 1224) C dL_law_1223 rfl rfl 0 rfl ?_
                                          refine V_iload (q := 1226) C dL_law_1224 rfl 4 rfl ?_
                                          refine V_iconst (v := 1) (q := 1227) C dL_law_1226 rfl ic_1 ?_
                                          refine V_iadd (q := 1228) C dL_law_1227 rfl ?_
                                          obtain ⟨g330, hf⟩ := gd_s hf
                                          refine V_sld (q := 1229) C hX hbl hbA (inb_in g330) dL_law_1228 rfl ?_
                                          refine V_aload_n (q := 1230) C dL_law_1229 rfl rfl 3 rfl ?_
                                          obtain ⟨r331, σ332, h333, hf⟩ := bd_s hf
                                          refine V_callSW (av := [.ref (ad 0), .int (xs (i + (1 : Int32)).toNatClampNeg), .ref (ad 100)]) (st := []) (st1 := [.int r331]) (q := 1233) C (conL_channelsNeeded _ _ _ _ _ _ _ h333) q_885 q_106 q_883 q_884 nmL_channelsNeeded (rmk rfl rfl (by decide) (by decide) (Nat.le_trans (Nat.add_le_add_left (show 2 ≤ 128 by decide) k) hk1) (Nat.le_trans (Nat.add_le_add_left (show 12 ≤ 768 by decide) s) hs1)) rfl rfl (Nat.le_of_ble_eq_true rfl) dL_law_1230 rfl rfl ?_
                                          refine V_wide (k2 := (k + 2)) (n2 := (s + 12)) (Nat.le_refl _) (Nat.le_refl _) ?_
                                          refine V_istore (L' := [(5, .int r331), (0, .ref b), (1, .ref (ad 0)), (2, .ref (ad 77)), (3, .ref (ad 100)), (4, .int i)]) (q := 1235) C dL_law_1233 rfl (by decide) rfl ?_
                                          refine V_aload_n (q := 1236) C dL_law_1235 rfl rfl 3 rfl ?_
                                          refine V_aload_n (q := 1237) C dL_law_1236 rfl rfl 1 rfl ?_
                                          refine V_iload (q := 1239) C dL_law_1237 rfl 5 rfl ?_
                                          refine V_iconst (v := 1) (q := 1240) C dL_law_1239 rfl ic_1 ?_
                                          refine V_iadd (q := 1241) C dL_law_1240 rfl ?_
                                          obtain ⟨g334, hf⟩ := gd_s hf
                                          refine V_sld (q := 1242) C hX hbl hbA (inb_in g334) dL_law_1241 rfl ?_
                                          obtain ⟨r335, σ336, h337, hf⟩ := bd_s hf
                                          refine V_callVs (av := [.int (xs (i + (1 : Int32)).toNatClampNeg)]) (st := []) (st1 := [.int r335]) (q := 1245) (subM (τ := σ332)) C 0 (by decide) (eM_0 G (fun i => ad (77 + i)) (σ332.2.1 0)) rfl rfl (conX7_channelsNeeded _ _ _ _ _ _ _ h337) q_1428 q_114 q_1425 q_1426 q_1427 nmX7_channelsNeeded (rmk rfl rfl (by decide) (by decide) (Nat.le_trans (Nat.add_le_add_left (show 2 ≤ 128 by decide) k) hk1) (Nat.le_trans (Nat.add_le_add_left (show 12 ≤ 768 by decide) s) hs1)) rfl rfl (Nat.le_of_ble_eq_true rfl) dL_law_1242 rfl rfl ?_
                                          refine V_lets hf (fun σ338 hf => ?_)
                                          refine V_wide (k2 := (k + 2)) (n2 := (s + 12)) (Nat.le_refl _) (Nat.le_refl _) ?_
                                          refine V_istore (L' := [(6, .int r335), (5, .int r331), (0, .ref b), (1, .ref (ad 0)), (2, .ref (ad 77)), (3, .ref (ad 100)), (4, .int i)]) (q := 1247) C dL_law_1245 rfl (by decide) rfl ?_
                                          refine V_aload_n (q := 1248) C dL_law_1247 rfl rfl 4 rfl ?_
                                          obtain ⟨r339, σ340, h341, hf⟩ := bd_s hf
                                          refine V_callVs (av := []) (st := []) (st1 := [.int r339]) (q := 1251) (subM (τ := σ338)) C 0 (by decide) (eM_0 G (fun i => ad (77 + i)) (σ338.2.1 0)) rfl rfl (conX7_thrown _ _ _  _ _ _ h341) q_1237 q_114 q_1234 q_1235 q_1236 nmX7_thrown (rmk rfl rfl (by decide) (by decide) (Nat.le_trans (Nat.add_le_add_left (show 2 ≤ 128 by decide) k) hk1) (Nat.le_trans (Nat.add_le_add_left (show 12 ≤ 768 by decide) s) hs1)) rfl rfl (Nat.le_of_ble_eq_true rfl) dL_law_1248 rfl rfl ?_
                                          refine V_lets hf (fun σ342 hf => ?_)
                                          refine V_wide (k2 := (k + 2)) (n2 := (s + 12)) (Nat.le_refl _) (Nat.le_refl _) ?_
                                          refine V_iload (q := 1253) C dL_law_1251 rfl 1 rfl ?_
                                          refine V_icmp_eq (t := 1258) (q := 1256) C dL_law_1253 (by decide) rfl (fun c343 => ?_) (fun c343 => ?_)
                                          · replace hf := (ite_s hf).1 c343
                                            refine V_iload (q := 1260) C dL_law_1258 rfl 1 rfl ?_
                                            obtain ⟨J1275, eJ1275, hf⟩ := jp_s hf
                                            have hJ1275 : ∀ (σ344 : LT), J1275 σ344 = some (1, σf) → V wL X G ad 8 Q (k + 18) (s + 108) σ344 1275 [(0, .ref b), (1, .ref (ad 0)), (2, .ref (ad 77)), (3, .ref (ad 100)), (4, .int i)] [] := by
                                              intro σ344 hf
                                              subst eJ1275
                                              refine V_goto (t := 2282) C dL_law_1275 (by decide) ?_
                                              refine V_wide (k2 := (k + 100)) (n2 := (s + 600)) (Nat.add_le_add_left (show 18 ≤ 100 by decide) k) (Nat.add_le_add_left (show 108 ≤ 600 by decide) s) ?_
                                              exact hJ2282 _ hf
                                            refine V_if_ne (t := 1275) (q := 1263) C dL_law_1260 (by decide) rfl (fun c345 => ?_) (fun c345 => ?_)
                                            · replace hf := (ite_s hf).2 c345
                                              refine V_sub (L' := [(0, .ref b), (1, .ref (ad 0)), (2, .ref (ad 77)), (3, .ref (ad 100)), (4, .int i)]) [2, 3, 4, 5, 6] rfl ?_
                                              refine V_wide (k2 := (k + 18)) (n2 := (s + 108)) (Nat.add_le_add_left (show 2 ≤ 18 by decide) k) (Nat.add_le_add_left (show 12 ≤ 108 by decide) s) ?_
                                              exact hJ1275 _ hf
                                            · replace hf := (ite_s hf).1 c345
                                              refine V_aload_n (q := 1264) C dL_law_1263 rfl rfl 5 rfl ?_
                                              refine V_iconst (v := 0) (q := 1265) C dL_law_1264 rfl ic_0 ?_
                                              refine V_outR (q := 1266) C dL_law_1265 rfl ?_
                                              refine V_iload (q := 1268) C dL_law_1266 rfl 0 rfl ?_
                                              refine V_i2l (q := 1269) C dL_law_1268 rfl ?_
                                              refine V_lcmp (q := 1270) C dL_law_1269 rfl ?_
                                              refine V_if_eq (t := 1275) (q := 1273) C dL_law_1270 (by decide) rfl (fun c346 => ?_) (fun c346 => ?_)
                                              · replace hf := (ite_s hf).1 c346
                                                refine V_sub (L' := [(0, .ref b), (1, .ref (ad 0)), (2, .ref (ad 77)), (3, .ref (ad 100)), (4, .int i)]) [2, 3, 4, 5, 6] rfl ?_
                                                refine V_wide (k2 := (k + 18)) (n2 := (s + 108)) (Nat.add_le_add_left (show 2 ≤ 18 by decide) k) (Nat.add_le_add_left (show 12 ≤ 108 by decide) s) ?_
                                                exact hJ1275 _ hf
                                              · replace hf := (ite_s hf).2 c346
                                                refine V_iconst (v := 0) (q := 1274) C dL_law_1273 rfl ic_0 ?_
                                                exact absurd (pr_s hf).1 (by decide)
                                          · replace hf := (ite_s hf).2 c343
                                            refine V_iconst (v := 0) (q := 1257) C dL_law_1256 rfl ic_0 ?_
                                            exact absurd (pr_s hf).1 (by decide)
                                        · replace hf := (ite_s hf).2 c329
                                          by_cases c347 : ((xs i.toNatClampNeg) &&& (63 : Int32)) = (18 : Int32)
                                          · replace hf := (ite_s hf).1 c347
                                            refine V_tabIn (t := 1278) C dL_law_39 (by rw [c347]; decide) (by rw [c347]; decide) (off := 1239) (by rw [c347]; decide) (by decide) ?_
                                            refine V_aload_n (q := 1279) C dL_law_1278 rfl rfl 1 rfl ?_
                                            refine V_aload_n (q := 1280) C dL_law_1279 rfl rfl 0 rfl ?_
                                            refine V_iload (q := 1282) C dL_law_1280 rfl 4 rfl ?_
                                            refine V_iconst (v := 1) (q := 1283) C dL_law_1282 rfl ic_1 ?_
                                            refine V_iadd (q := 1284) C dL_law_1283 rfl ?_
                                            obtain ⟨g348, hf⟩ := gd_s hf
                                            refine V_sld (q := 1285) C hX hbl hbA (inb_in g348) dL_law_1284 rfl ?_
                                            refine V_aload_n (q := 1286) C dL_law_1285 rfl rfl 0 rfl ?_
                                            refine V_iload (q := 1288) C dL_law_1286 rfl 4 rfl ?_
                                            refine V_iconst (v := 2) (q := 1289) C dL_law_1288 rfl ic_2 ?_
                                            refine V_iadd (q := 1290) C dL_law_1289 rfl ?_
                                            obtain ⟨g349, hf⟩ := gd_s hf
                                            refine V_sld (q := 1291) C hX hbl hbA (inb_in g349) dL_law_1290 rfl ?_
                                            refine V_aload_n (q := 1292) C dL_law_1291 rfl rfl 3 rfl ?_
                                            obtain ⟨r350, σ351, h352, hf⟩ := bd_s hf
                                            refine V_callSW (av := [.ref (ad 0), .int (xs (i + (1 : Int32)).toNatClampNeg), .int (xs (i + (2 : Int32)).toNatClampNeg), .ref (ad 100)]) (st := []) (st1 := [.int r350]) (q := 1295) C (conL_core _ _ _ _ _ _ _ _ h352) q_896 q_106 q_894 q_895 nmL_core (rmk rfl rfl (by decide) (by decide) (Nat.le_trans (Nat.add_le_add_left (show 3 ≤ 128 by decide) k) hk1) (Nat.le_trans (Nat.add_le_add_left (show 18 ≤ 768 by decide) s) hs1)) rfl rfl (Nat.le_of_ble_eq_true rfl) dL_law_1292 rfl rfl ?_
                                            refine V_wide (k2 := (k + 3)) (n2 := (s + 18)) (Nat.le_refl _) (Nat.le_refl _) ?_
                                            refine V_istore (L' := [(5, .int r350), (0, .ref b), (1, .ref (ad 0)), (2, .ref (ad 77)), (3, .ref (ad 100)), (4, .int i)]) (q := 1297) C dL_law_1295 rfl (by decide) rfl ?_
                                            refine V_aload_n (q := 1298) C dL_law_1297 rfl rfl 3 rfl ?_
                                            refine V_aload_n (q := 1299) C dL_law_1298 rfl rfl 1 rfl ?_
                                            refine V_iload (q := 1301) C dL_law_1299 rfl 5 rfl ?_
                                            refine V_iconst (v := 1) (q := 1302) C dL_law_1301 rfl ic_1 ?_
                                            refine V_iadd (q := 1303) C dL_law_1302 rfl ?_
                                            obtain ⟨g353, hf⟩ := gd_s hf
                                            refine V_sld (q := 1304) C hX hbl hbA (inb_in g353) dL_law_1303 rfl ?_
                                            refine V_aload_n (q := 1305) C dL_law_1304 rfl rfl 1 rfl ?_
                                            refine V_iload (q := 1307) C dL_law_1305 rfl 5 rfl ?_
                                            refine V_iconst (v := 2) (q := 1308) C dL_law_1307 rfl ic_2 ?_
                                            refine V_iadd (q := 1309) C dL_law_1308 rfl ?_
                                            obtain ⟨g354, hf⟩ := gd_s hf
                                            refine V_sld (q := 1310) C hX hbl hbA (inb_in g354) dL_law_1309 rfl ?_
                                            obtain ⟨r355, σ356, h357, hf⟩ := bd_s hf
                                            refine V_callVs (av := [.int (xs (i + (1 : Int32)).toNatClampNeg), .int (xs (i + (2 : Int32)).toNatClampNeg)]) (st := []) (st1 := [.int r355]) (q := 1313) (subM (τ := σ351)) C 0 (by decide) (eM_0 G (fun i => ad (77 + i)) (σ351.2.1 0)) rfl rfl (conX7_core _ _ _ _ _ _ _ _ h357) q_1432 q_114 q_1429 q_1430 q_1431 nmX7_core (rmk rfl rfl (by decide) (by decide) (Nat.le_trans (Nat.add_le_add_left (show 3 ≤ 128 by decide) k) hk1) (Nat.le_trans (Nat.add_le_add_left (show 18 ≤ 768 by decide) s) hs1)) rfl rfl (Nat.le_of_ble_eq_true rfl) dL_law_1310 rfl rfl ?_
                                            refine V_lets hf (fun σ358 hf => ?_)
                                            refine V_wide (k2 := (k + 3)) (n2 := (s + 18)) (Nat.le_refl _) (Nat.le_refl _) ?_
                                            refine V_istore (L' := [(6, .int r355), (5, .int r350), (0, .ref b), (1, .ref (ad 0)), (2, .ref (ad 77)), (3, .ref (ad 100)), (4, .int i)]) (q := 1315) C dL_law_1313 rfl (by decide) rfl ?_
                                            refine V_aload_n (q := 1316) C dL_law_1315 rfl rfl 4 rfl ?_
                                            obtain ⟨r359, σ360, h361, hf⟩ := bd_s hf
                                            refine V_callVs (av := []) (st := []) (st1 := [.int r359]) (q := 1319) (subM (τ := σ358)) C 0 (by decide) (eM_0 G (fun i => ad (77 + i)) (σ358.2.1 0)) rfl rfl (conX7_thrown _ _ _  _ _ _ h361) q_1237 q_114 q_1234 q_1235 q_1236 nmX7_thrown (rmk rfl rfl (by decide) (by decide) (Nat.le_trans (Nat.add_le_add_left (show 3 ≤ 128 by decide) k) hk1) (Nat.le_trans (Nat.add_le_add_left (show 18 ≤ 768 by decide) s) hs1)) rfl rfl (Nat.le_of_ble_eq_true rfl) dL_law_1316 rfl rfl ?_
                                            refine V_lets hf (fun σ362 hf => ?_)
                                            refine V_wide (k2 := (k + 3)) (n2 := (s + 18)) (Nat.le_refl _) (Nat.le_refl _) ?_
                                            refine V_iload (q := 1321) C dL_law_1319 rfl 1 rfl ?_
                                            refine V_icmp_eq (t := 1326) (q := 1324) C dL_law_1321 (by decide) rfl (fun c363 => ?_) (fun c363 => ?_)
                                            · replace hf := (ite_s hf).1 c363
                                              refine V_iload (q := 1328) C dL_law_1326 rfl 1 rfl ?_
                                              obtain ⟨J1343, eJ1343, hf⟩ := jp_s hf
                                              have hJ1343 : ∀ (σ364 : LT), J1343 σ364 = some (1, σf) → V wL X G ad 8 Q (k + 19) (s + 114) σ364 1343 [(0, .ref b), (1, .ref (ad 0)), (2, .ref (ad 77)), (3, .ref (ad 100)), (4, .int i)] [] := by
                                                intro σ364 hf
                                                subst eJ1343
                                                refine V_goto (t := 2282) C dL_law_1343 (by decide) ?_
                                                refine V_wide (k2 := (k + 100)) (n2 := (s + 600)) (Nat.add_le_add_left (show 19 ≤ 100 by decide) k) (Nat.add_le_add_left (show 114 ≤ 600 by decide) s) ?_
                                                exact hJ2282 _ hf
                                              refine V_if_ne (t := 1343) (q := 1331) C dL_law_1328 (by decide) rfl (fun c365 => ?_) (fun c365 => ?_)
                                              · replace hf := (ite_s hf).2 c365
                                                refine V_sub (L' := [(0, .ref b), (1, .ref (ad 0)), (2, .ref (ad 77)), (3, .ref (ad 100)), (4, .int i)]) [2, 3, 4, 5, 6] rfl ?_
                                                refine V_wide (k2 := (k + 19)) (n2 := (s + 114)) (Nat.add_le_add_left (show 3 ≤ 19 by decide) k) (Nat.add_le_add_left (show 18 ≤ 114 by decide) s) ?_
                                                exact hJ1343 _ hf
                                              · replace hf := (ite_s hf).1 c365
                                                refine V_aload_n (q := 1332) C dL_law_1331 rfl rfl 5 rfl ?_
                                                refine V_iconst (v := 0) (q := 1333) C dL_law_1332 rfl ic_0 ?_
                                                refine V_outR (q := 1334) C dL_law_1333 rfl ?_
                                                refine V_iload (q := 1336) C dL_law_1334 rfl 0 rfl ?_
                                                refine V_i2l (q := 1337) C dL_law_1336 rfl ?_
                                                refine V_lcmp (q := 1338) C dL_law_1337 rfl ?_
                                                refine V_if_eq (t := 1343) (q := 1341) C dL_law_1338 (by decide) rfl (fun c366 => ?_) (fun c366 => ?_)
                                                · replace hf := (ite_s hf).1 c366
                                                  refine V_sub (L' := [(0, .ref b), (1, .ref (ad 0)), (2, .ref (ad 77)), (3, .ref (ad 100)), (4, .int i)]) [2, 3, 4, 5, 6] rfl ?_
                                                  refine V_wide (k2 := (k + 19)) (n2 := (s + 114)) (Nat.add_le_add_left (show 3 ≤ 19 by decide) k) (Nat.add_le_add_left (show 18 ≤ 114 by decide) s) ?_
                                                  exact hJ1343 _ hf
                                                · replace hf := (ite_s hf).2 c366
                                                  refine V_iconst (v := 0) (q := 1342) C dL_law_1341 rfl ic_0 ?_
                                                  exact absurd (pr_s hf).1 (by decide)
                                            · replace hf := (ite_s hf).2 c363
                                              refine V_iconst (v := 0) (q := 1325) C dL_law_1324 rfl ic_0 ?_
                                              exact absurd (pr_s hf).1 (by decide)
                                          · replace hf := (ite_s hf).2 c347
                                            by_cases c367 : ((xs i.toNatClampNeg) &&& (63 : Int32)) = (19 : Int32)
                                            · replace hf := (ite_s hf).1 c367
                                              refine V_tabIn (t := 1346) C dL_law_39 (by rw [c367]; decide) (by rw [c367]; decide) (off := 1307) (by rw [c367]; decide) (by decide) ?_
                                              refine V_aload_n (q := 1347) C dL_law_1346 rfl rfl 1 rfl ?_
                                              refine V_aload_n (q := 1348) C dL_law_1347 rfl rfl 0 rfl ?_
                                              refine V_iload (q := 1350) C dL_law_1348 rfl 4 rfl ?_
                                              refine V_iconst (v := 1) (q := 1351) C dL_law_1350 rfl ic_1 ?_
                                              refine V_iadd (q := 1352) C dL_law_1351 rfl ?_
                                              obtain ⟨g368, hf⟩ := gd_s hf
                                              refine V_sld (q := 1353) C hX hbl hbA (inb_in g368) dL_law_1352 rfl ?_
                                              refine V_aload_n (q := 1354) C dL_law_1353 rfl rfl 3 rfl ?_
                                              obtain ⟨r369, σ370, h371, hf⟩ := bd_s hf
                                              refine V_callSW (av := [.ref (ad 0), .int (xs (i + (1 : Int32)).toNatClampNeg), .ref (ad 100)]) (st := []) (st1 := [.int r369]) (q := 1357) C (conL_open _ _ _ _ _ _ _ h371) q_925 q_106 q_923 q_924 nmL_open (rmk rfl rfl (by decide) (by decide) (Nat.le_trans (Nat.add_le_add_left (show 2 ≤ 128 by decide) k) hk1) (Nat.le_trans (Nat.add_le_add_left (show 12 ≤ 768 by decide) s) hs1)) rfl rfl (Nat.le_of_ble_eq_true rfl) dL_law_1354 rfl rfl ?_
                                              refine V_wide (k2 := (k + 2)) (n2 := (s + 12)) (Nat.le_refl _) (Nat.le_refl _) ?_
                                              refine V_istore (L' := [(5, .int r369), (0, .ref b), (1, .ref (ad 0)), (2, .ref (ad 77)), (3, .ref (ad 100)), (4, .int i)]) (q := 1359) C dL_law_1357 rfl (by decide) rfl ?_
                                              refine V_aload_n (q := 1360) C dL_law_1359 rfl rfl 3 rfl ?_
                                              refine V_aload_n (q := 1361) C dL_law_1360 rfl rfl 1 rfl ?_
                                              refine V_iload (q := 1363) C dL_law_1361 rfl 5 rfl ?_
                                              refine V_iconst (v := 1) (q := 1364) C dL_law_1363 rfl ic_1 ?_
                                              refine V_iadd (q := 1365) C dL_law_1364 rfl ?_
                                              obtain ⟨g372, hf⟩ := gd_s hf
                                              refine V_sld (q := 1366) C hX hbl hbA (inb_in g372) dL_law_1365 rfl ?_
                                              obtain ⟨r373, σ374, h375, hf⟩ := bd_s hf
                                              refine V_callVs (av := [.int (xs (i + (1 : Int32)).toNatClampNeg)]) (st := []) (st1 := [.int r373]) (q := 1369) (subM (τ := σ370)) C 0 (by decide) (eM_0 G (fun i => ad (77 + i)) (σ370.2.1 0)) rfl rfl (conX7_open _ _ _ _ _ _ _ h375) q_1440 q_114 q_1437 q_1438 q_1439 nmX7_open (rmk rfl rfl (by decide) (by decide) (Nat.le_trans (Nat.add_le_add_left (show 2 ≤ 128 by decide) k) hk1) (Nat.le_trans (Nat.add_le_add_left (show 12 ≤ 768 by decide) s) hs1)) rfl rfl (Nat.le_of_ble_eq_true rfl) dL_law_1366 rfl rfl ?_
                                              refine V_lets hf (fun σ376 hf => ?_)
                                              refine V_wide (k2 := (k + 2)) (n2 := (s + 12)) (Nat.le_refl _) (Nat.le_refl _) ?_
                                              refine V_istore (L' := [(6, .int r373), (5, .int r369), (0, .ref b), (1, .ref (ad 0)), (2, .ref (ad 77)), (3, .ref (ad 100)), (4, .int i)]) (q := 1371) C dL_law_1369 rfl (by decide) rfl ?_
                                              refine V_aload_n (q := 1372) C dL_law_1371 rfl rfl 4 rfl ?_
                                              obtain ⟨r377, σ378, h379, hf⟩ := bd_s hf
                                              refine V_callVs (av := []) (st := []) (st1 := [.int r377]) (q := 1375) (subM (τ := σ376)) C 0 (by decide) (eM_0 G (fun i => ad (77 + i)) (σ376.2.1 0)) rfl rfl (conX7_thrown _ _ _  _ _ _ h379) q_1237 q_114 q_1234 q_1235 q_1236 nmX7_thrown (rmk rfl rfl (by decide) (by decide) (Nat.le_trans (Nat.add_le_add_left (show 2 ≤ 128 by decide) k) hk1) (Nat.le_trans (Nat.add_le_add_left (show 12 ≤ 768 by decide) s) hs1)) rfl rfl (Nat.le_of_ble_eq_true rfl) dL_law_1372 rfl rfl ?_
                                              refine V_lets hf (fun σ380 hf => ?_)
                                              refine V_wide (k2 := (k + 2)) (n2 := (s + 12)) (Nat.le_refl _) (Nat.le_refl _) ?_
                                              refine V_iload (q := 1377) C dL_law_1375 rfl 1 rfl ?_
                                              refine V_icmp_eq (t := 1382) (q := 1380) C dL_law_1377 (by decide) rfl (fun c381 => ?_) (fun c381 => ?_)
                                              · replace hf := (ite_s hf).1 c381
                                                refine V_iload (q := 1384) C dL_law_1382 rfl 1 rfl ?_
                                                obtain ⟨J1399, eJ1399, hf⟩ := jp_s hf
                                                have hJ1399 : ∀ (σ382 : LT), J1399 σ382 = some (1, σf) → V wL X G ad 8 Q (k + 18) (s + 108) σ382 1399 [(0, .ref b), (1, .ref (ad 0)), (2, .ref (ad 77)), (3, .ref (ad 100)), (4, .int i)] [] := by
                                                  intro σ382 hf
                                                  subst eJ1399
                                                  refine V_goto (t := 2282) C dL_law_1399 (by decide) ?_
                                                  refine V_wide (k2 := (k + 100)) (n2 := (s + 600)) (Nat.add_le_add_left (show 18 ≤ 100 by decide) k) (Nat.add_le_add_left (show 108 ≤ 600 by decide) s) ?_
                                                  exact hJ2282 _ hf
                                                refine V_if_ne (t := 1399) (q := 1387) C dL_law_1384 (by decide) rfl (fun c383 => ?_) (fun c383 => ?_)
                                                · replace hf := (ite_s hf).2 c383
                                                  refine V_sub (L' := [(0, .ref b), (1, .ref (ad 0)), (2, .ref (ad 77)), (3, .ref (ad 100)), (4, .int i)]) [2, 3, 4, 5, 6] rfl ?_
                                                  refine V_wide (k2 := (k + 18)) (n2 := (s + 108)) (Nat.add_le_add_left (show 2 ≤ 18 by decide) k) (Nat.add_le_add_left (show 12 ≤ 108 by decide) s) ?_
                                                  exact hJ1399 _ hf
                                                · replace hf := (ite_s hf).1 c383
                                                  refine V_aload_n (q := 1388) C dL_law_1387 rfl rfl 5 rfl ?_
                                                  refine V_iconst (v := 0) (q := 1389) C dL_law_1388 rfl ic_0 ?_
                                                  refine V_outR (q := 1390) C dL_law_1389 rfl ?_
                                                  refine V_iload (q := 1392) C dL_law_1390 rfl 0 rfl ?_
                                                  refine V_i2l (q := 1393) C dL_law_1392 rfl ?_
                                                  refine V_lcmp (q := 1394) C dL_law_1393 rfl ?_
                                                  refine V_if_eq (t := 1399) (q := 1397) C dL_law_1394 (by decide) rfl (fun c384 => ?_) (fun c384 => ?_)
                                                  · replace hf := (ite_s hf).1 c384
                                                    refine V_sub (L' := [(0, .ref b), (1, .ref (ad 0)), (2, .ref (ad 77)), (3, .ref (ad 100)), (4, .int i)]) [2, 3, 4, 5, 6] rfl ?_
                                                    refine V_wide (k2 := (k + 18)) (n2 := (s + 108)) (Nat.add_le_add_left (show 2 ≤ 18 by decide) k) (Nat.add_le_add_left (show 12 ≤ 108 by decide) s) ?_
                                                    exact hJ1399 _ hf
                                                  · replace hf := (ite_s hf).2 c384
                                                    refine V_iconst (v := 0) (q := 1398) C dL_law_1397 rfl ic_0 ?_
                                                    exact absurd (pr_s hf).1 (by decide)
                                              · replace hf := (ite_s hf).2 c381
                                                refine V_iconst (v := 0) (q := 1381) C dL_law_1380 rfl ic_0 ?_
                                                exact absurd (pr_s hf).1 (by decide)
                                            · replace hf := (ite_s hf).2 c367
                                              by_cases c385 : ((xs i.toNatClampNeg) &&& (63 : Int32)) = (20 : Int32)
                                              · replace hf := (ite_s hf).1 c385
                                                refine V_tabIn (t := 1402) C dL_law_39 (by rw [c385]; decide) (by rw [c385]; decide) (off := 1363) (by rw [c385]; decide) (by decide) ?_
                                                refine V_aload_n (q := 1403) C dL_law_1402 rfl rfl 1 rfl ?_
                                                refine V_aload_n (q := 1404) C dL_law_1403 rfl rfl 0 rfl ?_
                                                refine V_iload (q := 1406) C dL_law_1404 rfl 4 rfl ?_
                                                refine V_iconst (v := 1) (q := 1407) C dL_law_1406 rfl ic_1 ?_
                                                refine V_iadd (q := 1408) C dL_law_1407 rfl ?_
                                                obtain ⟨g386, hf⟩ := gd_s hf
                                                refine V_sld (q := 1409) C hX hbl hbA (inb_in g386) dL_law_1408 rfl ?_
                                                refine V_aload_n (q := 1410) C dL_law_1409 rfl rfl 3 rfl ?_
                                                obtain ⟨r387, σ388, h389, hf⟩ := bd_s hf
                                                refine V_callSW (av := [.ref (ad 0), .int (xs (i + (1 : Int32)).toNatClampNeg), .ref (ad 100)]) (st := []) (st1 := [.int r387]) (q := 1413) C (conL_round _ _ _ _ _ _ _ h389) q_976 q_106 q_974 q_975 nmL_round (rmk rfl rfl (by decide) (by decide) (Nat.le_trans (Nat.add_le_add_left (show 3 ≤ 128 by decide) k) hk1) (Nat.le_trans (Nat.add_le_add_left (show 18 ≤ 768 by decide) s) hs1)) rfl rfl (Nat.le_of_ble_eq_true rfl) dL_law_1410 rfl rfl ?_
                                                refine V_wide (k2 := (k + 3)) (n2 := (s + 18)) (Nat.le_refl _) (Nat.le_refl _) ?_
                                                refine V_istore (L' := [(5, .int r387), (0, .ref b), (1, .ref (ad 0)), (2, .ref (ad 77)), (3, .ref (ad 100)), (4, .int i)]) (q := 1415) C dL_law_1413 rfl (by decide) rfl ?_
                                                refine V_aload_n (q := 1416) C dL_law_1415 rfl rfl 3 rfl ?_
                                                refine V_aload_n (q := 1417) C dL_law_1416 rfl rfl 1 rfl ?_
                                                refine V_iload (q := 1419) C dL_law_1417 rfl 5 rfl ?_
                                                refine V_iconst (v := 1) (q := 1420) C dL_law_1419 rfl ic_1 ?_
                                                refine V_iadd (q := 1421) C dL_law_1420 rfl ?_
                                                obtain ⟨g390, hf⟩ := gd_s hf
                                                refine V_sld (q := 1422) C hX hbl hbA (inb_in g390) dL_law_1421 rfl ?_
                                                obtain ⟨r391, σ392, h393, hf⟩ := bd_s hf
                                                refine V_callVs (av := [.int (xs (i + (1 : Int32)).toNatClampNeg)]) (st := []) (st1 := [.int r391]) (q := 1425) (subM (τ := σ388)) C 0 (by decide) (eM_0 G (fun i => ad (77 + i)) (σ388.2.1 0)) rfl rfl (conX7_round _ _ _ _ _ _ _ h393) q_1476 q_114 q_1473 q_1474 q_1475 nmX7_round (rmk rfl rfl (by decide) (by decide) (Nat.le_trans (Nat.add_le_add_left (show 3 ≤ 128 by decide) k) hk1) (Nat.le_trans (Nat.add_le_add_left (show 18 ≤ 768 by decide) s) hs1)) rfl rfl (Nat.le_of_ble_eq_true rfl) dL_law_1422 rfl rfl ?_
                                                refine V_lets hf (fun σ394 hf => ?_)
                                                refine V_wide (k2 := (k + 3)) (n2 := (s + 18)) (Nat.le_refl _) (Nat.le_refl _) ?_
                                                refine V_istore (L' := [(6, .int r391), (5, .int r387), (0, .ref b), (1, .ref (ad 0)), (2, .ref (ad 77)), (3, .ref (ad 100)), (4, .int i)]) (q := 1427) C dL_law_1425 rfl (by decide) rfl ?_
                                                refine V_aload_n (q := 1428) C dL_law_1427 rfl rfl 4 rfl ?_
                                                obtain ⟨r395, σ396, h397, hf⟩ := bd_s hf
                                                refine V_callVs (av := []) (st := []) (st1 := [.int r395]) (q := 1431) (subM (τ := σ394)) C 0 (by decide) (eM_0 G (fun i => ad (77 + i)) (σ394.2.1 0)) rfl rfl (conX7_thrown _ _ _  _ _ _ h397) q_1237 q_114 q_1234 q_1235 q_1236 nmX7_thrown (rmk rfl rfl (by decide) (by decide) (Nat.le_trans (Nat.add_le_add_left (show 3 ≤ 128 by decide) k) hk1) (Nat.le_trans (Nat.add_le_add_left (show 18 ≤ 768 by decide) s) hs1)) rfl rfl (Nat.le_of_ble_eq_true rfl) dL_law_1428 rfl rfl ?_
                                                refine V_lets hf (fun σ398 hf => ?_)
                                                refine V_wide (k2 := (k + 3)) (n2 := (s + 18)) (Nat.le_refl _) (Nat.le_refl _) ?_
                                                refine V_iload (q := 1433) C dL_law_1431 rfl 1 rfl ?_
                                                refine V_icmp_eq (t := 1438) (q := 1436) C dL_law_1433 (by decide) rfl (fun c399 => ?_) (fun c399 => ?_)
                                                · replace hf := (ite_s hf).1 c399
                                                  refine V_iload (q := 1440) C dL_law_1438 rfl 1 rfl ?_
                                                  obtain ⟨J1455, eJ1455, hf⟩ := jp_s hf
                                                  have hJ1455 : ∀ (σ400 : LT), J1455 σ400 = some (1, σf) → V wL X G ad 8 Q (k + 19) (s + 114) σ400 1455 [(0, .ref b), (1, .ref (ad 0)), (2, .ref (ad 77)), (3, .ref (ad 100)), (4, .int i)] [] := by
                                                    intro σ400 hf
                                                    subst eJ1455
                                                    refine V_goto (t := 2282) C dL_law_1455 (by decide) ?_
                                                    refine V_wide (k2 := (k + 100)) (n2 := (s + 600)) (Nat.add_le_add_left (show 19 ≤ 100 by decide) k) (Nat.add_le_add_left (show 114 ≤ 600 by decide) s) ?_
                                                    exact hJ2282 _ hf
                                                  refine V_if_ne (t := 1455) (q := 1443) C dL_law_1440 (by decide) rfl (fun c401 => ?_) (fun c401 => ?_)
                                                  · replace hf := (ite_s hf).2 c401
                                                    refine V_sub (L' := [(0, .ref b), (1, .ref (ad 0)), (2, .ref (ad 77)), (3, .ref (ad 100)), (4, .int i)]) [2, 3, 4, 5, 6] rfl ?_
                                                    refine V_wide (k2 := (k + 19)) (n2 := (s + 114)) (Nat.add_le_add_left (show 3 ≤ 19 by decide) k) (Nat.add_le_add_left (show 18 ≤ 114 by decide) s) ?_
                                                    exact hJ1455 _ hf
                                                  · replace hf := (ite_s hf).1 c401
                                                    refine V_aload_n (q := 1444) C dL_law_1443 rfl rfl 5 rfl ?_
                                                    refine V_iconst (v := 0) (q := 1445) C dL_law_1444 rfl ic_0 ?_
                                                    refine V_outR (q := 1446) C dL_law_1445 rfl ?_
                                                    refine V_iload (q := 1448) C dL_law_1446 rfl 0 rfl ?_
                                                    refine V_i2l (q := 1449) C dL_law_1448 rfl ?_
                                                    refine V_lcmp (q := 1450) C dL_law_1449 rfl ?_
                                                    refine V_if_eq (t := 1455) (q := 1453) C dL_law_1450 (by decide) rfl (fun c402 => ?_) (fun c402 => ?_)
                                                    · replace hf := (ite_s hf).1 c402
                                                      refine V_sub (L' := [(0, .ref b), (1, .ref (ad 0)), (2, .ref (ad 77)), (3, .ref (ad 100)), (4, .int i)]) [2, 3, 4, 5, 6] rfl ?_
                                                      refine V_wide (k2 := (k + 19)) (n2 := (s + 114)) (Nat.add_le_add_left (show 3 ≤ 19 by decide) k) (Nat.add_le_add_left (show 18 ≤ 114 by decide) s) ?_
                                                      exact hJ1455 _ hf
                                                    · replace hf := (ite_s hf).2 c402
                                                      refine V_iconst (v := 0) (q := 1454) C dL_law_1453 rfl ic_0 ?_
                                                      exact absurd (pr_s hf).1 (by decide)
                                                · replace hf := (ite_s hf).2 c399
                                                  refine V_iconst (v := 0) (q := 1437) C dL_law_1436 rfl ic_0 ?_
                                                  exact absurd (pr_s hf).1 (by decide)
                                              · replace hf := (ite_s hf).2 c385
                                                by_cases c403 : ((xs i.toNatClampNeg) &&& (63 : Int32)) = (21 : Int32)
                                                · replace hf := (ite_s hf).1 c403
                                                  refine V_tabIn (t := 1458) C dL_law_39 (by rw [c403]; decide) (by rw [c403]; decide) (off := 1419) (by rw [c403]; decide) (by decide) ?_
                                                  refine V_aload_n (q := 1459) C dL_law_1458 rfl rfl 1 rfl ?_
                                                  refine V_aload_n (q := 1460) C dL_law_1459 rfl rfl 0 rfl ?_
                                                  refine V_iload (q := 1462) C dL_law_1460 rfl 4 rfl ?_
                                                  refine V_iconst (v := 1) (q := 1463) C dL_law_1462 rfl ic_1 ?_
                                                  refine V_iadd (q := 1464) C dL_law_1463 rfl ?_
                                                  obtain ⟨g404, hf⟩ := gd_s hf
                                                  refine V_sld (q := 1465) C hX hbl hbA (inb_in g404) dL_law_1464 rfl ?_
                                                  refine V_aload_n (q := 1466) C dL_law_1465 rfl rfl 3 rfl ?_
                                                  obtain ⟨r405, σ406, h407, hf⟩ := bd_s hf
                                                  refine V_callSW (av := [.ref (ad 0), .int (xs (i + (1 : Int32)).toNatClampNeg), .ref (ad 100)]) (st := []) (st1 := [.int r405]) (q := 1469) C (conL_run _ _ _ _ _ _ _ h407) q_1003 q_106 q_1001 q_1002 nmL_run (rmk rfl rfl (by decide) (by decide) (Nat.le_trans (Nat.add_le_add_left (show 2 ≤ 128 by decide) k) hk1) (Nat.le_trans (Nat.add_le_add_left (show 12 ≤ 768 by decide) s) hs1)) rfl rfl (Nat.le_of_ble_eq_true rfl) dL_law_1466 rfl rfl ?_
                                                  refine V_wide (k2 := (k + 2)) (n2 := (s + 12)) (Nat.le_refl _) (Nat.le_refl _) ?_
                                                  refine V_istore (L' := [(5, .int r405), (0, .ref b), (1, .ref (ad 0)), (2, .ref (ad 77)), (3, .ref (ad 100)), (4, .int i)]) (q := 1471) C dL_law_1469 rfl (by decide) rfl ?_
                                                  refine V_aload_n (q := 1472) C dL_law_1471 rfl rfl 3 rfl ?_
                                                  refine V_aload_n (q := 1473) C dL_law_1472 rfl rfl 1 rfl ?_
                                                  refine V_iload (q := 1475) C dL_law_1473 rfl 5 rfl ?_
                                                  refine V_iconst (v := 1) (q := 1476) C dL_law_1475 rfl ic_1 ?_
                                                  refine V_iadd (q := 1477) C dL_law_1476 rfl ?_
                                                  obtain ⟨g408, hf⟩ := gd_s hf
                                                  refine V_sld (q := 1478) C hX hbl hbA (inb_in g408) dL_law_1477 rfl ?_
                                                  obtain ⟨r409, σ410, h411, hf⟩ := bd_s hf
                                                  refine V_callVs (av := [.int (xs (i + (1 : Int32)).toNatClampNeg)]) (st := []) (st1 := [.int r409]) (q := 1481) (subM (τ := σ406)) C 0 (by decide) (eM_0 G (fun i => ad (77 + i)) (σ406.2.1 0)) rfl rfl (conX7_run _ _ _ _ _ _ _ h411) q_1491 q_114 q_1488 q_1489 q_1490 nmX7_run (rmk rfl rfl (by decide) (by decide) (Nat.le_trans (Nat.add_le_add_left (show 2 ≤ 128 by decide) k) hk1) (Nat.le_trans (Nat.add_le_add_left (show 12 ≤ 768 by decide) s) hs1)) rfl rfl (Nat.le_of_ble_eq_true rfl) dL_law_1478 rfl rfl ?_
                                                  refine V_lets hf (fun σ412 hf => ?_)
                                                  refine V_wide (k2 := (k + 2)) (n2 := (s + 12)) (Nat.le_refl _) (Nat.le_refl _) ?_
                                                  refine V_istore (L' := [(6, .int r409), (5, .int r405), (0, .ref b), (1, .ref (ad 0)), (2, .ref (ad 77)), (3, .ref (ad 100)), (4, .int i)]) (q := 1483) C dL_law_1481 rfl (by decide) rfl ?_
                                                  refine V_aload_n (q := 1484) C dL_law_1483 rfl rfl 4 rfl ?_
                                                  obtain ⟨r413, σ414, h415, hf⟩ := bd_s hf
                                                  refine V_callVs (av := []) (st := []) (st1 := [.int r413]) (q := 1487) (subM (τ := σ412)) C 0 (by decide) (eM_0 G (fun i => ad (77 + i)) (σ412.2.1 0)) rfl rfl (conX7_thrown _ _ _  _ _ _ h415) q_1237 q_114 q_1234 q_1235 q_1236 nmX7_thrown (rmk rfl rfl (by decide) (by decide) (Nat.le_trans (Nat.add_le_add_left (show 2 ≤ 128 by decide) k) hk1) (Nat.le_trans (Nat.add_le_add_left (show 12 ≤ 768 by decide) s) hs1)) rfl rfl (Nat.le_of_ble_eq_true rfl) dL_law_1484 rfl rfl ?_
                                                  refine V_lets hf (fun σ416 hf => ?_)
                                                  refine V_wide (k2 := (k + 2)) (n2 := (s + 12)) (Nat.le_refl _) (Nat.le_refl _) ?_
                                                  refine V_iload (q := 1489) C dL_law_1487 rfl 1 rfl ?_
                                                  refine V_icmp_eq (t := 1494) (q := 1492) C dL_law_1489 (by decide) rfl (fun c417 => ?_) (fun c417 => ?_)
                                                  · replace hf := (ite_s hf).1 c417
                                                    refine V_iload (q := 1496) C dL_law_1494 rfl 1 rfl ?_
                                                    obtain ⟨J1511, eJ1511, hf⟩ := jp_s hf
                                                    have hJ1511 : ∀ (σ418 : LT), J1511 σ418 = some (1, σf) → V wL X G ad 8 Q (k + 18) (s + 108) σ418 1511 [(0, .ref b), (1, .ref (ad 0)), (2, .ref (ad 77)), (3, .ref (ad 100)), (4, .int i)] [] := by
                                                      intro σ418 hf
                                                      subst eJ1511
                                                      refine V_goto (t := 2282) C dL_law_1511 (by decide) ?_
                                                      refine V_wide (k2 := (k + 100)) (n2 := (s + 600)) (Nat.add_le_add_left (show 18 ≤ 100 by decide) k) (Nat.add_le_add_left (show 108 ≤ 600 by decide) s) ?_
                                                      exact hJ2282 _ hf
                                                    refine V_if_ne (t := 1511) (q := 1499) C dL_law_1496 (by decide) rfl (fun c419 => ?_) (fun c419 => ?_)
                                                    · replace hf := (ite_s hf).2 c419
                                                      refine V_sub (L' := [(0, .ref b), (1, .ref (ad 0)), (2, .ref (ad 77)), (3, .ref (ad 100)), (4, .int i)]) [2, 3, 4, 5, 6] rfl ?_
                                                      refine V_wide (k2 := (k + 18)) (n2 := (s + 108)) (Nat.add_le_add_left (show 2 ≤ 18 by decide) k) (Nat.add_le_add_left (show 12 ≤ 108 by decide) s) ?_
                                                      exact hJ1511 _ hf
                                                    · replace hf := (ite_s hf).1 c419
                                                      refine V_aload_n (q := 1500) C dL_law_1499 rfl rfl 5 rfl ?_
                                                      refine V_iconst (v := 0) (q := 1501) C dL_law_1500 rfl ic_0 ?_
                                                      refine V_outR (q := 1502) C dL_law_1501 rfl ?_
                                                      refine V_iload (q := 1504) C dL_law_1502 rfl 0 rfl ?_
                                                      refine V_i2l (q := 1505) C dL_law_1504 rfl ?_
                                                      refine V_lcmp (q := 1506) C dL_law_1505 rfl ?_
                                                      refine V_if_eq (t := 1511) (q := 1509) C dL_law_1506 (by decide) rfl (fun c420 => ?_) (fun c420 => ?_)
                                                      · replace hf := (ite_s hf).1 c420
                                                        refine V_sub (L' := [(0, .ref b), (1, .ref (ad 0)), (2, .ref (ad 77)), (3, .ref (ad 100)), (4, .int i)]) [2, 3, 4, 5, 6] rfl ?_
                                                        refine V_wide (k2 := (k + 18)) (n2 := (s + 108)) (Nat.add_le_add_left (show 2 ≤ 18 by decide) k) (Nat.add_le_add_left (show 12 ≤ 108 by decide) s) ?_
                                                        exact hJ1511 _ hf
                                                      · replace hf := (ite_s hf).2 c420
                                                        refine V_iconst (v := 0) (q := 1510) C dL_law_1509 rfl ic_0 ?_
                                                        exact absurd (pr_s hf).1 (by decide)
                                                  · replace hf := (ite_s hf).2 c417
                                                    refine V_iconst (v := 0) (q := 1493) C dL_law_1492 rfl ic_0 ?_
                                                    exact absurd (pr_s hf).1 (by decide)
                                                · replace hf := (ite_s hf).2 c403
                                                  by_cases c421 : ((xs i.toNatClampNeg) &&& (63 : Int32)) = (22 : Int32)
                                                  · replace hf := (ite_s hf).1 c421
                                                    refine V_tabIn (t := 1514) C dL_law_39 (by rw [c421]; decide) (by rw [c421]; decide) (off := 1475) (by rw [c421]; decide) (by decide) ?_
                                                    refine V_aload_n (q := 1515) C dL_law_1514 rfl rfl 1 rfl ?_
                                                    refine V_aload_n (q := 1516) C dL_law_1515 rfl rfl 0 rfl ?_
                                                    refine V_iload (q := 1518) C dL_law_1516 rfl 4 rfl ?_
                                                    refine V_iconst (v := 1) (q := 1519) C dL_law_1518 rfl ic_1 ?_
                                                    refine V_iadd (q := 1520) C dL_law_1519 rfl ?_
                                                    obtain ⟨g422, hf⟩ := gd_s hf
                                                    refine V_sld (q := 1521) C hX hbl hbA (inb_in g422) dL_law_1520 rfl ?_
                                                    refine V_aload_n (q := 1522) C dL_law_1521 rfl rfl 3 rfl ?_
                                                    obtain ⟨r423, σ424, h425, hf⟩ := bd_s hf
                                                    refine V_callSW (av := [.ref (ad 0), .int (xs (i + (1 : Int32)).toNatClampNeg), .ref (ad 100)]) (st := []) (st1 := [.int r423]) (q := 1525) C (conL_back _ _ _ _ _ _ _ h425) q_1010 q_106 q_1008 q_1009 nmL_back (rmk rfl rfl (by decide) (by decide) (Nat.le_trans (Nat.add_le_add_left (show 2 ≤ 128 by decide) k) hk1) (Nat.le_trans (Nat.add_le_add_left (show 12 ≤ 768 by decide) s) hs1)) rfl rfl (Nat.le_of_ble_eq_true rfl) dL_law_1522 rfl rfl ?_
                                                    refine V_wide (k2 := (k + 2)) (n2 := (s + 12)) (Nat.le_refl _) (Nat.le_refl _) ?_
                                                    refine V_istore (L' := [(5, .int r423), (0, .ref b), (1, .ref (ad 0)), (2, .ref (ad 77)), (3, .ref (ad 100)), (4, .int i)]) (q := 1527) C dL_law_1525 rfl (by decide) rfl ?_
                                                    refine V_aload_n (q := 1528) C dL_law_1527 rfl rfl 3 rfl ?_
                                                    refine V_aload_n (q := 1529) C dL_law_1528 rfl rfl 1 rfl ?_
                                                    refine V_iload (q := 1531) C dL_law_1529 rfl 5 rfl ?_
                                                    refine V_iconst (v := 1) (q := 1532) C dL_law_1531 rfl ic_1 ?_
                                                    refine V_iadd (q := 1533) C dL_law_1532 rfl ?_
                                                    obtain ⟨g426, hf⟩ := gd_s hf
                                                    refine V_sld (q := 1534) C hX hbl hbA (inb_in g426) dL_law_1533 rfl ?_
                                                    obtain ⟨r427, σ428, h429, hf⟩ := bd_s hf
                                                    refine V_callVs (av := [.int (xs (i + (1 : Int32)).toNatClampNeg)]) (st := []) (st1 := [.int r427]) (q := 1537) (subM (τ := σ424)) C 0 (by decide) (eM_0 G (fun i => ad (77 + i)) (σ424.2.1 0)) rfl rfl (conX7_back _ _ _ _ _ _ _ h429) q_1495 q_114 q_1492 q_1493 q_1494 nmX7_back (rmk rfl rfl (by decide) (by decide) (Nat.le_trans (Nat.add_le_add_left (show 2 ≤ 128 by decide) k) hk1) (Nat.le_trans (Nat.add_le_add_left (show 12 ≤ 768 by decide) s) hs1)) rfl rfl (Nat.le_of_ble_eq_true rfl) dL_law_1534 rfl rfl ?_
                                                    refine V_lets hf (fun σ430 hf => ?_)
                                                    refine V_wide (k2 := (k + 2)) (n2 := (s + 12)) (Nat.le_refl _) (Nat.le_refl _) ?_
                                                    refine V_istore (L' := [(6, .int r427), (5, .int r423), (0, .ref b), (1, .ref (ad 0)), (2, .ref (ad 77)), (3, .ref (ad 100)), (4, .int i)]) (q := 1539) C dL_law_1537 rfl (by decide) rfl ?_
                                                    refine V_aload_n (q := 1540) C dL_law_1539 rfl rfl 4 rfl ?_
                                                    obtain ⟨r431, σ432, h433, hf⟩ := bd_s hf
                                                    refine V_callVs (av := []) (st := []) (st1 := [.int r431]) (q := 1543) (subM (τ := σ430)) C 0 (by decide) (eM_0 G (fun i => ad (77 + i)) (σ430.2.1 0)) rfl rfl (conX7_thrown _ _ _  _ _ _ h433) q_1237 q_114 q_1234 q_1235 q_1236 nmX7_thrown (rmk rfl rfl (by decide) (by decide) (Nat.le_trans (Nat.add_le_add_left (show 2 ≤ 128 by decide) k) hk1) (Nat.le_trans (Nat.add_le_add_left (show 12 ≤ 768 by decide) s) hs1)) rfl rfl (Nat.le_of_ble_eq_true rfl) dL_law_1540 rfl rfl ?_
                                                    refine V_lets hf (fun σ434 hf => ?_)
                                                    refine V_wide (k2 := (k + 2)) (n2 := (s + 12)) (Nat.le_refl _) (Nat.le_refl _) ?_
                                                    refine V_iload (q := 1545) C dL_law_1543 rfl 1 rfl ?_
                                                    refine V_icmp_eq (t := 1550) (q := 1548) C dL_law_1545 (by decide) rfl (fun c435 => ?_) (fun c435 => ?_)
                                                    · replace hf := (ite_s hf).1 c435
                                                      refine V_iload (q := 1552) C dL_law_1550 rfl 1 rfl ?_
                                                      obtain ⟨J1567, eJ1567, hf⟩ := jp_s hf
                                                      have hJ1567 : ∀ (σ436 : LT), J1567 σ436 = some (1, σf) → V wL X G ad 8 Q (k + 18) (s + 108) σ436 1567 [(0, .ref b), (1, .ref (ad 0)), (2, .ref (ad 77)), (3, .ref (ad 100)), (4, .int i)] [] := by
                                                        intro σ436 hf
                                                        subst eJ1567
                                                        refine V_goto (t := 2282) C dL_law_1567 (by decide) ?_
                                                        refine V_wide (k2 := (k + 100)) (n2 := (s + 600)) (Nat.add_le_add_left (show 18 ≤ 100 by decide) k) (Nat.add_le_add_left (show 108 ≤ 600 by decide) s) ?_
                                                        exact hJ2282 _ hf
                                                      refine V_if_ne (t := 1567) (q := 1555) C dL_law_1552 (by decide) rfl (fun c437 => ?_) (fun c437 => ?_)
                                                      · replace hf := (ite_s hf).2 c437
                                                        refine V_sub (L' := [(0, .ref b), (1, .ref (ad 0)), (2, .ref (ad 77)), (3, .ref (ad 100)), (4, .int i)]) [2, 3, 4, 5, 6] rfl ?_
                                                        refine V_wide (k2 := (k + 18)) (n2 := (s + 108)) (Nat.add_le_add_left (show 2 ≤ 18 by decide) k) (Nat.add_le_add_left (show 12 ≤ 108 by decide) s) ?_
                                                        exact hJ1567 _ hf
                                                      · replace hf := (ite_s hf).1 c437
                                                        refine V_aload_n (q := 1556) C dL_law_1555 rfl rfl 5 rfl ?_
                                                        refine V_iconst (v := 0) (q := 1557) C dL_law_1556 rfl ic_0 ?_
                                                        refine V_outR (q := 1558) C dL_law_1557 rfl ?_
                                                        refine V_iload (q := 1560) C dL_law_1558 rfl 0 rfl ?_
                                                        refine V_i2l (q := 1561) C dL_law_1560 rfl ?_
                                                        refine V_lcmp (q := 1562) C dL_law_1561 rfl ?_
                                                        refine V_if_eq (t := 1567) (q := 1565) C dL_law_1562 (by decide) rfl (fun c438 => ?_) (fun c438 => ?_)
                                                        · replace hf := (ite_s hf).1 c438
                                                          refine V_sub (L' := [(0, .ref b), (1, .ref (ad 0)), (2, .ref (ad 77)), (3, .ref (ad 100)), (4, .int i)]) [2, 3, 4, 5, 6] rfl ?_
                                                          refine V_wide (k2 := (k + 18)) (n2 := (s + 108)) (Nat.add_le_add_left (show 2 ≤ 18 by decide) k) (Nat.add_le_add_left (show 12 ≤ 108 by decide) s) ?_
                                                          exact hJ1567 _ hf
                                                        · replace hf := (ite_s hf).2 c438
                                                          refine V_iconst (v := 0) (q := 1566) C dL_law_1565 rfl ic_0 ?_
                                                          exact absurd (pr_s hf).1 (by decide)
                                                    · replace hf := (ite_s hf).2 c435
                                                      refine V_iconst (v := 0) (q := 1549) C dL_law_1548 rfl ic_0 ?_
                                                      exact absurd (pr_s hf).1 (by decide)
                                                  · replace hf := (ite_s hf).2 c421
                                                    by_cases c439 : ((xs i.toNatClampNeg) &&& (63 : Int32)) = (23 : Int32)
                                                    · replace hf := (ite_s hf).1 c439
                                                      refine V_tabIn (t := 1570) C dL_law_39 (by rw [c439]; decide) (by rw [c439]; decide) (off := 1531) (by rw [c439]; decide) (by decide) ?_
                                                      refine V_aload_n (q := 1571) C dL_law_1570 rfl rfl 1 rfl ?_
                                                      refine V_aload_n (q := 1572) C dL_law_1571 rfl rfl 3 rfl ?_
                                                      obtain ⟨r440, σ441, h442, hf⟩ := bd_s hf
                                                      refine V_callSW (av := [.ref (ad 0), .ref (ad 100)]) (st := []) (st1 := [.int r440]) (q := 1575) C (conL_close _ _ _  _ _ _ h442) q_1022 q_106 q_1020 q_1021 nmL_close (rmk rfl rfl (by decide) (by decide) (Nat.le_trans (Nat.add_le_add_left (show 1 ≤ 128 by decide) k) hk1) (Nat.le_trans (Nat.add_le_add_left (show 6 ≤ 768 by decide) s) hs1)) rfl rfl (Nat.le_of_ble_eq_true rfl) dL_law_1572 rfl rfl ?_
                                                      refine V_wide (k2 := (k + 1)) (n2 := (s + 6)) (Nat.le_refl _) (Nat.le_refl _) ?_
                                                      refine V_istore (L' := [(5, .int r440), (0, .ref b), (1, .ref (ad 0)), (2, .ref (ad 77)), (3, .ref (ad 100)), (4, .int i)]) (q := 1577) C dL_law_1575 rfl (by decide) rfl ?_
                                                      refine V_aload_n (q := 1578) C dL_law_1577 rfl rfl 3 rfl ?_
                                                      obtain ⟨r443, σ444, h445, hf⟩ := bd_s hf
                                                      refine V_callVs (av := []) (st := []) (st1 := [.int r443]) (q := 1581) (subM (τ := σ441)) C 0 (by decide) (eM_0 G (fun i => ad (77 + i)) (σ441.2.1 0)) rfl rfl (conX7_close _ _ _  _ _ _ h445) q_1499 q_114 q_1496 q_1497 q_1498 nmX7_close (rmk rfl rfl (by decide) (by decide) (Nat.le_trans (Nat.add_le_add_left (show 1 ≤ 128 by decide) k) hk1) (Nat.le_trans (Nat.add_le_add_left (show 6 ≤ 768 by decide) s) hs1)) rfl rfl (Nat.le_of_ble_eq_true rfl) dL_law_1578 rfl rfl ?_
                                                      refine V_lets hf (fun σ446 hf => ?_)
                                                      refine V_wide (k2 := (k + 1)) (n2 := (s + 6)) (Nat.le_refl _) (Nat.le_refl _) ?_
                                                      refine V_istore (L' := [(6, .int r443), (5, .int r440), (0, .ref b), (1, .ref (ad 0)), (2, .ref (ad 77)), (3, .ref (ad 100)), (4, .int i)]) (q := 1583) C dL_law_1581 rfl (by decide) rfl ?_
                                                      refine V_aload_n (q := 1584) C dL_law_1583 rfl rfl 4 rfl ?_
                                                      obtain ⟨r447, σ448, h449, hf⟩ := bd_s hf
                                                      refine V_callVs (av := []) (st := []) (st1 := [.int r447]) (q := 1587) (subM (τ := σ446)) C 0 (by decide) (eM_0 G (fun i => ad (77 + i)) (σ446.2.1 0)) rfl rfl (conX7_thrown _ _ _  _ _ _ h449) q_1237 q_114 q_1234 q_1235 q_1236 nmX7_thrown (rmk rfl rfl (by decide) (by decide) (Nat.le_trans (Nat.add_le_add_left (show 1 ≤ 128 by decide) k) hk1) (Nat.le_trans (Nat.add_le_add_left (show 6 ≤ 768 by decide) s) hs1)) rfl rfl (Nat.le_of_ble_eq_true rfl) dL_law_1584 rfl rfl ?_
                                                      refine V_lets hf (fun σ450 hf => ?_)
                                                      refine V_wide (k2 := (k + 1)) (n2 := (s + 6)) (Nat.le_refl _) (Nat.le_refl _) ?_
                                                      refine V_iload (q := 1589) C dL_law_1587 rfl 1 rfl ?_
                                                      refine V_icmp_eq (t := 1594) (q := 1592) C dL_law_1589 (by decide) rfl (fun c451 => ?_) (fun c451 => ?_)
                                                      · replace hf := (ite_s hf).1 c451
                                                        refine V_iload (q := 1596) C dL_law_1594 rfl 1 rfl ?_
                                                        obtain ⟨J1611, eJ1611, hf⟩ := jp_s hf
                                                        have hJ1611 : ∀ (σ452 : LT), J1611 σ452 = some (1, σf) → V wL X G ad 8 Q (k + 17) (s + 102) σ452 1611 [(0, .ref b), (1, .ref (ad 0)), (2, .ref (ad 77)), (3, .ref (ad 100)), (4, .int i)] [] := by
                                                          intro σ452 hf
                                                          subst eJ1611
                                                          refine V_goto (t := 2282) C dL_law_1611 (by decide) ?_
                                                          refine V_wide (k2 := (k + 100)) (n2 := (s + 600)) (Nat.add_le_add_left (show 17 ≤ 100 by decide) k) (Nat.add_le_add_left (show 102 ≤ 600 by decide) s) ?_
                                                          exact hJ2282 _ hf
                                                        refine V_if_ne (t := 1611) (q := 1599) C dL_law_1596 (by decide) rfl (fun c453 => ?_) (fun c453 => ?_)
                                                        · replace hf := (ite_s hf).2 c453
                                                          refine V_sub (L' := [(0, .ref b), (1, .ref (ad 0)), (2, .ref (ad 77)), (3, .ref (ad 100)), (4, .int i)]) [2, 3, 4, 5, 6] rfl ?_
                                                          refine V_wide (k2 := (k + 17)) (n2 := (s + 102)) (Nat.add_le_add_left (show 1 ≤ 17 by decide) k) (Nat.add_le_add_left (show 6 ≤ 102 by decide) s) ?_
                                                          exact hJ1611 _ hf
                                                        · replace hf := (ite_s hf).1 c453
                                                          refine V_aload_n (q := 1600) C dL_law_1599 rfl rfl 5 rfl ?_
                                                          refine V_iconst (v := 0) (q := 1601) C dL_law_1600 rfl ic_0 ?_
                                                          refine V_outR (q := 1602) C dL_law_1601 rfl ?_
                                                          refine V_iload (q := 1604) C dL_law_1602 rfl 0 rfl ?_
                                                          refine V_i2l (q := 1605) C dL_law_1604 rfl ?_
                                                          refine V_lcmp (q := 1606) C dL_law_1605 rfl ?_
                                                          refine V_if_eq (t := 1611) (q := 1609) C dL_law_1606 (by decide) rfl (fun c454 => ?_) (fun c454 => ?_)
                                                          · replace hf := (ite_s hf).1 c454
                                                            refine V_sub (L' := [(0, .ref b), (1, .ref (ad 0)), (2, .ref (ad 77)), (3, .ref (ad 100)), (4, .int i)]) [2, 3, 4, 5, 6] rfl ?_
                                                            refine V_wide (k2 := (k + 17)) (n2 := (s + 102)) (Nat.add_le_add_left (show 1 ≤ 17 by decide) k) (Nat.add_le_add_left (show 6 ≤ 102 by decide) s) ?_
                                                            exact hJ1611 _ hf
                                                          · replace hf := (ite_s hf).2 c454
                                                            refine V_iconst (v := 0) (q := 1610) C dL_law_1609 rfl ic_0 ?_
                                                            exact absurd (pr_s hf).1 (by decide)
                                                      · replace hf := (ite_s hf).2 c451
                                                        refine V_iconst (v := 0) (q := 1593) C dL_law_1592 rfl ic_0 ?_
                                                        exact absurd (pr_s hf).1 (by decide)
                                                    · replace hf := (ite_s hf).2 c439
                                                      by_cases c455 : ((xs i.toNatClampNeg) &&& (63 : Int32)) = (24 : Int32)
                                                      · replace hf := (ite_s hf).1 c455
                                                        refine V_tabIn (t := 1614) C dL_law_39 (by rw [c455]; decide) (by rw [c455]; decide) (off := 1575) (by rw [c455]; decide) (by decide) ?_
                                                        refine V_aload_n (q := 1615) C dL_law_1614 rfl rfl 1 rfl ?_
                                                        refine V_aload_n (q := 1616) C dL_law_1615 rfl rfl 3 rfl ?_
                                                        obtain ⟨r456, σ457, h458, hf⟩ := bd_s hf
                                                        refine V_callSW (av := [.ref (ad 0), .ref (ad 100)]) (st := []) (st1 := [.int r456]) (q := 1619) C (conL_cancel _ _ _  _ _ _ h458) q_1034 q_106 q_1032 q_1033 nmL_cancel (rmk rfl rfl (by decide) (by decide) (Nat.le_trans (Nat.add_le_add_left (show 1 ≤ 128 by decide) k) hk1) (Nat.le_trans (Nat.add_le_add_left (show 6 ≤ 768 by decide) s) hs1)) rfl rfl (Nat.le_of_ble_eq_true rfl) dL_law_1616 rfl rfl ?_
                                                        refine V_wide (k2 := (k + 1)) (n2 := (s + 6)) (Nat.le_refl _) (Nat.le_refl _) ?_
                                                        refine V_istore (L' := [(5, .int r456), (0, .ref b), (1, .ref (ad 0)), (2, .ref (ad 77)), (3, .ref (ad 100)), (4, .int i)]) (q := 1621) C dL_law_1619 rfl (by decide) rfl ?_
                                                        refine V_aload_n (q := 1622) C dL_law_1621 rfl rfl 3 rfl ?_
                                                        obtain ⟨r459, σ460, h461, hf⟩ := bd_s hf
                                                        refine V_callVs (av := []) (st := []) (st1 := [.int r459]) (q := 1625) (subM (τ := σ457)) C 0 (by decide) (eM_0 G (fun i => ad (77 + i)) (σ457.2.1 0)) rfl rfl (conX7_cancel _ _ _  _ _ _ h461) q_1503 q_114 q_1500 q_1501 q_1502 nmX7_cancel (rmk rfl rfl (by decide) (by decide) (Nat.le_trans (Nat.add_le_add_left (show 1 ≤ 128 by decide) k) hk1) (Nat.le_trans (Nat.add_le_add_left (show 6 ≤ 768 by decide) s) hs1)) rfl rfl (Nat.le_of_ble_eq_true rfl) dL_law_1622 rfl rfl ?_
                                                        refine V_lets hf (fun σ462 hf => ?_)
                                                        refine V_wide (k2 := (k + 1)) (n2 := (s + 6)) (Nat.le_refl _) (Nat.le_refl _) ?_
                                                        refine V_istore (L' := [(6, .int r459), (5, .int r456), (0, .ref b), (1, .ref (ad 0)), (2, .ref (ad 77)), (3, .ref (ad 100)), (4, .int i)]) (q := 1627) C dL_law_1625 rfl (by decide) rfl ?_
                                                        refine V_aload_n (q := 1628) C dL_law_1627 rfl rfl 4 rfl ?_
                                                        obtain ⟨r463, σ464, h465, hf⟩ := bd_s hf
                                                        refine V_callVs (av := []) (st := []) (st1 := [.int r463]) (q := 1631) (subM (τ := σ462)) C 0 (by decide) (eM_0 G (fun i => ad (77 + i)) (σ462.2.1 0)) rfl rfl (conX7_thrown _ _ _  _ _ _ h465) q_1237 q_114 q_1234 q_1235 q_1236 nmX7_thrown (rmk rfl rfl (by decide) (by decide) (Nat.le_trans (Nat.add_le_add_left (show 1 ≤ 128 by decide) k) hk1) (Nat.le_trans (Nat.add_le_add_left (show 6 ≤ 768 by decide) s) hs1)) rfl rfl (Nat.le_of_ble_eq_true rfl) dL_law_1628 rfl rfl ?_
                                                        refine V_lets hf (fun σ466 hf => ?_)
                                                        refine V_wide (k2 := (k + 1)) (n2 := (s + 6)) (Nat.le_refl _) (Nat.le_refl _) ?_
                                                        refine V_iload (q := 1633) C dL_law_1631 rfl 1 rfl ?_
                                                        refine V_icmp_eq (t := 1638) (q := 1636) C dL_law_1633 (by decide) rfl (fun c467 => ?_) (fun c467 => ?_)
                                                        · replace hf := (ite_s hf).1 c467
                                                          refine V_iload (q := 1640) C dL_law_1638 rfl 1 rfl ?_
                                                          obtain ⟨J1655, eJ1655, hf⟩ := jp_s hf
                                                          have hJ1655 : ∀ (σ468 : LT), J1655 σ468 = some (1, σf) → V wL X G ad 8 Q (k + 17) (s + 102) σ468 1655 [(0, .ref b), (1, .ref (ad 0)), (2, .ref (ad 77)), (3, .ref (ad 100)), (4, .int i)] [] := by
                                                            intro σ468 hf
                                                            subst eJ1655
                                                            refine V_goto (t := 2282) C dL_law_1655 (by decide) ?_
                                                            refine V_wide (k2 := (k + 100)) (n2 := (s + 600)) (Nat.add_le_add_left (show 17 ≤ 100 by decide) k) (Nat.add_le_add_left (show 102 ≤ 600 by decide) s) ?_
                                                            exact hJ2282 _ hf
                                                          refine V_if_ne (t := 1655) (q := 1643) C dL_law_1640 (by decide) rfl (fun c469 => ?_) (fun c469 => ?_)
                                                          · replace hf := (ite_s hf).2 c469
                                                            refine V_sub (L' := [(0, .ref b), (1, .ref (ad 0)), (2, .ref (ad 77)), (3, .ref (ad 100)), (4, .int i)]) [2, 3, 4, 5, 6] rfl ?_
                                                            refine V_wide (k2 := (k + 17)) (n2 := (s + 102)) (Nat.add_le_add_left (show 1 ≤ 17 by decide) k) (Nat.add_le_add_left (show 6 ≤ 102 by decide) s) ?_
                                                            exact hJ1655 _ hf
                                                          · replace hf := (ite_s hf).1 c469
                                                            refine V_aload_n (q := 1644) C dL_law_1643 rfl rfl 5 rfl ?_
                                                            refine V_iconst (v := 0) (q := 1645) C dL_law_1644 rfl ic_0 ?_
                                                            refine V_outR (q := 1646) C dL_law_1645 rfl ?_
                                                            refine V_iload (q := 1648) C dL_law_1646 rfl 0 rfl ?_
                                                            refine V_i2l (q := 1649) C dL_law_1648 rfl ?_
                                                            refine V_lcmp (q := 1650) C dL_law_1649 rfl ?_
                                                            refine V_if_eq (t := 1655) (q := 1653) C dL_law_1650 (by decide) rfl (fun c470 => ?_) (fun c470 => ?_)
                                                            · replace hf := (ite_s hf).1 c470
                                                              refine V_sub (L' := [(0, .ref b), (1, .ref (ad 0)), (2, .ref (ad 77)), (3, .ref (ad 100)), (4, .int i)]) [2, 3, 4, 5, 6] rfl ?_
                                                              refine V_wide (k2 := (k + 17)) (n2 := (s + 102)) (Nat.add_le_add_left (show 1 ≤ 17 by decide) k) (Nat.add_le_add_left (show 6 ≤ 102 by decide) s) ?_
                                                              exact hJ1655 _ hf
                                                            · replace hf := (ite_s hf).2 c470
                                                              refine V_iconst (v := 0) (q := 1654) C dL_law_1653 rfl ic_0 ?_
                                                              exact absurd (pr_s hf).1 (by decide)
                                                        · replace hf := (ite_s hf).2 c467
                                                          refine V_iconst (v := 0) (q := 1637) C dL_law_1636 rfl ic_0 ?_
                                                          exact absurd (pr_s hf).1 (by decide)
                                                      · replace hf := (ite_s hf).2 c455
                                                        by_cases c471 : ((xs i.toNatClampNeg) &&& (63 : Int32)) = (25 : Int32)
                                                        · replace hf := (ite_s hf).1 c471
                                                          refine V_tabIn (t := 1658) C dL_law_39 (by rw [c471]; decide) (by rw [c471]; decide) (off := 1619) (by rw [c471]; decide) (by decide) ?_
                                                          refine V_aload_n (q := 1659) C dL_law_1658 rfl rfl 1 rfl ?_
                                                          refine V_aload_n (q := 1660) C dL_law_1659 rfl rfl 0 rfl ?_
                                                          refine V_iload (q := 1662) C dL_law_1660 rfl 4 rfl ?_
                                                          refine V_iconst (v := 1) (q := 1663) C dL_law_1662 rfl ic_1 ?_
                                                          refine V_iadd (q := 1664) C dL_law_1663 rfl ?_
                                                          obtain ⟨g472, hf⟩ := gd_s hf
                                                          refine V_sld (q := 1665) C hX hbl hbA (inb_in g472) dL_law_1664 rfl ?_
                                                          refine V_aload_n (q := 1666) C dL_law_1665 rfl rfl 3 rfl ?_
                                                          obtain ⟨r473, σ474, h475, hf⟩ := bd_s hf
                                                          refine V_callSW (av := [.ref (ad 0), .int (xs (i + (1 : Int32)).toNatClampNeg), .ref (ad 100)]) (st := []) (st1 := [.int r473]) (q := 1669) C (conL_state _ _ _ _ _ _ _ h475) q_1041 q_106 q_1039 q_1040 nmL_state (rmk rfl rfl (by decide) (by decide) (Nat.le_trans (Nat.add_le_add_left (show 2 ≤ 128 by decide) k) hk1) (Nat.le_trans (Nat.add_le_add_left (show 12 ≤ 768 by decide) s) hs1)) rfl rfl (Nat.le_of_ble_eq_true rfl) dL_law_1666 rfl rfl ?_
                                                          refine V_wide (k2 := (k + 2)) (n2 := (s + 12)) (Nat.le_refl _) (Nat.le_refl _) ?_
                                                          refine V_istore (L' := [(5, .int r473), (0, .ref b), (1, .ref (ad 0)), (2, .ref (ad 77)), (3, .ref (ad 100)), (4, .int i)]) (q := 1671) C dL_law_1669 rfl (by decide) rfl ?_
                                                          refine V_aload_n (q := 1672) C dL_law_1671 rfl rfl 3 rfl ?_
                                                          refine V_aload_n (q := 1673) C dL_law_1672 rfl rfl 1 rfl ?_
                                                          refine V_iload (q := 1675) C dL_law_1673 rfl 5 rfl ?_
                                                          refine V_iconst (v := 1) (q := 1676) C dL_law_1675 rfl ic_1 ?_
                                                          refine V_iadd (q := 1677) C dL_law_1676 rfl ?_
                                                          obtain ⟨g476, hf⟩ := gd_s hf
                                                          refine V_sld (q := 1678) C hX hbl hbA (inb_in g476) dL_law_1677 rfl ?_
                                                          obtain ⟨r477, σ478, h479, hf⟩ := bd_s hf
                                                          refine V_callVs (av := [.int (xs (i + (1 : Int32)).toNatClampNeg)]) (st := []) (st1 := [.int r477]) (q := 1681) (subM (τ := σ474)) C 0 (by decide) (eM_0 G (fun i => ad (77 + i)) (σ474.2.1 0)) rfl rfl (conX7_state _ _ _ _ _ _ _ h479) q_1507 q_114 q_1504 q_1505 q_1506 nmX7_state (rmk rfl rfl (by decide) (by decide) (Nat.le_trans (Nat.add_le_add_left (show 2 ≤ 128 by decide) k) hk1) (Nat.le_trans (Nat.add_le_add_left (show 12 ≤ 768 by decide) s) hs1)) rfl rfl (Nat.le_of_ble_eq_true rfl) dL_law_1678 rfl rfl ?_
                                                          refine V_lets hf (fun σ480 hf => ?_)
                                                          refine V_wide (k2 := (k + 2)) (n2 := (s + 12)) (Nat.le_refl _) (Nat.le_refl _) ?_
                                                          refine V_istore (L' := [(6, .int r477), (5, .int r473), (0, .ref b), (1, .ref (ad 0)), (2, .ref (ad 77)), (3, .ref (ad 100)), (4, .int i)]) (q := 1683) C dL_law_1681 rfl (by decide) rfl ?_
                                                          refine V_aload_n (q := 1684) C dL_law_1683 rfl rfl 4 rfl ?_
                                                          obtain ⟨r481, σ482, h483, hf⟩ := bd_s hf
                                                          refine V_callVs (av := []) (st := []) (st1 := [.int r481]) (q := 1687) (subM (τ := σ480)) C 0 (by decide) (eM_0 G (fun i => ad (77 + i)) (σ480.2.1 0)) rfl rfl (conX7_thrown _ _ _  _ _ _ h483) q_1237 q_114 q_1234 q_1235 q_1236 nmX7_thrown (rmk rfl rfl (by decide) (by decide) (Nat.le_trans (Nat.add_le_add_left (show 2 ≤ 128 by decide) k) hk1) (Nat.le_trans (Nat.add_le_add_left (show 12 ≤ 768 by decide) s) hs1)) rfl rfl (Nat.le_of_ble_eq_true rfl) dL_law_1684 rfl rfl ?_
                                                          refine V_lets hf (fun σ484 hf => ?_)
                                                          refine V_wide (k2 := (k + 2)) (n2 := (s + 12)) (Nat.le_refl _) (Nat.le_refl _) ?_
                                                          refine V_iload (q := 1689) C dL_law_1687 rfl 1 rfl ?_
                                                          refine V_icmp_eq (t := 1694) (q := 1692) C dL_law_1689 (by decide) rfl (fun c485 => ?_) (fun c485 => ?_)
                                                          · replace hf := (ite_s hf).1 c485
                                                            refine V_iload (q := 1696) C dL_law_1694 rfl 1 rfl ?_
                                                            obtain ⟨J1711, eJ1711, hf⟩ := jp_s hf
                                                            have hJ1711 : ∀ (σ486 : LT), J1711 σ486 = some (1, σf) → V wL X G ad 8 Q (k + 18) (s + 108) σ486 1711 [(0, .ref b), (1, .ref (ad 0)), (2, .ref (ad 77)), (3, .ref (ad 100)), (4, .int i)] [] := by
                                                              intro σ486 hf
                                                              subst eJ1711
                                                              refine V_goto (t := 2282) C dL_law_1711 (by decide) ?_
                                                              refine V_wide (k2 := (k + 100)) (n2 := (s + 600)) (Nat.add_le_add_left (show 18 ≤ 100 by decide) k) (Nat.add_le_add_left (show 108 ≤ 600 by decide) s) ?_
                                                              exact hJ2282 _ hf
                                                            refine V_if_ne (t := 1711) (q := 1699) C dL_law_1696 (by decide) rfl (fun c487 => ?_) (fun c487 => ?_)
                                                            · replace hf := (ite_s hf).2 c487
                                                              refine V_sub (L' := [(0, .ref b), (1, .ref (ad 0)), (2, .ref (ad 77)), (3, .ref (ad 100)), (4, .int i)]) [2, 3, 4, 5, 6] rfl ?_
                                                              refine V_wide (k2 := (k + 18)) (n2 := (s + 108)) (Nat.add_le_add_left (show 2 ≤ 18 by decide) k) (Nat.add_le_add_left (show 12 ≤ 108 by decide) s) ?_
                                                              exact hJ1711 _ hf
                                                            · replace hf := (ite_s hf).1 c487
                                                              refine V_aload_n (q := 1700) C dL_law_1699 rfl rfl 5 rfl ?_
                                                              refine V_iconst (v := 0) (q := 1701) C dL_law_1700 rfl ic_0 ?_
                                                              refine V_outR (q := 1702) C dL_law_1701 rfl ?_
                                                              refine V_iload (q := 1704) C dL_law_1702 rfl 0 rfl ?_
                                                              refine V_i2l (q := 1705) C dL_law_1704 rfl ?_
                                                              refine V_lcmp (q := 1706) C dL_law_1705 rfl ?_
                                                              refine V_if_eq (t := 1711) (q := 1709) C dL_law_1706 (by decide) rfl (fun c488 => ?_) (fun c488 => ?_)
                                                              · replace hf := (ite_s hf).1 c488
                                                                refine V_sub (L' := [(0, .ref b), (1, .ref (ad 0)), (2, .ref (ad 77)), (3, .ref (ad 100)), (4, .int i)]) [2, 3, 4, 5, 6] rfl ?_
                                                                refine V_wide (k2 := (k + 18)) (n2 := (s + 108)) (Nat.add_le_add_left (show 2 ≤ 18 by decide) k) (Nat.add_le_add_left (show 12 ≤ 108 by decide) s) ?_
                                                                exact hJ1711 _ hf
                                                              · replace hf := (ite_s hf).2 c488
                                                                refine V_iconst (v := 0) (q := 1710) C dL_law_1709 rfl ic_0 ?_
                                                                exact absurd (pr_s hf).1 (by decide)
                                                          · replace hf := (ite_s hf).2 c485
                                                            refine V_iconst (v := 0) (q := 1693) C dL_law_1692 rfl ic_0 ?_
                                                            exact absurd (pr_s hf).1 (by decide)
                                                        · replace hf := (ite_s hf).2 c471
                                                          by_cases c489 : ((xs i.toNatClampNeg) &&& (63 : Int32)) = (26 : Int32)
                                                          · replace hf := (ite_s hf).1 c489
                                                            refine V_tabIn (t := 1714) C dL_law_39 (by rw [c489]; decide) (by rw [c489]; decide) (off := 1675) (by rw [c489]; decide) (by decide) ?_
                                                            refine V_aload_n (q := 1715) C dL_law_1714 rfl rfl 1 rfl ?_
                                                            refine V_aload_n (q := 1716) C dL_law_1715 rfl rfl 0 rfl ?_
                                                            refine V_iload (q := 1718) C dL_law_1716 rfl 4 rfl ?_
                                                            refine V_iconst (v := 1) (q := 1719) C dL_law_1718 rfl ic_1 ?_
                                                            refine V_iadd (q := 1720) C dL_law_1719 rfl ?_
                                                            obtain ⟨g490, hf⟩ := gd_s hf
                                                            refine V_sld (q := 1721) C hX hbl hbA (inb_in g490) dL_law_1720 rfl ?_
                                                            refine V_aload_n (q := 1722) C dL_law_1721 rfl rfl 3 rfl ?_
                                                            obtain ⟨r491, σ492, h493, hf⟩ := bd_s hf
                                                            refine V_callSW (av := [.ref (ad 0), .int (xs (i + (1 : Int32)).toNatClampNeg), .ref (ad 100)]) (st := []) (st1 := [.int r491]) (q := 1725) C (conL_price _ _ _ _ _ _ _ h493) q_1048 q_106 q_1046 q_1047 nmL_price (rmk rfl rfl (by decide) (by decide) (Nat.le_trans (Nat.add_le_add_left (show 3 ≤ 128 by decide) k) hk1) (Nat.le_trans (Nat.add_le_add_left (show 18 ≤ 768 by decide) s) hs1)) rfl rfl (Nat.le_of_ble_eq_true rfl) dL_law_1722 rfl rfl ?_
                                                            refine V_wide (k2 := (k + 3)) (n2 := (s + 18)) (Nat.le_refl _) (Nat.le_refl _) ?_
                                                            refine V_istore (L' := [(5, .int r491), (0, .ref b), (1, .ref (ad 0)), (2, .ref (ad 77)), (3, .ref (ad 100)), (4, .int i)]) (q := 1727) C dL_law_1725 rfl (by decide) rfl ?_
                                                            refine V_aload_n (q := 1728) C dL_law_1727 rfl rfl 3 rfl ?_
                                                            refine V_aload_n (q := 1729) C dL_law_1728 rfl rfl 1 rfl ?_
                                                            refine V_iload (q := 1731) C dL_law_1729 rfl 5 rfl ?_
                                                            refine V_iconst (v := 1) (q := 1732) C dL_law_1731 rfl ic_1 ?_
                                                            refine V_iadd (q := 1733) C dL_law_1732 rfl ?_
                                                            obtain ⟨g494, hf⟩ := gd_s hf
                                                            refine V_sld (q := 1734) C hX hbl hbA (inb_in g494) dL_law_1733 rfl ?_
                                                            obtain ⟨r495, σ496, h497, hf⟩ := bd_s hf
                                                            refine V_callVs (av := [.int (xs (i + (1 : Int32)).toNatClampNeg)]) (st := []) (st1 := [.int r495]) (q := 1737) (subM (τ := σ492)) C 0 (by decide) (eM_0 G (fun i => ad (77 + i)) (σ492.2.1 0)) rfl rfl (conX7_price _ _ _ _ _ _ _ h497) q_1511 q_114 q_1508 q_1509 q_1510 nmX7_price (rmk rfl rfl (by decide) (by decide) (Nat.le_trans (Nat.add_le_add_left (show 3 ≤ 128 by decide) k) hk1) (Nat.le_trans (Nat.add_le_add_left (show 18 ≤ 768 by decide) s) hs1)) rfl rfl (Nat.le_of_ble_eq_true rfl) dL_law_1734 rfl rfl ?_
                                                            refine V_lets hf (fun σ498 hf => ?_)
                                                            refine V_wide (k2 := (k + 3)) (n2 := (s + 18)) (Nat.le_refl _) (Nat.le_refl _) ?_
                                                            refine V_istore (L' := [(6, .int r495), (5, .int r491), (0, .ref b), (1, .ref (ad 0)), (2, .ref (ad 77)), (3, .ref (ad 100)), (4, .int i)]) (q := 1739) C dL_law_1737 rfl (by decide) rfl ?_
                                                            refine V_aload_n (q := 1740) C dL_law_1739 rfl rfl 4 rfl ?_
                                                            obtain ⟨r499, σ500, h501, hf⟩ := bd_s hf
                                                            refine V_callVs (av := []) (st := []) (st1 := [.int r499]) (q := 1743) (subM (τ := σ498)) C 0 (by decide) (eM_0 G (fun i => ad (77 + i)) (σ498.2.1 0)) rfl rfl (conX7_thrown _ _ _  _ _ _ h501) q_1237 q_114 q_1234 q_1235 q_1236 nmX7_thrown (rmk rfl rfl (by decide) (by decide) (Nat.le_trans (Nat.add_le_add_left (show 3 ≤ 128 by decide) k) hk1) (Nat.le_trans (Nat.add_le_add_left (show 18 ≤ 768 by decide) s) hs1)) rfl rfl (Nat.le_of_ble_eq_true rfl) dL_law_1740 rfl rfl ?_
                                                            refine V_lets hf (fun σ502 hf => ?_)
                                                            refine V_wide (k2 := (k + 3)) (n2 := (s + 18)) (Nat.le_refl _) (Nat.le_refl _) ?_
                                                            refine V_iload (q := 1745) C dL_law_1743 rfl 1 rfl ?_
                                                            refine V_icmp_eq (t := 1750) (q := 1748) C dL_law_1745 (by decide) rfl (fun c503 => ?_) (fun c503 => ?_)
                                                            · replace hf := (ite_s hf).1 c503
                                                              refine V_iload (q := 1752) C dL_law_1750 rfl 1 rfl ?_
                                                              obtain ⟨J1767, eJ1767, hf⟩ := jp_s hf
                                                              have hJ1767 : ∀ (σ504 : LT), J1767 σ504 = some (1, σf) → V wL X G ad 8 Q (k + 19) (s + 114) σ504 1767 [(0, .ref b), (1, .ref (ad 0)), (2, .ref (ad 77)), (3, .ref (ad 100)), (4, .int i)] [] := by
                                                                intro σ504 hf
                                                                subst eJ1767
                                                                refine V_goto (t := 2282) C dL_law_1767 (by decide) ?_
                                                                refine V_wide (k2 := (k + 100)) (n2 := (s + 600)) (Nat.add_le_add_left (show 19 ≤ 100 by decide) k) (Nat.add_le_add_left (show 114 ≤ 600 by decide) s) ?_
                                                                exact hJ2282 _ hf
                                                              refine V_if_ne (t := 1767) (q := 1755) C dL_law_1752 (by decide) rfl (fun c505 => ?_) (fun c505 => ?_)
                                                              · replace hf := (ite_s hf).2 c505
                                                                refine V_sub (L' := [(0, .ref b), (1, .ref (ad 0)), (2, .ref (ad 77)), (3, .ref (ad 100)), (4, .int i)]) [2, 3, 4, 5, 6] rfl ?_
                                                                refine V_wide (k2 := (k + 19)) (n2 := (s + 114)) (Nat.add_le_add_left (show 3 ≤ 19 by decide) k) (Nat.add_le_add_left (show 18 ≤ 114 by decide) s) ?_
                                                                exact hJ1767 _ hf
                                                              · replace hf := (ite_s hf).1 c505
                                                                refine V_aload_n (q := 1756) C dL_law_1755 rfl rfl 5 rfl ?_
                                                                refine V_iconst (v := 0) (q := 1757) C dL_law_1756 rfl ic_0 ?_
                                                                refine V_outR (q := 1758) C dL_law_1757 rfl ?_
                                                                refine V_iload (q := 1760) C dL_law_1758 rfl 0 rfl ?_
                                                                refine V_i2l (q := 1761) C dL_law_1760 rfl ?_
                                                                refine V_lcmp (q := 1762) C dL_law_1761 rfl ?_
                                                                refine V_if_eq (t := 1767) (q := 1765) C dL_law_1762 (by decide) rfl (fun c506 => ?_) (fun c506 => ?_)
                                                                · replace hf := (ite_s hf).1 c506
                                                                  refine V_sub (L' := [(0, .ref b), (1, .ref (ad 0)), (2, .ref (ad 77)), (3, .ref (ad 100)), (4, .int i)]) [2, 3, 4, 5, 6] rfl ?_
                                                                  refine V_wide (k2 := (k + 19)) (n2 := (s + 114)) (Nat.add_le_add_left (show 3 ≤ 19 by decide) k) (Nat.add_le_add_left (show 18 ≤ 114 by decide) s) ?_
                                                                  exact hJ1767 _ hf
                                                                · replace hf := (ite_s hf).2 c506
                                                                  refine V_iconst (v := 0) (q := 1766) C dL_law_1765 rfl ic_0 ?_
                                                                  exact absurd (pr_s hf).1 (by decide)
                                                            · replace hf := (ite_s hf).2 c503
                                                              refine V_iconst (v := 0) (q := 1749) C dL_law_1748 rfl ic_0 ?_
                                                              exact absurd (pr_s hf).1 (by decide)
                                                          · replace hf := (ite_s hf).2 c489
                                                            by_cases c507 : ((xs i.toNatClampNeg) &&& (63 : Int32)) = (27 : Int32)
                                                            · replace hf := (ite_s hf).1 c507
                                                              refine V_tabIn (t := 1770) C dL_law_39 (by rw [c507]; decide) (by rw [c507]; decide) (off := 1731) (by rw [c507]; decide) (by decide) ?_
                                                              refine V_aload_n (q := 1771) C dL_law_1770 rfl rfl 1 rfl ?_
                                                              refine V_aload_n (q := 1772) C dL_law_1771 rfl rfl 0 rfl ?_
                                                              refine V_iload (q := 1774) C dL_law_1772 rfl 4 rfl ?_
                                                              refine V_iconst (v := 1) (q := 1775) C dL_law_1774 rfl ic_1 ?_
                                                              refine V_iadd (q := 1776) C dL_law_1775 rfl ?_
                                                              obtain ⟨g508, hf⟩ := gd_s hf
                                                              refine V_sld (q := 1777) C hX hbl hbA (inb_in g508) dL_law_1776 rfl ?_
                                                              refine V_aload_n (q := 1778) C dL_law_1777 rfl rfl 3 rfl ?_
                                                              obtain ⟨r509, σ510, h511, hf⟩ := bd_s hf
                                                              refine V_callSW (av := [.ref (ad 0), .int (xs (i + (1 : Int32)).toNatClampNeg), .ref (ad 100)]) (st := []) (st1 := [.int r509]) (q := 1781) C (conL_frozenBy _ _ _ _ _ _ _ h511) q_1056 q_106 q_1054 q_1055 nmL_frozenBy (rmk rfl rfl (by decide) (by decide) (Nat.le_trans (Nat.add_le_add_left (show 3 ≤ 128 by decide) k) hk1) (Nat.le_trans (Nat.add_le_add_left (show 18 ≤ 768 by decide) s) hs1)) rfl rfl (Nat.le_of_ble_eq_true rfl) dL_law_1778 rfl rfl ?_
                                                              refine V_wide (k2 := (k + 3)) (n2 := (s + 18)) (Nat.le_refl _) (Nat.le_refl _) ?_
                                                              refine V_istore (L' := [(5, .int r509), (0, .ref b), (1, .ref (ad 0)), (2, .ref (ad 77)), (3, .ref (ad 100)), (4, .int i)]) (q := 1783) C dL_law_1781 rfl (by decide) rfl ?_
                                                              refine V_aload_n (q := 1784) C dL_law_1783 rfl rfl 3 rfl ?_
                                                              refine V_aload_n (q := 1785) C dL_law_1784 rfl rfl 1 rfl ?_
                                                              refine V_iload (q := 1787) C dL_law_1785 rfl 5 rfl ?_
                                                              refine V_iconst (v := 1) (q := 1788) C dL_law_1787 rfl ic_1 ?_
                                                              refine V_iadd (q := 1789) C dL_law_1788 rfl ?_
                                                              obtain ⟨g512, hf⟩ := gd_s hf
                                                              refine V_sld (q := 1790) C hX hbl hbA (inb_in g512) dL_law_1789 rfl ?_
                                                              obtain ⟨r513, σ514, h515, hf⟩ := bd_s hf
                                                              refine V_callVs (av := [.int (xs (i + (1 : Int32)).toNatClampNeg)]) (st := []) (st1 := [.int r513]) (q := 1793) (subM (τ := σ510)) C 0 (by decide) (eM_0 G (fun i => ad (77 + i)) (σ510.2.1 0)) rfl rfl (conX7_frozenBy _ _ _ _ _ _ _ h515) q_1519 q_114 q_1516 q_1517 q_1518 nmX7_frozenBy (rmk rfl rfl (by decide) (by decide) (Nat.le_trans (Nat.add_le_add_left (show 3 ≤ 128 by decide) k) hk1) (Nat.le_trans (Nat.add_le_add_left (show 18 ≤ 768 by decide) s) hs1)) rfl rfl (Nat.le_of_ble_eq_true rfl) dL_law_1790 rfl rfl ?_
                                                              refine V_lets hf (fun σ516 hf => ?_)
                                                              refine V_wide (k2 := (k + 3)) (n2 := (s + 18)) (Nat.le_refl _) (Nat.le_refl _) ?_
                                                              refine V_istore (L' := [(6, .int r513), (5, .int r509), (0, .ref b), (1, .ref (ad 0)), (2, .ref (ad 77)), (3, .ref (ad 100)), (4, .int i)]) (q := 1795) C dL_law_1793 rfl (by decide) rfl ?_
                                                              refine V_aload_n (q := 1796) C dL_law_1795 rfl rfl 4 rfl ?_
                                                              obtain ⟨r517, σ518, h519, hf⟩ := bd_s hf
                                                              refine V_callVs (av := []) (st := []) (st1 := [.int r517]) (q := 1799) (subM (τ := σ516)) C 0 (by decide) (eM_0 G (fun i => ad (77 + i)) (σ516.2.1 0)) rfl rfl (conX7_thrown _ _ _  _ _ _ h519) q_1237 q_114 q_1234 q_1235 q_1236 nmX7_thrown (rmk rfl rfl (by decide) (by decide) (Nat.le_trans (Nat.add_le_add_left (show 3 ≤ 128 by decide) k) hk1) (Nat.le_trans (Nat.add_le_add_left (show 18 ≤ 768 by decide) s) hs1)) rfl rfl (Nat.le_of_ble_eq_true rfl) dL_law_1796 rfl rfl ?_
                                                              refine V_lets hf (fun σ520 hf => ?_)
                                                              refine V_wide (k2 := (k + 3)) (n2 := (s + 18)) (Nat.le_refl _) (Nat.le_refl _) ?_
                                                              refine V_iload (q := 1801) C dL_law_1799 rfl 1 rfl ?_
                                                              refine V_icmp_eq (t := 1806) (q := 1804) C dL_law_1801 (by decide) rfl (fun c521 => ?_) (fun c521 => ?_)
                                                              · replace hf := (ite_s hf).1 c521
                                                                refine V_iload (q := 1808) C dL_law_1806 rfl 1 rfl ?_
                                                                obtain ⟨J1823, eJ1823, hf⟩ := jp_s hf
                                                                have hJ1823 : ∀ (σ522 : LT), J1823 σ522 = some (1, σf) → V wL X G ad 8 Q (k + 19) (s + 114) σ522 1823 [(0, .ref b), (1, .ref (ad 0)), (2, .ref (ad 77)), (3, .ref (ad 100)), (4, .int i)] [] := by
                                                                  intro σ522 hf
                                                                  subst eJ1823
                                                                  refine V_goto (t := 2282) C dL_law_1823 (by decide) ?_
                                                                  refine V_wide (k2 := (k + 100)) (n2 := (s + 600)) (Nat.add_le_add_left (show 19 ≤ 100 by decide) k) (Nat.add_le_add_left (show 114 ≤ 600 by decide) s) ?_
                                                                  exact hJ2282 _ hf
                                                                refine V_if_ne (t := 1823) (q := 1811) C dL_law_1808 (by decide) rfl (fun c523 => ?_) (fun c523 => ?_)
                                                                · replace hf := (ite_s hf).2 c523
                                                                  refine V_sub (L' := [(0, .ref b), (1, .ref (ad 0)), (2, .ref (ad 77)), (3, .ref (ad 100)), (4, .int i)]) [2, 3, 4, 5, 6] rfl ?_
                                                                  refine V_wide (k2 := (k + 19)) (n2 := (s + 114)) (Nat.add_le_add_left (show 3 ≤ 19 by decide) k) (Nat.add_le_add_left (show 18 ≤ 114 by decide) s) ?_
                                                                  exact hJ1823 _ hf
                                                                · replace hf := (ite_s hf).1 c523
                                                                  refine V_aload_n (q := 1812) C dL_law_1811 rfl rfl 5 rfl ?_
                                                                  refine V_iconst (v := 0) (q := 1813) C dL_law_1812 rfl ic_0 ?_
                                                                  refine V_outR (q := 1814) C dL_law_1813 rfl ?_
                                                                  refine V_iload (q := 1816) C dL_law_1814 rfl 0 rfl ?_
                                                                  refine V_i2l (q := 1817) C dL_law_1816 rfl ?_
                                                                  refine V_lcmp (q := 1818) C dL_law_1817 rfl ?_
                                                                  refine V_if_eq (t := 1823) (q := 1821) C dL_law_1818 (by decide) rfl (fun c524 => ?_) (fun c524 => ?_)
                                                                  · replace hf := (ite_s hf).1 c524
                                                                    refine V_sub (L' := [(0, .ref b), (1, .ref (ad 0)), (2, .ref (ad 77)), (3, .ref (ad 100)), (4, .int i)]) [2, 3, 4, 5, 6] rfl ?_
                                                                    refine V_wide (k2 := (k + 19)) (n2 := (s + 114)) (Nat.add_le_add_left (show 3 ≤ 19 by decide) k) (Nat.add_le_add_left (show 18 ≤ 114 by decide) s) ?_
                                                                    exact hJ1823 _ hf
                                                                  · replace hf := (ite_s hf).2 c524
                                                                    refine V_iconst (v := 0) (q := 1822) C dL_law_1821 rfl ic_0 ?_
                                                                    exact absurd (pr_s hf).1 (by decide)
                                                              · replace hf := (ite_s hf).2 c521
                                                                refine V_iconst (v := 0) (q := 1805) C dL_law_1804 rfl ic_0 ?_
                                                                exact absurd (pr_s hf).1 (by decide)
                                                            · replace hf := (ite_s hf).2 c507
                                                              by_cases c525 : ((xs i.toNatClampNeg) &&& (63 : Int32)) = (28 : Int32)
                                                              · replace hf := (ite_s hf).1 c525
                                                                refine V_tabIn (t := 1826) C dL_law_39 (by rw [c525]; decide) (by rw [c525]; decide) (off := 1787) (by rw [c525]; decide) (by decide) ?_
                                                                refine V_aload_n (q := 1827) C dL_law_1826 rfl rfl 1 rfl ?_
                                                                refine V_aload_n (q := 1828) C dL_law_1827 rfl rfl 0 rfl ?_
                                                                refine V_iload (q := 1830) C dL_law_1828 rfl 4 rfl ?_
                                                                refine V_iconst (v := 1) (q := 1831) C dL_law_1830 rfl ic_1 ?_
                                                                refine V_iadd (q := 1832) C dL_law_1831 rfl ?_
                                                                obtain ⟨g526, hf⟩ := gd_s hf
                                                                refine V_sld (q := 1833) C hX hbl hbA (inb_in g526) dL_law_1832 rfl ?_
                                                                refine V_aload_n (q := 1834) C dL_law_1833 rfl rfl 3 rfl ?_
                                                                obtain ⟨r527, σ528, h529, hf⟩ := bd_s hf
                                                                refine V_callSW (av := [.ref (ad 0), .int (xs (i + (1 : Int32)).toNatClampNeg), .ref (ad 100)]) (st := []) (st1 := [.int r527]) (q := 1837) C (conL_auction _ _ _ _ _ _ _ h529) q_1064 q_106 q_1062 q_1063 nmL_auction (rmk rfl rfl (by decide) (by decide) (Nat.le_trans (Nat.add_le_add_left (show 1 ≤ 128 by decide) k) hk1) (Nat.le_trans (Nat.add_le_add_left (show 6 ≤ 768 by decide) s) hs1)) rfl rfl (Nat.le_of_ble_eq_true rfl) dL_law_1834 rfl rfl ?_
                                                                refine V_wide (k2 := (k + 1)) (n2 := (s + 6)) (Nat.le_refl _) (Nat.le_refl _) ?_
                                                                refine V_istore (L' := [(5, .int r527), (0, .ref b), (1, .ref (ad 0)), (2, .ref (ad 77)), (3, .ref (ad 100)), (4, .int i)]) (q := 1839) C dL_law_1837 rfl (by decide) rfl ?_
                                                                refine V_aload_n (q := 1840) C dL_law_1839 rfl rfl 3 rfl ?_
                                                                refine V_aload_n (q := 1841) C dL_law_1840 rfl rfl 1 rfl ?_
                                                                refine V_iload (q := 1843) C dL_law_1841 rfl 5 rfl ?_
                                                                refine V_iconst (v := 1) (q := 1844) C dL_law_1843 rfl ic_1 ?_
                                                                refine V_iadd (q := 1845) C dL_law_1844 rfl ?_
                                                                obtain ⟨g530, hf⟩ := gd_s hf
                                                                refine V_sld (q := 1846) C hX hbl hbA (inb_in g530) dL_law_1845 rfl ?_
                                                                obtain ⟨r531, σ532, h533, hf⟩ := bd_s hf
                                                                refine V_callVs (av := [.int (xs (i + (1 : Int32)).toNatClampNeg)]) (st := []) (st1 := [.int r531]) (q := 1849) (subM (τ := σ528)) C 0 (by decide) (eM_0 G (fun i => ad (77 + i)) (σ528.2.1 0)) rfl rfl (conX7_auction _ _ _ _ _ _ _ h533) q_1523 q_114 q_1520 q_1521 q_1522 nmX7_auction (rmk rfl rfl (by decide) (by decide) (Nat.le_trans (Nat.add_le_add_left (show 1 ≤ 128 by decide) k) hk1) (Nat.le_trans (Nat.add_le_add_left (show 6 ≤ 768 by decide) s) hs1)) rfl rfl (Nat.le_of_ble_eq_true rfl) dL_law_1846 rfl rfl ?_
                                                                refine V_lets hf (fun σ534 hf => ?_)
                                                                refine V_wide (k2 := (k + 1)) (n2 := (s + 6)) (Nat.le_refl _) (Nat.le_refl _) ?_
                                                                refine V_istore (L' := [(6, .int r531), (5, .int r527), (0, .ref b), (1, .ref (ad 0)), (2, .ref (ad 77)), (3, .ref (ad 100)), (4, .int i)]) (q := 1851) C dL_law_1849 rfl (by decide) rfl ?_
                                                                refine V_aload_n (q := 1852) C dL_law_1851 rfl rfl 4 rfl ?_
                                                                obtain ⟨r535, σ536, h537, hf⟩ := bd_s hf
                                                                refine V_callVs (av := []) (st := []) (st1 := [.int r535]) (q := 1855) (subM (τ := σ534)) C 0 (by decide) (eM_0 G (fun i => ad (77 + i)) (σ534.2.1 0)) rfl rfl (conX7_thrown _ _ _  _ _ _ h537) q_1237 q_114 q_1234 q_1235 q_1236 nmX7_thrown (rmk rfl rfl (by decide) (by decide) (Nat.le_trans (Nat.add_le_add_left (show 1 ≤ 128 by decide) k) hk1) (Nat.le_trans (Nat.add_le_add_left (show 6 ≤ 768 by decide) s) hs1)) rfl rfl (Nat.le_of_ble_eq_true rfl) dL_law_1852 rfl rfl ?_
                                                                refine V_lets hf (fun σ538 hf => ?_)
                                                                refine V_wide (k2 := (k + 1)) (n2 := (s + 6)) (Nat.le_refl _) (Nat.le_refl _) ?_
                                                                refine V_iload (q := 1857) C dL_law_1855 rfl 1 rfl ?_
                                                                refine V_icmp_eq (t := 1862) (q := 1860) C dL_law_1857 (by decide) rfl (fun c539 => ?_) (fun c539 => ?_)
                                                                · replace hf := (ite_s hf).1 c539
                                                                  refine V_iload (q := 1864) C dL_law_1862 rfl 1 rfl ?_
                                                                  obtain ⟨J1879, eJ1879, hf⟩ := jp_s hf
                                                                  have hJ1879 : ∀ (σ540 : LT), J1879 σ540 = some (1, σf) → V wL X G ad 8 Q (k + 17) (s + 102) σ540 1879 [(0, .ref b), (1, .ref (ad 0)), (2, .ref (ad 77)), (3, .ref (ad 100)), (4, .int i)] [] := by
                                                                    intro σ540 hf
                                                                    subst eJ1879
                                                                    refine V_goto (t := 2282) C dL_law_1879 (by decide) ?_
                                                                    refine V_wide (k2 := (k + 100)) (n2 := (s + 600)) (Nat.add_le_add_left (show 17 ≤ 100 by decide) k) (Nat.add_le_add_left (show 102 ≤ 600 by decide) s) ?_
                                                                    exact hJ2282 _ hf
                                                                  refine V_if_ne (t := 1879) (q := 1867) C dL_law_1864 (by decide) rfl (fun c541 => ?_) (fun c541 => ?_)
                                                                  · replace hf := (ite_s hf).2 c541
                                                                    refine V_sub (L' := [(0, .ref b), (1, .ref (ad 0)), (2, .ref (ad 77)), (3, .ref (ad 100)), (4, .int i)]) [2, 3, 4, 5, 6] rfl ?_
                                                                    refine V_wide (k2 := (k + 17)) (n2 := (s + 102)) (Nat.add_le_add_left (show 1 ≤ 17 by decide) k) (Nat.add_le_add_left (show 6 ≤ 102 by decide) s) ?_
                                                                    exact hJ1879 _ hf
                                                                  · replace hf := (ite_s hf).1 c541
                                                                    refine V_aload_n (q := 1868) C dL_law_1867 rfl rfl 5 rfl ?_
                                                                    refine V_iconst (v := 0) (q := 1869) C dL_law_1868 rfl ic_0 ?_
                                                                    refine V_outR (q := 1870) C dL_law_1869 rfl ?_
                                                                    refine V_iload (q := 1872) C dL_law_1870 rfl 0 rfl ?_
                                                                    refine V_i2l (q := 1873) C dL_law_1872 rfl ?_
                                                                    refine V_lcmp (q := 1874) C dL_law_1873 rfl ?_
                                                                    refine V_if_eq (t := 1879) (q := 1877) C dL_law_1874 (by decide) rfl (fun c542 => ?_) (fun c542 => ?_)
                                                                    · replace hf := (ite_s hf).1 c542
                                                                      refine V_sub (L' := [(0, .ref b), (1, .ref (ad 0)), (2, .ref (ad 77)), (3, .ref (ad 100)), (4, .int i)]) [2, 3, 4, 5, 6] rfl ?_
                                                                      refine V_wide (k2 := (k + 17)) (n2 := (s + 102)) (Nat.add_le_add_left (show 1 ≤ 17 by decide) k) (Nat.add_le_add_left (show 6 ≤ 102 by decide) s) ?_
                                                                      exact hJ1879 _ hf
                                                                    · replace hf := (ite_s hf).2 c542
                                                                      refine V_iconst (v := 0) (q := 1878) C dL_law_1877 rfl ic_0 ?_
                                                                      exact absurd (pr_s hf).1 (by decide)
                                                                · replace hf := (ite_s hf).2 c539
                                                                  refine V_iconst (v := 0) (q := 1861) C dL_law_1860 rfl ic_0 ?_
                                                                  exact absurd (pr_s hf).1 (by decide)
                                                              · replace hf := (ite_s hf).2 c525
                                                                by_cases c543 : ((xs i.toNatClampNeg) &&& (63 : Int32)) = (29 : Int32)
                                                                · replace hf := (ite_s hf).1 c543
                                                                  refine V_tabIn (t := 1882) C dL_law_39 (by rw [c543]; decide) (by rw [c543]; decide) (off := 1843) (by rw [c543]; decide) (by decide) ?_
                                                                  refine V_aload_n (q := 1883) C dL_law_1882 rfl rfl 1 rfl ?_
                                                                  refine V_aload_n (q := 1884) C dL_law_1883 rfl rfl 0 rfl ?_
                                                                  refine V_iload (q := 1886) C dL_law_1884 rfl 4 rfl ?_
                                                                  refine V_iconst (v := 1) (q := 1887) C dL_law_1886 rfl ic_1 ?_
                                                                  refine V_iadd (q := 1888) C dL_law_1887 rfl ?_
                                                                  obtain ⟨g544, hf⟩ := gd_s hf
                                                                  refine V_sld (q := 1889) C hX hbl hbA (inb_in g544) dL_law_1888 rfl ?_
                                                                  refine V_aload_n (q := 1890) C dL_law_1889 rfl rfl 3 rfl ?_
                                                                  obtain ⟨r545, σ546, h547, hf⟩ := bd_s hf
                                                                  refine V_callSW (av := [.ref (ad 0), .int (xs (i + (1 : Int32)).toNatClampNeg), .ref (ad 100)]) (st := []) (st1 := [.int r545]) (q := 1893) C (conL_event _ _ _ _ _ _ _ h547) q_1075 q_106 q_1073 q_1074 nmL_event (rmk rfl rfl (by decide) (by decide) (Nat.le_trans (Nat.add_le_add_left (show 2 ≤ 128 by decide) k) hk1) (Nat.le_trans (Nat.add_le_add_left (show 12 ≤ 768 by decide) s) hs1)) rfl rfl (Nat.le_of_ble_eq_true rfl) dL_law_1890 rfl rfl ?_
                                                                  refine V_wide (k2 := (k + 2)) (n2 := (s + 12)) (Nat.le_refl _) (Nat.le_refl _) ?_
                                                                  refine V_istore (L' := [(5, .int r545), (0, .ref b), (1, .ref (ad 0)), (2, .ref (ad 77)), (3, .ref (ad 100)), (4, .int i)]) (q := 1895) C dL_law_1893 rfl (by decide) rfl ?_
                                                                  refine V_aload_n (q := 1896) C dL_law_1895 rfl rfl 3 rfl ?_
                                                                  refine V_aload_n (q := 1897) C dL_law_1896 rfl rfl 1 rfl ?_
                                                                  refine V_iload (q := 1899) C dL_law_1897 rfl 5 rfl ?_
                                                                  refine V_iconst (v := 1) (q := 1900) C dL_law_1899 rfl ic_1 ?_
                                                                  refine V_iadd (q := 1901) C dL_law_1900 rfl ?_
                                                                  obtain ⟨g548, hf⟩ := gd_s hf
                                                                  refine V_sld (q := 1902) C hX hbl hbA (inb_in g548) dL_law_1901 rfl ?_
                                                                  obtain ⟨r549, σ550, h551, hf⟩ := bd_s hf
                                                                  refine V_callVs (av := [.int (xs (i + (1 : Int32)).toNatClampNeg)]) (st := []) (st1 := [.int r549]) (q := 1905) (subM (τ := σ546)) C 0 (by decide) (eM_0 G (fun i => ad (77 + i)) (σ546.2.1 0)) rfl rfl (conX7_event _ _ _ _ _ _ _ h551) q_1535 q_114 q_1532 q_1533 q_1534 nmX7_event (rmk rfl rfl (by decide) (by decide) (Nat.le_trans (Nat.add_le_add_left (show 2 ≤ 128 by decide) k) hk1) (Nat.le_trans (Nat.add_le_add_left (show 12 ≤ 768 by decide) s) hs1)) rfl rfl (Nat.le_of_ble_eq_true rfl) dL_law_1902 rfl rfl ?_
                                                                  refine V_lets hf (fun σ552 hf => ?_)
                                                                  refine V_wide (k2 := (k + 2)) (n2 := (s + 12)) (Nat.le_refl _) (Nat.le_refl _) ?_
                                                                  refine V_istore (L' := [(6, .int r549), (5, .int r545), (0, .ref b), (1, .ref (ad 0)), (2, .ref (ad 77)), (3, .ref (ad 100)), (4, .int i)]) (q := 1907) C dL_law_1905 rfl (by decide) rfl ?_
                                                                  refine V_aload_n (q := 1908) C dL_law_1907 rfl rfl 4 rfl ?_
                                                                  obtain ⟨r553, σ554, h555, hf⟩ := bd_s hf
                                                                  refine V_callVs (av := []) (st := []) (st1 := [.int r553]) (q := 1911) (subM (τ := σ552)) C 0 (by decide) (eM_0 G (fun i => ad (77 + i)) (σ552.2.1 0)) rfl rfl (conX7_thrown _ _ _  _ _ _ h555) q_1237 q_114 q_1234 q_1235 q_1236 nmX7_thrown (rmk rfl rfl (by decide) (by decide) (Nat.le_trans (Nat.add_le_add_left (show 2 ≤ 128 by decide) k) hk1) (Nat.le_trans (Nat.add_le_add_left (show 12 ≤ 768 by decide) s) hs1)) rfl rfl (Nat.le_of_ble_eq_true rfl) dL_law_1908 rfl rfl ?_
                                                                  refine V_lets hf (fun σ556 hf => ?_)
                                                                  refine V_wide (k2 := (k + 2)) (n2 := (s + 12)) (Nat.le_refl _) (Nat.le_refl _) ?_
                                                                  refine V_iload (q := 1913) C dL_law_1911 rfl 1 rfl ?_
                                                                  refine V_icmp_eq (t := 1918) (q := 1916) C dL_law_1913 (by decide) rfl (fun c557 => ?_) (fun c557 => ?_)
                                                                  · replace hf := (ite_s hf).1 c557
                                                                    refine V_iload (q := 1920) C dL_law_1918 rfl 1 rfl ?_
                                                                    obtain ⟨J1935, eJ1935, hf⟩ := jp_s hf
                                                                    have hJ1935 : ∀ (σ558 : LT), J1935 σ558 = some (1, σf) → V wL X G ad 8 Q (k + 18) (s + 108) σ558 1935 [(0, .ref b), (1, .ref (ad 0)), (2, .ref (ad 77)), (3, .ref (ad 100)), (4, .int i)] [] := by
                                                                      intro σ558 hf
                                                                      subst eJ1935
                                                                      refine V_goto (t := 2282) C dL_law_1935 (by decide) ?_
                                                                      refine V_wide (k2 := (k + 100)) (n2 := (s + 600)) (Nat.add_le_add_left (show 18 ≤ 100 by decide) k) (Nat.add_le_add_left (show 108 ≤ 600 by decide) s) ?_
                                                                      exact hJ2282 _ hf
                                                                    refine V_if_ne (t := 1935) (q := 1923) C dL_law_1920 (by decide) rfl (fun c559 => ?_) (fun c559 => ?_)
                                                                    · replace hf := (ite_s hf).2 c559
                                                                      refine V_sub (L' := [(0, .ref b), (1, .ref (ad 0)), (2, .ref (ad 77)), (3, .ref (ad 100)), (4, .int i)]) [2, 3, 4, 5, 6] rfl ?_
                                                                      refine V_wide (k2 := (k + 18)) (n2 := (s + 108)) (Nat.add_le_add_left (show 2 ≤ 18 by decide) k) (Nat.add_le_add_left (show 12 ≤ 108 by decide) s) ?_
                                                                      exact hJ1935 _ hf
                                                                    · replace hf := (ite_s hf).1 c559
                                                                      refine V_aload_n (q := 1924) C dL_law_1923 rfl rfl 5 rfl ?_
                                                                      refine V_iconst (v := 0) (q := 1925) C dL_law_1924 rfl ic_0 ?_
                                                                      refine V_outR (q := 1926) C dL_law_1925 rfl ?_
                                                                      refine V_iload (q := 1928) C dL_law_1926 rfl 0 rfl ?_
                                                                      refine V_i2l (q := 1929) C dL_law_1928 rfl ?_
                                                                      refine V_lcmp (q := 1930) C dL_law_1929 rfl ?_
                                                                      refine V_if_eq (t := 1935) (q := 1933) C dL_law_1930 (by decide) rfl (fun c560 => ?_) (fun c560 => ?_)
                                                                      · replace hf := (ite_s hf).1 c560
                                                                        refine V_sub (L' := [(0, .ref b), (1, .ref (ad 0)), (2, .ref (ad 77)), (3, .ref (ad 100)), (4, .int i)]) [2, 3, 4, 5, 6] rfl ?_
                                                                        refine V_wide (k2 := (k + 18)) (n2 := (s + 108)) (Nat.add_le_add_left (show 2 ≤ 18 by decide) k) (Nat.add_le_add_left (show 12 ≤ 108 by decide) s) ?_
                                                                        exact hJ1935 _ hf
                                                                      · replace hf := (ite_s hf).2 c560
                                                                        refine V_iconst (v := 0) (q := 1934) C dL_law_1933 rfl ic_0 ?_
                                                                        exact absurd (pr_s hf).1 (by decide)
                                                                  · replace hf := (ite_s hf).2 c557
                                                                    refine V_iconst (v := 0) (q := 1917) C dL_law_1916 rfl ic_0 ?_
                                                                    exact absurd (pr_s hf).1 (by decide)
                                                                · replace hf := (ite_s hf).2 c543
                                                                  by_cases c561 : ((xs i.toNatClampNeg) &&& (63 : Int32)) = (30 : Int32)
                                                                  · replace hf := (ite_s hf).1 c561
                                                                    refine V_tabIn (t := 1938) C dL_law_39 (by rw [c561]; decide) (by rw [c561]; decide) (off := 1899) (by rw [c561]; decide) (by decide) ?_
                                                                    refine V_aload_n (q := 1939) C dL_law_1938 rfl rfl 1 rfl ?_
                                                                    refine V_aload_n (q := 1940) C dL_law_1939 rfl rfl 0 rfl ?_
                                                                    refine V_iload (q := 1942) C dL_law_1940 rfl 4 rfl ?_
                                                                    refine V_iconst (v := 1) (q := 1943) C dL_law_1942 rfl ic_1 ?_
                                                                    refine V_iadd (q := 1944) C dL_law_1943 rfl ?_
                                                                    obtain ⟨g562, hf⟩ := gd_s hf
                                                                    refine V_sld (q := 1945) C hX hbl hbA (inb_in g562) dL_law_1944 rfl ?_
                                                                    refine V_aload_n (q := 1946) C dL_law_1945 rfl rfl 3 rfl ?_
                                                                    obtain ⟨r563, σ564, h565, hf⟩ := bd_s hf
                                                                    refine V_callSW (av := [.ref (ad 0), .int (xs (i + (1 : Int32)).toNatClampNeg), .ref (ad 100)]) (st := []) (st1 := [.int r563]) (q := 1949) C (conL_order _ _ _ _ _ _ _ h565) q_1083 q_106 q_1081 q_1082 nmL_order (rmk rfl rfl (by decide) (by decide) (Nat.le_trans (Nat.add_le_add_left (show 1 ≤ 128 by decide) k) hk1) (Nat.le_trans (Nat.add_le_add_left (show 6 ≤ 768 by decide) s) hs1)) rfl rfl (Nat.le_of_ble_eq_true rfl) dL_law_1946 rfl rfl ?_
                                                                    refine V_wide (k2 := (k + 1)) (n2 := (s + 6)) (Nat.le_refl _) (Nat.le_refl _) ?_
                                                                    refine V_istore (L' := [(5, .int r563), (0, .ref b), (1, .ref (ad 0)), (2, .ref (ad 77)), (3, .ref (ad 100)), (4, .int i)]) (q := 1951) C dL_law_1949 rfl (by decide) rfl ?_
                                                                    refine V_aload_n (q := 1952) C dL_law_1951 rfl rfl 3 rfl ?_
                                                                    refine V_aload_n (q := 1953) C dL_law_1952 rfl rfl 1 rfl ?_
                                                                    refine V_iload (q := 1955) C dL_law_1953 rfl 5 rfl ?_
                                                                    refine V_iconst (v := 1) (q := 1956) C dL_law_1955 rfl ic_1 ?_
                                                                    refine V_iadd (q := 1957) C dL_law_1956 rfl ?_
                                                                    obtain ⟨g566, hf⟩ := gd_s hf
                                                                    refine V_sld (q := 1958) C hX hbl hbA (inb_in g566) dL_law_1957 rfl ?_
                                                                    obtain ⟨r567, σ568, h569, hf⟩ := bd_s hf
                                                                    refine V_callVs (av := [.int (xs (i + (1 : Int32)).toNatClampNeg)]) (st := []) (st1 := [.int r567]) (q := 1961) (subM (τ := σ564)) C 0 (by decide) (eM_0 G (fun i => ad (77 + i)) (σ564.2.1 0)) rfl rfl (conX7_order _ _ _ _ _ _ _ h569) q_1539 q_114 q_1536 q_1537 q_1538 nmX7_order (rmk rfl rfl (by decide) (by decide) (Nat.le_trans (Nat.add_le_add_left (show 1 ≤ 128 by decide) k) hk1) (Nat.le_trans (Nat.add_le_add_left (show 6 ≤ 768 by decide) s) hs1)) rfl rfl (Nat.le_of_ble_eq_true rfl) dL_law_1958 rfl rfl ?_
                                                                    refine V_lets hf (fun σ570 hf => ?_)
                                                                    refine V_wide (k2 := (k + 1)) (n2 := (s + 6)) (Nat.le_refl _) (Nat.le_refl _) ?_
                                                                    refine V_istore (L' := [(6, .int r567), (5, .int r563), (0, .ref b), (1, .ref (ad 0)), (2, .ref (ad 77)), (3, .ref (ad 100)), (4, .int i)]) (q := 1963) C dL_law_1961 rfl (by decide) rfl ?_
                                                                    refine V_aload_n (q := 1964) C dL_law_1963 rfl rfl 4 rfl ?_
                                                                    obtain ⟨r571, σ572, h573, hf⟩ := bd_s hf
                                                                    refine V_callVs (av := []) (st := []) (st1 := [.int r571]) (q := 1967) (subM (τ := σ570)) C 0 (by decide) (eM_0 G (fun i => ad (77 + i)) (σ570.2.1 0)) rfl rfl (conX7_thrown _ _ _  _ _ _ h573) q_1237 q_114 q_1234 q_1235 q_1236 nmX7_thrown (rmk rfl rfl (by decide) (by decide) (Nat.le_trans (Nat.add_le_add_left (show 1 ≤ 128 by decide) k) hk1) (Nat.le_trans (Nat.add_le_add_left (show 6 ≤ 768 by decide) s) hs1)) rfl rfl (Nat.le_of_ble_eq_true rfl) dL_law_1964 rfl rfl ?_
                                                                    refine V_lets hf (fun σ574 hf => ?_)
                                                                    refine V_wide (k2 := (k + 1)) (n2 := (s + 6)) (Nat.le_refl _) (Nat.le_refl _) ?_
                                                                    refine V_iload (q := 1969) C dL_law_1967 rfl 1 rfl ?_
                                                                    refine V_icmp_eq (t := 1974) (q := 1972) C dL_law_1969 (by decide) rfl (fun c575 => ?_) (fun c575 => ?_)
                                                                    · replace hf := (ite_s hf).1 c575
                                                                      refine V_iload (q := 1976) C dL_law_1974 rfl 1 rfl ?_
                                                                      obtain ⟨J1991, eJ1991, hf⟩ := jp_s hf
                                                                      have hJ1991 : ∀ (σ576 : LT), J1991 σ576 = some (1, σf) → V wL X G ad 8 Q (k + 17) (s + 102) σ576 1991 [(0, .ref b), (1, .ref (ad 0)), (2, .ref (ad 77)), (3, .ref (ad 100)), (4, .int i)] [] := by
                                                                        intro σ576 hf
                                                                        subst eJ1991
                                                                        refine V_goto (t := 2282) C dL_law_1991 (by decide) ?_
                                                                        refine V_wide (k2 := (k + 100)) (n2 := (s + 600)) (Nat.add_le_add_left (show 17 ≤ 100 by decide) k) (Nat.add_le_add_left (show 102 ≤ 600 by decide) s) ?_
                                                                        exact hJ2282 _ hf
                                                                      refine V_if_ne (t := 1991) (q := 1979) C dL_law_1976 (by decide) rfl (fun c577 => ?_) (fun c577 => ?_)
                                                                      · replace hf := (ite_s hf).2 c577
                                                                        refine V_sub (L' := [(0, .ref b), (1, .ref (ad 0)), (2, .ref (ad 77)), (3, .ref (ad 100)), (4, .int i)]) [2, 3, 4, 5, 6] rfl ?_
                                                                        refine V_wide (k2 := (k + 17)) (n2 := (s + 102)) (Nat.add_le_add_left (show 1 ≤ 17 by decide) k) (Nat.add_le_add_left (show 6 ≤ 102 by decide) s) ?_
                                                                        exact hJ1991 _ hf
                                                                      · replace hf := (ite_s hf).1 c577
                                                                        refine V_aload_n (q := 1980) C dL_law_1979 rfl rfl 5 rfl ?_
                                                                        refine V_iconst (v := 0) (q := 1981) C dL_law_1980 rfl ic_0 ?_
                                                                        refine V_outR (q := 1982) C dL_law_1981 rfl ?_
                                                                        refine V_iload (q := 1984) C dL_law_1982 rfl 0 rfl ?_
                                                                        refine V_i2l (q := 1985) C dL_law_1984 rfl ?_
                                                                        refine V_lcmp (q := 1986) C dL_law_1985 rfl ?_
                                                                        refine V_if_eq (t := 1991) (q := 1989) C dL_law_1986 (by decide) rfl (fun c578 => ?_) (fun c578 => ?_)
                                                                        · replace hf := (ite_s hf).1 c578
                                                                          refine V_sub (L' := [(0, .ref b), (1, .ref (ad 0)), (2, .ref (ad 77)), (3, .ref (ad 100)), (4, .int i)]) [2, 3, 4, 5, 6] rfl ?_
                                                                          refine V_wide (k2 := (k + 17)) (n2 := (s + 102)) (Nat.add_le_add_left (show 1 ≤ 17 by decide) k) (Nat.add_le_add_left (show 6 ≤ 102 by decide) s) ?_
                                                                          exact hJ1991 _ hf
                                                                        · replace hf := (ite_s hf).2 c578
                                                                          refine V_iconst (v := 0) (q := 1990) C dL_law_1989 rfl ic_0 ?_
                                                                          exact absurd (pr_s hf).1 (by decide)
                                                                    · replace hf := (ite_s hf).2 c575
                                                                      refine V_iconst (v := 0) (q := 1973) C dL_law_1972 rfl ic_0 ?_
                                                                      exact absurd (pr_s hf).1 (by decide)
                                                                  · replace hf := (ite_s hf).2 c561
                                                                    by_cases c579 : ((xs i.toNatClampNeg) &&& (63 : Int32)) = (31 : Int32)
                                                                    · replace hf := (ite_s hf).1 c579
                                                                      refine V_tabIn (t := 1994) C dL_law_39 (by rw [c579]; decide) (by rw [c579]; decide) (off := 1955) (by rw [c579]; decide) (by decide) ?_
                                                                      refine V_aload_n (q := 1995) C dL_law_1994 rfl rfl 1 rfl ?_
                                                                      refine V_aload_n (q := 1996) C dL_law_1995 rfl rfl 3 rfl ?_
                                                                      obtain ⟨r580, σ581, h582, hf⟩ := bd_s hf
                                                                      refine V_callSW (av := [.ref (ad 0), .ref (ad 100)]) (st := []) (st1 := [.int r580]) (q := 1999) C (conL_best _ _ _  _ _ _ h582) q_1091 q_106 q_1089 q_1090 nmL_best (rmk rfl rfl (by decide) (by decide) (Nat.le_trans (Nat.add_le_add_left (show 1 ≤ 128 by decide) k) hk1) (Nat.le_trans (Nat.add_le_add_left (show 6 ≤ 768 by decide) s) hs1)) rfl rfl (Nat.le_of_ble_eq_true rfl) dL_law_1996 rfl rfl ?_
                                                                      refine V_wide (k2 := (k + 1)) (n2 := (s + 6)) (Nat.le_refl _) (Nat.le_refl _) ?_
                                                                      refine V_istore (L' := [(5, .int r580), (0, .ref b), (1, .ref (ad 0)), (2, .ref (ad 77)), (3, .ref (ad 100)), (4, .int i)]) (q := 2001) C dL_law_1999 rfl (by decide) rfl ?_
                                                                      refine V_aload_n (q := 2002) C dL_law_2001 rfl rfl 3 rfl ?_
                                                                      obtain ⟨r583, σ584, h585, hf⟩ := bd_s hf
                                                                      refine V_callVs (av := []) (st := []) (st1 := [.int r583]) (q := 2005) (subM (τ := σ581)) C 0 (by decide) (eM_0 G (fun i => ad (77 + i)) (σ581.2.1 0)) rfl rfl (conX7_best _ _ _  _ _ _ h585) q_1543 q_114 q_1540 q_1541 q_1542 nmX7_best (rmk rfl rfl (by decide) (by decide) (Nat.le_trans (Nat.add_le_add_left (show 1 ≤ 128 by decide) k) hk1) (Nat.le_trans (Nat.add_le_add_left (show 6 ≤ 768 by decide) s) hs1)) rfl rfl (Nat.le_of_ble_eq_true rfl) dL_law_2002 rfl rfl ?_
                                                                      refine V_lets hf (fun σ586 hf => ?_)
                                                                      refine V_wide (k2 := (k + 1)) (n2 := (s + 6)) (Nat.le_refl _) (Nat.le_refl _) ?_
                                                                      refine V_istore (L' := [(6, .int r583), (5, .int r580), (0, .ref b), (1, .ref (ad 0)), (2, .ref (ad 77)), (3, .ref (ad 100)), (4, .int i)]) (q := 2007) C dL_law_2005 rfl (by decide) rfl ?_
                                                                      refine V_aload_n (q := 2008) C dL_law_2007 rfl rfl 4 rfl ?_
                                                                      obtain ⟨r587, σ588, h589, hf⟩ := bd_s hf
                                                                      refine V_callVs (av := []) (st := []) (st1 := [.int r587]) (q := 2011) (subM (τ := σ586)) C 0 (by decide) (eM_0 G (fun i => ad (77 + i)) (σ586.2.1 0)) rfl rfl (conX7_thrown _ _ _  _ _ _ h589) q_1237 q_114 q_1234 q_1235 q_1236 nmX7_thrown (rmk rfl rfl (by decide) (by decide) (Nat.le_trans (Nat.add_le_add_left (show 1 ≤ 128 by decide) k) hk1) (Nat.le_trans (Nat.add_le_add_left (show 6 ≤ 768 by decide) s) hs1)) rfl rfl (Nat.le_of_ble_eq_true rfl) dL_law_2008 rfl rfl ?_
                                                                      refine V_lets hf (fun σ590 hf => ?_)
                                                                      refine V_wide (k2 := (k + 1)) (n2 := (s + 6)) (Nat.le_refl _) (Nat.le_refl _) ?_
                                                                      refine V_iload (q := 2013) C dL_law_2011 rfl 1 rfl ?_
                                                                      refine V_icmp_eq (t := 2018) (q := 2016) C dL_law_2013 (by decide) rfl (fun c591 => ?_) (fun c591 => ?_)
                                                                      · replace hf := (ite_s hf).1 c591
                                                                        refine V_iload (q := 2020) C dL_law_2018 rfl 1 rfl ?_
                                                                        obtain ⟨J2035, eJ2035, hf⟩ := jp_s hf
                                                                        have hJ2035 : ∀ (σ592 : LT), J2035 σ592 = some (1, σf) → V wL X G ad 8 Q (k + 17) (s + 102) σ592 2035 [(0, .ref b), (1, .ref (ad 0)), (2, .ref (ad 77)), (3, .ref (ad 100)), (4, .int i)] [] := by
                                                                          intro σ592 hf
                                                                          subst eJ2035
                                                                          refine V_goto (t := 2282) C dL_law_2035 (by decide) ?_
                                                                          refine V_wide (k2 := (k + 100)) (n2 := (s + 600)) (Nat.add_le_add_left (show 17 ≤ 100 by decide) k) (Nat.add_le_add_left (show 102 ≤ 600 by decide) s) ?_
                                                                          exact hJ2282 _ hf
                                                                        refine V_if_ne (t := 2035) (q := 2023) C dL_law_2020 (by decide) rfl (fun c593 => ?_) (fun c593 => ?_)
                                                                        · replace hf := (ite_s hf).2 c593
                                                                          refine V_sub (L' := [(0, .ref b), (1, .ref (ad 0)), (2, .ref (ad 77)), (3, .ref (ad 100)), (4, .int i)]) [2, 3, 4, 5, 6] rfl ?_
                                                                          refine V_wide (k2 := (k + 17)) (n2 := (s + 102)) (Nat.add_le_add_left (show 1 ≤ 17 by decide) k) (Nat.add_le_add_left (show 6 ≤ 102 by decide) s) ?_
                                                                          exact hJ2035 _ hf
                                                                        · replace hf := (ite_s hf).1 c593
                                                                          refine V_aload_n (q := 2024) C dL_law_2023 rfl rfl 5 rfl ?_
                                                                          refine V_iconst (v := 0) (q := 2025) C dL_law_2024 rfl ic_0 ?_
                                                                          refine V_outR (q := 2026) C dL_law_2025 rfl ?_
                                                                          refine V_iload (q := 2028) C dL_law_2026 rfl 0 rfl ?_
                                                                          refine V_i2l (q := 2029) C dL_law_2028 rfl ?_
                                                                          refine V_lcmp (q := 2030) C dL_law_2029 rfl ?_
                                                                          refine V_if_eq (t := 2035) (q := 2033) C dL_law_2030 (by decide) rfl (fun c594 => ?_) (fun c594 => ?_)
                                                                          · replace hf := (ite_s hf).1 c594
                                                                            refine V_sub (L' := [(0, .ref b), (1, .ref (ad 0)), (2, .ref (ad 77)), (3, .ref (ad 100)), (4, .int i)]) [2, 3, 4, 5, 6] rfl ?_
                                                                            refine V_wide (k2 := (k + 17)) (n2 := (s + 102)) (Nat.add_le_add_left (show 1 ≤ 17 by decide) k) (Nat.add_le_add_left (show 6 ≤ 102 by decide) s) ?_
                                                                            exact hJ2035 _ hf
                                                                          · replace hf := (ite_s hf).2 c594
                                                                            refine V_iconst (v := 0) (q := 2034) C dL_law_2033 rfl ic_0 ?_
                                                                            exact absurd (pr_s hf).1 (by decide)
                                                                      · replace hf := (ite_s hf).2 c591
                                                                        refine V_iconst (v := 0) (q := 2017) C dL_law_2016 rfl ic_0 ?_
                                                                        exact absurd (pr_s hf).1 (by decide)
                                                                    · replace hf := (ite_s hf).2 c579
                                                                      by_cases c595 : ((xs i.toNatClampNeg) &&& (63 : Int32)) = (32 : Int32)
                                                                      · replace hf := (ite_s hf).1 c595
                                                                        refine V_tabIn (t := 2038) C dL_law_39 (by rw [c595]; decide) (by rw [c595]; decide) (off := 1999) (by rw [c595]; decide) (by decide) ?_
                                                                        refine V_aload_n (q := 2039) C dL_law_2038 rfl rfl 1 rfl ?_
                                                                        refine V_aload_n (q := 2040) C dL_law_2039 rfl rfl 3 rfl ?_
                                                                        obtain ⟨r596, σ597, h598, hf⟩ := bd_s hf
                                                                        refine V_callSW (av := [.ref (ad 0), .ref (ad 100)]) (st := []) (st1 := [.int r596]) (q := 2043) C (conL_leastLoss _ _ _  _ _ _ h598) q_1109 q_106 q_1107 q_1108 nmL_leastLoss (rmk rfl rfl (by decide) (by decide) (Nat.le_trans (Nat.add_le_add_left (show 1 ≤ 128 by decide) k) hk1) (Nat.le_trans (Nat.add_le_add_left (show 6 ≤ 768 by decide) s) hs1)) rfl rfl (Nat.le_of_ble_eq_true rfl) dL_law_2040 rfl rfl ?_
                                                                        refine V_wide (k2 := (k + 1)) (n2 := (s + 6)) (Nat.le_refl _) (Nat.le_refl _) ?_
                                                                        refine V_istore (L' := [(5, .int r596), (0, .ref b), (1, .ref (ad 0)), (2, .ref (ad 77)), (3, .ref (ad 100)), (4, .int i)]) (q := 2045) C dL_law_2043 rfl (by decide) rfl ?_
                                                                        refine V_aload_n (q := 2046) C dL_law_2045 rfl rfl 3 rfl ?_
                                                                        obtain ⟨r599, σ600, h601, hf⟩ := bd_s hf
                                                                        refine V_callVs (av := []) (st := []) (st1 := [.int r599]) (q := 2049) (subM (τ := σ597)) C 0 (by decide) (eM_0 G (fun i => ad (77 + i)) (σ597.2.1 0)) rfl rfl (conX7_leastLoss _ _ _  _ _ _ h601) q_1551 q_114 q_1548 q_1549 q_1550 nmX7_leastLoss (rmk rfl rfl (by decide) (by decide) (Nat.le_trans (Nat.add_le_add_left (show 1 ≤ 128 by decide) k) hk1) (Nat.le_trans (Nat.add_le_add_left (show 6 ≤ 768 by decide) s) hs1)) rfl rfl (Nat.le_of_ble_eq_true rfl) dL_law_2046 rfl rfl ?_
                                                                        refine V_lets hf (fun σ602 hf => ?_)
                                                                        refine V_wide (k2 := (k + 1)) (n2 := (s + 6)) (Nat.le_refl _) (Nat.le_refl _) ?_
                                                                        refine V_istore (L' := [(6, .int r599), (5, .int r596), (0, .ref b), (1, .ref (ad 0)), (2, .ref (ad 77)), (3, .ref (ad 100)), (4, .int i)]) (q := 2051) C dL_law_2049 rfl (by decide) rfl ?_
                                                                        refine V_aload_n (q := 2052) C dL_law_2051 rfl rfl 4 rfl ?_
                                                                        obtain ⟨r603, σ604, h605, hf⟩ := bd_s hf
                                                                        refine V_callVs (av := []) (st := []) (st1 := [.int r603]) (q := 2055) (subM (τ := σ602)) C 0 (by decide) (eM_0 G (fun i => ad (77 + i)) (σ602.2.1 0)) rfl rfl (conX7_thrown _ _ _  _ _ _ h605) q_1237 q_114 q_1234 q_1235 q_1236 nmX7_thrown (rmk rfl rfl (by decide) (by decide) (Nat.le_trans (Nat.add_le_add_left (show 1 ≤ 128 by decide) k) hk1) (Nat.le_trans (Nat.add_le_add_left (show 6 ≤ 768 by decide) s) hs1)) rfl rfl (Nat.le_of_ble_eq_true rfl) dL_law_2052 rfl rfl ?_
                                                                        refine V_lets hf (fun σ606 hf => ?_)
                                                                        refine V_wide (k2 := (k + 1)) (n2 := (s + 6)) (Nat.le_refl _) (Nat.le_refl _) ?_
                                                                        refine V_iload (q := 2057) C dL_law_2055 rfl 1 rfl ?_
                                                                        refine V_icmp_eq (t := 2062) (q := 2060) C dL_law_2057 (by decide) rfl (fun c607 => ?_) (fun c607 => ?_)
                                                                        · replace hf := (ite_s hf).1 c607
                                                                          refine V_iload (q := 2064) C dL_law_2062 rfl 1 rfl ?_
                                                                          obtain ⟨J2079, eJ2079, hf⟩ := jp_s hf
                                                                          have hJ2079 : ∀ (σ608 : LT), J2079 σ608 = some (1, σf) → V wL X G ad 8 Q (k + 17) (s + 102) σ608 2079 [(0, .ref b), (1, .ref (ad 0)), (2, .ref (ad 77)), (3, .ref (ad 100)), (4, .int i)] [] := by
                                                                            intro σ608 hf
                                                                            subst eJ2079
                                                                            refine V_goto (t := 2282) C dL_law_2079 (by decide) ?_
                                                                            refine V_wide (k2 := (k + 100)) (n2 := (s + 600)) (Nat.add_le_add_left (show 17 ≤ 100 by decide) k) (Nat.add_le_add_left (show 102 ≤ 600 by decide) s) ?_
                                                                            exact hJ2282 _ hf
                                                                          refine V_if_ne (t := 2079) (q := 2067) C dL_law_2064 (by decide) rfl (fun c609 => ?_) (fun c609 => ?_)
                                                                          · replace hf := (ite_s hf).2 c609
                                                                            refine V_sub (L' := [(0, .ref b), (1, .ref (ad 0)), (2, .ref (ad 77)), (3, .ref (ad 100)), (4, .int i)]) [2, 3, 4, 5, 6] rfl ?_
                                                                            refine V_wide (k2 := (k + 17)) (n2 := (s + 102)) (Nat.add_le_add_left (show 1 ≤ 17 by decide) k) (Nat.add_le_add_left (show 6 ≤ 102 by decide) s) ?_
                                                                            exact hJ2079 _ hf
                                                                          · replace hf := (ite_s hf).1 c609
                                                                            refine V_aload_n (q := 2068) C dL_law_2067 rfl rfl 5 rfl ?_
                                                                            refine V_iconst (v := 0) (q := 2069) C dL_law_2068 rfl ic_0 ?_
                                                                            refine V_outR (q := 2070) C dL_law_2069 rfl ?_
                                                                            refine V_iload (q := 2072) C dL_law_2070 rfl 0 rfl ?_
                                                                            refine V_i2l (q := 2073) C dL_law_2072 rfl ?_
                                                                            refine V_lcmp (q := 2074) C dL_law_2073 rfl ?_
                                                                            refine V_if_eq (t := 2079) (q := 2077) C dL_law_2074 (by decide) rfl (fun c610 => ?_) (fun c610 => ?_)
                                                                            · replace hf := (ite_s hf).1 c610
                                                                              refine V_sub (L' := [(0, .ref b), (1, .ref (ad 0)), (2, .ref (ad 77)), (3, .ref (ad 100)), (4, .int i)]) [2, 3, 4, 5, 6] rfl ?_
                                                                              refine V_wide (k2 := (k + 17)) (n2 := (s + 102)) (Nat.add_le_add_left (show 1 ≤ 17 by decide) k) (Nat.add_le_add_left (show 6 ≤ 102 by decide) s) ?_
                                                                              exact hJ2079 _ hf
                                                                            · replace hf := (ite_s hf).2 c610
                                                                              refine V_iconst (v := 0) (q := 2078) C dL_law_2077 rfl ic_0 ?_
                                                                              exact absurd (pr_s hf).1 (by decide)
                                                                        · replace hf := (ite_s hf).2 c607
                                                                          refine V_iconst (v := 0) (q := 2061) C dL_law_2060 rfl ic_0 ?_
                                                                          exact absurd (pr_s hf).1 (by decide)
                                                                      · replace hf := (ite_s hf).2 c595
                                                                        by_cases c611 : ((xs i.toNatClampNeg) &&& (63 : Int32)) = (33 : Int32)
                                                                        · replace hf := (ite_s hf).1 c611
                                                                          refine V_tabIn (t := 2082) C dL_law_39 (by rw [c611]; decide) (by rw [c611]; decide) (off := 2043) (by rw [c611]; decide) (by decide) ?_
                                                                          refine V_aload_n (q := 2083) C dL_law_2082 rfl rfl 1 rfl ?_
                                                                          refine V_aload_n (q := 2084) C dL_law_2083 rfl rfl 3 rfl ?_
                                                                          obtain ⟨r612, σ613, h614, hf⟩ := bd_s hf
                                                                          refine V_callSW (av := [.ref (ad 0), .ref (ad 100)]) (st := []) (st1 := [.int r612]) (q := 2087) C (conL_efficiencyBits _ _ _  _ _ _ h614) q_1120 q_106 q_1118 q_1119 nmL_efficiencyBits (rmk rfl rfl (by decide) (by decide) (Nat.le_trans (Nat.add_le_add_left (show 1 ≤ 128 by decide) k) hk1) (Nat.le_trans (Nat.add_le_add_left (show 6 ≤ 768 by decide) s) hs1)) rfl rfl (Nat.le_of_ble_eq_true rfl) dL_law_2084 rfl rfl ?_
                                                                          refine V_wide (k2 := (k + 1)) (n2 := (s + 6)) (Nat.le_refl _) (Nat.le_refl _) ?_
                                                                          refine V_istore (L' := [(5, .int r612), (0, .ref b), (1, .ref (ad 0)), (2, .ref (ad 77)), (3, .ref (ad 100)), (4, .int i)]) (q := 2089) C dL_law_2087 rfl (by decide) rfl ?_
                                                                          refine V_aload_n (q := 2090) C dL_law_2089 rfl rfl 3 rfl ?_
                                                                          obtain ⟨r615, σ616, h617, hf⟩ := bd_s hf
                                                                          refine V_callVs (av := []) (st := []) (st1 := [.int r615]) (q := 2093) (subM (τ := σ613)) C 0 (by decide) (eM_0 G (fun i => ad (77 + i)) (σ613.2.1 0)) rfl rfl (conX7_efficiencyBits _ _ _  _ _ _ h617) q_1559 q_114 q_1556 q_1557 q_1558 nmX7_efficiencyBits (rmk rfl rfl (by decide) (by decide) (Nat.le_trans (Nat.add_le_add_left (show 1 ≤ 128 by decide) k) hk1) (Nat.le_trans (Nat.add_le_add_left (show 6 ≤ 768 by decide) s) hs1)) rfl rfl (Nat.le_of_ble_eq_true rfl) dL_law_2090 rfl rfl ?_
                                                                          refine V_lets hf (fun σ618 hf => ?_)
                                                                          refine V_wide (k2 := (k + 1)) (n2 := (s + 6)) (Nat.le_refl _) (Nat.le_refl _) ?_
                                                                          refine V_istore (L' := [(6, .int r615), (5, .int r612), (0, .ref b), (1, .ref (ad 0)), (2, .ref (ad 77)), (3, .ref (ad 100)), (4, .int i)]) (q := 2095) C dL_law_2093 rfl (by decide) rfl ?_
                                                                          refine V_aload_n (q := 2096) C dL_law_2095 rfl rfl 4 rfl ?_
                                                                          obtain ⟨r619, σ620, h621, hf⟩ := bd_s hf
                                                                          refine V_callVs (av := []) (st := []) (st1 := [.int r619]) (q := 2099) (subM (τ := σ618)) C 0 (by decide) (eM_0 G (fun i => ad (77 + i)) (σ618.2.1 0)) rfl rfl (conX7_thrown _ _ _  _ _ _ h621) q_1237 q_114 q_1234 q_1235 q_1236 nmX7_thrown (rmk rfl rfl (by decide) (by decide) (Nat.le_trans (Nat.add_le_add_left (show 1 ≤ 128 by decide) k) hk1) (Nat.le_trans (Nat.add_le_add_left (show 6 ≤ 768 by decide) s) hs1)) rfl rfl (Nat.le_of_ble_eq_true rfl) dL_law_2096 rfl rfl ?_
                                                                          refine V_lets hf (fun σ622 hf => ?_)
                                                                          refine V_wide (k2 := (k + 1)) (n2 := (s + 6)) (Nat.le_refl _) (Nat.le_refl _) ?_
                                                                          refine V_iload (q := 2101) C dL_law_2099 rfl 1 rfl ?_
                                                                          refine V_icmp_eq (t := 2106) (q := 2104) C dL_law_2101 (by decide) rfl (fun c623 => ?_) (fun c623 => ?_)
                                                                          · replace hf := (ite_s hf).1 c623
                                                                            refine V_iload (q := 2108) C dL_law_2106 rfl 1 rfl ?_
                                                                            obtain ⟨J2123, eJ2123, hf⟩ := jp_s hf
                                                                            have hJ2123 : ∀ (σ624 : LT), J2123 σ624 = some (1, σf) → V wL X G ad 8 Q (k + 17) (s + 102) σ624 2123 [(0, .ref b), (1, .ref (ad 0)), (2, .ref (ad 77)), (3, .ref (ad 100)), (4, .int i)] [] := by
                                                                              intro σ624 hf
                                                                              subst eJ2123
                                                                              refine V_goto (t := 2282) C dL_law_2123 (by decide) ?_
                                                                              refine V_wide (k2 := (k + 100)) (n2 := (s + 600)) (Nat.add_le_add_left (show 17 ≤ 100 by decide) k) (Nat.add_le_add_left (show 102 ≤ 600 by decide) s) ?_
                                                                              exact hJ2282 _ hf
                                                                            refine V_if_ne (t := 2123) (q := 2111) C dL_law_2108 (by decide) rfl (fun c625 => ?_) (fun c625 => ?_)
                                                                            · replace hf := (ite_s hf).2 c625
                                                                              refine V_sub (L' := [(0, .ref b), (1, .ref (ad 0)), (2, .ref (ad 77)), (3, .ref (ad 100)), (4, .int i)]) [2, 3, 4, 5, 6] rfl ?_
                                                                              refine V_wide (k2 := (k + 17)) (n2 := (s + 102)) (Nat.add_le_add_left (show 1 ≤ 17 by decide) k) (Nat.add_le_add_left (show 6 ≤ 102 by decide) s) ?_
                                                                              exact hJ2123 _ hf
                                                                            · replace hf := (ite_s hf).1 c625
                                                                              refine V_aload_n (q := 2112) C dL_law_2111 rfl rfl 5 rfl ?_
                                                                              refine V_iconst (v := 0) (q := 2113) C dL_law_2112 rfl ic_0 ?_
                                                                              refine V_outR (q := 2114) C dL_law_2113 rfl ?_
                                                                              refine V_iload (q := 2116) C dL_law_2114 rfl 0 rfl ?_
                                                                              refine V_i2l (q := 2117) C dL_law_2116 rfl ?_
                                                                              refine V_lcmp (q := 2118) C dL_law_2117 rfl ?_
                                                                              refine V_if_eq (t := 2123) (q := 2121) C dL_law_2118 (by decide) rfl (fun c626 => ?_) (fun c626 => ?_)
                                                                              · replace hf := (ite_s hf).1 c626
                                                                                refine V_sub (L' := [(0, .ref b), (1, .ref (ad 0)), (2, .ref (ad 77)), (3, .ref (ad 100)), (4, .int i)]) [2, 3, 4, 5, 6] rfl ?_
                                                                                refine V_wide (k2 := (k + 17)) (n2 := (s + 102)) (Nat.add_le_add_left (show 1 ≤ 17 by decide) k) (Nat.add_le_add_left (show 6 ≤ 102 by decide) s) ?_
                                                                                exact hJ2123 _ hf
                                                                              · replace hf := (ite_s hf).2 c626
                                                                                refine V_iconst (v := 0) (q := 2122) C dL_law_2121 rfl ic_0 ?_
                                                                                exact absurd (pr_s hf).1 (by decide)
                                                                          · replace hf := (ite_s hf).2 c623
                                                                            refine V_iconst (v := 0) (q := 2105) C dL_law_2104 rfl ic_0 ?_
                                                                            exact absurd (pr_s hf).1 (by decide)
                                                                        · replace hf := (ite_s hf).2 c611
                                                                          by_cases c627 : ((xs i.toNatClampNeg) &&& (63 : Int32)) = (34 : Int32)
                                                                          · replace hf := (ite_s hf).1 c627
                                                                            refine V_tabIn (t := 2126) C dL_law_39 (by rw [c627]; decide) (by rw [c627]; decide) (off := 2087) (by rw [c627]; decide) (by decide) ?_
                                                                            refine V_aload_n (q := 2127) C dL_law_2126 rfl rfl 1 rfl ?_
                                                                            refine V_aload_n (q := 2128) C dL_law_2127 rfl rfl 3 rfl ?_
                                                                            obtain ⟨r628, σ629, h630, hf⟩ := bd_s hf
                                                                            refine V_callSW (av := [.ref (ad 0), .ref (ad 100)]) (st := []) (st1 := [.int r628]) (q := 2131) C (conL_meanPriceBits _ _ _  _ _ _ h630) q_1127 q_106 q_1125 q_1126 nmL_meanPriceBits (rmk rfl rfl (by decide) (by decide) (Nat.le_trans (Nat.add_le_add_left (show 2 ≤ 128 by decide) k) hk1) (Nat.le_trans (Nat.add_le_add_left (show 12 ≤ 768 by decide) s) hs1)) rfl rfl (Nat.le_of_ble_eq_true rfl) dL_law_2128 rfl rfl ?_
                                                                            refine V_wide (k2 := (k + 2)) (n2 := (s + 12)) (Nat.le_refl _) (Nat.le_refl _) ?_
                                                                            refine V_istore (L' := [(5, .int r628), (0, .ref b), (1, .ref (ad 0)), (2, .ref (ad 77)), (3, .ref (ad 100)), (4, .int i)]) (q := 2133) C dL_law_2131 rfl (by decide) rfl ?_
                                                                            refine V_aload_n (q := 2134) C dL_law_2133 rfl rfl 3 rfl ?_
                                                                            obtain ⟨r631, σ632, h633, hf⟩ := bd_s hf
                                                                            refine V_callVs (av := []) (st := []) (st1 := [.long r631]) (q := 2137) (subM (τ := σ629)) C 0 (by decide) (eM_0 G (fun i => ad (77 + i)) (σ629.2.1 0)) rfl rfl (conX7_meanPriceBits _ _ _  _ _ _ h633) q_1563 q_114 q_1560 q_1561 q_1562 nmX7_meanPriceBits (rmk rfl rfl (by decide) (by decide) (Nat.le_trans (Nat.add_le_add_left (show 2 ≤ 128 by decide) k) hk1) (Nat.le_trans (Nat.add_le_add_left (show 12 ≤ 768 by decide) s) hs1)) rfl rfl (Nat.le_of_ble_eq_true rfl) dL_law_2134 rfl rfl ?_
                                                                            refine V_lets hf (fun σ634 hf => ?_)
                                                                            refine V_wide (k2 := (k + 2)) (n2 := (s + 12)) (Nat.le_refl _) (Nat.le_refl _) ?_
                                                                            refine V_lstore (L' := [(6, .long r631), (5, .int r628), (0, .ref b), (1, .ref (ad 0)), (2, .ref (ad 77)), (3, .ref (ad 100)), (4, .int i)]) (q := 2139) C dL_law_2137 rfl (by decide) rfl ?_
                                                                            refine V_aload_n (q := 2140) C dL_law_2139 rfl rfl 4 rfl ?_
                                                                            obtain ⟨r635, σ636, h637, hf⟩ := bd_s hf
                                                                            refine V_callVs (av := []) (st := []) (st1 := [.int r635]) (q := 2143) (subM (τ := σ634)) C 0 (by decide) (eM_0 G (fun i => ad (77 + i)) (σ634.2.1 0)) rfl rfl (conX7_thrown _ _ _  _ _ _ h637) q_1237 q_114 q_1234 q_1235 q_1236 nmX7_thrown (rmk rfl rfl (by decide) (by decide) (Nat.le_trans (Nat.add_le_add_left (show 2 ≤ 128 by decide) k) hk1) (Nat.le_trans (Nat.add_le_add_left (show 12 ≤ 768 by decide) s) hs1)) rfl rfl (Nat.le_of_ble_eq_true rfl) dL_law_2140 rfl rfl ?_
                                                                            refine V_lets hf (fun σ638 hf => ?_)
                                                                            refine V_wide (k2 := (k + 2)) (n2 := (s + 12)) (Nat.le_refl _) (Nat.le_refl _) ?_
                                                                            refine V_iload (q := 2145) C dL_law_2143 rfl 1 rfl ?_
                                                                            refine V_icmp_eq (t := 2150) (q := 2148) C dL_law_2145 (by decide) rfl (fun c639 => ?_) (fun c639 => ?_)
                                                                            · replace hf := (ite_s hf).1 c639
                                                                              refine V_iload (q := 2152) C dL_law_2150 rfl 1 rfl ?_
                                                                              obtain ⟨J2166, eJ2166, hf⟩ := jp_s hf
                                                                              have hJ2166 : ∀ (σ640 : LT), J2166 σ640 = some (1, σf) → V wL X G ad 8 Q (k + 18) (s + 108) σ640 2166 [(0, .ref b), (1, .ref (ad 0)), (2, .ref (ad 77)), (3, .ref (ad 100)), (4, .int i)] [] := by
                                                                                intro σ640 hf
                                                                                subst eJ2166
                                                                                refine V_goto (t := 2282) C dL_law_2166 (by decide) ?_
                                                                                refine V_wide (k2 := (k + 100)) (n2 := (s + 600)) (Nat.add_le_add_left (show 18 ≤ 100 by decide) k) (Nat.add_le_add_left (show 108 ≤ 600 by decide) s) ?_
                                                                                exact hJ2282 _ hf
                                                                              refine V_if_ne (t := 2166) (q := 2155) C dL_law_2152 (by decide) rfl (fun c641 => ?_) (fun c641 => ?_)
                                                                              · replace hf := (ite_s hf).2 c641
                                                                                refine V_sub (L' := [(0, .ref b), (1, .ref (ad 0)), (2, .ref (ad 77)), (3, .ref (ad 100)), (4, .int i)]) [2, 3, 4, 5, 6] rfl ?_
                                                                                refine V_wide (k2 := (k + 18)) (n2 := (s + 108)) (Nat.add_le_add_left (show 2 ≤ 18 by decide) k) (Nat.add_le_add_left (show 12 ≤ 108 by decide) s) ?_
                                                                                exact hJ2166 _ hf
                                                                              · replace hf := (ite_s hf).1 c641
                                                                                refine V_aload_n (q := 2156) C dL_law_2155 rfl rfl 5 rfl ?_
                                                                                refine V_iconst (v := 0) (q := 2157) C dL_law_2156 rfl ic_0 ?_
                                                                                refine V_outR (q := 2158) C dL_law_2157 rfl ?_
                                                                                refine V_lload (q := 2160) C dL_law_2158 rfl 0 rfl ?_
                                                                                refine V_lcmp (q := 2161) C dL_law_2160 rfl ?_
                                                                                refine V_if_eq (t := 2166) (q := 2164) C dL_law_2161 (by decide) rfl (fun c642 => ?_) (fun c642 => ?_)
                                                                                · replace hf := (ite_s hf).1 c642
                                                                                  refine V_sub (L' := [(0, .ref b), (1, .ref (ad 0)), (2, .ref (ad 77)), (3, .ref (ad 100)), (4, .int i)]) [2, 3, 4, 5, 6] rfl ?_
                                                                                  refine V_wide (k2 := (k + 18)) (n2 := (s + 108)) (Nat.add_le_add_left (show 2 ≤ 18 by decide) k) (Nat.add_le_add_left (show 12 ≤ 108 by decide) s) ?_
                                                                                  exact hJ2166 _ hf
                                                                                · replace hf := (ite_s hf).2 c642
                                                                                  refine V_iconst (v := 0) (q := 2165) C dL_law_2164 rfl ic_0 ?_
                                                                                  exact absurd (pr_s hf).1 (by decide)
                                                                            · replace hf := (ite_s hf).2 c639
                                                                              refine V_iconst (v := 0) (q := 2149) C dL_law_2148 rfl ic_0 ?_
                                                                              exact absurd (pr_s hf).1 (by decide)
                                                                          · replace hf := (ite_s hf).2 c627
                                                                            by_cases c643 : ((xs i.toNatClampNeg) &&& (63 : Int32)) = (35 : Int32)
                                                                            · replace hf := (ite_s hf).1 c643
                                                                              refine V_tabIn (t := 2169) C dL_law_39 (by rw [c643]; decide) (by rw [c643]; decide) (off := 2130) (by rw [c643]; decide) (by decide) ?_
                                                                              refine V_aload_n (q := 2170) C dL_law_2169 rfl rfl 1 rfl ?_
                                                                              refine V_aload_n (q := 2171) C dL_law_2170 rfl rfl 0 rfl ?_
                                                                              refine V_iload (q := 2173) C dL_law_2171 rfl 4 rfl ?_
                                                                              refine V_iconst (v := 1) (q := 2174) C dL_law_2173 rfl ic_1 ?_
                                                                              refine V_iadd (q := 2175) C dL_law_2174 rfl ?_
                                                                              obtain ⟨g644, hf⟩ := gd_s hf
                                                                              refine V_sld (q := 2176) C hX hbl hbA (inb_in g644) dL_law_2175 rfl ?_
                                                                              refine V_aload_n (q := 2177) C dL_law_2176 rfl rfl 3 rfl ?_
                                                                              obtain ⟨r645, σ646, h647, hf⟩ := bd_s hf
                                                                              refine V_callSW (av := [.ref (ad 0), .int (xs (i + (1 : Int32)).toNatClampNeg), .ref (ad 100)]) (st := []) (st1 := [.int r645]) (q := 2180) C (conL_count _ _ _ _ _ _ _ h647) q_1154 q_106 q_1152 q_1153 nmL_count (rmk rfl rfl (by decide) (by decide) (Nat.le_trans (Nat.add_le_add_left (show 1 ≤ 128 by decide) k) hk1) (Nat.le_trans (Nat.add_le_add_left (show 6 ≤ 768 by decide) s) hs1)) rfl rfl (Nat.le_of_ble_eq_true rfl) dL_law_2177 rfl rfl ?_
                                                                              refine V_wide (k2 := (k + 1)) (n2 := (s + 6)) (Nat.le_refl _) (Nat.le_refl _) ?_
                                                                              refine V_istore (L' := [(5, .int r645), (0, .ref b), (1, .ref (ad 0)), (2, .ref (ad 77)), (3, .ref (ad 100)), (4, .int i)]) (q := 2182) C dL_law_2180 rfl (by decide) rfl ?_
                                                                              refine V_aload_n (q := 2183) C dL_law_2182 rfl rfl 3 rfl ?_
                                                                              refine V_aload_n (q := 2184) C dL_law_2183 rfl rfl 1 rfl ?_
                                                                              refine V_iload (q := 2186) C dL_law_2184 rfl 5 rfl ?_
                                                                              refine V_iconst (v := 1) (q := 2187) C dL_law_2186 rfl ic_1 ?_
                                                                              refine V_iadd (q := 2188) C dL_law_2187 rfl ?_
                                                                              obtain ⟨g648, hf⟩ := gd_s hf
                                                                              refine V_sld (q := 2189) C hX hbl hbA (inb_in g648) dL_law_2188 rfl ?_
                                                                              obtain ⟨r649, σ650, h651, hf⟩ := bd_s hf
                                                                              refine V_callVs (av := [.int (xs (i + (1 : Int32)).toNatClampNeg)]) (st := []) (st1 := [.int r649]) (q := 2192) (subM (τ := σ646)) C 0 (by decide) (eM_0 G (fun i => ad (77 + i)) (σ646.2.1 0)) rfl rfl (conX7_count _ _ _ _ _ _ _ h651) q_1577 q_114 q_1574 q_1575 q_1576 nmX7_count (rmk rfl rfl (by decide) (by decide) (Nat.le_trans (Nat.add_le_add_left (show 1 ≤ 128 by decide) k) hk1) (Nat.le_trans (Nat.add_le_add_left (show 6 ≤ 768 by decide) s) hs1)) rfl rfl (Nat.le_of_ble_eq_true rfl) dL_law_2189 rfl rfl ?_
                                                                              refine V_lets hf (fun σ652 hf => ?_)
                                                                              refine V_wide (k2 := (k + 1)) (n2 := (s + 6)) (Nat.le_refl _) (Nat.le_refl _) ?_
                                                                              refine V_istore (L' := [(6, .int r649), (5, .int r645), (0, .ref b), (1, .ref (ad 0)), (2, .ref (ad 77)), (3, .ref (ad 100)), (4, .int i)]) (q := 2194) C dL_law_2192 rfl (by decide) rfl ?_
                                                                              refine V_aload_n (q := 2195) C dL_law_2194 rfl rfl 4 rfl ?_
                                                                              obtain ⟨r653, σ654, h655, hf⟩ := bd_s hf
                                                                              refine V_callVs (av := []) (st := []) (st1 := [.int r653]) (q := 2198) (subM (τ := σ652)) C 0 (by decide) (eM_0 G (fun i => ad (77 + i)) (σ652.2.1 0)) rfl rfl (conX7_thrown _ _ _  _ _ _ h655) q_1237 q_114 q_1234 q_1235 q_1236 nmX7_thrown (rmk rfl rfl (by decide) (by decide) (Nat.le_trans (Nat.add_le_add_left (show 1 ≤ 128 by decide) k) hk1) (Nat.le_trans (Nat.add_le_add_left (show 6 ≤ 768 by decide) s) hs1)) rfl rfl (Nat.le_of_ble_eq_true rfl) dL_law_2195 rfl rfl ?_
                                                                              refine V_lets hf (fun σ656 hf => ?_)
                                                                              refine V_wide (k2 := (k + 1)) (n2 := (s + 6)) (Nat.le_refl _) (Nat.le_refl _) ?_
                                                                              refine V_iload (q := 2200) C dL_law_2198 rfl 1 rfl ?_
                                                                              refine V_icmp_eq (t := 2205) (q := 2203) C dL_law_2200 (by decide) rfl (fun c657 => ?_) (fun c657 => ?_)
                                                                              · replace hf := (ite_s hf).1 c657
                                                                                refine V_iload (q := 2207) C dL_law_2205 rfl 1 rfl ?_
                                                                                obtain ⟨J2222, eJ2222, hf⟩ := jp_s hf
                                                                                have hJ2222 : ∀ (σ658 : LT), J2222 σ658 = some (1, σf) → V wL X G ad 8 Q (k + 17) (s + 102) σ658 2222 [(0, .ref b), (1, .ref (ad 0)), (2, .ref (ad 77)), (3, .ref (ad 100)), (4, .int i)] [] := by
                                                                                  intro σ658 hf
                                                                                  subst eJ2222
                                                                                  refine V_goto (t := 2282) C dL_law_2222 (by decide) ?_
                                                                                  refine V_wide (k2 := (k + 100)) (n2 := (s + 600)) (Nat.add_le_add_left (show 17 ≤ 100 by decide) k) (Nat.add_le_add_left (show 102 ≤ 600 by decide) s) ?_
                                                                                  exact hJ2282 _ hf
                                                                                refine V_if_ne (t := 2222) (q := 2210) C dL_law_2207 (by decide) rfl (fun c659 => ?_) (fun c659 => ?_)
                                                                                · replace hf := (ite_s hf).2 c659
                                                                                  refine V_sub (L' := [(0, .ref b), (1, .ref (ad 0)), (2, .ref (ad 77)), (3, .ref (ad 100)), (4, .int i)]) [2, 3, 4, 5, 6] rfl ?_
                                                                                  refine V_wide (k2 := (k + 17)) (n2 := (s + 102)) (Nat.add_le_add_left (show 1 ≤ 17 by decide) k) (Nat.add_le_add_left (show 6 ≤ 102 by decide) s) ?_
                                                                                  exact hJ2222 _ hf
                                                                                · replace hf := (ite_s hf).1 c659
                                                                                  refine V_aload_n (q := 2211) C dL_law_2210 rfl rfl 5 rfl ?_
                                                                                  refine V_iconst (v := 0) (q := 2212) C dL_law_2211 rfl ic_0 ?_
                                                                                  refine V_outR (q := 2213) C dL_law_2212 rfl ?_
                                                                                  refine V_iload (q := 2215) C dL_law_2213 rfl 0 rfl ?_
                                                                                  refine V_i2l (q := 2216) C dL_law_2215 rfl ?_
                                                                                  refine V_lcmp (q := 2217) C dL_law_2216 rfl ?_
                                                                                  refine V_if_eq (t := 2222) (q := 2220) C dL_law_2217 (by decide) rfl (fun c660 => ?_) (fun c660 => ?_)
                                                                                  · replace hf := (ite_s hf).1 c660
                                                                                    refine V_sub (L' := [(0, .ref b), (1, .ref (ad 0)), (2, .ref (ad 77)), (3, .ref (ad 100)), (4, .int i)]) [2, 3, 4, 5, 6] rfl ?_
                                                                                    refine V_wide (k2 := (k + 17)) (n2 := (s + 102)) (Nat.add_le_add_left (show 1 ≤ 17 by decide) k) (Nat.add_le_add_left (show 6 ≤ 102 by decide) s) ?_
                                                                                    exact hJ2222 _ hf
                                                                                  · replace hf := (ite_s hf).2 c660
                                                                                    refine V_iconst (v := 0) (q := 2221) C dL_law_2220 rfl ic_0 ?_
                                                                                    exact absurd (pr_s hf).1 (by decide)
                                                                              · replace hf := (ite_s hf).2 c657
                                                                                refine V_iconst (v := 0) (q := 2204) C dL_law_2203 rfl ic_0 ?_
                                                                                exact absurd (pr_s hf).1 (by decide)
                                                                            · replace hf := (ite_s hf).2 c643
                                                                              by_cases c661 : ((xs i.toNatClampNeg) &&& (63 : Int32)) = (36 : Int32)
                                                                              · replace hf := (ite_s hf).1 c661
                                                                                refine V_tabIn (t := 2225) C dL_law_39 (by rw [c661]; decide) (by rw [c661]; decide) (off := 2186) (by rw [c661]; decide) (by decide) ?_
                                                                                refine V_aload_n (q := 2226) C dL_law_2225 rfl rfl 1 rfl ?_
                                                                                obtain ⟨r662, σ663, h664, hf⟩ := bd_s hf
                                                                                refine V_callVs (av := []) (st := []) (st1 := [.int r662]) (q := 2229) (subX (τ := σ)) C 0 (by decide) (eX_0 G ad _) rfl rfl (conX6_save _ _ _  _ _ _ h664) q_397 q_107 q_394 q_395 q_396 nmX6_save (rmk rfl rfl (by decide) (by decide) (Nat.le_trans (Nat.add_le_add_left (show 0 ≤ 128 by decide) k) hk1) (Nat.le_trans (Nat.add_le_add_left (show 0 ≤ 768 by decide) s) hs1)) rfl rfl (Nat.le_of_ble_eq_true rfl) dL_law_2226 rfl rfl ?_
                                                                                refine V_lets hf (fun σ665 hf => ?_)
                                                                                refine V_wide (k2 := k) (n2 := s) (Nat.le_refl _) (Nat.le_refl _) ?_
                                                                                refine V_aload_n (q := 2230) C dL_law_2229 rfl rfl 2 rfl ?_
                                                                                obtain ⟨r666, σ667, h668, hf⟩ := bd_s hf
                                                                                refine V_callVs (av := []) (st := [.int r662]) (st1 := [.int r666, .int r662]) (q := 2233) (subM (τ := σ665)) C 0 (by decide) (eM_0 G (fun i => ad (77 + i)) (σ665.2.1 0)) rfl rfl (conX7_save _ _ _  _ _ _ h668) q_1589 q_114 q_1586 q_1587 q_1588 nmX7_save (rmk rfl rfl (by decide) (by decide) (Nat.le_trans (Nat.add_le_add_left (show 0 ≤ 128 by decide) k) hk1) (Nat.le_trans (Nat.add_le_add_left (show 0 ≤ 768 by decide) s) hs1)) rfl rfl (Nat.le_of_ble_eq_true rfl) dL_law_2230 rfl rfl ?_
                                                                                refine V_lets hf (fun σ669 hf => ?_)
                                                                                refine V_wide (k2 := k) (n2 := s) (Nat.le_refl _) (Nat.le_refl _) ?_
                                                                                refine V_icmp_eq (t := 2282) (q := 2236) C dL_law_2233 (by decide) rfl (fun c670 => ?_) (fun c670 => ?_)
                                                                                · replace hf := (ite_s hf).1 c670
                                                                                  refine V_wide (k2 := (k + 100)) (n2 := (s + 600)) (Nat.add_le_add_left (show 0 ≤ 100 by decide) k) (Nat.add_le_add_left (show 0 ≤ 600 by decide) s) ?_
                                                                                  exact hJ2282 _ hf
                                                                                · replace hf := (ite_s hf).2 c670
                                                                                  refine V_iconst (v := 0) (q := 2237) C dL_law_2236 rfl ic_0 ?_
                                                                                  exact absurd (pr_s hf).1 (by decide)
                                                                              · replace hf := (ite_s hf).2 c661
                                                                                by_cases c671 : ((xs i.toNatClampNeg) &&& (63 : Int32)) = (37 : Int32)
                                                                                · replace hf := (ite_s hf).1 c671
                                                                                  refine V_tabIn (t := 2238) C dL_law_39 (by rw [c671]; decide) (by rw [c671]; decide) (off := 2199) (by rw [c671]; decide) (by decide) ?_
                                                                                  refine V_aload_n (q := 2239) C dL_law_2238 rfl rfl 1 rfl ?_
                                                                                  refine V_aload_n (q := 2240) C dL_law_2239 rfl rfl 3 rfl ?_
                                                                                  obtain ⟨r672, σ673, h674, hf⟩ := bd_s hf
                                                                                  refine V_callSW (av := [.ref (ad 0), .ref (ad 100)]) (st := []) (st1 := [.int r672]) (q := 2243) C (conL_restore _ _ _  _ _ _ h674) q_1169 q_106 q_1167 q_1168 nmL_restore (rmk rfl rfl (by decide) (by decide) (Nat.le_trans (Nat.add_le_add_left (show 1 ≤ 128 by decide) k) hk1) (Nat.le_trans (Nat.add_le_add_left (show 6 ≤ 768 by decide) s) hs1)) rfl rfl (Nat.le_of_ble_eq_true rfl) dL_law_2240 rfl rfl ?_
                                                                                  refine V_wide (k2 := (k + 1)) (n2 := (s + 6)) (Nat.le_refl _) (Nat.le_refl _) ?_
                                                                                  refine V_istore (L' := [(5, .int r672), (0, .ref b), (1, .ref (ad 0)), (2, .ref (ad 77)), (3, .ref (ad 100)), (4, .int i)]) (q := 2245) C dL_law_2243 rfl (by decide) rfl ?_
                                                                                  refine V_aload_n (q := 2246) C dL_law_2245 rfl rfl 3 rfl ?_
                                                                                  obtain ⟨r675, σ676, h677, hf⟩ := bd_s hf
                                                                                  refine V_callVs (av := []) (st := []) (st1 := [.int r675]) (q := 2249) (subM (τ := σ673)) C 0 (by decide) (eM_0 G (fun i => ad (77 + i)) (σ673.2.1 0)) rfl rfl (conX7_restore _ _ _  _ _ _ h677) q_1596 q_114 q_1593 q_1594 q_1595 nmX7_restore (rmk rfl rfl (by decide) (by decide) (Nat.le_trans (Nat.add_le_add_left (show 1 ≤ 128 by decide) k) hk1) (Nat.le_trans (Nat.add_le_add_left (show 6 ≤ 768 by decide) s) hs1)) rfl rfl (Nat.le_of_ble_eq_true rfl) dL_law_2246 rfl rfl ?_
                                                                                  refine V_lets hf (fun σ678 hf => ?_)
                                                                                  refine V_wide (k2 := (k + 1)) (n2 := (s + 6)) (Nat.le_refl _) (Nat.le_refl _) ?_
                                                                                  refine V_istore (L' := [(6, .int r675), (5, .int r672), (0, .ref b), (1, .ref (ad 0)), (2, .ref (ad 77)), (3, .ref (ad 100)), (4, .int i)]) (q := 2251) C dL_law_2249 rfl (by decide) rfl ?_
                                                                                  refine V_aload_n (q := 2252) C dL_law_2251 rfl rfl 4 rfl ?_
                                                                                  obtain ⟨r679, σ680, h681, hf⟩ := bd_s hf
                                                                                  refine V_callVs (av := []) (st := []) (st1 := [.int r679]) (q := 2255) (subM (τ := σ678)) C 0 (by decide) (eM_0 G (fun i => ad (77 + i)) (σ678.2.1 0)) rfl rfl (conX7_thrown _ _ _  _ _ _ h681) q_1237 q_114 q_1234 q_1235 q_1236 nmX7_thrown (rmk rfl rfl (by decide) (by decide) (Nat.le_trans (Nat.add_le_add_left (show 1 ≤ 128 by decide) k) hk1) (Nat.le_trans (Nat.add_le_add_left (show 6 ≤ 768 by decide) s) hs1)) rfl rfl (Nat.le_of_ble_eq_true rfl) dL_law_2252 rfl rfl ?_
                                                                                  refine V_lets hf (fun σ682 hf => ?_)
                                                                                  refine V_wide (k2 := (k + 1)) (n2 := (s + 6)) (Nat.le_refl _) (Nat.le_refl _) ?_
                                                                                  refine V_iload (q := 2257) C dL_law_2255 rfl 1 rfl ?_
                                                                                  refine V_icmp_eq (t := 2262) (q := 2260) C dL_law_2257 (by decide) rfl (fun c683 => ?_) (fun c683 => ?_)
                                                                                  · replace hf := (ite_s hf).1 c683
                                                                                    refine V_iload (q := 2264) C dL_law_2262 rfl 1 rfl ?_
                                                                                    obtain ⟨J2279, eJ2279, hf⟩ := jp_s hf
                                                                                    have hJ2279 : ∀ (σ684 : LT), J2279 σ684 = some (1, σf) → V wL X G ad 8 Q (k + 17) (s + 102) σ684 2279 [(0, .ref b), (1, .ref (ad 0)), (2, .ref (ad 77)), (3, .ref (ad 100)), (4, .int i)] [] := by
                                                                                      intro σ684 hf
                                                                                      subst eJ2279
                                                                                      refine V_goto (t := 2282) C dL_law_2279 (by decide) ?_
                                                                                      refine V_wide (k2 := (k + 100)) (n2 := (s + 600)) (Nat.add_le_add_left (show 17 ≤ 100 by decide) k) (Nat.add_le_add_left (show 102 ≤ 600 by decide) s) ?_
                                                                                      exact hJ2282 _ hf
                                                                                    refine V_if_ne (t := 2279) (q := 2267) C dL_law_2264 (by decide) rfl (fun c685 => ?_) (fun c685 => ?_)
                                                                                    · replace hf := (ite_s hf).2 c685
                                                                                      refine V_sub (L' := [(0, .ref b), (1, .ref (ad 0)), (2, .ref (ad 77)), (3, .ref (ad 100)), (4, .int i)]) [2, 3, 4, 5, 6] rfl ?_
                                                                                      refine V_wide (k2 := (k + 17)) (n2 := (s + 102)) (Nat.add_le_add_left (show 1 ≤ 17 by decide) k) (Nat.add_le_add_left (show 6 ≤ 102 by decide) s) ?_
                                                                                      exact hJ2279 _ hf
                                                                                    · replace hf := (ite_s hf).1 c685
                                                                                      refine V_aload_n (q := 2268) C dL_law_2267 rfl rfl 5 rfl ?_
                                                                                      refine V_iconst (v := 0) (q := 2269) C dL_law_2268 rfl ic_0 ?_
                                                                                      refine V_outR (q := 2270) C dL_law_2269 rfl ?_
                                                                                      refine V_iload (q := 2272) C dL_law_2270 rfl 0 rfl ?_
                                                                                      refine V_i2l (q := 2273) C dL_law_2272 rfl ?_
                                                                                      refine V_lcmp (q := 2274) C dL_law_2273 rfl ?_
                                                                                      refine V_if_eq (t := 2279) (q := 2277) C dL_law_2274 (by decide) rfl (fun c686 => ?_) (fun c686 => ?_)
                                                                                      · replace hf := (ite_s hf).1 c686
                                                                                        refine V_sub (L' := [(0, .ref b), (1, .ref (ad 0)), (2, .ref (ad 77)), (3, .ref (ad 100)), (4, .int i)]) [2, 3, 4, 5, 6] rfl ?_
                                                                                        refine V_wide (k2 := (k + 17)) (n2 := (s + 102)) (Nat.add_le_add_left (show 1 ≤ 17 by decide) k) (Nat.add_le_add_left (show 6 ≤ 102 by decide) s) ?_
                                                                                        exact hJ2279 _ hf
                                                                                      · replace hf := (ite_s hf).2 c686
                                                                                        refine V_iconst (v := 0) (q := 2278) C dL_law_2277 rfl ic_0 ?_
                                                                                        exact absurd (pr_s hf).1 (by decide)
                                                                                  · replace hf := (ite_s hf).2 c683
                                                                                    refine V_iconst (v := 0) (q := 2261) C dL_law_2260 rfl ic_0 ?_
                                                                                    exact absurd (pr_s hf).1 (by decide)
                                                                                · replace hf := (ite_s hf).2 c671
                                                                                  refine V_tabOut (t := 2282) C dL_law_39 (sw_out (h := 37) (by decide) (fun i hi => ?_)) (by decide) ?_
                                                                                  · match i, hi with
                                                                                    | 0, _ => exact c4
                                                                                    | 1, _ => exact c26
                                                                                    | 2, _ => exact c42
                                                                                    | 3, _ => exact c71
                                                                                    | 4, _ => exact c91
                                                                                    | 5, _ => exact c109
                                                                                    | 6, _ => exact c127
                                                                                    | 7, _ => exact c143
                                                                                    | 8, _ => exact c153
                                                                                    | 9, _ => exact c178
                                                                                    | 10, _ => exact c196
                                                                                    | 11, _ => exact c216
                                                                                    | 12, _ => exact c234
                                                                                    | 13, _ => exact c254
                                                                                    | 14, _ => exact c275
                                                                                    | 15, _ => exact c293
                                                                                    | 16, _ => exact c311
                                                                                    | 17, _ => exact c329
                                                                                    | 18, _ => exact c347
                                                                                    | 19, _ => exact c367
                                                                                    | 20, _ => exact c385
                                                                                    | 21, _ => exact c403
                                                                                    | 22, _ => exact c421
                                                                                    | 23, _ => exact c439
                                                                                    | 24, _ => exact c455
                                                                                    | 25, _ => exact c471
                                                                                    | 26, _ => exact c489
                                                                                    | 27, _ => exact c507
                                                                                    | 28, _ => exact c525
                                                                                    | 29, _ => exact c543
                                                                                    | 30, _ => exact c561
                                                                                    | 31, _ => exact c579
                                                                                    | 32, _ => exact c595
                                                                                    | 33, _ => exact c611
                                                                                    | 34, _ => exact c627
                                                                                    | 35, _ => exact c643
                                                                                    | 36, _ => exact c661
                                                                                    | 37, _ => exact c671
                                                                                    | i + 38, h => exact absurd h (by omega)
                                                                                  · refine V_wide (k2 := (k + 100)) (n2 := (s + 600)) (Nat.add_le_add_left (show 0 ≤ 100 by decide) k) (Nat.add_le_add_left (show 0 ≤ 600 by decide) s) ?_
                                                                                    exact hJ2282 _ hf
