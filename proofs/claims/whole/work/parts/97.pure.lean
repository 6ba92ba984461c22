/-! Layer 2, 64: the law's loop -/
theorem law_step {i n Ln t : Nat} (xs : Nat → Int32) (h4 : i + 4 ≤ Ln) (hL : Ln ≤ 2048) (ht : t + 1 < 2 ^ 20) (hJ : Gon (t + 1) (fun σ3 => fL_law xs Ln n (nI (i + 4)) σ3)) {M : Mk} {σ : LT} (h : Rel t M σ.1 σ.2.1) : ∃ σf, fL_law xs Ln (n + 1) (nI i) σ = some (1, σf) := by
  have g0 : inb (nI i) Ln = true := inb_ok (by omega) (by omega)
  have a1 : nI i + (1 : Int32) = nI (i + 1) := zs_add i
  have a2 : nI i + (2 : Int32) = nI (i + 2) := zI_add i 2
  have a3 : nI i + (3 : Int32) = nI (i + 3) := zI_add i 3
  have a4 : nI i + (4 : Int32) = nI (i + 4) := zI_add i 4
  have g1 : inb (nI (i + 1)) Ln = true := inb_ok (by omega) (by omega)
  have g2 : inb (nI (i + 2)) Ln = true := inb_ok (by omega) (by omega)
  have g3 : inb (nI (i + 3)) Ln = true := inb_ok (by omega) (by omega)
  have c0 : ¬ (Int32.ofNat Ln - (4 : Int32) < nI i) := by
    rw [show Int32.ofNat Ln - (4 : Int32) = nI (Ln - 4) from zI_sub (a := Ln) (b := 4) (by omega), zI_lt (by omega) (by omega)]
    omega
  rw [fL_law, if_neg c0, gd_of g0, a4, jp_eq]
  generalize (fun σ3 => fL_law xs Ln n (nI (i + 4)) σ3) = J at hJ
  rw [zI_clamp (show i < 2 ^ 31 by omega)]
  generalize xs i &&& (63 : Int32) = v
  by_cases q0 : v = 0
  · rw [if_pos q0]
    simp only [a1, a2, a3, gd_of g1, gd_of g2, gd_of g3]
    obtain ⟨x, σ', y, τ', M', e1, e2, hr, ha⟩ := op_addStation h ht (xs (nI (i + 1)).toNatClampNeg) (xs (nI (i + 2)).toNatClampNeg) (xs (nI (i + 3)).toNatClampNeg)
    obtain ⟨c, buf, w1, w2, w3⟩ := wr_addStation σ (xs (nI (i + 1)).toNatClampNeg) (xs (nI (i + 2)).toNatClampNeg) (xs (nI (i + 3)).toNatClampNeg) x σ' e1 y (τ' 0 0) ha
    rw [w1, bd_some, e2, bd_some]
    exact tail_i hJ (by omega) ht hr w2 w3
  rw [if_neg q0]
  clear q0
  by_cases q1 : v = 1
  · rw [if_pos q1]
    obtain ⟨x, σ', y, τ', M', e1, e2, hr, ha⟩ := op_removeStation h ht
    obtain ⟨c, buf, w1, w2, w3⟩ := wr_removeStation σ x σ' e1 y (τ' 0 0) ha
    rw [w1, bd_some, e2, bd_some]
    exact tail_i hJ (by omega) ht hr w2 w3
  rw [if_neg q1]
  clear q1
  by_cases q2 : v = (2 : Int32)
  · rw [if_pos q2]
    rw [a1, a2, gd_of g1, gd_of g2, zI_clamp (show i + 1 < 2 ^ 31 by omega), zI_clamp (show i + 2 < 2 ^ 31 by omega)]
    generalize hb : (if xs (i + 2) = 0 then (0 : Int32) else 1) = bb
    have go : ∀ w : Int32, ∃ σf, bd (fL_setParticipates (xs (i + 1)) w σ) (fun (r47 : Int32) (σ48 : LT) => bd (fX7_setParticipates (xs (i + 1)) w σ48.2.1) (fun (r54 : Int32) (σ55 : Sg) => lt' (σ48.1, σ55, σ48.2.2) (fun (σ57 : LT) => bd (fX7_thrown σ57.2.1) (fun (r58 : Int32) (σ59 : Sg) => lt' (σ57.1, σ59, σ57.2.2) (fun (σ61 : LT) => if r58 = r47 then (jp (fun (σ63 : LT) => J σ63) (fun (J416 : LT → Option (Int32 × LT)) => if r47 = 0 then (jp (fun (v65 : Int64) (σ66 : LT) => if (lg_cmp (σ61.2.2 0) v65) = 0 then (J416 σ66) else (some (0, σ66))) (fun (J410 : Int64 → LT → Option (Int32 × LT)) => if r54 = 0 then (J410 (0 : Int64) σ61) else (J410 (1 : Int64) σ61))) else (J416 σ61))) else (some (0, σ61))))))) = some (1, σf) := by
      intro w
      obtain ⟨x, σ', y, τ', M', e1, e2, hr, ha⟩ := op_setParticipates h (xs (i + 1)) w
      obtain ⟨c, buf, w1, w2, w3⟩ := wr_setParticipates σ (xs (i + 1)) w x σ' e1 y (τ' 0 0) ha
      rw [w1, bd_some, e2, bd_some]
      exact tail_b hJ (by omega) ht hr w2 w3
    simp only [gd_of g1, gd_of g2]
    by_cases qb : xs (i + 2) = 0
    · obtain ⟨σf, hf⟩ := go 0
      refine ⟨σf, ?_⟩
      rw [jp_eq, if_pos qb]
      rw [← hf]
      simp only [jp_eq, if_pos qb]
    · obtain ⟨σf, hf⟩ := go 1
      refine ⟨σf, ?_⟩
      rw [jp_eq, if_neg qb]
      rw [← hf]
      simp only [jp_eq, if_neg qb]
  rw [if_neg q2]
  clear q2
  by_cases q3 : v = (3 : Int32)
  · rw [if_pos q3]
    simp only [a1, a2, gd_of g1, gd_of g2]
    obtain ⟨x, σ', y, τ', M', e1, e2, hr, ha⟩ := op_setValue h (xs (nI (i + 1)).toNatClampNeg) (xs (nI (i + 2)).toNatClampNeg)
    obtain ⟨c, buf, w1, w2, w3⟩ := wr_setValue σ (xs (nI (i + 1)).toNatClampNeg) (xs (nI (i + 2)).toNatClampNeg) x σ' e1 y (τ' 0 0) ha
    rw [w1, bd_some, e2, bd_some]
    exact tail_i hJ (by omega) ht hr w2 w3
  rw [if_neg q3]
  clear q3
  by_cases q4 : v = (4 : Int32)
  · rw [if_pos q4]
    simp only [a1, gd_of g1]
    obtain ⟨x, σ', y, τ', M', e1, e2, hr, ha⟩ := op_setAvailable h ht (xs (nI (i + 1)).toNatClampNeg)
    obtain ⟨c, buf, w1, w2, w3⟩ := wr_setAvailable σ (xs (nI (i + 1)).toNatClampNeg) x σ' e1 y (τ' 0 0) ha
    rw [w1, bd_some, e2, bd_some]
    exact tail_i hJ (by omega) ht hr w2 w3
  rw [if_neg q4]
  clear q4
  by_cases q5 : v = (5 : Int32)
  · rw [if_pos q5]
    simp only [a1, gd_of g1]
    obtain ⟨x, σ', y, τ', M', e1, e2, hr, ha⟩ := op_append h (xs (nI (i + 1)).toNatClampNeg)
    obtain ⟨c, buf, w1, w2, w3⟩ := wr_append σ (xs (nI (i + 1)).toNatClampNeg) x σ' e1 y (τ' 0 0) ha
    rw [w1, bd_some, e2, bd_some]
    exact tail_i hJ (by omega) ht hr w2 w3
  rw [if_neg q5]
  clear q5
  by_cases q6 : v = (6 : Int32)
  · rw [if_pos q6]
    obtain ⟨x, σ', y, τ', M', e1, e2, hr, ha⟩ := op_setConflicts h ht
    obtain ⟨c, buf, w1, w2, w3⟩ := wr_setConflicts σ x σ' e1 y (τ' 0 0) ha
    rw [w1, bd_some, e2, bd_some]
    exact tail_i hJ (by omega) ht hr w2 w3
  rw [if_neg q6]
  clear q6
  by_cases q7 : v = (7 : Int32)
  · rw [if_pos q7]
    obtain ⟨y, τ', e1, e2, hr, hz⟩ := op_errorPosition h
    rw [e1, bd_some, lt'_eq]
    rw [e2, bd_some, lt'_eq, if_pos rfl]
    exact hJ M _ (hr.mono (by omega) ht)
  rw [if_neg q7]
  clear q7
  by_cases q8 : v = (8 : Int32)
  · rw [if_pos q8]
    simp only [a1, a2, a3, gd_of g1, gd_of g2, gd_of g3]
    obtain ⟨x, σ', y, τ', M', e1, e2, hr, ha⟩ := op_hasConflict h (xs (nI (i + 1)).toNatClampNeg) (xs (nI (i + 2)).toNatClampNeg) (xs (nI (i + 3)).toNatClampNeg)
    obtain ⟨c, buf, w1, w2, w3⟩ := wr_hasConflict σ (xs (nI (i + 1)).toNatClampNeg) (xs (nI (i + 2)).toNatClampNeg) (xs (nI (i + 3)).toNatClampNeg) x σ' e1 y (τ' 0 0) ha
    rw [w1, bd_some, e2, bd_some]
    exact tail_b hJ (by omega) ht hr w2 w3
  rw [if_neg q8]
  clear q8
  by_cases q9 : v = (9 : Int32)
  · rw [if_pos q9]
    simp only [a1, gd_of g1]
    obtain ⟨x, σ', y, τ', M', e1, e2, hr, ha⟩ := op_conflicts h (xs (nI (i + 1)).toNatClampNeg)
    obtain ⟨c, buf, w1, w2, w3⟩ := wr_conflicts σ (xs (nI (i + 1)).toNatClampNeg) x σ' e1 y (τ' 0 0) ha
    rw [w1, bd_some, e2, bd_some]
    exact tail_i hJ (by omega) ht hr w2 w3
  rw [if_neg q9]
  clear q9
  by_cases q10 : v = (10 : Int32)
  · rw [if_pos q10]
    simp only [a1, a2, gd_of g1, gd_of g2]
    obtain ⟨x, σ', y, τ', M', e1, e2, hr, ha⟩ := op_station h (xs (nI (i + 1)).toNatClampNeg) (xs (nI (i + 2)).toNatClampNeg)
    obtain ⟨c, buf, w1, w2, w3⟩ := wr_station σ (xs (nI (i + 1)).toNatClampNeg) (xs (nI (i + 2)).toNatClampNeg) x σ' e1 y (τ' 0 0) ha
    rw [w1, bd_some, e2, bd_some]
    exact tail_i hJ (by omega) ht hr w2 w3
  rw [if_neg q10]
  clear q10
  by_cases q11 : v = (11 : Int32)
  · rw [if_pos q11]
    simp only [a1, gd_of g1]
    obtain ⟨x, σ', y, τ', M', e1, e2, hr, ha⟩ := op_volumeBits h (xs (nI (i + 1)).toNatClampNeg)
    obtain ⟨c, buf, w1, w2, w3⟩ := wr_volumeBits σ (xs (nI (i + 1)).toNatClampNeg) x σ' e1 y (τ' 0 0) ha
    rw [w1, bd_some, e2, bd_some]
    exact tail_i hJ (by omega) ht hr w2 w3
  rw [if_neg q11]
  clear q11
  by_cases q12 : v = (12 : Int32)
  · rw [if_pos q12]
    simp only [a1, a2, gd_of g1, gd_of g2]
    obtain ⟨x, σ', y, τ', M', e1, e2, hr, ha⟩ := op_priceAt h (xs (nI (i + 1)).toNatClampNeg) (xs (nI (i + 2)).toNatClampNeg)
    obtain ⟨c, buf, w1, w2, w3⟩ := wr_priceAt σ (xs (nI (i + 1)).toNatClampNeg) (xs (nI (i + 2)).toNatClampNeg) x σ' e1 y (τ' 0 0) ha
    rw [w1, bd_some, e2, bd_some]
    exact tail_i hJ (by omega) ht hr w2 w3
  rw [if_neg q12]
  clear q12
  by_cases q13 : v = (13 : Int32)
  · rw [if_pos q13]
    simp only [a1, gd_of g1]
    obtain ⟨x, σ', y, τ', M', e1, e2, hr, ha⟩ := op_isFeasible h (xs (nI (i + 1)).toNatClampNeg)
    obtain ⟨c, buf, w1, w2, w3⟩ := wr_isFeasible σ (xs (nI (i + 1)).toNatClampNeg) x σ' e1 y (τ' 0 0) ha
    rw [w1, bd_some, e2, bd_some]
    exact tail_b hJ (by omega) ht hr w2 w3
  rw [if_neg q13]
  clear q13
  by_cases q14 : v = (14 : Int32)
  · rw [if_pos q14]
    simp only [a1, gd_of g1]
    obtain ⟨x, σ', y, τ', M', e1, e2, hr, ha⟩ := op_assign h (xs (nI (i + 1)).toNatClampNeg)
    obtain ⟨c, buf, w1, w2, w3⟩ := wr_assign σ (xs (nI (i + 1)).toNatClampNeg) x σ' e1 y (τ' 0 0) ha
    rw [w1, bd_some, e2, bd_some]
    exact tail_i hJ (by omega) ht hr w2 w3
  rw [if_neg q14]
  clear q14
  by_cases q15 : v = (15 : Int32)
  · rw [if_pos q15]
    simp only [a1, gd_of g1]
    obtain ⟨x, σ', y, τ', M', e1, e2, hr, ha⟩ := op_repack h (xs (nI (i + 1)).toNatClampNeg)
    obtain ⟨c, buf, w1, w2, w3⟩ := wr_repack σ (xs (nI (i + 1)).toNatClampNeg) x σ' e1 y (τ' 0 0) ha
    rw [w1, bd_some, e2, bd_some]
    exact tail_i hJ (by omega) ht hr w2 w3
  rw [if_neg q15]
  clear q15
  by_cases q16 : v = (16 : Int32)
  · rw [if_pos q16]
    simp only [a1, gd_of g1]
    obtain ⟨x, σ', y, τ', M', e1, e2, hr, ha⟩ := op_assignments h (xs (nI (i + 1)).toNatClampNeg)
    obtain ⟨c, buf, w1, w2, w3⟩ := wr_assignments σ (xs (nI (i + 1)).toNatClampNeg) x σ' e1 y (τ' 0 0) ha
    rw [w1, bd_some, e2, bd_some]
    exact tail_i hJ (by omega) ht hr w2 w3
  rw [if_neg q16]
  clear q16
  by_cases q17 : v = (17 : Int32)
  · rw [if_pos q17]
    simp only [a1, gd_of g1]
    obtain ⟨x, σ', y, τ', M', e1, e2, hr, ha⟩ := op_channelsNeeded h (xs (nI (i + 1)).toNatClampNeg)
    obtain ⟨c, buf, w1, w2, w3⟩ := wr_channelsNeeded σ (xs (nI (i + 1)).toNatClampNeg) x σ' e1 y (τ' 0 0) ha
    rw [w1, bd_some, e2, bd_some]
    exact tail_i hJ (by omega) ht hr w2 w3
  rw [if_neg q17]
  clear q17
  by_cases q18 : v = (18 : Int32)
  · rw [if_pos q18]
    simp only [a1, a2, gd_of g1, gd_of g2]
    obtain ⟨x, σ', y, τ', M', e1, e2, hr, ha⟩ := op_core h (xs (nI (i + 1)).toNatClampNeg) (xs (nI (i + 2)).toNatClampNeg)
    obtain ⟨c, buf, w1, w2, w3⟩ := wr_core σ (xs (nI (i + 1)).toNatClampNeg) (xs (nI (i + 2)).toNatClampNeg) x σ' e1 y (τ' 0 0) ha
    rw [w1, bd_some, e2, bd_some]
    exact tail_i hJ (by omega) ht hr w2 w3
  rw [if_neg q18]
  clear q18
  by_cases q19 : v = (19 : Int32)
  · rw [if_pos q19]
    simp only [a1, gd_of g1]
    obtain ⟨x, σ', y, τ', M', e1, e2, hr, ha⟩ := op_open h (xs (nI (i + 1)).toNatClampNeg)
    obtain ⟨c, buf, w1, w2, w3⟩ := wr_open σ (xs (nI (i + 1)).toNatClampNeg) x σ' e1 y (τ' 0 0) ha
    rw [w1, bd_some, e2, bd_some]
    exact tail_i hJ (by omega) ht hr w2 w3
  rw [if_neg q19]
  clear q19
  by_cases q20 : v = (20 : Int32)
  · rw [if_pos q20]
    simp only [a1, gd_of g1]
    obtain ⟨x, σ', y, τ', M', e1, e2, hr, ha⟩ := op_round h (xs (nI (i + 1)).toNatClampNeg)
    obtain ⟨c, buf, w1, w2, w3⟩ := wr_round σ (xs (nI (i + 1)).toNatClampNeg) x σ' e1 y (τ' 0 0) ha
    rw [w1, bd_some, e2, bd_some]
    exact tail_i hJ (by omega) ht hr w2 w3
  rw [if_neg q20]
  clear q20
  by_cases q21 : v = (21 : Int32)
  · rw [if_pos q21]
    simp only [a1, gd_of g1]
    obtain ⟨x, σ', y, τ', M', e1, e2, hr, ha⟩ := op_run h (xs (nI (i + 1)).toNatClampNeg)
    obtain ⟨c, buf, w1, w2, w3⟩ := wr_run σ (xs (nI (i + 1)).toNatClampNeg) x σ' e1 y (τ' 0 0) ha
    rw [w1, bd_some, e2, bd_some]
    exact tail_i hJ (by omega) ht hr w2 w3
  rw [if_neg q21]
  clear q21
  by_cases q22 : v = (22 : Int32)
  · rw [if_pos q22]
    simp only [a1, gd_of g1]
    obtain ⟨x, σ', y, τ', M', e1, e2, hr, ha⟩ := op_back h (xs (nI (i + 1)).toNatClampNeg)
    obtain ⟨c, buf, w1, w2, w3⟩ := wr_back σ (xs (nI (i + 1)).toNatClampNeg) x σ' e1 y (τ' 0 0) ha
    rw [w1, bd_some, e2, bd_some]
    exact tail_i hJ (by omega) ht hr w2 w3
  rw [if_neg q22]
  clear q22
  by_cases q23 : v = (23 : Int32)
  · rw [if_pos q23]
    obtain ⟨x, σ', y, τ', M', e1, e2, hr, ha⟩ := op_close h
    obtain ⟨c, buf, w1, w2, w3⟩ := wr_close σ x σ' e1 y (τ' 0 0) ha
    rw [w1, bd_some, e2, bd_some]
    exact tail_i hJ (by omega) ht hr w2 w3
  rw [if_neg q23]
  clear q23
  by_cases q24 : v = (24 : Int32)
  · rw [if_pos q24]
    obtain ⟨x, σ', y, τ', M', e1, e2, hr, ha⟩ := op_cancel h
    obtain ⟨c, buf, w1, w2, w3⟩ := wr_cancel σ x σ' e1 y (τ' 0 0) ha
    rw [w1, bd_some, e2, bd_some]
    exact tail_i hJ (by omega) ht hr w2 w3
  rw [if_neg q24]
  clear q24
  by_cases q25 : v = (25 : Int32)
  · rw [if_pos q25]
    simp only [a1, gd_of g1]
    obtain ⟨x, σ', y, τ', M', e1, e2, hr, ha⟩ := op_state h (xs (nI (i + 1)).toNatClampNeg)
    obtain ⟨c, buf, w1, w2, w3⟩ := wr_state σ (xs (nI (i + 1)).toNatClampNeg) x σ' e1 y (τ' 0 0) ha
    rw [w1, bd_some, e2, bd_some]
    exact tail_i hJ (by omega) ht hr w2 w3
  rw [if_neg q25]
  clear q25
  by_cases q26 : v = (26 : Int32)
  · rw [if_pos q26]
    simp only [a1, gd_of g1]
    obtain ⟨x, σ', y, τ', M', e1, e2, hr, ha⟩ := op_price h (xs (nI (i + 1)).toNatClampNeg)
    obtain ⟨c, buf, w1, w2, w3⟩ := wr_price σ (xs (nI (i + 1)).toNatClampNeg) x σ' e1 y (τ' 0 0) ha
    rw [w1, bd_some, e2, bd_some]
    exact tail_i hJ (by omega) ht hr w2 w3
  rw [if_neg q26]
  clear q26
  by_cases q27 : v = (27 : Int32)
  · rw [if_pos q27]
    simp only [a1, gd_of g1]
    obtain ⟨x, σ', y, τ', M', e1, e2, hr, ha⟩ := op_frozenBy h (xs (nI (i + 1)).toNatClampNeg)
    obtain ⟨c, buf, w1, w2, w3⟩ := wr_frozenBy σ (xs (nI (i + 1)).toNatClampNeg) x σ' e1 y (τ' 0 0) ha
    rw [w1, bd_some, e2, bd_some]
    exact tail_i hJ (by omega) ht hr w2 w3
  rw [if_neg q27]
  clear q27
  by_cases q28 : v = (28 : Int32)
  · rw [if_pos q28]
    simp only [a1, gd_of g1]
    obtain ⟨x, σ', y, τ', M', e1, e2, hr, ha⟩ := op_auction h (xs (nI (i + 1)).toNatClampNeg)
    obtain ⟨c, buf, w1, w2, w3⟩ := wr_auction σ (xs (nI (i + 1)).toNatClampNeg) x σ' e1 y (τ' 0 0) ha
    rw [w1, bd_some, e2, bd_some]
    exact tail_i hJ (by omega) ht hr w2 w3
  rw [if_neg q28]
  clear q28
  by_cases q29 : v = (29 : Int32)
  · rw [if_pos q29]
    simp only [a1, gd_of g1]
    obtain ⟨x, σ', y, τ', M', e1, e2, hr, ha⟩ := op_event h (xs (nI (i + 1)).toNatClampNeg)
    obtain ⟨c, buf, w1, w2, w3⟩ := wr_event σ (xs (nI (i + 1)).toNatClampNeg) x σ' e1 y (τ' 0 0) ha
    rw [w1, bd_some, e2, bd_some]
    exact tail_i hJ (by omega) ht hr w2 w3
  rw [if_neg q29]
  clear q29
  by_cases q30 : v = (30 : Int32)
  · rw [if_pos q30]
    simp only [a1, gd_of g1]
    obtain ⟨x, σ', y, τ', M', e1, e2, hr, ha⟩ := op_order h (xs (nI (i + 1)).toNatClampNeg)
    obtain ⟨c, buf, w1, w2, w3⟩ := wr_order σ (xs (nI (i + 1)).toNatClampNeg) x σ' e1 y (τ' 0 0) ha
    rw [w1, bd_some, e2, bd_some]
    exact tail_i hJ (by omega) ht hr w2 w3
  rw [if_neg q30]
  clear q30
  by_cases q31 : v = (31 : Int32)
  · rw [if_pos q31]
    obtain ⟨x, σ', y, τ', M', e1, e2, hr, ha⟩ := op_best h
    obtain ⟨c, buf, w1, w2, w3⟩ := wr_best σ x σ' e1 y (τ' 0 0) ha
    rw [w1, bd_some, e2, bd_some]
    exact tail_i hJ (by omega) ht hr w2 w3
  rw [if_neg q31]
  clear q31
  by_cases q32 : v = (32 : Int32)
  · rw [if_pos q32]
    obtain ⟨x, σ', y, τ', M', e1, e2, hr, ha⟩ := op_leastLoss h
    obtain ⟨c, buf, w1, w2, w3⟩ := wr_leastLoss σ x σ' e1 y (τ' 0 0) ha
    rw [w1, bd_some, e2, bd_some]
    exact tail_i hJ (by omega) ht hr w2 w3
  rw [if_neg q32]
  clear q32
  by_cases q33 : v = (33 : Int32)
  · rw [if_pos q33]
    obtain ⟨x, σ', y, τ', M', e1, e2, hr, ha⟩ := op_efficiencyBits h
    obtain ⟨c, buf, w1, w2, w3⟩ := wr_efficiencyBits σ x σ' e1 y (τ' 0 0) ha
    rw [w1, bd_some, e2, bd_some]
    exact tail_i hJ (by omega) ht hr w2 w3
  rw [if_neg q33]
  clear q33
  by_cases q34 : v = (34 : Int32)
  · rw [if_pos q34]
    obtain ⟨x, σ', y, τ', M', e1, e2, hr, ha⟩ := op_meanPriceBits h
    rw [fL_meanPriceBits, e1]
    cases x with
    | inr w =>
      obtain ⟨h1, h2⟩ := ha
      obtain ⟨σf, hf⟩ := hJ M' (σ', τ', vp_updL σ.2.2 0 w) (hr.mono (by omega) ht)
      refine ⟨σf, ?_⟩
      rw [bx_inr, lt'_eq, lt'_eq, bd_some, e2, bd_some, lt'_eq, fX7_thrown, bd_some, lt'_eq, if_pos h1, jp_eq, if_pos rfl]
      have : lg_cmp (vp_updL σ.2.2 0 w 0) y = 0 := by rw [updL_0, h2]; exact lg_same _
      exact (if_pos this).trans hf
    | inl E =>
      obtain ⟨k, h1, h2⟩ := ha
      obtain ⟨σf, hf⟩ := hJ M' (σ', τ', σ.2.2) (hr.mono (by omega) ht)
      refine ⟨σf, ?_⟩
      have hk : k < 2 := by
        rcases Nat.lt_or_ge k 2 with q | q
        · exact q
        · rw [List.getElem?_eq_none (by simpa using q)] at h1
          cases h1
      rcases (by omega : k = 0 ∨ k = 1) with rfl | rfl
      · obtain rfl : "java/lang/IllegalStateException" = E := by simpa using h1
        rw [bx_inl, if_pos rfl, lt'_eq, bd_some, e2, bd_some, lt'_eq, fX7_thrown, bd_some, lt'_eq, if_pos (show τ' 0 0 = 1 from h2), jp_eq, if_neg (by decide)]
        exact hf
      · obtain rfl : "java/lang/ArithmeticException" = E := by simpa using h1
        rw [bx_inl, if_neg (by decide), if_pos rfl, lt'_eq, bd_some, e2, bd_some, lt'_eq, fX7_thrown, bd_some, lt'_eq, if_pos (show τ' 0 0 = 2 from h2), jp_eq, if_neg (by decide)]
        exact hf
  rw [if_neg q34]
  clear q34
  by_cases q35 : v = (35 : Int32)
  · rw [if_pos q35]
    simp only [a1, gd_of g1]
    obtain ⟨x, σ', y, τ', M', e1, e2, hr, ha⟩ := op_count h (xs (nI (i + 1)).toNatClampNeg)
    obtain ⟨c, buf, w1, w2, w3⟩ := wr_count σ (xs (nI (i + 1)).toNatClampNeg) x σ' e1 y (τ' 0 0) ha
    rw [w1, bd_some, e2, bd_some]
    exact tail_i hJ (by omega) ht hr w2 w3
  rw [if_neg q35]
  clear q35
  by_cases q36 : v = (36 : Int32)
  · rw [if_pos q36]
    obtain ⟨y, σ', τ', e1, e2, hr, hz⟩ := op_save h
    rw [e1, bd_some, lt'_eq]
    rw [e2, bd_some, lt'_eq, if_pos rfl]
    exact hJ M _ (hr.mono (by omega) ht)
  rw [if_neg q36]
  clear q36
  by_cases q37 : v = (37 : Int32)
  · rw [if_pos q37]
    obtain ⟨x, σ', y, τ', M', e1, e2, hr, ha⟩ := op_restore h ht
    obtain ⟨c, buf, w1, w2, w3⟩ := wr_restore σ x σ' e1 y (τ' 0 0) ha
    rw [w1, bd_some, e2, bd_some]
    exact tail_i hJ (by omega) ht hr w2 w3
  rw [if_neg q37]
  clear q37
  exact hJ M σ (h.mono (by omega) ht)
theorem law_loop (xs : Nat → Int32) {Ln : Nat} (hL : Ln ≤ 2048) : ∀ n i (M : Mk) (σ : LT), i ≤ Ln + 4 → Ln + 4 < i + 4 * n → Rel (1 + i) M σ.1 σ.2.1 → ∃ σf, fL_law xs Ln n (nI i) σ = some (1, σf) := by
  intro n
  induction n with
  | zero => intro i M σ h1 h2 _; omega
  | succ n ih =>
    intro i M σ h1 h2 h
    rcases Nat.lt_or_ge Ln (i + 4) with q | q
    · refine ⟨σ, ?_⟩
      rw [fL_law, if_pos]
      rcases Nat.lt_or_ge Ln 4 with z | z
      · have : ∀ L : Nat, L < 4 → Int32.ofNat L - (4 : Int32) < 0 := by decide
        exact Int32.lt_of_lt_of_le (this Ln z) (zI_ge0 (by omega))
      · rw [show Int32.ofNat Ln - (4 : Int32) = nI (Ln - 4) from zI_sub (a := Ln) (b := 4) z, zI_lt (by omega) (by omega)]
        omega
    · refine law_step (t := 1 + i) xs q hL (by omega) ?_ h
      intro N τ hτ
      exact ih (i + 4) N τ (by omega) (by omega) (hτ.mono (by omega) (by omega))
/-- the empty market -/
def Mk0 : Mk := (0, 255, 0, (fun _ => 0), (fun _ => 0), (fun _ => 0), (fun _ => 0), (fun _ => 0), (fun _ => 0))
theorem rel0 : Rel 1 Mk0 sX0 sM0 := by
  have hz : ∀ s : Nat, (0 : Nat).testBit s = false := Nat.zero_testBit
  refine ⟨⟨⟨rfl, rfl, rfl, fun s hs => absurd hs (Nat.not_lt_zero s), fun s _ => ⟨rfl, rfl⟩⟩, ⟨⟨by decide, fun s => (show (0 : Nat) < 2 ^ 0 by decide), fun s => (show (0 : Nat) < 2 ^ 0 by decide), fun s t => (hz t).trans (hz s).symm, fun s t => (hz t).trans (hz s).symm, fun s => hz s, fun s => hz s⟩, by decide, by decide, fun s hs => absurd hs (Nat.not_lt_zero s)⟩, ⟨0, 1, rfl, rfl, by decide, by decide, rfl, fun z => by cases z⟩, ⟨1, rfl, Nat.le_refl 1, by decide, fun S _ => ⟨0, rfl, by decide, fun z => by cases z⟩⟩⟩, ⟨rfl, rfl, fun s hs => absurd hs (Nat.not_lt_zero s)⟩, Or.inl ⟨rfl, rfl⟩, Or.inl ⟨rfl, rfl⟩, ⟨0, by decide, rfl, rfl, fun i hi => absurd hi (Nat.not_lt_zero i)⟩, rfl⟩
theorem pure_main (xs : Nat → Int32) (Ln : Nat) (hL : Ln ≤ 2048) : ∃ σf, fL_law xs Ln 600 0 sL0 = some (1, σf) :=
  law_loop xs hL 600 0 Mk0 sL0 (by omega) (by omega) rel0
