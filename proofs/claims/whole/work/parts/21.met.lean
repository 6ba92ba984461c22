def rmX4_solutions : Room := { frames := 17, cells := 0, slots := 0, locals := 521 }
def fX4_solutions (a : Int32) (b : Int32) (σ : Sg) : Option (Int32 × Sg) := lt' (sst σ 41 (va_cpy (σ 35) (σ 41) 0 0 12)) (fun (σ1 : Sg) => bd (fX4_search 14 (0 : Int32) a b σ1) (fun (r2 : Int32) (σ3 : Sg) => some (r2, σ3)))
set_option maxHeartbeats 4000000 in
theorem conX4_solutions (l : Launch) (G : Gx) (ad : Nat → Nat) (a : Int32) (b : Int32) (σ : Sg) (r : Int32) (σf : Sg)  (hf : fX4_solutions a b σ = some (r, σf)) : Con wX l G ad yX4_solutions (Cond.code yX4_solutions cX4_solutions 3 (some .int)) rmX4_solutions 0 0 [.ref (ad 2), .int a, .int b] σ (some (.int r)) σf := by
  refine Con.start (by decide) (Nat.le_of_ble_eq_true rfl) (fun X Q _ C F => ?_)
  refine V_eq (L' := [(0, .ref (ad 2)), (1, .int a), (2, .int b)]) (st' := []) rfl rfl rfl ?_
  unfold fX4_solutions at hf
  refine V_aload_n (q := 1) C dX4_solutions_0 rfl rfl 0 rfl ?_
  refine GX_2_1 (q := 4) C q_215 dX4_solutions_1 rfl ?_
  refine V_iconst (v := 0) (q := 5) C dX4_solutions_4 rfl ic_0 ?_
  refine V_aload_n (q := 6) C dX4_solutions_5 rfl rfl 0 rfl ?_
  refine GX_2_2 (q := 9) C q_216 dX4_solutions_6 rfl ?_
  refine V_iconst (v := 0) (q := 10) C dX4_solutions_9 rfl ic_0 ?_
  refine AX_36 (z := 41) (q := 11) C (by decide) (inb_in (by decide)) dX4_solutions_10 rfl ?_
  refine V_iconst (v := 0) (q := 12) C dX4_solutions_11 rfl ic_0 ?_
  refine V_bipush (v := 12) (q := 14) C dX4_solutions_12 rfl bc_12 ?_
  refine V_copy0 (z := 12) (q := 17) C 35 41 (by decide) (by decide) (eX_35 G ad _) (eXr0 (G := G) (ad := ad) (f := (σ 41)) (j := 41) (by decide) (by decide)) tn_12 (by decide) (by decide) (by decide) (hsX (g := va_cpy (σ 35) (σ 41) 0 0 12) (eXr0 (G := G) (ad := ad) (f := _) (j := 41) (by decide) (by decide))) hoX q_790 q_404 q_403 q_124 (by decide) (Nat.le_of_ble_eq_true rfl) dX4_solutions_14 rfl ?_
  refine V_lets hf (fun σ1 hf => ?_)
  refine V_aload_n (q := 18) C dX4_solutions_17 rfl rfl 0 rfl ?_
  refine V_iconst (v := 0) (q := 19) C dX4_solutions_18 rfl ic_0 ?_
  refine V_iload_n (q := 20) C dX4_solutions_19 rfl rfl 1 rfl ?_
  refine V_iload_n (q := 21) C dX4_solutions_20 rfl rfl 2 rfl ?_
  obtain ⟨r2, σ3, h4, hf⟩ := bd_s hf
  refine V_callS (av := [.ref (ad 2), .int (0 : Int32), .int a, .int b]) (st := []) (st1 := [.int r2]) (q := 24) C (conX4_search _ _ _ 14 _ _ _ _ _ _ h4) q_793 q_109 q_791 q_792 nmX4_search (by decide) rfl rfl (Nat.le_of_ble_eq_true rfl) dX4_solutions_21 rfl rfl ?_
  obtain ⟨e1, e2⟩ := pr_s hf
  subst e1; subst e2
  exact V_iret C F (by decide) (by decide) dX4_solutions_24
def rmX4_fits : Room := { frames := 18, cells := 0, slots := 0, locals := 543 }
def fX4_fits (a : Int32) (σ : Sg) : Option (Int32 × Sg) := if a < 0 then (some ((0 : Int32), σ)) else (if a < (4096 : Int32) then (gd (inb a 4096) (jp (fun (σ4 : Sg) => gd (inb a 4096) (if ((σ4 40 a.toNatClampNeg) &&& (1 : Int32)) = (1 : Int32) then (some ((1 : Int32), σ4)) else (some ((0 : Int32), σ4)))) (fun (J58 : Sg → Option (Int32 × Sg)) => if ((σ 40 a.toNatClampNeg) >>> ((1 : Int32) &&& 31)) = (σ 2 8) then (J58  σ) else (bd (fX4_allow (σ 3 8) σ) (fun (_ : Unit) (σ8 : Sg) => bd (fX4_solutions a (1 : Int32) σ8) (fun (r10 : Int32) (σ11 : Sg) => gd (inb a 4096) (lt' (sup σ11 40 a.toNatClampNeg (((2 : Int32) * (σ8 2 8)) + r10)) (fun (σ14 : Sg) => J58  σ14)))))))) else (some ((0 : Int32), σ)))
set_option maxHeartbeats 4000000 in
theorem conX4_fits (l : Launch) (G : Gx) (ad : Nat → Nat) (a : Int32) (σ : Sg) (r : Int32) (σf : Sg)  (hf : fX4_fits a σ = some (r, σf)) : Con wX l G ad yX4_fits (Cond.code yX4_fits cX4_fits 2 (some .boolean)) rmX4_fits 0 0 [.ref (ad 2), .int a] σ (some (.int r)) σf := by
  refine Con.start (by decide) (Nat.le_of_ble_eq_true rfl) (fun X Q _ C F => ?_)
  refine V_eq (L' := [(0, .ref (ad 2)), (1, .int a)]) (st' := []) rfl rfl rfl ?_
  unfold fX4_fits at hf
  refine V_iload_n (q := 1) C dX4_fits_0 rfl rfl 1 rfl ?_
  refine V_if_lt (t := 11) (q := 4) C dX4_fits_1 (by decide) rfl (fun c1 => ?_) (fun c1 => ?_)
  · replace hf := (ite_s hf).1 c1
    refine V_iconst (v := 0) (q := 12) C dX4_fits_11 rfl ic_0 ?_
    obtain ⟨e1, e2⟩ := pr_s hf
    subst e1; subst e2
    exact V_zret C F (by decide) (by decide) (by decide) dX4_fits_12
  · replace hf := (ite_s hf).2 c1
    refine V_iload_n (q := 5) C dX4_fits_4 rfl rfl 1 rfl ?_
    refine V_sipush (v := 4096) (q := 8) C dX4_fits_5 rfl sc_4096 ?_
    refine V_icmp_lt (t := 13) (q := 11) C dX4_fits_8 (by decide) rfl (fun c2 => ?_) (fun c2 => ?_)
    · replace hf := (ite_s hf).1 c2
      refine V_aload_n (q := 14) C dX4_fits_13 rfl rfl 0 rfl ?_
      refine GX_2_7 (q := 17) C q_221 dX4_fits_14 rfl ?_
      refine V_iload_n (q := 18) C dX4_fits_17 rfl rfl 1 rfl ?_
      obtain ⟨g3, hf⟩ := gd_s hf
      refine RX_40 (z := a.toNatClampNeg) (q := 19) C rfl (inb_in g3) dX4_fits_18 rfl ?_
      refine V_iconst (v := 1) (q := 20) C dX4_fits_19 rfl ic_1 ?_
      refine V_ishr (q := 21) C dX4_fits_20 rfl ?_
      refine V_aload_n (q := 22) C dX4_fits_21 rfl rfl 0 rfl ?_
      refine GX_2_8 (q := 25) C q_222 dX4_fits_22 rfl ?_
      obtain ⟨J58, eJ58, hf⟩ := jp_s hf
      have hJ58 : ∀ (σ4 : Sg), J58 σ4 = some (r, σf) → V wX X G ad 2 Q 0 0 σ4 58 [(0, .ref (ad 2)), (1, .int a)] [] := by
        intro σ4 hf
        subst eJ58
        refine V_aload_n (q := 59) C dX4_fits_58 rfl rfl 0 rfl ?_
        refine GX_2_7 (q := 62) C q_221 dX4_fits_59 rfl ?_
        refine V_iload_n (q := 63) C dX4_fits_62 rfl rfl 1 rfl ?_
        obtain ⟨g5, hf⟩ := gd_s hf
        refine RX_40 (z := a.toNatClampNeg) (q := 64) C rfl (inb_in g5) dX4_fits_63 rfl ?_
        refine V_iconst (v := 1) (q := 65) C dX4_fits_64 rfl ic_1 ?_
        refine V_iand (q := 66) C dX4_fits_65 rfl ?_
        refine V_iconst (v := 1) (q := 67) C dX4_fits_66 rfl ic_1 ?_
        refine V_icmp_ne (t := 74) (q := 70) C dX4_fits_67 (by decide) rfl (fun c6 => ?_) (fun c6 => ?_)
        · replace hf := (ite_s hf).2 c6
          refine V_iconst (v := 0) (q := 75) C dX4_fits_74 rfl ic_0 ?_
          obtain ⟨e1, e2⟩ := pr_s hf
          subst e1; subst e2
          exact V_zret C F (by decide) (by decide) (by decide) dX4_fits_75
        · replace hf := (ite_s hf).1 c6
          refine V_iconst (v := 1) (q := 71) C dX4_fits_70 rfl ic_1 ?_
          refine V_goto (t := 75) C dX4_fits_71 (by decide) ?_
          obtain ⟨e1, e2⟩ := pr_s hf
          subst e1; subst e2
          exact V_zret C F (by decide) (by decide) (by decide) dX4_fits_75
      refine V_icmp_eq (t := 58) (q := 28) C dX4_fits_25 (by decide) rfl (fun c7 => ?_) (fun c7 => ?_)
      · replace hf := (ite_s hf).1 c7
        exact hJ58 _ hf
      · replace hf := (ite_s hf).2 c7
        refine V_aload_n (q := 29) C dX4_fits_28 rfl rfl 0 rfl ?_
        refine V_aload_n (q := 30) C dX4_fits_29 rfl rfl 0 rfl ?_
        refine GX_2_0 (q := 33) C q_212 dX4_fits_30 rfl ?_
        refine GNX_3_8 (q := 36) C q_188 dX4_fits_33 rfl ?_
        obtain ⟨_u, σ8, h9, hf⟩ := bd_s hf
        refine V_callV (av := [.int (σ 3 8)]) (st := []) (st1 := []) (q := 39) C 2 (by decide) (eX_2 G ad _) rfl rfl (conX4_allow _ _ _ _ _ _ h9) q_785 q_109 q_782 q_784 q_28 nmX4_allow (by decide) rfl rfl (Nat.le_of_ble_eq_true rfl) dX4_fits_36 rfl rfl ?_
        refine V_aload_n (q := 40) C dX4_fits_39 rfl rfl 0 rfl ?_
        refine GX_2_7 (q := 43) C q_221 dX4_fits_40 rfl ?_
        refine V_iload_n (q := 44) C dX4_fits_43 rfl rfl 1 rfl ?_
        refine V_iconst (v := 2) (q := 45) C dX4_fits_44 rfl ic_2 ?_
        refine V_aload_n (q := 46) C dX4_fits_45 rfl rfl 0 rfl ?_
        refine GX_2_8 (q := 49) C q_222 dX4_fits_46 rfl ?_
        refine V_imul (q := 50) C dX4_fits_49 rfl ?_
        refine V_aload_n (q := 51) C dX4_fits_50 rfl rfl 0 rfl ?_
        refine V_iload_n (q := 52) C dX4_fits_51 rfl rfl 1 rfl ?_
        refine V_iconst (v := 1) (q := 53) C dX4_fits_52 rfl ic_1 ?_
        obtain ⟨r10, σ11, h12, hf⟩ := bd_s hf
        refine V_callV (av := [.int a, .int (1 : Int32)]) (st := [.int ((2 : Int32) * (σ8 2 8)), .int a, .ref (ad 40)]) (st1 := [.int r10, .int ((2 : Int32) * (σ8 2 8)), .int a, .ref (ad 40)]) (q := 56) C 2 (by decide) (eX_2 G ad _) rfl rfl (conX4_solutions _ _ _ _ _ _ _ _ h12) q_789 q_109 q_786 q_788 q_29 nmX4_solutions (by decide) rfl rfl (Nat.le_of_ble_eq_true rfl) dX4_fits_53 rfl rfl ?_
        refine V_iadd (q := 57) C dX4_fits_56 rfl ?_
        obtain ⟨g13, hf⟩ := gd_s hf
        refine SX_40 (z := a.toNatClampNeg) (q := 58) C rfl (inb_in g13) dX4_fits_57 rfl ?_
        refine V_lets hf (fun σ14 hf => ?_)
        exact hJ58 _ hf
    · replace hf := (ite_s hf).2 c2
      refine V_iconst (v := 0) (q := 12) C dX4_fits_11 rfl ic_0 ?_
      obtain ⟨e1, e2⟩ := pr_s hf
      subst e1; subst e2
      exact V_zret C F (by decide) (by decide) (by decide) dX4_fits_12
def rmX6_requireFeasible : Room := { frames := 19, cells := 1, slots := 6, locals := 564 }
def fX6_requireFeasible (a : Int32) (σ : Sg) : Option ((String ⊕ Unit) × Sg) := bd (fX4_fits a σ) (fun (r1 : Int32) (σ2 : Sg) => if r1 = 0 then (some (.inl "java/lang/IllegalStateException", σ2)) else (some (.inr (), σ2)))
set_option maxHeartbeats 4000000 in
theorem conX6_requireFeasible (l : Launch) (G : Gx) (ad : Nat → Nat) (a : Int32) (σ : Sg) (r : String ⊕ Unit) (σf : Sg) (hf : fX6_requireFeasible a σ = some (r, σf)) : ConX wX l G ad yX6_requireFeasible (Cond.code yX6_requireFeasible cX6_requireFeasible 2 none) rmX6_requireFeasible 1 6 [.ref (ad 0), .int a] σ (rU r) σf := by
  refine ConX.start (by decide) (Nat.le_of_ble_eq_true rfl) (fun X Q _ C Fr Fx => ?_)
  refine V_eq (L' := [(0, .ref (ad 0)), (1, .int a)]) (st' := []) rfl rfl rfl ?_
  unfold fX6_requireFeasible at hf
  refine V_aload_n (q := 1) C dX6_requireFeasible_0 rfl rfl 0 rfl ?_
  refine GX_0_1 (q := 4) C q_354 dX6_requireFeasible_1 rfl ?_
  refine V_iload_n (q := 5) C dX6_requireFeasible_4 rfl rfl 1 rfl ?_
  obtain ⟨r1, σ2, h3, hf⟩ := bd_s hf
  refine V_callVN (av := [.int a]) (st := []) (st1 := [.int r1]) (q := 8) C 2 (by decide) (eX_2 G ad _) rfl rfl (conX4_fits _ _ _ _ _ _ _ h3) q_781 q_109 q_778 q_780 q_27 nmX4_fits (by decide) rfl rfl (Nat.le_of_ble_eq_true rfl) dX6_requireFeasible_5 rfl rfl ?_
  refine V_if_ne (t := 22) (q := 11) C dX6_requireFeasible_8 (by decide) rfl (fun c4 => ?_) (fun c4 => ?_)
  · replace hf := (ite_s hf).2 c4
    obtain ⟨e1, e2⟩ := pr_s hf
    subst e1; subst e2
    exact V_vret C (Fr _ rfl) (by decide) (by decide) dX6_requireFeasible_22
  · replace hf := (ite_s hf).1 c4
    obtain ⟨e1, e2⟩ := pr_s hf
    subst e1; subst e2
    exact V_throwSW (text := "the set is not feasible") C rfl (Fx _ rfl) rfl q_522 q_120 (by decide) xa_100 xg_100 dX6_requireFeasible_11 dX6_requireFeasible_14 dX6_requireFeasible_15 dX6_requireFeasible_18 dX6_requireFeasible_21 (by decide) (Nat.le_of_ble_eq_true rfl) (by decide) (by decide) (by decide) (by decide)
def rmX4_restrict : Room := { frames := 18, cells := 0, slots := 0, locals := 543 }
def fX4_restrict (a : Int32) (b : Int32) (c : Int32) (σ : Sg) : Option (Int32 × Sg) := gd (inb a 12) (lt' ((σ 35 a.toNatClampNeg)) (fun (x2 : Int32) => gd (inb a 12) (lt' (sup σ 35 a.toNatClampNeg b) (fun (σ4 : Sg) => bd (fX4_solutions c (1 : Int32) σ4) (fun (r5 : Int32) (σ6 : Sg) => if r5 = 0 then (gd (inb a 12) (lt' (sup σ6 35 a.toNatClampNeg x2) (fun (σ10 : Sg) => some ((0 : Int32), σ10)))) else (some ((1 : Int32), σ6)))))))
set_option maxHeartbeats 4000000 in
theorem conX4_restrict (l : Launch) (G : Gx) (ad : Nat → Nat) (a : Int32) (b : Int32) (c : Int32) (σ : Sg) (r : Int32) (σf : Sg)  (hf : fX4_restrict a b c σ = some (r, σf)) : Con wX l G ad yX4_restrict (Cond.code yX4_restrict cX4_restrict 5 (some .boolean)) rmX4_restrict 0 0 [.ref (ad 2), .int a, .int b, .int c] σ (some (.int r)) σf := by
  refine Con.start (by decide) (Nat.le_of_ble_eq_true rfl) (fun X Q _ C F => ?_)
  refine V_eq (L' := [(0, .ref (ad 2)), (1, .int a), (2, .int b), (3, .int c)]) (st' := []) rfl rfl rfl ?_
  unfold fX4_restrict at hf
  refine V_aload_n (q := 1) C dX4_restrict_0 rfl rfl 0 rfl ?_
  refine GX_2_1 (q := 4) C q_215 dX4_restrict_1 rfl ?_
  refine V_iload_n (q := 5) C dX4_restrict_4 rfl rfl 1 rfl ?_
  obtain ⟨g1, hf⟩ := gd_s hf
  refine RX_35 (z := a.toNatClampNeg) (q := 6) C rfl (inb_in g1) dX4_restrict_5 rfl ?_
  refine V_let (cv := Value.int) hf (fun x2 hf => ?_)
  refine V_istore (L' := [(4, .int x2), (0, .ref (ad 2)), (1, .int a), (2, .int b), (3, .int c)]) (q := 8) C dX4_restrict_6 rfl (by decide) rfl ?_
  refine V_aload_n (q := 9) C dX4_restrict_8 rfl rfl 1 rfl ?_
  refine GX_2_1 (q := 12) C q_215 dX4_restrict_9 rfl ?_
  refine V_iload_n (q := 13) C dX4_restrict_12 rfl rfl 2 rfl ?_
  refine V_iload_n (q := 14) C dX4_restrict_13 rfl rfl 3 rfl ?_
  obtain ⟨g3, hf⟩ := gd_s hf
  refine SX_35 (z := a.toNatClampNeg) (q := 15) C rfl (inb_in g3) dX4_restrict_14 rfl ?_
  refine V_lets hf (fun σ4 hf => ?_)
  refine V_aload_n (q := 16) C dX4_restrict_15 rfl rfl 1 rfl ?_
  refine V_iload_n (q := 17) C dX4_restrict_16 rfl rfl 4 rfl ?_
  refine V_iconst (v := 1) (q := 18) C dX4_restrict_17 rfl ic_1 ?_
  obtain ⟨r5, σ6, h7, hf⟩ := bd_s hf
  refine V_callV (av := [.int c, .int (1 : Int32)]) (st := []) (st1 := [.int r5]) (q := 21) C 2 (by decide) (eX_2 G ad _) rfl rfl (conX4_solutions _ _ _ _ _ _ _ _ h7) q_789 q_109 q_786 q_788 q_29 nmX4_solutions (by decide) rfl rfl (Nat.le_of_ble_eq_true rfl) dX4_restrict_18 rfl rfl ?_
  refine V_if_ne (t := 34) (q := 24) C dX4_restrict_21 (by decide) rfl (fun c8 => ?_) (fun c8 => ?_)
  · replace hf := (ite_s hf).2 c8
    refine V_iconst (v := 1) (q := 35) C dX4_restrict_34 rfl ic_1 ?_
    obtain ⟨e1, e2⟩ := pr_s hf
    subst e1; subst e2
    exact V_zret C F (by decide) (by decide) (by decide) dX4_restrict_35
  · replace hf := (ite_s hf).1 c8
    refine V_aload_n (q := 25) C dX4_restrict_24 rfl rfl 1 rfl ?_
    refine GX_2_1 (q := 28) C q_215 dX4_restrict_25 rfl ?_
    refine V_iload_n (q := 29) C dX4_restrict_28 rfl rfl 2 rfl ?_
    refine V_iload (q := 31) C dX4_restrict_29 rfl 0 rfl ?_
    obtain ⟨g9, hf⟩ := gd_s hf
    refine SX_35 (z := a.toNatClampNeg) (q := 32) C rfl (inb_in g9) dX4_restrict_31 rfl ?_
    refine V_lets hf (fun σ10 hf => ?_)
    refine V_iconst (v := 0) (q := 33) C dX4_restrict_32 rfl ic_0 ?_
    obtain ⟨e1, e2⟩ := pr_s hf
    subst e1; subst e2
    exact V_zret C F (by decide) (by decide) (by decide) dX4_restrict_33
def rmX4_settle : Room := { frames := 19, cells := 0, slots := 0, locals := 567 }
def fX4_settle_123 (a : Int32) (x4 : Int32) (x10 : Int32) (K : Sg → Option (Unit × Sg)) : Nat → Int32 → Int32 → Sg → Option (Unit × Sg)
  | 0, _, _, _ => none
  | n + 1, x11, x12, σ13 => if (8 : Int32) ≤ x12 then (K σ13) else (if x11 = 0 then (jp (fun (v16 : Int32) (σ17 : Sg) => fX4_settle_123 a x4 x10 K n v16 (x12 + (1 : Int32)) σ17) (fun (J163 : Int32 → Sg → Option (Unit × Sg)) => jp (fun (σ18 : Sg) => J163 (0 : Int32) σ18) (fun (J162 : Sg → Option (Unit × Sg)) => if (pX6_contains x10 x12) = 0 then (J162  σ13) else (bd (fX4_restrict x4 ((1 : Int32) <<< (x12 &&& 31)) a σ13) (fun (r20 : Int32) (σ21 : Sg) => if r20 = 0 then (J162  σ21) else (J163 (1 : Int32) σ21)))))) else (K σ13))
def fX4_settle_86 (a : Int32) : Nat → Int32 → Sg → Option (Unit × Sg)
  | 0, _, _ => none
  | n + 1, x4, σ5 => if (σ5 3 6) ≤ x4 then (some ((), σ5)) else (jp (fun (v7 : Int32) (σ8 : Sg) => gd (inb x4 12) (lt' ((σ8 35 x4.toNatClampNeg)) (fun (x10 : Int32) => fX4_settle_123 a x4 x10 (fun (σ24 : Sg) => fX4_settle_86 a n (x4 + (1 : Int32)) σ24) FU v7 (0 : Int32) σ8))) (fun (J110 : Int32 → Sg → Option (Unit × Sg)) => if (pX6_contains a x4) = 0 then (J110 (1 : Int32) σ5) else (J110 (0 : Int32) σ5)))
def fX4_settle_17 (a : Int32) (K : Sg → Option (Unit × Sg)) : Nat → Int32 → Sg → Option (Unit × Sg)
  | 0, _, _ => none
  | n + 1, x27, σ28 => if (σ28 3 6) ≤ x27 then (K σ28) else (gd (inb x27 12) (lt' ((σ28 14 x27.toNatClampNeg)) (fun (x31 : Int32) => jp (fun (σ32 : Sg) => fX4_settle_17 a K n (x27 + (1 : Int32)) σ32) (fun (J78 : Sg → Option (Unit × Sg)) => if (pX6_contains a x27) = 0 then (J78  σ28) else (if x31 = (-1 : Int32) then (J78  σ28) else (gd (inb x27 12) (if (pX6_contains (σ28 35 x27.toNatClampNeg) x31) = 0 then (J78  σ28) else (bd (fX4_restrict x27 ((1 : Int32) <<< (x31 &&& 31)) a σ28) (fun (r37 : Int32) (σ38 : Sg) => J78  σ38)))))))))
def fX4_settle (a : Int32) (b : Int32) (σ : Sg) : Option (Unit × Sg) := bd (fX4_allow (σ 3 8) σ) (fun (_ : Unit) (σ1 : Sg) => jp (fun (σ3 : Sg) => fX4_settle_86 a FU (0 : Int32) σ3) (fun (J84 : Sg → Option (Unit × Sg)) => if b = 0 then (J84  σ1) else (fX4_settle_17 a (fun (σ40 : Sg) => J84  σ40) FU (0 : Int32) σ1)))
set_option maxHeartbeats 4000000 in
theorem wlX4_settle_123 {X : Cx} {G : Gx} {ad : Nat → Nat} {Q : State → Prop} {σf : Sg} (C : OK wX X G ad RX4 cX4_settle 7 rmX4_settle) (F : FinR wX X G ad Q 0 0 none none σf) (a : Int32) (x4 : Int32) (x10 : Int32) (K : Sg → Option (Unit × Sg)) (hK : ∀ (σk : Sg), K σk = some ((), σf) → V wX X G ad 7 Q 0 0 σk 171 [(0, .ref (ad 2)), (1, .int a), (3, .int x4)] []) : ∀ (n : Nat) (x11 : Int32) (x12 : Int32) (σ13 : Sg), fX4_settle_123 a x4 x10 K n x11 x12 σ13 = some ((), σf) → V wX X G ad 7 Q 0 0 σ13 123 [(0, .ref (ad 2)), (1, .int a), (3, .int x4), (4, .int x11), (5, .int x10), (6, .int x12)] [] := by
  intro n
  induction n with
  | zero =>
    intro _ _ _ hf
    exact absurd hf (by simp [fX4_settle_123])
  | succ n ih =>
    intro x11 x12 σ13 hf
    rw [fX4_settle_123] at hf
    refine V_iload (q := 125) C dX4_settle_123 rfl 5 rfl ?_
    refine V_bipush (v := 8) (q := 127) C dX4_settle_125 rfl bc_8 ?_
    refine V_icmp_ge (t := 171) (q := 130) C dX4_settle_127 (by decide) rfl (fun c14 => ?_) (fun c14 => ?_)
    · replace hf := (ite_s hf).1 c14
      refine V_sub (L' := [(0, .ref (ad 2)), (1, .int a), (3, .int x4)]) [0, 1, 2] rfl ?_
      exact hK _ hf
    · replace hf := (ite_s hf).2 c14
      refine V_iload (q := 132) C dX4_settle_130 rfl 3 rfl ?_
      refine V_if_ne (t := 171) (q := 135) C dX4_settle_132 (by decide) rfl (fun c15 => ?_) (fun c15 => ?_)
      · replace hf := (ite_s hf).2 c15
        refine V_sub (L' := [(0, .ref (ad 2)), (1, .int a), (3, .int x4)]) [0, 1, 2] rfl ?_
        exact hK _ hf
      · replace hf := (ite_s hf).1 c15
        refine V_iload (q := 137) C dX4_settle_135 rfl 4 rfl ?_
        refine V_iload (q := 139) C dX4_settle_137 rfl 5 rfl ?_
        refine V_callSN (av := [.int x10, .int x12]) (st := []) (st1 := [.int (pX6_contains x10 x12)]) (q := 142) C (conX6_contains _ _ _ _ _ _ _ rfl) q_612 q_107 q_798 q_611 nmX6_contains (by decide) rfl rfl (Nat.le_of_ble_eq_true rfl) dX4_settle_139 rfl rfl ?_
        obtain ⟨J163, eJ163, hf⟩ := jp_s hf
        have hJ163 : ∀ (v16 : Int32) (σ17 : Sg), J163 v16 σ17 = some ((), σf) → V wX X G ad 7 Q 0 0 σ17 163 [(0, .ref (ad 2)), (1, .int a), (3, .int x4), (5, .int x10), (6, .int x12)] [.int v16] := by
          intro v16 σ17 hf
          subst eJ163
          refine V_istore (L' := [(4, .int v16), (0, .ref (ad 2)), (1, .int a), (3, .int x4), (5, .int x10), (6, .int x12)]) (q := 165) C dX4_settle_163 rfl (by decide) rfl ?_
          refine V_iinc (L' := [(6, .int (x12 + (1 : Int32))), (4, .int v16), (0, .ref (ad 2)), (1, .int a), (3, .int x4), (5, .int x10)]) (q := 168) C dX4_settle_165 rfl 5 rfl (congrArg (fun y => x12 + y) ic_1) (by decide) rfl ?_
          refine V_goto (t := 123) C dX4_settle_168 (by decide) ?_
          refine V_sub (L' := [(0, .ref (ad 2)), (1, .int a), (3, .int x4), (4, .int v16), (5, .int x10), (6, .int (x12 + (1 : Int32)))]) [2, 3, 4, 1, 5, 0] rfl ?_
          exact ih _ _ _ hf
        obtain ⟨J162, eJ162, hf⟩ := jp_s hf
        have hJ162 : ∀ (σ18 : Sg), J162 σ18 = some ((), σf) → V wX X G ad 7 Q 0 0 σ18 162 [(0, .ref (ad 2)), (1, .int a), (3, .int x4), (5, .int x10), (6, .int x12)] [] := by
          intro σ18 hf
          subst eJ162
          refine V_iconst (v := 0) (q := 163) C dX4_settle_162 rfl ic_0 ?_
          exact hJ163 _ _ hf
        refine V_if_eq (t := 162) (q := 145) C dX4_settle_142 (by decide) rfl (fun c19 => ?_) (fun c19 => ?_)
        · replace hf := (ite_s hf).1 c19
          refine V_sub (L' := [(0, .ref (ad 2)), (1, .int a), (3, .int x4), (5, .int x10), (6, .int x12)]) [0, 1, 2, 4, 5] rfl ?_
          exact hJ162 _ hf
        · replace hf := (ite_s hf).2 c19
          refine V_aload_n (q := 146) C dX4_settle_145 rfl rfl 0 rfl ?_
          refine V_iload_n (q := 147) C dX4_settle_146 rfl rfl 2 rfl ?_
          refine V_iconst (v := 1) (q := 148) C dX4_settle_147 rfl ic_1 ?_
          refine V_iload (q := 150) C dX4_settle_148 rfl 5 rfl ?_
          refine V_ishl (q := 151) C dX4_settle_150 rfl ?_
          refine V_iload_n (q := 152) C dX4_settle_151 rfl rfl 1 rfl ?_
          obtain ⟨r20, σ21, h22, hf⟩ := bd_s hf
          refine V_callV (av := [.int x4, .int ((1 : Int32) <<< (x12 &&& 31)), .int a]) (st := []) (st1 := [.int r20]) (q := 155) C 2 (by decide) (eX_2 G ad _) rfl rfl (conX4_restrict _ _ _ _ _ _ _ _ _ h22) q_857 q_109 q_854 q_856 q_40 nmX4_restrict (by decide) rfl rfl (Nat.le_of_ble_eq_true rfl) dX4_settle_152 rfl rfl ?_
          refine V_if_eq (t := 162) (q := 158) C dX4_settle_155 (by decide) rfl (fun c23 => ?_) (fun c23 => ?_)
          · replace hf := (ite_s hf).1 c23
            refine V_sub (L' := [(0, .ref (ad 2)), (1, .int a), (3, .int x4), (5, .int x10), (6, .int x12)]) [0, 1, 2, 4, 5] rfl ?_
            exact hJ162 _ hf
          · replace hf := (ite_s hf).2 c23
            refine V_iconst (v := 1) (q := 159) C dX4_settle_158 rfl ic_1 ?_
            refine V_goto (t := 163) C dX4_settle_159 (by decide) ?_
            refine V_sub (L' := [(0, .ref (ad 2)), (1, .int a), (3, .int x4), (5, .int x10), (6, .int x12)]) [0, 1, 2, 4, 5] rfl ?_
            exact hJ163 _ _ hf
set_option maxHeartbeats 4000000 in
theorem wlX4_settle_86 {X : Cx} {G : Gx} {ad : Nat → Nat} {Q : State → Prop} {σf : Sg} (C : OK wX X G ad RX4 cX4_settle 7 rmX4_settle) (F : FinR wX X G ad Q 0 0 none none σf) (a : Int32) : ∀ (n : Nat) (x4 : Int32) (σ5 : Sg), fX4_settle_86 a n x4 σ5 = some ((), σf) → V wX X G ad 7 Q 0 0 σ5 86 [(0, .ref (ad 2)), (1, .int a), (3, .int x4)] [] := by
  intro n
  induction n with
  | zero =>
    intro _ _ hf
    exact absurd hf (by simp [fX4_settle_86])
  | succ n ih =>
    intro x4 σ5 hf
    rw [fX4_settle_86] at hf
    refine V_iload_n (q := 87) C dX4_settle_86 rfl rfl 2 rfl ?_
    refine V_aload_n (q := 88) C dX4_settle_87 rfl rfl 0 rfl ?_
    refine GX_2_0 (q := 91) C q_212 dX4_settle_88 rfl ?_
    refine GNX_3_6 (q := 94) C q_182 dX4_settle_91 rfl ?_
    refine V_icmp_ge (t := 177) (q := 97) C dX4_settle_94 (by decide) rfl (fun c6 => ?_) (fun c6 => ?_)
    · replace hf := (ite_s hf).1 c6
      obtain ⟨-, e2⟩ := pr_s hf
      subst e2
      exact V_vret C F (by decide) (by decide) dX4_settle_177
    · replace hf := (ite_s hf).2 c6
      refine V_iload_n (q := 98) C dX4_settle_97 rfl rfl 1 rfl ?_
      refine V_iload_n (q := 99) C dX4_settle_98 rfl rfl 2 rfl ?_
      refine V_callSN (av := [.int a, .int x4]) (st := []) (st1 := [.int (pX6_contains a x4)]) (q := 102) C (conX6_contains _ _ _ _ _ _ _ rfl) q_612 q_107 q_798 q_611 nmX6_contains (by decide) rfl rfl (Nat.le_of_ble_eq_true rfl) dX4_settle_99 rfl rfl ?_
      obtain ⟨J110, eJ110, hf⟩ := jp_s hf
      have hJ110 : ∀ (v7 : Int32) (σ8 : Sg), J110 v7 σ8 = some ((), σf) → V wX X G ad 7 Q 0 0 σ8 110 [(0, .ref (ad 2)), (1, .int a), (3, .int x4)] [.int v7] := by
        intro v7 σ8 hf
        subst eJ110
        refine V_istore (L' := [(4, .int v7), (0, .ref (ad 2)), (1, .int a), (3, .int x4)]) (q := 112) C dX4_settle_110 rfl (by decide) rfl ?_
        refine V_aload_n (q := 113) C dX4_settle_112 rfl rfl 1 rfl ?_
        refine GX_2_1 (q := 116) C q_215 dX4_settle_113 rfl ?_
        refine V_iload_n (q := 117) C dX4_settle_116 rfl rfl 3 rfl ?_
        obtain ⟨g9, hf⟩ := gd_s hf
        refine RX_35 (z := x4.toNatClampNeg) (q := 118) C rfl (inb_in g9) dX4_settle_117 rfl ?_
        refine V_let (cv := Value.int) hf (fun x10 hf => ?_)
        refine V_istore (L' := [(5, .int x10), (4, .int v7), (0, .ref (ad 2)), (1, .int a), (3, .int x4)]) (q := 120) C dX4_settle_118 rfl (by decide) rfl ?_
        refine V_iconst (v := 0) (q := 121) C dX4_settle_120 rfl ic_0 ?_
        refine V_istore (L' := [(6, .int (0 : Int32)), (5, .int x10), (4, .int v7), (0, .ref (ad 2)), (1, .int a), (3, .int x4)]) (q := 123) C dX4_settle_121 rfl (by decide) rfl ?_
        refine V_sub (L' := [(0, .ref (ad 2)), (1, .int a), (3, .int x4), (4, .int v7), (5, .int x10), (6, .int (0 : Int32))]) [3, 4, 5, 2, 1, 0] rfl ?_
        refine wlX4_settle_123 C F a x4 x10 _ (fun σ24 hf => ?_) FU _ _ _ hf
        refine V_iinc (L' := [(3, .int (x4 + (1 : Int32))), (0, .ref (ad 2)), (1, .int a)]) (q := 174) C dX4_settle_171 rfl 2 rfl (congrArg (fun y => x4 + y) ic_1) (by decide) rfl ?_
        refine V_goto (t := 86) C dX4_settle_174 (by decide) ?_
        refine V_sub (L' := [(0, .ref (ad 2)), (1, .int a), (3, .int (x4 + (1 : Int32)))]) [1, 2, 0] rfl ?_
        exact ih _ _ hf
      refine V_if_ne (t := 109) (q := 105) C dX4_settle_102 (by decide) rfl (fun c25 => ?_) (fun c25 => ?_)
      · replace hf := (ite_s hf).2 c25
        refine V_iconst (v := 0) (q := 110) C dX4_settle_109 rfl ic_0 ?_
        exact hJ110 _ _ hf
      · replace hf := (ite_s hf).1 c25
        refine V_iconst (v := 1) (q := 106) C dX4_settle_105 rfl ic_1 ?_
        refine V_goto (t := 110) C dX4_settle_106 (by decide) ?_
        exact hJ110 _ _ hf
set_option maxHeartbeats 4000000 in
theorem wlX4_settle_17 {X : Cx} {G : Gx} {ad : Nat → Nat} {Q : State → Prop} {σf : Sg} (C : OK wX X G ad RX4 cX4_settle 7 rmX4_settle) (F : FinR wX X G ad Q 0 0 none none σf) (a : Int32) (K : Sg → Option (Unit × Sg)) (hK : ∀ (σk : Sg), K σk = some ((), σf) → V wX X G ad 7 Q 0 0 σk 84 [(0, .ref (ad 2)), (1, .int a)] []) : ∀ (n : Nat) (x27 : Int32) (σ28 : Sg), fX4_settle_17 a K n x27 σ28 = some ((), σf) → V wX X G ad 7 Q 0 0 σ28 17 [(0, .ref (ad 2)), (1, .int a), (3, .int x27)] [] := by
  intro n
  induction n with
  | zero =>
    intro _ _ hf
    exact absurd hf (by simp [fX4_settle_17])
  | succ n ih =>
    intro x27 σ28 hf
    rw [fX4_settle_17] at hf
    refine V_iload_n (q := 18) C dX4_settle_17 rfl rfl 2 rfl ?_
    refine V_aload_n (q := 19) C dX4_settle_18 rfl rfl 0 rfl ?_
    refine GX_2_0 (q := 22) C q_212 dX4_settle_19 rfl ?_
    refine GNX_3_6 (q := 25) C q_182 dX4_settle_22 rfl ?_
    refine V_icmp_ge (t := 84) (q := 28) C dX4_settle_25 (by decide) rfl (fun c29 => ?_) (fun c29 => ?_)
    · replace hf := (ite_s hf).1 c29
      refine V_sub (L' := [(0, .ref (ad 2)), (1, .int a)]) [0, 1] rfl ?_
      exact hK _ hf
    · replace hf := (ite_s hf).2 c29
      refine V_aload_n (q := 29) C dX4_settle_28 rfl rfl 0 rfl ?_
      refine GX_2_0 (q := 32) C q_212 dX4_settle_29 rfl ?_
      refine GNX_3_3 (q := 35) C q_168 dX4_settle_32 rfl ?_
      refine V_iload_n (q := 36) C dX4_settle_35 rfl rfl 2 rfl ?_
      obtain ⟨g30, hf⟩ := gd_s hf
      refine RX_14 (z := x27.toNatClampNeg) (q := 37) C rfl (inb_in g30) dX4_settle_36 rfl ?_
      refine V_let (cv := Value.int) hf (fun x31 hf => ?_)
      refine V_istore (L' := [(4, .int x31), (0, .ref (ad 2)), (1, .int a), (3, .int x27)]) (q := 39) C dX4_settle_37 rfl (by decide) rfl ?_
      refine V_iload_n (q := 40) C dX4_settle_39 rfl rfl 2 rfl ?_
      refine V_iload_n (q := 41) C dX4_settle_40 rfl rfl 3 rfl ?_
      refine V_callSN (av := [.int a, .int x27]) (st := []) (st1 := [.int (pX6_contains a x27)]) (q := 44) C (conX6_contains _ _ _ _ _ _ _ rfl) q_612 q_107 q_798 q_611 nmX6_contains (by decide) rfl rfl (Nat.le_of_ble_eq_true rfl) dX4_settle_41 rfl rfl ?_
      obtain ⟨J78, eJ78, hf⟩ := jp_s hf
      have hJ78 : ∀ (σ32 : Sg), J78 σ32 = some ((), σf) → V wX X G ad 7 Q 0 0 σ32 78 [(0, .ref (ad 2)), (1, .int a), (3, .int x27)] [] := by
        intro σ32 hf
        subst eJ78
        refine V_iinc (L' := [(3, .int (x27 + (1 : Int32))), (0, .ref (ad 2)), (1, .int a)]) (q := 81) C dX4_settle_78 rfl 2 rfl (congrArg (fun y => x27 + y) ic_1) (by decide) rfl ?_
        refine V_goto (t := 17) C dX4_settle_81 (by decide) ?_
        refine V_sub (L' := [(0, .ref (ad 2)), (1, .int a), (3, .int (x27 + (1 : Int32)))]) [1, 2, 0] rfl ?_
        exact ih _ _ hf
      refine V_if_eq (t := 78) (q := 47) C dX4_settle_44 (by decide) rfl (fun c33 => ?_) (fun c33 => ?_)
      · replace hf := (ite_s hf).1 c33
        refine V_sub (L' := [(0, .ref (ad 2)), (1, .int a), (3, .int x27)]) [1, 2, 3] rfl ?_
        exact hJ78 _ hf
      · replace hf := (ite_s hf).2 c33
        refine V_iload (q := 49) C dX4_settle_47 rfl 0 rfl ?_
        refine V_iconst (v := (-1)) (q := 50) C dX4_settle_49 rfl ic_m1 ?_
        refine V_icmp_eq (t := 78) (q := 53) C dX4_settle_50 (by decide) rfl (fun c34 => ?_) (fun c34 => ?_)
        · replace hf := (ite_s hf).1 c34
          refine V_sub (L' := [(0, .ref (ad 2)), (1, .int a), (3, .int x27)]) [1, 2, 3] rfl ?_
          exact hJ78 _ hf
        · replace hf := (ite_s hf).2 c34
          refine V_aload_n (q := 54) C dX4_settle_53 rfl rfl 1 rfl ?_
          refine GX_2_1 (q := 57) C q_215 dX4_settle_54 rfl ?_
          refine V_iload_n (q := 58) C dX4_settle_57 rfl rfl 3 rfl ?_
          obtain ⟨g35, hf⟩ := gd_s hf
          refine RX_35 (z := x27.toNatClampNeg) (q := 59) C rfl (inb_in g35) dX4_settle_58 rfl ?_
          refine V_iload (q := 61) C dX4_settle_59 rfl 0 rfl ?_
          refine V_callSN (av := [.int (σ28 35 x27.toNatClampNeg), .int x31]) (st := []) (st1 := [.int (pX6_contains (σ28 35 x27.toNatClampNeg) x31)]) (q := 64) C (conX6_contains _ _ _ _ _ _ _ rfl) q_612 q_107 q_798 q_611 nmX6_contains (by decide) rfl rfl (Nat.le_of_ble_eq_true rfl) dX4_settle_61 rfl rfl ?_
          refine V_if_eq (t := 78) (q := 67) C dX4_settle_64 (by decide) rfl (fun c36 => ?_) (fun c36 => ?_)
          · replace hf := (ite_s hf).1 c36
            refine V_sub (L' := [(0, .ref (ad 2)), (1, .int a), (3, .int x27)]) [1, 2, 3] rfl ?_
            exact hJ78 _ hf
          · replace hf := (ite_s hf).2 c36
            refine V_aload_n (q := 68) C dX4_settle_67 rfl rfl 1 rfl ?_
            refine V_iload_n (q := 69) C dX4_settle_68 rfl rfl 3 rfl ?_
            refine V_iconst (v := 1) (q := 70) C dX4_settle_69 rfl ic_1 ?_
            refine V_iload (q := 72) C dX4_settle_70 rfl 0 rfl ?_
            refine V_ishl (q := 73) C dX4_settle_72 rfl ?_
            refine V_iload_n (q := 74) C dX4_settle_73 rfl rfl 2 rfl ?_
            obtain ⟨r37, σ38, h39, hf⟩ := bd_s hf
            refine V_callV (av := [.int x27, .int ((1 : Int32) <<< (x31 &&& 31)), .int a]) (st := []) (st1 := [.int r37]) (q := 77) C 2 (by decide) (eX_2 G ad _) rfl rfl (conX4_restrict _ _ _ _ _ _ _ _ _ h39) q_857 q_109 q_854 q_856 q_40 nmX4_restrict (by decide) rfl rfl (Nat.le_of_ble_eq_true rfl) dX4_settle_74 rfl rfl ?_
            refine V_pop (q := 78) C dX4_settle_77 rfl rfl ?_
            refine V_sub (L' := [(0, .ref (ad 2)), (1, .int a), (3, .int x27)]) [1, 2, 3] rfl ?_
            exact hJ78 _ hf
set_option maxHeartbeats 4000000 in
theorem conX4_settle (l : Launch) (G : Gx) (ad : Nat → Nat) (a : Int32) (b : Int32) (σ : Sg) (σf : Sg)  (hf : fX4_settle a b σ = some ((), σf)) : Con wX l G ad yX4_settle (Cond.code yX4_settle cX4_settle 7 none) rmX4_settle 0 0 [.ref (ad 2), .int a, .int b] σ none σf := by
  refine Con.start (by decide) (Nat.le_of_ble_eq_true rfl) (fun X Q _ C F => ?_)
  refine V_eq (L' := [(0, .ref (ad 2)), (1, .int a), (2, .int b)]) (st' := []) rfl rfl rfl ?_
  unfold fX4_settle at hf
  refine V_aload_n (q := 1) C dX4_settle_0 rfl rfl 0 rfl ?_
  refine V_aload_n (q := 2) C dX4_settle_1 rfl rfl 0 rfl ?_
  refine GX_2_0 (q := 5) C q_212 dX4_settle_2 rfl ?_
  refine GNX_3_8 (q := 8) C q_188 dX4_settle_5 rfl ?_
  obtain ⟨_u, σ1, h2, hf⟩ := bd_s hf
  refine V_callV (av := [.int (σ 3 8)]) (st := []) (st1 := []) (q := 11) C 2 (by decide) (eX_2 G ad _) rfl rfl (conX4_allow _ _ _ _ _ _ h2) q_785 q_109 q_782 q_784 q_28 nmX4_allow (by decide) rfl rfl (Nat.le_of_ble_eq_true rfl) dX4_settle_8 rfl rfl ?_
  refine V_iload_n (q := 12) C dX4_settle_11 rfl rfl 2 rfl ?_
  obtain ⟨J84, eJ84, hf⟩ := jp_s hf
  have hJ84 : ∀ (σ3 : Sg), J84 σ3 = some ((), σf) → V wX X G ad 7 Q 0 0 σ3 84 [(0, .ref (ad 2)), (1, .int a)] [] := by
    intro σ3 hf
    subst eJ84
    refine V_iconst (v := 0) (q := 85) C dX4_settle_84 rfl ic_0 ?_
    refine V_istore_n (L' := [(3, .int (0 : Int32)), (0, .ref (ad 2)), (1, .int a)]) (q := 86) C dX4_settle_85 rfl rfl (by decide) rfl ?_
    refine V_sub (L' := [(0, .ref (ad 2)), (1, .int a), (3, .int (0 : Int32))]) [1, 2, 0] rfl ?_
    refine wlX4_settle_86 C F a FU _ _ hf
  refine V_if_eq (t := 84) (q := 15) C dX4_settle_12 (by decide) rfl (fun c26 => ?_) (fun c26 => ?_)
  · replace hf := (ite_s hf).1 c26
    refine V_sub (L' := [(0, .ref (ad 2)), (1, .int a)]) [0, 1] rfl ?_
    exact hJ84 _ hf
  · replace hf := (ite_s hf).2 c26
    refine V_iconst (v := 0) (q := 16) C dX4_settle_15 rfl ic_0 ?_
    refine V_istore_n (L' := [(3, .int (0 : Int32)), (0, .ref (ad 2)), (1, .int a), (2, .int b)]) (q := 17) C dX4_settle_16 rfl rfl (by decide) rfl ?_
    refine V_sub (L' := [(0, .ref (ad 2)), (1, .int a), (3, .int (0 : Int32))]) [1, 2, 0] rfl ?_
    refine wlX4_settle_17 C F a _ (fun σ40 hf => ?_) FU _ _ hf
    exact hJ84 _ hf
def rmX4_keep : Room := { frames := 1, cells := 0, slots := 0, locals := 21 }
def fX4_keep_4 (a : Int32) : Nat → Int32 → Int32 → Sg → Option (Int32 × Sg)
  | 0, _, _, _ => none
  | n + 1, x1, x2, σ3 => if (σ3 3 6) ≤ x2 then (some (x1, σ3)) else (jp (fun (v5 : Int32) (σ6 : Sg) => jp (fun (y7 : Int32) (σ8 : Sg) => gd (inb x2 12) (lt' (sup σ8 14 x2.toNatClampNeg v5) (fun (σ10 : Sg) => fX4_keep_4 a n y7 (x2 + (1 : Int32)) σ10))) (fun (J63 : Int32 → Sg → Option (Int32 × Sg)) => if v5 = (-1 : Int32) then (J63 x1 σ6) else (gd (inb x2 12) (if v5 = (σ6 14 x2.toNatClampNeg) then (J63 x1 σ6) else (J63 (x1 + (1 : Int32)) σ6))))) (fun (J38 : Int32 → Sg → Option (Int32 × Sg)) => if (pX6_contains a x2) = 0 then (J38 (-1 : Int32) σ3) else (gd (inb x2 12) (J38 (pJ6_bitCount_0f7a4 ((σ3 35 x2.toNatClampNeg) - (1 : Int32))) σ3))))
def fX4_keep (a : Int32) (σ : Sg) : Option (Int32 × Sg) := fX4_keep_4 a FU (0 : Int32) (0 : Int32) σ
set_option maxHeartbeats 4000000 in
theorem wlX4_keep_4 {X : Cx} {G : Gx} {ad : Nat → Nat} {Q : State → Prop} {r : Int32} {σf : Sg} (C : OK wX X G ad RX4 cX4_keep 5 rmX4_keep) (F : FinR wX X G ad Q 0 0 (some .int) (some (.int r)) σf) (a : Int32) : ∀ (n : Nat) (x1 : Int32) (x2 : Int32) (σ3 : Sg), fX4_keep_4 a n x1 x2 σ3 = some (r, σf) → V wX X G ad 5 Q 0 0 σ3 4 [(0, .ref (ad 2)), (1, .int a), (2, .int x1), (3, .int x2)] [] := by
  intro n
  induction n with
  | zero =>
    intro _ _ _ hf
    exact absurd hf (by simp [fX4_keep_4])
  | succ n ih =>
    intro x1 x2 σ3 hf
    rw [fX4_keep_4] at hf
    refine V_iload_n (q := 5) C dX4_keep_4 rfl rfl 3 rfl ?_
    refine V_aload_n (q := 6) C dX4_keep_5 rfl rfl 0 rfl ?_
    refine GX_2_0 (q := 9) C q_212 dX4_keep_6 rfl ?_
    refine GNX_3_6 (q := 12) C q_182 dX4_keep_9 rfl ?_
    refine V_icmp_ge (t := 80) (q := 15) C dX4_keep_12 (by decide) rfl (fun c4 => ?_) (fun c4 => ?_)
    · replace hf := (ite_s hf).1 c4
      refine V_iload_n (q := 81) C dX4_keep_80 rfl rfl 2 rfl ?_
      obtain ⟨e1, e2⟩ := pr_s hf
      subst e1; subst e2
      exact V_iret C F (by decide) (by decide) dX4_keep_81
    · replace hf := (ite_s hf).2 c4
      refine V_iload_n (q := 16) C dX4_keep_15 rfl rfl 1 rfl ?_
      refine V_iload_n (q := 17) C dX4_keep_16 rfl rfl 3 rfl ?_
      refine V_callSN (av := [.int a, .int x2]) (st := []) (st1 := [.int (pX6_contains a x2)]) (q := 20) C (conX6_contains _ _ _ _ _ _ _ rfl) q_612 q_107 q_798 q_611 nmX6_contains (by decide) rfl rfl (Nat.le_of_ble_eq_true rfl) dX4_keep_17 rfl rfl ?_
      obtain ⟨J38, eJ38, hf⟩ := jp_s hf
      have hJ38 : ∀ (v5 : Int32) (σ6 : Sg), J38 v5 σ6 = some (r, σf) → V wX X G ad 5 Q 0 0 σ6 38 [(0, .ref (ad 2)), (1, .int a), (2, .int x1), (3, .int x2)] [.int v5] := by
        intro v5 σ6 hf
        subst eJ38
        refine V_istore (L' := [(4, .int v5), (0, .ref (ad 2)), (1, .int a), (2, .int x1), (3, .int x2)]) (q := 40) C dX4_keep_38 rfl (by decide) rfl ?_
        refine V_iload (q := 42) C dX4_keep_40 rfl 0 rfl ?_
        refine V_iconst (v := (-1)) (q := 43) C dX4_keep_42 rfl ic_m1 ?_
        obtain ⟨J63, eJ63, hf⟩ := jp_s hf
        have hJ63 : ∀ (y7 : Int32) (σ8 : Sg), J63 y7 σ8 = some (r, σf) → V wX X G ad 5 Q 0 0 σ8 63 [(0, .ref (ad 2)), (1, .int a), (2, .int y7), (3, .int x2), (4, .int v5)] [] := by
          intro y7 σ8 hf
          subst eJ63
          refine V_aload_n (q := 64) C dX4_keep_63 rfl rfl 0 rfl ?_
          refine GX_2_0 (q := 67) C q_212 dX4_keep_64 rfl ?_
          refine GNX_3_3 (q := 70) C q_168 dX4_keep_67 rfl ?_
          refine V_iload_n (q := 71) C dX4_keep_70 rfl rfl 3 rfl ?_
          refine V_iload (q := 73) C dX4_keep_71 rfl 4 rfl ?_
          obtain ⟨g9, hf⟩ := gd_s hf
          refine SX_14 (z := x2.toNatClampNeg) (q := 74) C rfl (inb_in g9) dX4_keep_73 rfl ?_
          refine V_lets hf (fun σ10 hf => ?_)
          refine V_iinc (L' := [(3, .int (x2 + (1 : Int32))), (0, .ref (ad 2)), (1, .int a), (2, .int y7), (4, .int v5)]) (q := 77) C dX4_keep_74 rfl 3 rfl (congrArg (fun y => x2 + y) ic_1) (by decide) rfl ?_
          refine V_goto (t := 4) C dX4_keep_77 (by decide) ?_
          refine V_sub (L' := [(0, .ref (ad 2)), (1, .int a), (2, .int y7), (3, .int (x2 + (1 : Int32)))]) [1, 2, 3, 0] rfl ?_
          exact ih _ _ _ hf
        refine V_icmp_eq (t := 63) (q := 46) C dX4_keep_43 (by decide) rfl (fun c11 => ?_) (fun c11 => ?_)
        · replace hf := (ite_s hf).1 c11
          refine V_sub (L' := [(0, .ref (ad 2)), (1, .int a), (2, .int x1), (3, .int x2), (4, .int v5)]) [1, 2, 3, 4, 0] rfl ?_
          exact hJ63 _ _ hf
        · replace hf := (ite_s hf).2 c11
          refine V_iload (q := 48) C dX4_keep_46 rfl 0 rfl ?_
          refine V_aload_n (q := 49) C dX4_keep_48 rfl rfl 1 rfl ?_
          refine GX_2_0 (q := 52) C q_212 dX4_keep_49 rfl ?_
          refine GNX_3_3 (q := 55) C q_168 dX4_keep_52 rfl ?_
          refine V_iload_n (q := 56) C dX4_keep_55 rfl rfl 4 rfl ?_
          obtain ⟨g12, hf⟩ := gd_s hf
          refine RX_14 (z := x2.toNatClampNeg) (q := 57) C rfl (inb_in g12) dX4_keep_56 rfl ?_
          refine V_icmp_eq (t := 63) (q := 60) C dX4_keep_57 (by decide) rfl (fun c13 => ?_) (fun c13 => ?_)
          · replace hf := (ite_s hf).1 c13
            refine V_sub (L' := [(0, .ref (ad 2)), (1, .int a), (2, .int x1), (3, .int x2), (4, .int v5)]) [1, 2, 3, 4, 0] rfl ?_
            exact hJ63 _ _ hf
          · replace hf := (ite_s hf).2 c13
            refine V_iinc (L' := [(2, .int (x1 + (1 : Int32))), (4, .int v5), (0, .ref (ad 2)), (1, .int a), (3, .int x2)]) (q := 63) C dX4_keep_60 rfl 3 rfl (congrArg (fun y => x1 + y) ic_1) (by decide) rfl ?_
            refine V_sub (L' := [(0, .ref (ad 2)), (1, .int a), (2, .int (x1 + (1 : Int32))), (3, .int x2), (4, .int v5)]) [2, 3, 0, 4, 1] rfl ?_
            exact hJ63 _ _ hf
      refine V_if_eq (t := 37) (q := 23) C dX4_keep_20 (by decide) rfl (fun c14 => ?_) (fun c14 => ?_)
      · replace hf := (ite_s hf).1 c14
        refine V_iconst (v := (-1)) (q := 38) C dX4_keep_37 rfl ic_m1 ?_
        exact hJ38 _ _ hf
      · replace hf := (ite_s hf).2 c14
        refine V_aload_n (q := 24) C dX4_keep_23 rfl rfl 0 rfl ?_
        refine GX_2_1 (q := 27) C q_215 dX4_keep_24 rfl ?_
        refine V_iload_n (q := 28) C dX4_keep_27 rfl rfl 3 rfl ?_
        obtain ⟨g15, hf⟩ := gd_s hf
        refine RX_35 (z := x2.toNatClampNeg) (q := 29) C rfl (inb_in g15) dX4_keep_28 rfl ?_
        refine V_iconst (v := 1) (q := 30) C dX4_keep_29 rfl ic_1 ?_
        refine V_isub (q := 31) C dX4_keep_30 rfl ?_
        refine V_callS (av := [.int ((σ3 35 x2.toNatClampNeg) - (1 : Int32))]) (st := []) (st1 := [.int (pJ6_bitCount_0f7a4 ((σ3 35 x2.toNatClampNeg) - (1 : Int32)))]) (q := 34) C (conJ6_bitCount_0f7a4 _ _ _ _ _ _ rfl) q_727 q_126 q_799 q_726 nmJ6_bitCount_0f7a4 (by decide) rfl rfl (Nat.le_of_ble_eq_true rfl) dX4_keep_31 rfl rfl ?_
        refine V_goto (t := 38) C dX4_keep_34 (by decide) ?_
        exact hJ38 _ _ hf
set_option maxHeartbeats 4000000 in
theorem conX4_keep (l : Launch) (G : Gx) (ad : Nat → Nat) (a : Int32) (σ : Sg) (r : Int32) (σf : Sg)  (hf : fX4_keep a σ = some (r, σf)) : Con wX l G ad yX4_keep (Cond.code yX4_keep cX4_keep 5 (some .int)) rmX4_keep 0 0 [.ref (ad 2), .int a] σ (some (.int r)) σf := by
  refine Con.start (by decide) (Nat.le_of_ble_eq_true rfl) (fun X Q _ C F => ?_)
  refine V_eq (L' := [(0, .ref (ad 2)), (1, .int a)]) (st' := []) rfl rfl rfl ?_
  unfold fX4_keep at hf
  refine V_iconst (v := 0) (q := 1) C dX4_keep_0 rfl ic_0 ?_
  refine V_istore_n (L' := [(2, .int (0 : Int32)), (0, .ref (ad 2)), (1, .int a)]) (q := 2) C dX4_keep_1 rfl rfl (by decide) rfl ?_
  refine V_iconst (v := 0) (q := 3) C dX4_keep_2 rfl ic_0 ?_
  refine V_istore_n (L' := [(3, .int (0 : Int32)), (2, .int (0 : Int32)), (0, .ref (ad 2)), (1, .int a)]) (q := 4) C dX4_keep_3 rfl rfl (by decide) rfl ?_
  refine V_sub (L' := [(0, .ref (ad 2)), (1, .int a), (2, .int (0 : Int32)), (3, .int (0 : Int32))]) [2, 3, 1, 0] rfl ?_
  refine wlX4_keep_4 C F a FU _ _ _ hf
def rmX3_usedChannels : Room := { frames := 0, cells := 0, slots := 0, locals := 0 }
def fX3_usedChannels_4 : Nat → Int32 → Int32 → Sg → Option (Int32 × Sg)
  | 0, _, _, _ => none
  | n + 1, x1, x2, σ3 => if (σ3 3 6) ≤ x2 then (some (x1, σ3)) else (gd (inb x2 12) (jp (fun (y6 : Int32) (σ7 : Sg) => fX3_usedChannels_4 n y6 (x2 + (1 : Int32)) σ7) (fun (J33 : Int32 → Sg → Option (Int32 × Sg)) => if (σ3 14 x2.toNatClampNeg) = (-1 : Int32) then (J33 x1 σ3) else (gd (inb x2 12) (lt' ((x1 ||| ((1 : Int32) <<< ((σ3 14 x2.toNatClampNeg) &&& 31)))) (fun (x10 : Int32) => J33 x10 σ3))))))
def fX3_usedChannels  (σ : Sg) : Option (Int32 × Sg) := fX3_usedChannels_4 FU (0 : Int32) (0 : Int32) σ
set_option maxHeartbeats 4000000 in
theorem wlX3_usedChannels_4 {X : Cx} {G : Gx} {ad : Nat → Nat} {Q : State → Prop} {r : Int32} {σf : Sg} (C : OK wX X G ad RX3 cX3_usedChannels 3 rmX3_usedChannels) (F : FinR wX X G ad Q 0 0 (some .int) (some (.int r)) σf) : ∀ (n : Nat) (x1 : Int32) (x2 : Int32) (σ3 : Sg), fX3_usedChannels_4 n x1 x2 σ3 = some (r, σf) → V wX X G ad 3 Q 0 0 σ3 4 [(0, .ref (ad 3)), (1, .int x1), (2, .int x2)] [] := by
  intro n
  induction n with
  | zero =>
    intro _ _ _ hf
    exact absurd hf (by simp [fX3_usedChannels_4])
  | succ n ih =>
    intro x1 x2 σ3 hf
    rw [fX3_usedChannels_4] at hf
    refine V_iload_n (q := 5) C dX3_usedChannels_4 rfl rfl 2 rfl ?_
    refine V_aload_n (q := 6) C dX3_usedChannels_5 rfl rfl 0 rfl ?_
    refine GX_3_6 (q := 9) C q_178 dX3_usedChannels_6 rfl ?_
    refine V_icmp_ge (t := 39) (q := 12) C dX3_usedChannels_9 (by decide) rfl (fun c4 => ?_) (fun c4 => ?_)
    · replace hf := (ite_s hf).1 c4
      refine V_iload_n (q := 40) C dX3_usedChannels_39 rfl rfl 1 rfl ?_
      obtain ⟨e1, e2⟩ := pr_s hf
      subst e1; subst e2
      exact V_iret C F (by decide) (by decide) dX3_usedChannels_40
    · replace hf := (ite_s hf).2 c4
      refine V_aload_n (q := 13) C dX3_usedChannels_12 rfl rfl 0 rfl ?_
      refine GX_3_3 (q := 16) C q_167 dX3_usedChannels_13 rfl ?_
      refine V_iload_n (q := 17) C dX3_usedChannels_16 rfl rfl 2 rfl ?_
      obtain ⟨g5, hf⟩ := gd_s hf
      refine RX_14 (z := x2.toNatClampNeg) (q := 18) C rfl (inb_in g5) dX3_usedChannels_17 rfl ?_
      refine V_iconst (v := (-1)) (q := 19) C dX3_usedChannels_18 rfl ic_m1 ?_
      obtain ⟨J33, eJ33, hf⟩ := jp_s hf
      have hJ33 : ∀ (y6 : Int32) (σ7 : Sg), J33 y6 σ7 = some (r, σf) → V wX X G ad 3 Q 0 0 σ7 33 [(0, .ref (ad 3)), (1, .int y6), (2, .int x2)] [] := by
        intro y6 σ7 hf
        subst eJ33
        refine V_iinc (L' := [(2, .int (x2 + (1 : Int32))), (0, .ref (ad 3)), (1, .int y6)]) (q := 36) C dX3_usedChannels_33 rfl 2 rfl (congrArg (fun y => x2 + y) ic_1) (by decide) rfl ?_
        refine V_goto (t := 4) C dX3_usedChannels_36 (by decide) ?_
        refine V_sub (L' := [(0, .ref (ad 3)), (1, .int y6), (2, .int (x2 + (1 : Int32)))]) [1, 2, 0] rfl ?_
        exact ih _ _ _ hf
      refine V_icmp_eq (t := 33) (q := 22) C dX3_usedChannels_19 (by decide) rfl (fun c8 => ?_) (fun c8 => ?_)
      · replace hf := (ite_s hf).1 c8
        exact hJ33 _ _ hf
      · replace hf := (ite_s hf).2 c8
        refine V_iload_n (q := 23) C dX3_usedChannels_22 rfl rfl 1 rfl ?_
        refine V_iconst (v := 1) (q := 24) C dX3_usedChannels_23 rfl ic_1 ?_
        refine V_aload_n (q := 25) C dX3_usedChannels_24 rfl rfl 0 rfl ?_
        refine GX_3_3 (q := 28) C q_167 dX3_usedChannels_25 rfl ?_
        refine V_iload_n (q := 29) C dX3_usedChannels_28 rfl rfl 2 rfl ?_
        obtain ⟨g9, hf⟩ := gd_s hf
        refine RX_14 (z := x2.toNatClampNeg) (q := 30) C rfl (inb_in g9) dX3_usedChannels_29 rfl ?_
        refine V_ishl (q := 31) C dX3_usedChannels_30 rfl ?_
        refine V_ior (q := 32) C dX3_usedChannels_31 rfl ?_
        refine V_let (cv := Value.int) hf (fun x10 hf => ?_)
        refine V_istore_n (L' := [(1, .int x10), (0, .ref (ad 3)), (2, .int x2)]) (q := 33) C dX3_usedChannels_32 rfl rfl (by decide) rfl ?_
        refine V_sub (L' := [(0, .ref (ad 3)), (1, .int x10), (2, .int x2)]) [1, 0, 2] rfl ?_
        exact hJ33 _ _ hf
set_option maxHeartbeats 4000000 in
theorem conX3_usedChannels (l : Launch) (G : Gx) (ad : Nat → Nat)  (σ : Sg) (r : Int32) (σf : Sg)  (hf : fX3_usedChannels  σ = some (r, σf)) : Con wX l G ad yX3_usedChannels (Cond.code yX3_usedChannels cX3_usedChannels 3 (some .int)) rmX3_usedChannels 0 0 [.ref (ad 3)] σ (some (.int r)) σf := by
  refine Con.start (by decide) (Nat.le_of_ble_eq_true rfl) (fun X Q _ C F => ?_)
  refine V_eq (L' := [(0, .ref (ad 3))]) (st' := []) rfl rfl rfl ?_
  unfold fX3_usedChannels at hf
  refine V_iconst (v := 0) (q := 1) C dX3_usedChannels_0 rfl ic_0 ?_
  refine V_istore_n (L' := [(1, .int (0 : Int32)), (0, .ref (ad 3))]) (q := 2) C dX3_usedChannels_1 rfl rfl (by decide) rfl ?_
  refine V_iconst (v := 0) (q := 3) C dX3_usedChannels_2 rfl ic_0 ?_
  refine V_istore_n (L' := [(2, .int (0 : Int32)), (1, .int (0 : Int32)), (0, .ref (ad 3))]) (q := 4) C dX3_usedChannels_3 rfl rfl (by decide) rfl ?_
  refine V_sub (L' := [(0, .ref (ad 3)), (1, .int (0 : Int32)), (2, .int (0 : Int32))]) [2, 1, 0] rfl ?_
  refine wlX3_usedChannels_4 C F FU _ _ _ hf
def rmX6_assign : Room := { frames := 20, cells := 2, slots := 12, locals := 593 }
def fX6_assign (a : Int32) (σ : Sg) : Option ((String ⊕ Int32) × Sg) := bx (fX6_requireSet a σ) (fun E σE => some (.inl E, σE)) (fun (_ : Unit) (σ2 : Sg) => bx (fX6_requireFeasible a σ2) (fun E σE => some (.inl E, σE)) (fun (_ : Unit) (σ8 : Sg) => bd (fX4_settle a (0 : Int32) σ8) (fun (_ : Unit) (σ13 : Sg) => bd (fX4_keep a σ13) (fun (r15 : Int32) (σ16 : Sg) => bd (fX3_usedChannels  σ16) (fun (r18 : Int32) (σ19 : Sg) => some (.inr (pJ6_bitCount_0f7a4 r18), σ19))))))
set_option maxHeartbeats 4000000 in
theorem conX6_assign (l : Launch) (G : Gx) (ad : Nat → Nat) (a : Int32) (σ : Sg) (r : String ⊕ Int32) (σf : Sg) (hf : fX6_assign a σ = some (r, σf)) : ConX wX l G ad yX6_assign (Cond.code yX6_assign cX6_assign 2 (some .int)) rmX6_assign 2 12 [.ref (ad 0), .int a] σ (rI r) σf := by
  refine ConX.start (by decide) (Nat.le_of_ble_eq_true rfl) (fun X Q _ C Fr Fx => ?_)
  refine V_eq (L' := [(0, .ref (ad 0)), (1, .int a)]) (st' := []) rfl rfl rfl ?_
  unfold fX6_assign at hf
  refine V_aload_n (q := 1) C dX6_assign_0 rfl rfl 0 rfl ?_
  refine V_iload_n (q := 2) C dX6_assign_1 rfl rfl 1 rfl ?_
  obtain ⟨z4, σ2, h3, hE, hA⟩ := bx_s hf
  refine V_callVX (av := [.int a]) (st := []) (q := 5) (mc := 2) (ms := 12) C 0 (by decide) (eX_0 G ad _) rfl rfl (conX6_requireSet _ _ _ _ _ _ _ h3) q_775 q_107 q_772 q_774 q_26 nmX6_requireSet (by decide) rfl rfl (Nat.le_of_ble_eq_true rfl) dX6_assign_2 rfl (by decide) (by decide) (fun E hz => by
    obtain rfl := rU_l hz
    obtain ⟨e1, e2⟩ := pr_s (hE _ rfl)
    subst e1; subst e2
    exact Fx _ rfl) (fun w5 h6 => ?_)
  obtain ⟨r1, rfl, rfl⟩ := rU_r h6
  replace hf := hA _ rfl
  refine V_eq (L' := [(0, .ref (ad 0)), (1, .int a)]) (st' := []) rfl rfl rfl ?_
  refine V_wide (k2 := 1) (n2 := 6) (by decide) (by decide) ?_
  refine V_aload_n (q := 6) C dX6_assign_5 rfl rfl 0 rfl ?_
  refine V_iload_n (q := 7) C dX6_assign_6 rfl rfl 1 rfl ?_
  obtain ⟨z10, σ8, h9, hE, hA⟩ := bx_s hf
  refine V_callVX (av := [.int a]) (st := []) (q := 10) (mc := 2) (ms := 12) C 0 (by decide) (eX_0 G ad _) rfl rfl (conX6_requireFeasible _ _ _ _ _ _ _ h9) q_848 q_107 q_845 q_847 q_38 nmX6_requireFeasible (by decide) rfl rfl (Nat.le_of_ble_eq_true rfl) dX6_assign_7 rfl (by decide) (by decide) (fun E hz => by
    obtain rfl := rU_l hz
    obtain ⟨e1, e2⟩ := pr_s (hE _ rfl)
    subst e1; subst e2
    exact Fx _ rfl) (fun w11 h12 => ?_)
  obtain ⟨r7, rfl, rfl⟩ := rU_r h12
  replace hf := hA _ rfl
  refine V_eq (L' := [(0, .ref (ad 0)), (1, .int a)]) (st' := []) rfl rfl rfl ?_
  refine V_wide (k2 := 2) (n2 := 12) (by decide) (by decide) ?_
  refine V_aload_n (q := 11) C dX6_assign_10 rfl rfl 0 rfl ?_
  refine GX_0_1 (q := 14) C q_354 dX6_assign_11 rfl ?_
  refine V_iload_n (q := 15) C dX6_assign_14 rfl rfl 1 rfl ?_
  refine V_iconst (v := 0) (q := 16) C dX6_assign_15 rfl ic_0 ?_
  obtain ⟨_u, σ13, h14, hf⟩ := bd_s hf
  refine V_callVN (av := [.int a, .int (0 : Int32)]) (st := []) (st1 := []) (q := 19) C 2 (by decide) (eX_2 G ad _) rfl rfl (conX4_settle _ _ _ _ _ _ _ h14) q_853 q_109 q_850 q_852 q_39 nmX4_settle (by decide) rfl rfl (Nat.le_of_ble_eq_true rfl) dX6_assign_16 rfl rfl ?_
  refine V_aload_n (q := 20) C dX6_assign_19 rfl rfl 0 rfl ?_
  refine GX_0_1 (q := 23) C q_354 dX6_assign_20 rfl ?_
  refine V_iload_n (q := 24) C dX6_assign_23 rfl rfl 1 rfl ?_
  obtain ⟨r15, σ16, h17, hf⟩ := bd_s hf
  refine V_callVN (av := [.int a]) (st := []) (st1 := [.int r15]) (q := 27) C 2 (by decide) (eX_2 G ad _) rfl rfl (conX4_keep _ _ _ _ _ _ _ h17) q_861 q_109 q_858 q_860 q_41 nmX4_keep (by decide) rfl rfl (Nat.le_of_ble_eq_true rfl) dX6_assign_24 rfl rfl ?_
  refine V_pop (q := 28) C dX6_assign_27 rfl rfl ?_
  refine V_aload_n (q := 29) C dX6_assign_28 rfl rfl 0 rfl ?_
  refine GX_0_2 (q := 32) C q_355 dX6_assign_29 rfl ?_
  obtain ⟨r18, σ19, h20, hf⟩ := bd_s hf
  refine V_callVN (av := []) (st := []) (st1 := [.int r18]) (q := 35) C 3 (by decide) (eX_3 G ad _) rfl rfl (conX3_usedChannels _ _ _  _ _ _ h20) q_865 q_110 q_862 q_864 q_42 nmX3_usedChannels (by decide) rfl rfl (Nat.le_of_ble_eq_true rfl) dX6_assign_32 rfl rfl ?_
  refine V_callS (av := [.int r18]) (st := []) (st1 := [.int (pJ6_bitCount_0f7a4 r18)]) (q := 38) C (conJ6_bitCount_0f7a4 _ _ _ _ _ _ rfl) q_727 q_126 q_866 q_726 nmJ6_bitCount_0f7a4 (by decide) rfl rfl (Nat.le_of_ble_eq_true rfl) dX6_assign_35 rfl rfl ?_
  obtain ⟨e1, e2⟩ := pr_s hf
  subst e1; subst e2
  exact V_iret C (Fr _ rfl) (by decide) (by decide) dX6_assign_38
def rmX6_assignments : Room := { frames := 18, cells := 1, slots := 6, locals := 543 }
def fX6_assignments (a : Int32) (σ : Sg) : Option ((String ⊕ Int32) × Sg) := bx (fX6_requireSet a σ) (fun E σE => some (.inl E, σE)) (fun (_ : Unit) (σ2 : Sg) => bd (fX4_allow (σ2 3 8) σ2) (fun (_ : Unit) (σ7 : Sg) => bd (fX4_solutions a (1000 : Int32) σ7) (fun (r9 : Int32) (σ10 : Sg) => some (.inr r9, σ10))))
set_option maxHeartbeats 4000000 in
theorem conX6_assignments (l : Launch) (G : Gx) (ad : Nat → Nat) (a : Int32) (σ : Sg) (r : String ⊕ Int32) (σf : Sg) (hf : fX6_assignments a σ = some (r, σf)) : ConX wX l G ad yX6_assignments (Cond.code yX6_assignments cX6_assignments 2 (some .int)) rmX6_assignments 1 6 [.ref (ad 0), .int a] σ (rI r) σf := by
  refine ConX.start (by decide) (Nat.le_of_ble_eq_true rfl) (fun X Q _ C Fr Fx => ?_)
  refine V_eq (L' := [(0, .ref (ad 0)), (1, .int a)]) (st' := []) rfl rfl rfl ?_
  unfold fX6_assignments at hf
  refine V_aload_n (q := 1) C dX6_assignments_0 rfl rfl 0 rfl ?_
  refine V_iload_n (q := 2) C dX6_assignments_1 rfl rfl 1 rfl ?_
  obtain ⟨z4, σ2, h3, hE, hA⟩ := bx_s hf
  refine V_callVX (av := [.int a]) (st := []) (q := 5) (mc := 1) (ms := 6) C 0 (by decide) (eX_0 G ad _) rfl rfl (conX6_requireSet _ _ _ _ _ _ _ h3) q_775 q_107 q_772 q_774 q_26 nmX6_requireSet (by decide) rfl rfl (Nat.le_of_ble_eq_true rfl) dX6_assignments_2 rfl (by decide) (by decide) (fun E hz => by
    obtain rfl := rU_l hz
    obtain ⟨e1, e2⟩ := pr_s (hE _ rfl)
    subst e1; subst e2
    exact Fx _ rfl) (fun w5 h6 => ?_)
  obtain ⟨r1, rfl, rfl⟩ := rU_r h6
  replace hf := hA _ rfl
  refine V_eq (L' := [(0, .ref (ad 0)), (1, .int a)]) (st' := []) rfl rfl rfl ?_
  refine V_wide (k2 := 1) (n2 := 6) (by decide) (by decide) ?_
  refine V_aload_n (q := 6) C dX6_assignments_5 rfl rfl 0 rfl ?_
  refine GX_0_1 (q := 9) C q_354 dX6_assignments_6 rfl ?_
  refine V_aload_n (q := 10) C dX6_assignments_9 rfl rfl 0 rfl ?_
  refine GX_0_2 (q := 13) C q_355 dX6_assignments_10 rfl ?_
  refine GNX_3_8 (q := 16) C q_189 dX6_assignments_13 rfl ?_
  obtain ⟨_u, σ7, h8, hf⟩ := bd_s hf
  refine V_callVN (av := [.int (σ2 3 8)]) (st := []) (st1 := []) (q := 19) C 2 (by decide) (eX_2 G ad _) rfl rfl (conX4_allow _ _ _ _ _ _ h8) q_785 q_109 q_881 q_784 q_28 nmX4_allow (by decide) rfl rfl (Nat.le_of_ble_eq_true rfl) dX6_assignments_16 rfl rfl ?_
  refine V_aload_n (q := 20) C dX6_assignments_19 rfl rfl 0 rfl ?_
  refine GX_0_1 (q := 23) C q_354 dX6_assignments_20 rfl ?_
  refine V_iload_n (q := 24) C dX6_assignments_23 rfl rfl 1 rfl ?_
  refine V_sipush (v := 1000) (q := 27) C dX6_assignments_24 rfl sc_1000 ?_
  obtain ⟨r9, σ10, h11, hf⟩ := bd_s hf
  refine V_callVN (av := [.int a, .int (1000 : Int32)]) (st := []) (st1 := [.int r9]) (q := 30) C 2 (by decide) (eX_2 G ad _) rfl rfl (conX4_solutions _ _ _ _ _ _ _ _ h11) q_789 q_109 q_882 q_788 q_29 nmX4_solutions (by decide) rfl rfl (Nat.le_of_ble_eq_true rfl) dX6_assignments_27 rfl rfl ?_
  obtain ⟨e1, e2⟩ := pr_s hf
  subst e1; subst e2
  exact V_iret C (Fr _ rfl) (by decide) (by decide) dX6_assignments_30
def rmX6_requireAuction : Room := { frames := 6, cells := 1, slots := 6, locals := 90 }
def fX6_requireAuction  (σ : Sg) : Option ((String ⊕ Unit) × Sg) := if (σ 7 4) = 0 then (some (.inl "java/lang/IllegalStateException", σ)) else (some (.inr (), σ))
set_option maxHeartbeats 4000000 in
theorem conX6_requireAuction (l : Launch) (G : Gx) (ad : Nat → Nat)  (σ : Sg) (r : String ⊕ Unit) (σf : Sg) (hf : fX6_requireAuction  σ = some (r, σf)) : ConX wX l G ad yX6_requireAuction (Cond.code yX6_requireAuction cX6_requireAuction 1 none) rmX6_requireAuction 1 6 [.ref (ad 0)] σ (rU r) σf := by
  refine ConX.start (by decide) (Nat.le_of_ble_eq_true rfl) (fun X Q _ C Fr Fx => ?_)
  refine V_eq (L' := [(0, .ref (ad 0))]) (st' := []) rfl rfl rfl ?_
  unfold fX6_requireAuction at hf
  refine V_aload_n (q := 1) C dX6_requireAuction_0 rfl rfl 0 rfl ?_
  refine GX_0_6 (q := 4) C q_359 dX6_requireAuction_1 rfl ?_
  refine GNX_7_4 (q := 7) C q_319 dX6_requireAuction_4 rfl ?_
  refine V_if_ne (t := 21) (q := 10) C dX6_requireAuction_7 (by decide) rfl (fun c1 => ?_) (fun c1 => ?_)
  · replace hf := (ite_s hf).2 c1
    obtain ⟨e1, e2⟩ := pr_s hf
    subst e1; subst e2
    exact V_vret C (Fr _ rfl) (by decide) (by decide) dX6_requireAuction_21
  · replace hf := (ite_s hf).1 c1
    obtain ⟨e1, e2⟩ := pr_s hf
    subst e1; subst e2
    exact V_throwSW (text := "no auction is known") C rfl (Fx _ rfl) rfl q_522 q_120 (by decide) xa_100 xg_100 dX6_requireAuction_10 dX6_requireAuction_13 dX6_requireAuction_14 dX6_requireAuction_17 dX6_requireAuction_20 (by decide) (Nat.le_of_ble_eq_true rfl) (by decide) (by decide) (by decide) (by decide)
def rmX6_sumOver_28 : Room := { frames := 1, cells := 0, slots := 0, locals := 21 }
def fX6_sumOver_28_4 (a : Int32) : Nat → Int32 → Int32 → Sg → Option (Int32 × Sg)
  | 0, _, _, _ => none
  | n + 1, x1, x2, σ3 => if (12 : Int32) ≤ x2 then (some (x1, σ3)) else (jp (fun (y5 : Int32) (σ6 : Sg) => fX6_sumOver_28_4 a n y5 (x2 + (1 : Int32)) σ6) (fun (J24 : Int32 → Sg → Option (Int32 × Sg)) => if (pX6_contains a x2) = 0 then (J24 x1 σ3) else (gd (inb x2 12) (lt' ((x1 + (σ3 28 x2.toNatClampNeg))) (fun (x9 : Int32) => J24 x9 σ3)))))
def fX6_sumOver_28 (a : Int32) (σ : Sg) : Option (Int32 × Sg) := fX6_sumOver_28_4 a FU (0 : Int32) (0 : Int32) σ
set_option maxHeartbeats 4000000 in
theorem wlX6_sumOver_28_4 {X : Cx} {G : Gx} {ad : Nat → Nat} {Q : State → Prop} {r : Int32} {σf : Sg} (C : OK wX X G ad RX6 cX6_sumOver 4 rmX6_sumOver_28) (F : FinR wX X G ad Q 0 0 (some .int) (some (.int r)) σf) (a : Int32) : ∀ (n : Nat) (x1 : Int32) (x2 : Int32) (σ3 : Sg), fX6_sumOver_28_4 a n x1 x2 σ3 = some (r, σf) → V wX X G ad 4 Q 0 0 σ3 4 [(0, .ref (ad 28)), (1, .int a), (2, .int x1), (3, .int x2)] [] := by
  intro n
  induction n with
  | zero =>
    intro _ _ _ hf
    exact absurd hf (by simp [fX6_sumOver_28_4])
  | succ n ih =>
    intro x1 x2 σ3 hf
    rw [fX6_sumOver_28_4] at hf
    refine V_iload_n (q := 5) C dX6_sumOver_4 rfl rfl 3 rfl ?_
    refine V_aload_n (q := 6) C dX6_sumOver_5 rfl rfl 0 rfl ?_
    refine LX_28 (q := 7) C dX6_sumOver_6 rfl ?_
    refine V_icmp_ge (t := 30) (q := 10) C dX6_sumOver_7 (by decide) rfl (fun c4 => ?_) (fun c4 => ?_)
    · replace hf := (ite_s hf).1 c4
      refine V_iload_n (q := 31) C dX6_sumOver_30 rfl rfl 2 rfl ?_
      obtain ⟨e1, e2⟩ := pr_s hf
      subst e1; subst e2
      exact V_iret C F (by decide) (by decide) dX6_sumOver_31
    · replace hf := (ite_s hf).2 c4
      refine V_iload_n (q := 11) C dX6_sumOver_10 rfl rfl 1 rfl ?_
      refine V_iload_n (q := 12) C dX6_sumOver_11 rfl rfl 3 rfl ?_
      refine V_callS (av := [.int a, .int x2]) (st := []) (st1 := [.int (pX6_contains a x2)]) (q := 15) C (conX6_contains _ _ _ _ _ _ _ rfl) q_612 q_107 q_610 q_611 nmX6_contains (by decide) rfl rfl (Nat.le_of_ble_eq_true rfl) dX6_sumOver_12 rfl rfl ?_
      obtain ⟨J24, eJ24, hf⟩ := jp_s hf
      have hJ24 : ∀ (y5 : Int32) (σ6 : Sg), J24 y5 σ6 = some (r, σf) → V wX X G ad 4 Q 0 0 σ6 24 [(0, .ref (ad 28)), (1, .int a), (2, .int y5), (3, .int x2)] [] := by
        intro y5 σ6 hf
        subst eJ24
        refine V_iinc (L' := [(3, .int (x2 + (1 : Int32))), (0, .ref (ad 28)), (1, .int a), (2, .int y5)]) (q := 27) C dX6_sumOver_24 rfl 3 rfl (congrArg (fun y => x2 + y) ic_1) (by decide) rfl ?_
        refine V_goto (t := 4) C dX6_sumOver_27 (by decide) ?_
        refine V_sub (L' := [(0, .ref (ad 28)), (1, .int a), (2, .int y5), (3, .int (x2 + (1 : Int32)))]) [1, 2, 3, 0] rfl ?_
        exact ih _ _ _ hf
      refine V_if_eq (t := 24) (q := 18) C dX6_sumOver_15 (by decide) rfl (fun c7 => ?_) (fun c7 => ?_)
      · replace hf := (ite_s hf).1 c7
        exact hJ24 _ _ hf
      · replace hf := (ite_s hf).2 c7
        refine V_iload_n (q := 19) C dX6_sumOver_18 rfl rfl 2 rfl ?_
        refine V_aload_n (q := 20) C dX6_sumOver_19 rfl rfl 0 rfl ?_
        refine V_iload_n (q := 21) C dX6_sumOver_20 rfl rfl 3 rfl ?_
        obtain ⟨g8, hf⟩ := gd_s hf
        refine RX_28 (z := x2.toNatClampNeg) (q := 22) C rfl (inb_in g8) dX6_sumOver_21 rfl ?_
        refine V_iadd (q := 23) C dX6_sumOver_22 rfl ?_
        refine V_let (cv := Value.int) hf (fun x9 hf => ?_)
        refine V_istore_n (L' := [(2, .int x9), (0, .ref (ad 28)), (1, .int a), (3, .int x2)]) (q := 24) C dX6_sumOver_23 rfl rfl (by decide) rfl ?_
        refine V_sub (L' := [(0, .ref (ad 28)), (1, .int a), (2, .int x9), (3, .int x2)]) [1, 2, 0, 3] rfl ?_
        exact hJ24 _ _ hf
set_option maxHeartbeats 4000000 in
theorem conX6_sumOver_28 (l : Launch) (G : Gx) (ad : Nat → Nat) (a : Int32) (σ : Sg) (r : Int32) (σf : Sg)  (hf : fX6_sumOver_28 a σ = some (r, σf)) : Con wX l G ad yX6_sumOver (Cond.code yX6_sumOver cX6_sumOver 4 (some .int)) rmX6_sumOver_28 0 0 [.ref (ad 28), .int a] σ (some (.int r)) σf := by
  refine Con.start (by decide) (Nat.le_of_ble_eq_true rfl) (fun X Q _ C F => ?_)
  refine V_eq (L' := [(0, .ref (ad 28)), (1, .int a)]) (st' := []) rfl rfl rfl ?_
  unfold fX6_sumOver_28 at hf
  refine V_iconst (v := 0) (q := 1) C dX6_sumOver_0 rfl ic_0 ?_
  refine V_istore_n (L' := [(2, .int (0 : Int32)), (0, .ref (ad 28)), (1, .int a)]) (q := 2) C dX6_sumOver_1 rfl rfl (by decide) rfl ?_
  refine V_iconst (v := 0) (q := 3) C dX6_sumOver_2 rfl ic_0 ?_
  refine V_istore_n (L' := [(3, .int (0 : Int32)), (2, .int (0 : Int32)), (0, .ref (ad 28)), (1, .int a)]) (q := 4) C dX6_sumOver_3 rfl rfl (by decide) rfl ?_
  refine V_sub (L' := [(0, .ref (ad 28)), (1, .int a), (2, .int (0 : Int32)), (3, .int (0 : Int32))]) [2, 3, 1, 0] rfl ?_
  refine wlX6_sumOver_28_4 C F a FU _ _ _ hf
def rmX6_sumOver_12 : Room := { frames := 1, cells := 0, slots := 0, locals := 21 }
def fX6_sumOver_12_4 (a : Int32) : Nat → Int32 → Int32 → Sg → Option (Int32 × Sg)
  | 0, _, _, _ => none
  | n + 1, x1, x2, σ3 => if (12 : Int32) ≤ x2 then (some (x1, σ3)) else (jp (fun (y5 : Int32) (σ6 : Sg) => fX6_sumOver_12_4 a n y5 (x2 + (1 : Int32)) σ6) (fun (J24 : Int32 → Sg → Option (Int32 × Sg)) => if (pX6_contains a x2) = 0 then (J24 x1 σ3) else (gd (inb x2 12) (lt' ((x1 + (σ3 12 x2.toNatClampNeg))) (fun (x9 : Int32) => J24 x9 σ3)))))
def fX6_sumOver_12 (a : Int32) (σ : Sg) : Option (Int32 × Sg) := fX6_sumOver_12_4 a FU (0 : Int32) (0 : Int32) σ
set_option maxHeartbeats 4000000 in
theorem wlX6_sumOver_12_4 {X : Cx} {G : Gx} {ad : Nat → Nat} {Q : State → Prop} {r : Int32} {σf : Sg} (C : OK wX X G ad RX6 cX6_sumOver 4 rmX6_sumOver_12) (F : FinR wX X G ad Q 0 0 (some .int) (some (.int r)) σf) (a : Int32) : ∀ (n : Nat) (x1 : Int32) (x2 : Int32) (σ3 : Sg), fX6_sumOver_12_4 a n x1 x2 σ3 = some (r, σf) → V wX X G ad 4 Q 0 0 σ3 4 [(0, .ref (ad 12)), (1, .int a), (2, .int x1), (3, .int x2)] [] := by
  intro n
  induction n with
  | zero =>
    intro _ _ _ hf
    exact absurd hf (by simp [fX6_sumOver_12_4])
  | succ n ih =>
    intro x1 x2 σ3 hf
    rw [fX6_sumOver_12_4] at hf
    refine V_iload_n (q := 5) C dX6_sumOver_4 rfl rfl 3 rfl ?_
    refine V_aload_n (q := 6) C dX6_sumOver_5 rfl rfl 0 rfl ?_
    refine LX_12 (q := 7) C dX6_sumOver_6 rfl ?_
    refine V_icmp_ge (t := 30) (q := 10) C dX6_sumOver_7 (by decide) rfl (fun c4 => ?_) (fun c4 => ?_)
    · replace hf := (ite_s hf).1 c4
      refine V_iload_n (q := 31) C dX6_sumOver_30 rfl rfl 2 rfl ?_
      obtain ⟨e1, e2⟩ := pr_s hf
      subst e1; subst e2
      exact V_iret C F (by decide) (by decide) dX6_sumOver_31
    · replace hf := (ite_s hf).2 c4
      refine V_iload_n (q := 11) C dX6_sumOver_10 rfl rfl 1 rfl ?_
      refine V_iload_n (q := 12) C dX6_sumOver_11 rfl rfl 3 rfl ?_
      refine V_callS (av := [.int a, .int x2]) (st := []) (st1 := [.int (pX6_contains a x2)]) (q := 15) C (conX6_contains _ _ _ _ _ _ _ rfl) q_612 q_107 q_610 q_611 nmX6_contains (by decide) rfl rfl (Nat.le_of_ble_eq_true rfl) dX6_sumOver_12 rfl rfl ?_
      obtain ⟨J24, eJ24, hf⟩ := jp_s hf
      have hJ24 : ∀ (y5 : Int32) (σ6 : Sg), J24 y5 σ6 = some (r, σf) → V wX X G ad 4 Q 0 0 σ6 24 [(0, .ref (ad 12)), (1, .int a), (2, .int y5), (3, .int x2)] [] := by
        intro y5 σ6 hf
        subst eJ24
        refine V_iinc (L' := [(3, .int (x2 + (1 : Int32))), (0, .ref (ad 12)), (1, .int a), (2, .int y5)]) (q := 27) C dX6_sumOver_24 rfl 3 rfl (congrArg (fun y => x2 + y) ic_1) (by decide) rfl ?_
        refine V_goto (t := 4) C dX6_sumOver_27 (by decide) ?_
        refine V_sub (L' := [(0, .ref (ad 12)), (1, .int a), (2, .int y5), (3, .int (x2 + (1 : Int32)))]) [1, 2, 3, 0] rfl ?_
        exact ih _ _ _ hf
      refine V_if_eq (t := 24) (q := 18) C dX6_sumOver_15 (by decide) rfl (fun c7 => ?_) (fun c7 => ?_)
      · replace hf := (ite_s hf).1 c7
        exact hJ24 _ _ hf
      · replace hf := (ite_s hf).2 c7
        refine V_iload_n (q := 19) C dX6_sumOver_18 rfl rfl 2 rfl ?_
        refine V_aload_n (q := 20) C dX6_sumOver_19 rfl rfl 0 rfl ?_
        refine V_iload_n (q := 21) C dX6_sumOver_20 rfl rfl 3 rfl ?_
        obtain ⟨g8, hf⟩ := gd_s hf
        refine RX_12 (z := x2.toNatClampNeg) (q := 22) C rfl (inb_in g8) dX6_sumOver_21 rfl ?_
        refine V_iadd (q := 23) C dX6_sumOver_22 rfl ?_
        refine V_let (cv := Value.int) hf (fun x9 hf => ?_)
        refine V_istore_n (L' := [(2, .int x9), (0, .ref (ad 12)), (1, .int a), (3, .int x2)]) (q := 24) C dX6_sumOver_23 rfl rfl (by decide) rfl ?_
        refine V_sub (L' := [(0, .ref (ad 12)), (1, .int a), (2, .int x9), (3, .int x2)]) [1, 2, 0, 3] rfl ?_
        exact hJ24 _ _ hf
set_option maxHeartbeats 4000000 in
theorem conX6_sumOver_12 (l : Launch) (G : Gx) (ad : Nat → Nat) (a : Int32) (σ : Sg) (r : Int32) (σf : Sg)  (hf : fX6_sumOver_12 a σ = some (r, σf)) : Con wX l G ad yX6_sumOver (Cond.code yX6_sumOver cX6_sumOver 4 (some .int)) rmX6_sumOver_12 0 0 [.ref (ad 12), .int a] σ (some (.int r)) σf := by
  refine Con.start (by decide) (Nat.le_of_ble_eq_true rfl) (fun X Q _ C F => ?_)
  refine V_eq (L' := [(0, .ref (ad 12)), (1, .int a)]) (st' := []) rfl rfl rfl ?_
  unfold fX6_sumOver_12 at hf
  refine V_iconst (v := 0) (q := 1) C dX6_sumOver_0 rfl ic_0 ?_
  refine V_istore_n (L' := [(2, .int (0 : Int32)), (0, .ref (ad 12)), (1, .int a)]) (q := 2) C dX6_sumOver_1 rfl rfl (by decide) rfl ?_
  refine V_iconst (v := 0) (q := 3) C dX6_sumOver_2 rfl ic_0 ?_
  refine V_istore_n (L' := [(3, .int (0 : Int32)), (2, .int (0 : Int32)), (0, .ref (ad 12)), (1, .int a)]) (q := 4) C dX6_sumOver_3 rfl rfl (by decide) rfl ?_
  refine V_sub (L' := [(0, .ref (ad 12)), (1, .int a), (2, .int (0 : Int32)), (3, .int (0 : Int32))]) [2, 3, 1, 0] rfl ?_
  refine wlX6_sumOver_12_4 C F a FU _ _ _ hf
def rmX6_auction : Room := { frames := 7, cells := 1, slots := 6, locals := 110 }
def fX6_auction (a : Int32) (σ : Sg) : Option ((String ⊕ Int32) × Sg) := jp (fun (σ1 : Sg) => some (.inl "java/lang/IllegalArgumentException", σ1)) (fun (J10 : Sg → Option ((String ⊕ Int32) × Sg)) => if a < 0 then (J10  σ) else (if a ≤ (6 : Int32) then (bx (fX6_requireAuction  σ) (fun E σE => some (.inl E, σE)) (fun (_ : Unit) (σ5 : Sg) => if a = (0 : Int32) then (some (.inr (σ5 7 5), σ5)) else if a = (1 : Int32) then (gd (inb (σ5 7 5) 101) (some (.inr (σ5 27 ((σ5 7 5).toNatClampNeg)), σ5))) else if a = (2 : Int32) then (some (.inr (σ5 7 6), σ5)) else if a = (3 : Int32) then (some (.inr (σ5 7 7), σ5)) else if a = (4 : Int32) then (some (.inr (σ5 7 8), σ5)) else if a = (5 : Int32) then (bd (fX6_sumOver_28 (σ5 7 8) σ5) (fun (r17 : Int32) (σ18 : Sg) => some (.inr r17, σ18))) else (bd (fX6_sumOver_12 (σ5 7 8) σ5) (fun (r20 : Int32) (σ21 : Sg) => some (.inr r20, σ21))))) else (J10  σ)))
set_option maxHeartbeats 4000000 in
theorem conX6_auction (l : Launch) (G : Gx) (ad : Nat → Nat) (a : Int32) (σ : Sg) (r : String ⊕ Int32) (σf : Sg) (hf : fX6_auction a σ = some (r, σf)) : ConX wX l G ad yX6_auction (Cond.code yX6_auction cX6_auction 2 (some .int)) rmX6_auction 1 6 [.ref (ad 0), .int a] σ (rI r) σf := by
  refine ConX.start (by decide) (Nat.le_of_ble_eq_true rfl) (fun X Q _ C Fr Fx => ?_)
  refine V_eq (L' := [(0, .ref (ad 0)), (1, .int a)]) (st' := []) rfl rfl rfl ?_
  unfold fX6_auction at hf
  refine V_iload_n (q := 1) C dX6_auction_0 rfl rfl 1 rfl ?_
  obtain ⟨J10, eJ10, hf⟩ := jp_s hf
  have hJ10 : ∀ (σ1 : Sg), J10 σ1 = some (r, σf) → V wX X G ad 2 Q 0 0 σ1 10 [] [] := by
    intro σ1 hf
    subst eJ10
    obtain ⟨e1, e2⟩ := pr_s hf
    subst e1; subst e2
    exact V_throwSW (text := "no such number") C rfl (Fx _ rfl) rfl q_424 q_118 (by decide) xa_87 xg_87 dX6_auction_10 dX6_auction_13 dX6_auction_14 dX6_auction_17 dX6_auction_20 (by decide) (Nat.le_of_ble_eq_true rfl) (by decide) (by decide) (by decide) (by decide)
  refine V_if_lt (t := 10) (q := 4) C dX6_auction_1 (by decide) rfl (fun c2 => ?_) (fun c2 => ?_)
  · replace hf := (ite_s hf).1 c2
    refine V_sub (L' := []) [] rfl ?_
    exact hJ10 _ hf
  · replace hf := (ite_s hf).2 c2
    refine V_iload_n (q := 5) C dX6_auction_4 rfl rfl 1 rfl ?_
    refine V_bipush (v := 6) (q := 7) C dX6_auction_5 rfl bc_6 ?_
    refine V_icmp_le (t := 21) (q := 10) C dX6_auction_7 (by decide) rfl (fun c3 => ?_) (fun c3 => ?_)
    · replace hf := (ite_s hf).1 c3
      refine V_aload_n (q := 22) C dX6_auction_21 rfl rfl 0 rfl ?_
      obtain ⟨z7, σ5, h6, hE, hA⟩ := bx_s hf
      refine V_callVX (av := []) (st := []) (q := 25) (mc := 1) (ms := 6) C 0 (by decide) (eX_0 G ad _) rfl rfl (conX6_requireAuction _ _ _  _ _ _ h6) q_989 q_107 q_986 q_988 q_56 nmX6_requireAuction (by decide) rfl rfl (Nat.le_of_ble_eq_true rfl) dX6_auction_22 rfl (by decide) (by decide) (fun E hz => by
        obtain rfl := rU_l hz
        obtain ⟨e1, e2⟩ := pr_s (hE _ rfl)
        subst e1; subst e2
        exact Fx _ rfl) (fun w8 h9 => ?_)
      obtain ⟨r4, rfl, rfl⟩ := rU_r h9
      replace hf := hA _ rfl
      refine V_eq (L' := [(0, .ref (ad 0)), (1, .int a)]) (st' := []) rfl rfl rfl ?_
      refine V_wide (k2 := 1) (n2 := 6) (by decide) (by decide) ?_
      refine V_iload_n (q := 26) C dX6_auction_25 rfl rfl 1 rfl ?_
      by_cases c10 : a = (0 : Int32)
      · replace hf := (ite_s hf).1 c10
        refine V_tabIn (t := 64) C dX6_auction_26 (by rw [c10]; decide) (by rw [c10]; decide) (off := 38) (by rw [c10]; decide) (by decide) ?_
        refine V_aload_n (q := 65) C dX6_auction_64 rfl rfl 0 rfl ?_
        refine GX_0_6 (q := 68) C q_359 dX6_auction_65 rfl ?_
        refine GNX_7_5 (q := 71) C q_321 dX6_auction_68 rfl ?_
        obtain ⟨e1, e2⟩ := pr_s hf
        subst e1; subst e2
        exact V_iret C (Fr _ rfl) (by decide) (by decide) dX6_auction_71
      · replace hf := (ite_s hf).2 c10
        by_cases c11 : a = (1 : Int32)
        · replace hf := (ite_s hf).1 c11
          refine V_tabIn (t := 72) C dX6_auction_26 (by rw [c11]; decide) (by rw [c11]; decide) (off := 46) (by rw [c11]; decide) (by decide) ?_
          refine V_aload_n (q := 73) C dX6_auction_72 rfl rfl 0 rfl ?_
          refine GX_0_6 (q := 76) C q_359 dX6_auction_73 rfl ?_
          refine GNX_7_0 (q := 79) C q_311 dX6_auction_76 rfl ?_
          refine V_aload_n (q := 80) C dX6_auction_79 rfl rfl 0 rfl ?_
          refine GX_0_6 (q := 83) C q_359 dX6_auction_80 rfl ?_
          refine GNX_7_5 (q := 86) C q_321 dX6_auction_83 rfl ?_
          obtain ⟨g12, hf⟩ := gd_s hf
          refine RX_27 (z := (σ5 7 5).toNatClampNeg) (q := 87) C rfl (inb_in g12) dX6_auction_86 rfl ?_
          obtain ⟨e1, e2⟩ := pr_s hf
          subst e1; subst e2
          exact V_iret C (Fr _ rfl) (by decide) (by decide) dX6_auction_87
        · replace hf := (ite_s hf).2 c11
          by_cases c13 : a = (2 : Int32)
          · replace hf := (ite_s hf).1 c13
            refine V_tabIn (t := 88) C dX6_auction_26 (by rw [c13]; decide) (by rw [c13]; decide) (off := 62) (by rw [c13]; decide) (by decide) ?_
            refine V_aload_n (q := 89) C dX6_auction_88 rfl rfl 0 rfl ?_
            refine GX_0_6 (q := 92) C q_359 dX6_auction_89 rfl ?_
            refine GNX_7_6 (q := 95) C q_323 dX6_auction_92 rfl ?_
            obtain ⟨e1, e2⟩ := pr_s hf
            subst e1; subst e2
            exact V_iret C (Fr _ rfl) (by decide) (by decide) dX6_auction_95
          · replace hf := (ite_s hf).2 c13
            by_cases c14 : a = (3 : Int32)
            · replace hf := (ite_s hf).1 c14
              refine V_tabIn (t := 96) C dX6_auction_26 (by rw [c14]; decide) (by rw [c14]; decide) (off := 70) (by rw [c14]; decide) (by decide) ?_
              refine V_aload_n (q := 97) C dX6_auction_96 rfl rfl 0 rfl ?_
              refine GX_0_6 (q := 100) C q_359 dX6_auction_97 rfl ?_
              refine GNX_7_7 (q := 103) C q_325 dX6_auction_100 rfl ?_
              obtain ⟨e1, e2⟩ := pr_s hf
              subst e1; subst e2
              exact V_iret C (Fr _ rfl) (by decide) (by decide) dX6_auction_103
            · replace hf := (ite_s hf).2 c14
              by_cases c15 : a = (4 : Int32)
              · replace hf := (ite_s hf).1 c15
                refine V_tabIn (t := 104) C dX6_auction_26 (by rw [c15]; decide) (by rw [c15]; decide) (off := 78) (by rw [c15]; decide) (by decide) ?_
                refine V_aload_n (q := 105) C dX6_auction_104 rfl rfl 0 rfl ?_
                refine GX_0_6 (q := 108) C q_359 dX6_auction_105 rfl ?_
                refine GNX_7_8 (q := 111) C q_327 dX6_auction_108 rfl ?_
                obtain ⟨e1, e2⟩ := pr_s hf
                subst e1; subst e2
                exact V_iret C (Fr _ rfl) (by decide) (by decide) dX6_auction_111
              · replace hf := (ite_s hf).2 c15
                by_cases c16 : a = (5 : Int32)
                · replace hf := (ite_s hf).1 c16
                  refine V_tabIn (t := 112) C dX6_auction_26 (by rw [c16]; decide) (by rw [c16]; decide) (off := 86) (by rw [c16]; decide) (by decide) ?_
                  refine V_aload_n (q := 113) C dX6_auction_112 rfl rfl 0 rfl ?_
                  refine GX_0_6 (q := 116) C q_359 dX6_auction_113 rfl ?_
                  refine GNX_7_1 (q := 119) C q_313 dX6_auction_116 rfl ?_
                  refine V_aload_n (q := 120) C dX6_auction_119 rfl rfl 0 rfl ?_
                  refine GX_0_6 (q := 123) C q_359 dX6_auction_120 rfl ?_
                  refine GNX_7_8 (q := 126) C q_327 dX6_auction_123 rfl ?_
                  obtain ⟨r17, σ18, h19, hf⟩ := bd_s hf
                  refine V_callS (av := [.ref (ad 28), .int (σ5 7 8)]) (st := []) (st1 := [.int r17]) (q := 129) C (conX6_sumOver_28 _ _ _ _ _ _ _ h19) q_1072 q_107 q_1070 q_1071 nmX6_sumOver (by decide) rfl rfl (Nat.le_of_ble_eq_true rfl) dX6_auction_126 rfl rfl ?_
                  obtain ⟨e1, e2⟩ := pr_s hf
                  subst e1; subst e2
                  exact V_iret C (Fr _ rfl) (by decide) (by decide) dX6_auction_129
                · replace hf := (ite_s hf).2 c16
                  refine V_tabOut (t := 130) C dX6_auction_26 (sw_out (h := 5) (by decide) (fun i hi => ?_)) (by decide) ?_
                  · match i, hi with
                    | 0, _ => exact c10
                    | 1, _ => exact c11
                    | 2, _ => exact c13
                    | 3, _ => exact c14
                    | 4, _ => exact c15
                    | 5, _ => exact c16
                    | i + 6, h => exact absurd h (by omega)
                  · refine V_aload_n (q := 131) C dX6_auction_130 rfl rfl 0 rfl ?_
                    refine GX_0_2 (q := 134) C q_355 dX6_auction_131 rfl ?_
                    refine GNX_3_1 (q := 137) C q_164 dX6_auction_134 rfl ?_
                    refine V_aload_n (q := 138) C dX6_auction_137 rfl rfl 0 rfl ?_
                    refine GX_0_6 (q := 141) C q_359 dX6_auction_138 rfl ?_
                    refine GNX_7_8 (q := 144) C q_327 dX6_auction_141 rfl ?_
                    obtain ⟨r20, σ21, h22, hf⟩ := bd_s hf
                    refine V_callS (av := [.ref (ad 12), .int (σ5 7 8)]) (st := []) (st1 := [.int r20]) (q := 147) C (conX6_sumOver_12 _ _ _ _ _ _ _ h22) q_1072 q_107 q_1070 q_1071 nmX6_sumOver (by decide) rfl rfl (Nat.le_of_ble_eq_true rfl) dX6_auction_144 rfl rfl ?_
                    obtain ⟨e1, e2⟩ := pr_s hf
                    subst e1; subst e2
                    exact V_iret C (Fr _ rfl) (by decide) (by decide) dX6_auction_147
    · replace hf := (ite_s hf).2 c3
      refine V_sub (L' := []) [] rfl ?_
      exact hJ10 _ hf
def rmX3_degree : Room := { frames := 1, cells := 0, slots := 0, locals := 20 }
def fX3_degree (a : Int32) (σ : Sg) : Option (Int32 × Sg) := gd (inb a 12) (gd (inb a 12) (some ((pJ6_bitCount_0f7a4 ((σ 15 a.toNatClampNeg) ||| (σ 16 a.toNatClampNeg))), σ)))
set_option maxHeartbeats 4000000 in
theorem conX3_degree (l : Launch) (G : Gx) (ad : Nat → Nat) (a : Int32) (σ : Sg) (r : Int32) (σf : Sg)  (hf : fX3_degree a σ = some (r, σf)) : Con wX l G ad yX3_degree (Cond.code yX3_degree cX3_degree 2 (some .int)) rmX3_degree 0 0 [.ref (ad 3), .int a] σ (some (.int r)) σf := by
  refine Con.start (by decide) (Nat.le_of_ble_eq_true rfl) (fun X Q _ C F => ?_)
  refine V_eq (L' := [(0, .ref (ad 3)), (1, .int a)]) (st' := []) rfl rfl rfl ?_
  unfold fX3_degree at hf
  refine V_aload_n (q := 1) C dX3_degree_0 rfl rfl 0 rfl ?_
  refine GX_3_4 (q := 4) C q_170 dX3_degree_1 rfl ?_
  refine V_iload_n (q := 5) C dX3_degree_4 rfl rfl 1 rfl ?_
  obtain ⟨g1, hf⟩ := gd_s hf
  refine RX_15 (z := a.toNatClampNeg) (q := 6) C rfl (inb_in g1) dX3_degree_5 rfl ?_
  refine V_aload_n (q := 7) C dX3_degree_6 rfl rfl 0 rfl ?_
  refine GX_3_5 (q := 10) C q_174 dX3_degree_7 rfl ?_
  refine V_iload_n (q := 11) C dX3_degree_10 rfl rfl 1 rfl ?_
  obtain ⟨g2, hf⟩ := gd_s hf
  refine RX_16 (z := a.toNatClampNeg) (q := 12) C rfl (inb_in g2) dX3_degree_11 rfl ?_
  refine V_ior (q := 13) C dX3_degree_12 rfl ?_
  refine V_callS (av := [.int ((σ 15 a.toNatClampNeg) ||| (σ 16 a.toNatClampNeg))]) (st := []) (st1 := [.int (pJ6_bitCount_0f7a4 ((σ 15 a.toNatClampNeg) ||| (σ 16 a.toNatClampNeg)))]) (q := 16) C (conJ6_bitCount_0f7a4 _ _ _ _ _ _ rfl) q_727 q_126 q_725 q_726 nmJ6_bitCount_0f7a4 (by decide) rfl rfl (Nat.le_of_ble_eq_true rfl) dX3_degree_13 rfl rfl ?_
  obtain ⟨e1, e2⟩ := pr_s hf
  subst e1; subst e2
  exact V_iret C F (by decide) (by decide) dX3_degree_16
def rmX3_volume : Room := { frames := 2, cells := 0, slots := 0, locals := 41 }
def fX3_volume (a : Int32) (σ : Sg) : Option (UInt32 × Sg) := bd (fX3_degree a σ) (fun (r1 : Int32) (σ2 : Sg) => gd (inb a 12) (gd (n32 (FP.fmul (FP.i2f (r1 + (1 : Int32))) (FP.i2f (σ2 13 a.toNatClampNeg)))) (gd (n32 (FP.fdiv (FP.fmul (FP.i2f (r1 + (1 : Int32))) (FP.i2f (σ2 13 a.toNatClampNeg))) (1092616192 : UInt32))) (some ((FP.fdiv (FP.fmul (FP.i2f (r1 + (1 : Int32))) (FP.i2f (σ2 13 a.toNatClampNeg))) (1092616192 : UInt32)), σ2)))))
set_option maxHeartbeats 4000000 in
theorem conX3_volume (l : Launch) (G : Gx) (ad : Nat → Nat) (a : Int32) (σ : Sg) (r : UInt32) (σf : Sg)  (hf : fX3_volume a σ = some (r, σf)) : Con wX l G ad yX3_volume (Cond.code yX3_volume cX3_volume 2 (some .float)) rmX3_volume 0 0 [.ref (ad 3), .int a] σ (some (.float r)) σf := by
  refine Con.start (by decide) (Nat.le_of_ble_eq_true rfl) (fun X Q _ C F => ?_)
  refine V_eq (L' := [(0, .ref (ad 3)), (1, .int a)]) (st' := []) rfl rfl rfl ?_
  unfold fX3_volume at hf
  refine V_aload_n (q := 1) C dX3_volume_0 rfl rfl 0 rfl ?_
  refine V_iload_n (q := 2) C dX3_volume_1 rfl rfl 1 rfl ?_
  obtain ⟨r1, σ2, h3, hf⟩ := bd_s hf
  refine V_callV (av := [.int a]) (st := []) (st1 := [.int r1]) (q := 5) C 3 (by decide) (eX_3 G ad _) rfl rfl (conX3_degree _ _ _ _ _ _ _ h3) q_724 q_110 q_743 q_723 q_23 nmX3_degree (by decide) rfl rfl (Nat.le_of_ble_eq_true rfl) dX3_volume_2 rfl rfl ?_
  refine V_iconst (v := 1) (q := 6) C dX3_volume_5 rfl ic_1 ?_
  refine V_iadd (q := 7) C dX3_volume_6 rfl ?_
  refine V_i2f (q := 8) C dX3_volume_7 rfl ?_
  refine V_aload_n (q := 9) C dX3_volume_8 rfl rfl 0 rfl ?_
  refine GX_3_2 (q := 12) C q_165 dX3_volume_9 rfl ?_
  refine V_iload_n (q := 13) C dX3_volume_12 rfl rfl 1 rfl ?_
  obtain ⟨g4, hf⟩ := gd_s hf
  refine RX_13 (z := a.toNatClampNeg) (q := 14) C rfl (inb_in g4) dX3_volume_13 rfl ?_
  refine V_i2f (q := 15) C dX3_volume_14 rfl ?_
  obtain ⟨g5, hf⟩ := gd_s hf
  refine V_fmul (q := 16) C dX3_volume_15 rfl (n32_s g5) ?_
  refine V_ldcf (q := 18) C q_744 dX3_volume_16 rfl ?_
  obtain ⟨g6, hf⟩ := gd_s hf
  refine V_fdiv (q := 19) C dX3_volume_18 rfl (n32_s g6) ?_
  obtain ⟨e1, e2⟩ := pr_s hf
  subst e1; subst e2
  exact V_fret C F (by decide) (by decide) dX3_volume_19
def rmX3_priceWith : Room := { frames := 3, cells := 0, slots := 0, locals := 62 }
def fX3_priceWith (a : Int32) (b : Int32) (σ : Sg) : Option (Int32 × Sg) := bd (fX3_volume a σ) (fun (r1 : UInt32) (σ2 : Sg) => gd (n32 (FP.fmul r1 (FP.i2f b))) (some ((FP.f2i (FP.fmul r1 (FP.i2f b))), σ2)))
set_option maxHeartbeats 4000000 in
theorem conX3_priceWith (l : Launch) (G : Gx) (ad : Nat → Nat) (a : Int32) (b : Int32) (σ : Sg) (r : Int32) (σf : Sg)  (hf : fX3_priceWith a b σ = some (r, σf)) : Con wX l G ad yX3_priceWith (Cond.code yX3_priceWith cX3_priceWith 3 (some .int)) rmX3_priceWith 0 0 [.ref (ad 3), .int a, .int b] σ (some (.int r)) σf := by
  refine Con.start (by decide) (Nat.le_of_ble_eq_true rfl) (fun X Q _ C F => ?_)
  refine V_eq (L' := [(0, .ref (ad 3)), (1, .int a), (2, .int b)]) (st' := []) rfl rfl rfl ?_
  unfold fX3_priceWith at hf
  refine V_aload_n (q := 1) C dX3_priceWith_0 rfl rfl 0 rfl ?_
  refine V_iload_n (q := 2) C dX3_priceWith_1 rfl rfl 1 rfl ?_
  obtain ⟨r1, σ2, h3, hf⟩ := bd_s hf
  refine V_callV (av := [.int a]) (st := []) (st1 := [.float r1]) (q := 5) C 3 (by decide) (eX_3 G ad _) rfl rfl (conX3_volume _ _ _ _ _ _ _ h3) q_742 q_110 q_764 q_741 q_24 nmX3_volume (by decide) rfl rfl (Nat.le_of_ble_eq_true rfl) dX3_priceWith_2 rfl rfl ?_
  refine V_iload_n (q := 6) C dX3_priceWith_5 rfl rfl 2 rfl ?_
  refine V_i2f (q := 7) C dX3_priceWith_6 rfl ?_
  obtain ⟨g4, hf⟩ := gd_s hf
  refine V_fmul (q := 8) C dX3_priceWith_7 rfl (n32_s g4) ?_
  refine V_f2i (q := 9) C dX3_priceWith_8 rfl ?_
  obtain ⟨e1, e2⟩ := pr_s hf
  subst e1; subst e2
  exact V_iret C F (by decide) (by decide) dX3_priceWith_9
def rmX0_priceBidders : Room := { frames := 4, cells := 0, slots := 0, locals := 84 }
def fX0_priceBidders_2 : Nat → Int32 → Sg → Option (Unit × Sg)
  | 0, _, _ => none
  | n + 1, x1, σ2 => if (12 : Int32) ≤ x1 then (some ((), σ2)) else (jp (fun (σ4 : Sg) => fX0_priceBidders_2 n (x1 + (1 : Int32)) σ4) (fun (J39 : Sg → Option (Unit × Sg)) => if (pX6_contains (σ2 7 7) x1) = 0 then (J39  σ2) else (gd (inb (σ2 7 5) 101) (bd (fX3_priceWith x1 (σ2 27 ((σ2 7 5).toNatClampNeg)) σ2) (fun (r7 : Int32) (σ8 : Sg) => gd (inb x1 12) (lt' (sup σ8 28 x1.toNatClampNeg r7) (fun (σ11 : Sg) => J39  σ11)))))))
def fX0_priceBidders  (σ : Sg) : Option (Unit × Sg) := fX0_priceBidders_2 FU (0 : Int32) σ
set_option maxHeartbeats 4000000 in
theorem wlX0_priceBidders_2 {X : Cx} {G : Gx} {ad : Nat → Nat} {Q : State → Prop} {σf : Sg} (C : OK wX X G ad RX0 cX0_priceBidders 3 rmX0_priceBidders) (F : FinR wX X G ad Q 0 0 none none σf) : ∀ (n : Nat) (x1 : Int32) (σ2 : Sg), fX0_priceBidders_2 n x1 σ2 = some ((), σf) → V wX X G ad 3 Q 0 0 σ2 2 [(0, .ref (ad 7)), (1, .ref (ad 3)), (2, .int x1)] [] := by
  intro n
  induction n with
  | zero =>
    intro _ _ hf
    exact absurd hf (by simp [fX0_priceBidders_2])
  | succ n ih =>
    intro x1 σ2 hf
    rw [fX0_priceBidders_2] at hf
    refine V_iload_n (q := 3) C dX0_priceBidders_2 rfl rfl 2 rfl ?_
    refine V_bipush (v := 12) (q := 5) C dX0_priceBidders_3 rfl bc_12 ?_
    refine V_icmp_ge (t := 45) (q := 8) C dX0_priceBidders_5 (by decide) rfl (fun c3 => ?_) (fun c3 => ?_)
    · replace hf := (ite_s hf).1 c3
      obtain ⟨-, e2⟩ := pr_s hf
      subst e2
      exact V_vret C F (by decide) (by decide) dX0_priceBidders_45
    · replace hf := (ite_s hf).2 c3
      refine V_aload_n (q := 9) C dX0_priceBidders_8 rfl rfl 0 rfl ?_
      refine GX_7_7 (q := 12) C q_324 dX0_priceBidders_9 rfl ?_
      refine V_iload_n (q := 13) C dX0_priceBidders_12 rfl rfl 2 rfl ?_
      refine V_callSN (av := [.int (σ2 7 7), .int x1]) (st := []) (st1 := [.int (pX6_contains (σ2 7 7) x1)]) (q := 16) C (conX6_contains _ _ _ _ _ _ _ rfl) q_612 q_107 q_943 q_611 nmX6_contains (by decide) rfl rfl (Nat.le_of_ble_eq_true rfl) dX0_priceBidders_13 rfl rfl ?_
      obtain ⟨J39, eJ39, hf⟩ := jp_s hf
      have hJ39 : ∀ (σ4 : Sg), J39 σ4 = some ((), σf) → V wX X G ad 3 Q 0 0 σ4 39 [(0, .ref (ad 7)), (1, .ref (ad 3)), (2, .int x1)] [] := by
        intro σ4 hf
        subst eJ39
        refine V_iinc (L' := [(2, .int (x1 + (1 : Int32))), (0, .ref (ad 7)), (1, .ref (ad 3))]) (q := 42) C dX0_priceBidders_39 rfl 2 rfl (congrArg (fun y => x1 + y) ic_1) (by decide) rfl ?_
        refine V_goto (t := 2) C dX0_priceBidders_42 (by decide) ?_
        refine V_sub (L' := [(0, .ref (ad 7)), (1, .ref (ad 3)), (2, .int (x1 + (1 : Int32)))]) [1, 2, 0] rfl ?_
        exact ih _ _ hf
      refine V_if_eq (t := 39) (q := 19) C dX0_priceBidders_16 (by decide) rfl (fun c5 => ?_) (fun c5 => ?_)
      · replace hf := (ite_s hf).1 c5
        exact hJ39 _ hf
      · replace hf := (ite_s hf).2 c5
        refine V_aload_n (q := 20) C dX0_priceBidders_19 rfl rfl 0 rfl ?_
        refine GX_7_1 (q := 23) C q_312 dX0_priceBidders_20 rfl ?_
        refine V_iload_n (q := 24) C dX0_priceBidders_23 rfl rfl 2 rfl ?_
        refine V_aload_n (q := 25) C dX0_priceBidders_24 rfl rfl 1 rfl ?_
        refine V_iload_n (q := 26) C dX0_priceBidders_25 rfl rfl 2 rfl ?_
        refine V_aload_n (q := 27) C dX0_priceBidders_26 rfl rfl 0 rfl ?_
        refine GX_7_0 (q := 30) C q_310 dX0_priceBidders_27 rfl ?_
        refine V_aload_n (q := 31) C dX0_priceBidders_30 rfl rfl 0 rfl ?_
        refine GX_7_5 (q := 34) C q_320 dX0_priceBidders_31 rfl ?_
        obtain ⟨g6, hf⟩ := gd_s hf
        refine RX_27 (z := (σ2 7 5).toNatClampNeg) (q := 35) C rfl (inb_in g6) dX0_priceBidders_34 rfl ?_
        obtain ⟨r7, σ8, h9, hf⟩ := bd_s hf
        refine V_callVN (av := [.int x1, .int (σ2 27 ((σ2 7 5).toNatClampNeg))]) (st := [.int x1, .ref (ad 28)]) (st1 := [.int r7, .int x1, .ref (ad 28)]) (q := 38) C 3 (by decide) (eX_3 G ad _) rfl rfl (conX3_priceWith _ _ _ _ _ _ _ _ h9) q_763 q_110 q_944 q_762 q_25 nmX3_priceWith (by decide) rfl rfl (Nat.le_of_ble_eq_true rfl) dX0_priceBidders_35 rfl rfl ?_
        obtain ⟨g10, hf⟩ := gd_s hf
        refine SX_28 (z := x1.toNatClampNeg) (q := 39) C rfl (inb_in g10) dX0_priceBidders_38 rfl ?_
        refine V_lets hf (fun σ11 hf => ?_)
        exact hJ39 _ hf
set_option maxHeartbeats 4000000 in
theorem conX0_priceBidders (l : Launch) (G : Gx) (ad : Nat → Nat)  (σ : Sg) (σf : Sg)  (hf : fX0_priceBidders  σ = some ((), σf)) : Con wX l G ad yX0_priceBidders (Cond.code yX0_priceBidders cX0_priceBidders 3 none) rmX0_priceBidders 0 0 [.ref (ad 7), .ref (ad 3)] σ none σf := by
  refine Con.start (by decide) (Nat.le_of_ble_eq_true rfl) (fun X Q _ C F => ?_)
  refine V_eq (L' := [(0, .ref (ad 7)), (1, .ref (ad 3))]) (st' := []) rfl rfl rfl ?_
  unfold fX0_priceBidders at hf
  refine V_iconst (v := 0) (q := 1) C dX0_priceBidders_0 rfl ic_0 ?_
  refine V_istore_n (L' := [(2, .int (0 : Int32)), (0, .ref (ad 7)), (1, .ref (ad 3))]) (q := 2) C dX0_priceBidders_1 rfl rfl (by decide) rfl ?_
  refine V_sub (L' := [(0, .ref (ad 7)), (1, .ref (ad 3)), (2, .int (0 : Int32))]) [1, 2, 0] rfl ?_
  refine wlX0_priceBidders_2 C F FU _ _ hf
def rmX0_returnTo : Room := { frames := 5, cells := 0, slots := 0, locals := 106 }
def fX0_returnTo_0 (a : Int32) (K : Sg → Option (Unit × Sg)) : Nat → Sg → Option (Unit × Sg)
  | 0, _ => none
  | n + 1, σ1 => if (σ1 7 9) ≤ 0 then (K σ1) else (gd (inb ((σ1 7 9) - (1 : Int32)) 12) (if ((σ1 30 (((σ1 7 9) - (1 : Int32)).toNatClampNeg)) / (1000 : Int32)) ≤ a then (K σ1) else (lt' (sup σ1 7 9 ((σ1 7 9) - (1 : Int32))) (fun (σ5 : Sg) => gd (inb (σ5 7 9) 12) (lt' ((((σ5 30 ((σ5 7 9).toNatClampNeg)) - (σ5 30 ((σ5 7 9).toNatClampNeg)) / (1000 : Int32) * (1000 : Int32)) / (10 : Int32))) (fun (x7 : Int32) => lt' (sup σ5 7 6 ((σ5 7 6) &&& (((1 : Int32) <<< (x7 &&& 31)) ^^^ (-1 : Int32)))) (fun (σ8 : Sg) => lt' (sup σ8 7 8 ((σ8 7 8) &&& (((1 : Int32) <<< (x7 &&& 31)) ^^^ (-1 : Int32)))) (fun (σ9 : Sg) => lt' (sup σ9 7 7 ((σ9 7 7) ||| ((1 : Int32) <<< (x7 &&& 31)))) (fun (σ10 : Sg) => fX0_returnTo_0 a K n σ10)))))))))
def fX0_returnTo (a : Int32) (σ : Sg) : Option (Unit × Sg) := fX0_returnTo_0 a (fun (σ11 : Sg) => lt' (sup σ11 7 5 a) (fun (σ12 : Sg) => bd (fX0_priceBidders  σ12) (fun (_ : Unit) (σ13 : Sg) => some ((), σ13)))) FU σ
set_option maxHeartbeats 4000000 in
theorem wlX0_returnTo_0 {X : Cx} {G : Gx} {ad : Nat → Nat} {Q : State → Prop} {σf : Sg} (C : OK wX X G ad RX0 cX0_returnTo 4 rmX0_returnTo) (F : FinR wX X G ad Q 0 0 none none σf) (a : Int32) (K : Sg → Option (Unit × Sg)) (hK : ∀ (σk : Sg), K σk = some ((), σf) → V wX X G ad 4 Q 0 0 σk 96 [(0, .ref (ad 7)), (1, .int a), (2, .ref (ad 3))] []) : ∀ (n : Nat) (σ1 : Sg), fX0_returnTo_0 a K n σ1 = some ((), σf) → V wX X G ad 4 Q 0 0 σ1 0 [(0, .ref (ad 7)), (1, .int a), (2, .ref (ad 3))] [] := by
  intro n
  induction n with
  | zero =>
    intro _ hf
    exact absurd hf (by simp [fX0_returnTo_0])
  | succ n ih =>
    intro σ1 hf
    rw [fX0_returnTo_0] at hf
    refine V_aload_n (q := 1) C dX0_returnTo_0 rfl rfl 0 rfl ?_
    refine GX_7_9 (q := 4) C q_328 dX0_returnTo_1 rfl ?_
    refine V_if_le (t := 96) (q := 7) C dX0_returnTo_4 (by decide) rfl (fun c2 => ?_) (fun c2 => ?_)
    · replace hf := (ite_s hf).1 c2
      exact hK _ hf
    · replace hf := (ite_s hf).2 c2
      refine V_aload_n (q := 8) C dX0_returnTo_7 rfl rfl 0 rfl ?_
      refine GX_7_3 (q := 11) C q_316 dX0_returnTo_8 rfl ?_
      refine V_aload_n (q := 12) C dX0_returnTo_11 rfl rfl 0 rfl ?_
      refine GX_7_9 (q := 15) C q_328 dX0_returnTo_12 rfl ?_
      refine V_iconst (v := 1) (q := 16) C dX0_returnTo_15 rfl ic_1 ?_
      refine V_isub (q := 17) C dX0_returnTo_16 rfl ?_
      obtain ⟨g3, hf⟩ := gd_s hf
      refine RX_30 (z := ((σ1 7 9) - (1 : Int32)).toNatClampNeg) (q := 18) C rfl (inb_in g3) dX0_returnTo_17 rfl ?_
      refine V_sipush (v := 1000) (q := 21) C dX0_returnTo_18 rfl sc_1000 ?_
      refine V_idiv (q := 22) C dX0_returnTo_21 rfl (by decide) ?_
      refine V_iload_n (q := 23) C dX0_returnTo_22 rfl rfl 1 rfl ?_
      refine V_icmp_le (t := 96) (q := 26) C dX0_returnTo_23 (by decide) rfl (fun c4 => ?_) (fun c4 => ?_)
      · replace hf := (ite_s hf).1 c4
        exact hK _ hf
      · replace hf := (ite_s hf).2 c4
        refine V_aload_n (q := 27) C dX0_returnTo_26 rfl rfl 0 rfl ?_
        refine V_dup (q := 28) C dX0_returnTo_27 rfl rfl ?_
        refine GX_7_9 (q := 31) C q_328 dX0_returnTo_28 rfl ?_
        refine V_iconst (v := 1) (q := 32) C dX0_returnTo_31 rfl ic_1 ?_
        refine V_isub (q := 33) C dX0_returnTo_32 rfl ?_
        refine PX_7_9 (q := 36) C q_328 dX0_returnTo_33 rfl ?_
        refine V_lets hf (fun σ5 hf => ?_)
        refine V_aload_n (q := 37) C dX0_returnTo_36 rfl rfl 0 rfl ?_
        refine GX_7_3 (q := 40) C q_316 dX0_returnTo_37 rfl ?_
        refine V_aload_n (q := 41) C dX0_returnTo_40 rfl rfl 0 rfl ?_
        refine GX_7_9 (q := 44) C q_328 dX0_returnTo_41 rfl ?_
        obtain ⟨g6, hf⟩ := gd_s hf
        refine RX_30 (z := (σ5 7 9).toNatClampNeg) (q := 45) C rfl (inb_in g6) dX0_returnTo_44 rfl ?_
        refine V_sipush (v := 1000) (q := 48) C dX0_returnTo_45 rfl sc_1000 ?_
        refine V_irem (q := 49) C dX0_returnTo_48 rfl (by decide) ?_
        refine V_bipush (v := 10) (q := 51) C dX0_returnTo_49 rfl bc_10 ?_
        refine V_idiv (q := 52) C dX0_returnTo_51 rfl (by decide) ?_
        refine V_let (cv := Value.int) hf (fun x7 hf => ?_)
        refine V_istore_n (L' := [(3, .int x7), (0, .ref (ad 7)), (1, .int a), (2, .ref (ad 3))]) (q := 53) C dX0_returnTo_52 rfl rfl (by decide) rfl ?_
        refine V_aload_n (q := 54) C dX0_returnTo_53 rfl rfl 1 rfl ?_
        refine V_dup (q := 55) C dX0_returnTo_54 rfl rfl ?_
        refine GX_7_6 (q := 58) C q_322 dX0_returnTo_55 rfl ?_
        refine V_iconst (v := 1) (q := 59) C dX0_returnTo_58 rfl ic_1 ?_
        refine V_iload_n (q := 60) C dX0_returnTo_59 rfl rfl 0 rfl ?_
        refine V_ishl (q := 61) C dX0_returnTo_60 rfl ?_
        refine V_iconst (v := (-1)) (q := 62) C dX0_returnTo_61 rfl ic_m1 ?_
        refine V_ixor (q := 63) C dX0_returnTo_62 rfl ?_
        refine V_iand (q := 64) C dX0_returnTo_63 rfl ?_
        refine PX_7_6 (q := 67) C q_322 dX0_returnTo_64 rfl ?_
        refine V_lets hf (fun σ8 hf => ?_)
        refine V_aload_n (q := 68) C dX0_returnTo_67 rfl rfl 1 rfl ?_
        refine V_dup (q := 69) C dX0_returnTo_68 rfl rfl ?_
        refine GX_7_8 (q := 72) C q_326 dX0_returnTo_69 rfl ?_
        refine V_iconst (v := 1) (q := 73) C dX0_returnTo_72 rfl ic_1 ?_
        refine V_iload_n (q := 74) C dX0_returnTo_73 rfl rfl 0 rfl ?_
        refine V_ishl (q := 75) C dX0_returnTo_74 rfl ?_
        refine V_iconst (v := (-1)) (q := 76) C dX0_returnTo_75 rfl ic_m1 ?_
        refine V_ixor (q := 77) C dX0_returnTo_76 rfl ?_
        refine V_iand (q := 78) C dX0_returnTo_77 rfl ?_
        refine PX_7_8 (q := 81) C q_326 dX0_returnTo_78 rfl ?_
        refine V_lets hf (fun σ9 hf => ?_)
        refine V_aload_n (q := 82) C dX0_returnTo_81 rfl rfl 1 rfl ?_
        refine V_dup (q := 83) C dX0_returnTo_82 rfl rfl ?_
        refine GX_7_7 (q := 86) C q_324 dX0_returnTo_83 rfl ?_
        refine V_iconst (v := 1) (q := 87) C dX0_returnTo_86 rfl ic_1 ?_
        refine V_iload_n (q := 88) C dX0_returnTo_87 rfl rfl 0 rfl ?_
        refine V_ishl (q := 89) C dX0_returnTo_88 rfl ?_
        refine V_ior (q := 90) C dX0_returnTo_89 rfl ?_
        refine PX_7_7 (q := 93) C q_324 dX0_returnTo_90 rfl ?_
        refine V_lets hf (fun σ10 hf => ?_)
        refine V_goto (t := 0) C dX0_returnTo_93 (by decide) ?_
        refine V_sub (L' := [(0, .ref (ad 7)), (1, .int a), (2, .ref (ad 3))]) [1, 2, 3] rfl ?_
        exact ih _ hf
set_option maxHeartbeats 4000000 in
theorem conX0_returnTo (l : Launch) (G : Gx) (ad : Nat → Nat) (a : Int32) (σ : Sg) (σf : Sg)  (hf : fX0_returnTo a σ = some ((), σf)) : Con wX l G ad yX0_returnTo (Cond.code yX0_returnTo cX0_returnTo 4 none) rmX0_returnTo 0 0 [.ref (ad 7), .int a, .ref (ad 3)] σ none σf := by
  refine Con.start (by decide) (Nat.le_of_ble_eq_true rfl) (fun X Q _ C F => ?_)
  refine V_eq (L' := [(0, .ref (ad 7)), (1, .int a), (2, .ref (ad 3))]) (st' := []) rfl rfl rfl ?_
  unfold fX0_returnTo at hf
  refine wlX0_returnTo_0 C F a _ (fun σ11 hf => ?_) FU _ hf
  refine V_aload_n (q := 97) C dX0_returnTo_96 rfl rfl 0 rfl ?_
  refine V_iload_n (q := 98) C dX0_returnTo_97 rfl rfl 1 rfl ?_
  refine PX_7_5 (q := 101) C q_320 dX0_returnTo_98 rfl ?_
  refine V_lets hf (fun σ12 hf => ?_)
  refine V_aload_n (q := 102) C dX0_returnTo_101 rfl rfl 0 rfl ?_
  refine V_aload_n (q := 103) C dX0_returnTo_102 rfl rfl 2 rfl ?_
  obtain ⟨_u, σ13, h14, hf⟩ := bd_s hf
  refine V_callV (av := [.ref (ad 3)]) (st := []) (st1 := []) (q := 106) C 7 (by decide) (eX_7 G ad _) rfl rfl (conX0_priceBidders _ _ _  _ _ h14) q_942 q_113 q_939 q_941 q_47 nmX0_priceBidders (by decide) rfl rfl (Nat.le_of_ble_eq_true rfl) dX0_returnTo_103 rfl rfl ?_
  obtain ⟨-, e2⟩ := pr_s hf
  subst e2
  exact V_vret C F (by decide) (by decide) dX0_returnTo_106
def rmX6_back : Room := { frames := 7, cells := 2, slots := 12, locals := 129 }
def fX6_back (a : Int32) (σ : Sg) : Option ((String ⊕ Int32) × Sg) := bx (fX6_requireAuction  σ) (fun E σE => some (.inl E, σE)) (fun (_ : Unit) (σ2 : Sg) => jp (fun (σ7 : Sg) => some (.inl "java/lang/IndexOutOfBoundsException", σ7)) (fun (J19 : Sg → Option ((String ⊕ Int32) × Sg)) => if a < 0 then (J19  σ2) else (if a ≤ (σ2 7 5) then (bd (fX0_returnTo a σ2) (fun (_ : Unit) (σ10 : Sg) => some (.inr (pJ6_bitCount_0f7a4 (σ10 7 7)), σ10))) else (J19  σ2))))
set_option maxHeartbeats 4000000 in
theorem conX6_back (l : Launch) (G : Gx) (ad : Nat → Nat) (a : Int32) (σ : Sg) (r : String ⊕ Int32) (σf : Sg) (hf : fX6_back a σ = some (r, σf)) : ConX wX l G ad yX6_back (Cond.code yX6_back cX6_back 2 (some .int)) rmX6_back 2 12 [.ref (ad 0), .int a] σ (rI r) σf := by
  refine ConX.start (by decide) (Nat.le_of_ble_eq_true rfl) (fun X Q _ C Fr Fx => ?_)
  refine V_eq (L' := [(0, .ref (ad 0)), (1, .int a)]) (st' := []) rfl rfl rfl ?_
  unfold fX6_back at hf
  refine V_aload_n (q := 1) C dX6_back_0 rfl rfl 0 rfl ?_
  obtain ⟨z4, σ2, h3, hE, hA⟩ := bx_s hf
  refine V_callVX (av := []) (st := []) (q := 4) (mc := 2) (ms := 12) C 0 (by decide) (eX_0 G ad _) rfl rfl (conX6_requireAuction _ _ _  _ _ _ h3) q_989 q_107 q_986 q_988 q_56 nmX6_requireAuction (by decide) rfl rfl (Nat.le_of_ble_eq_true rfl) dX6_back_1 rfl (by decide) (by decide) (fun E hz => by
    obtain rfl := rU_l hz
    obtain ⟨e1, e2⟩ := pr_s (hE _ rfl)
    subst e1; subst e2
    exact Fx _ rfl) (fun w5 h6 => ?_)
  obtain ⟨r1, rfl, rfl⟩ := rU_r h6
  replace hf := hA _ rfl
  refine V_eq (L' := [(0, .ref (ad 0)), (1, .int a)]) (st' := []) rfl rfl rfl ?_
  refine V_wide (k2 := 1) (n2 := 6) (by decide) (by decide) ?_
  refine V_iload_n (q := 5) C dX6_back_4 rfl rfl 1 rfl ?_
  obtain ⟨J19, eJ19, hf⟩ := jp_s hf
  have hJ19 : ∀ (σ7 : Sg), J19 σ7 = some (r, σf) → V wX X G ad 2 Q 1 6 σ7 19 [] [] := by
    intro σ7 hf
    subst eJ19
    obtain ⟨e1, e2⟩ := pr_s hf
    subst e1; subst e2
    exact V_throwSW (text := "no such round") C rfl (Fx _ rfl) rfl q_597 q_121 (by decide) xa_168 xg_168 dX6_back_19 dX6_back_22 dX6_back_23 dX6_back_26 dX6_back_29 (by decide) (Nat.le_of_ble_eq_true rfl) (by decide) (by decide) (by decide) (by decide)
  refine V_if_lt (t := 19) (q := 8) C dX6_back_5 (by decide) rfl (fun c8 => ?_) (fun c8 => ?_)
  · replace hf := (ite_s hf).1 c8
    refine V_sub (L' := []) [] rfl ?_
    exact hJ19 _ hf
  · replace hf := (ite_s hf).2 c8
    refine V_iload_n (q := 9) C dX6_back_8 rfl rfl 1 rfl ?_
    refine V_aload_n (q := 10) C dX6_back_9 rfl rfl 0 rfl ?_
    refine GX_0_6 (q := 13) C q_359 dX6_back_10 rfl ?_
    refine GNX_7_5 (q := 16) C q_321 dX6_back_13 rfl ?_
    refine V_icmp_le (t := 30) (q := 19) C dX6_back_16 (by decide) rfl (fun c9 => ?_) (fun c9 => ?_)
    · replace hf := (ite_s hf).1 c9
      refine V_aload_n (q := 31) C dX6_back_30 rfl rfl 0 rfl ?_
      refine GX_0_6 (q := 34) C q_359 dX6_back_31 rfl ?_
      refine V_iload_n (q := 35) C dX6_back_34 rfl rfl 1 rfl ?_
      refine V_aload_n (q := 36) C dX6_back_35 rfl rfl 0 rfl ?_
      refine GX_0_2 (q := 39) C q_355 dX6_back_36 rfl ?_
      obtain ⟨_u, σ10, h11, hf⟩ := bd_s hf
      refine V_callVN (av := [.int a, .ref (ad 3)]) (st := []) (st1 := []) (q := 42) C 7 (by decide) (eX_7 G ad _) rfl rfl (conX0_returnTo _ _ _ _ _ _ h11) q_1019 q_113 q_1016 q_1018 q_59 nmX0_returnTo (by decide) rfl rfl (Nat.le_of_ble_eq_true rfl) dX6_back_39 rfl rfl ?_
      refine V_aload_n (q := 43) C dX6_back_42 rfl rfl 0 rfl ?_
      refine GX_0_6 (q := 46) C q_359 dX6_back_43 rfl ?_
      refine GNX_7_7 (q := 49) C q_325 dX6_back_46 rfl ?_
      refine V_callS (av := [.int (σ10 7 7)]) (st := []) (st1 := [.int (pJ6_bitCount_0f7a4 (σ10 7 7))]) (q := 52) C (conJ6_bitCount_0f7a4 _ _ _ _ _ _ rfl) q_727 q_126 q_866 q_726 nmJ6_bitCount_0f7a4 (by decide) rfl rfl (Nat.le_of_ble_eq_true rfl) dX6_back_49 rfl rfl ?_
      obtain ⟨e1, e2⟩ := pr_s hf
      subst e1; subst e2
      exact V_iret C (Fr _ rfl) (by decide) (by decide) dX6_back_52
    · replace hf := (ite_s hf).2 c9
      refine V_sub (L' := []) [] rfl ?_
      exact hJ19 _ hf
def rmX3_stayers : Room := { frames := 1, cells := 0, slots := 0, locals := 20 }
def fX3_stayers  (σ : Sg) : Option (Int32 × Sg) := bd (fX3_everyone  σ) (fun (r1 : Int32) (σ2 : Sg) => some ((r1 &&& ((σ2 3 7) ^^^ (-1 : Int32))), σ2))
set_option maxHeartbeats 4000000 in
theorem conX3_stayers (l : Launch) (G : Gx) (ad : Nat → Nat)  (σ : Sg) (r : Int32) (σf : Sg)  (hf : fX3_stayers  σ = some (r, σf)) : Con wX l G ad yX3_stayers (Cond.code yX3_stayers cX3_stayers 1 (some .int)) rmX3_stayers 0 0 [.ref (ad 3)] σ (some (.int r)) σf := by
  refine Con.start (by decide) (Nat.le_of_ble_eq_true rfl) (fun X Q _ C F => ?_)
  refine V_eq (L' := [(0, .ref (ad 3))]) (st' := []) rfl rfl rfl ?_
  unfold fX3_stayers at hf
  refine V_aload_n (q := 1) C dX3_stayers_0 rfl rfl 0 rfl ?_
  obtain ⟨r1, σ2, h3, hf⟩ := bd_s hf
  refine V_callV (av := []) (st := []) (st1 := [.int r1]) (q := 4) C 3 (by decide) (eX_3 G ad _) rfl rfl (conX3_everyone _ _ _  _ _ _ h3) q_561 q_110 q_558 q_560 q_9 nmX3_everyone (by decide) rfl rfl (Nat.le_of_ble_eq_true rfl) dX3_stayers_1 rfl rfl ?_
  refine V_aload_n (q := 5) C dX3_stayers_4 rfl rfl 0 rfl ?_
  refine GX_3_7 (q := 8) C q_183 dX3_stayers_5 rfl ?_
  refine V_iconst (v := (-1)) (q := 9) C dX3_stayers_8 rfl ic_m1 ?_
  refine V_ixor (q := 10) C dX3_stayers_9 rfl ?_
  refine V_iand (q := 11) C dX3_stayers_10 rfl ?_
  obtain ⟨e1, e2⟩ := pr_s hf
  subst e1; subst e2
  exact V_iret C F (by decide) (by decide) dX3_stayers_11
def rmX1_extend (m : Nat) : Room := { frames := 19 + m, cells := 0, slots := 0, locals := 564 + 27 * m }
def fX1_extendB (self : Int32 → Int32 → Int32 → Int32 → Sg → Option (Unit × Sg)) (a : Int32) (b : Int32) (c : Int32) (d : Int32) (σ : Sg) : Option (Unit × Sg) := if (σ 1 3) ≤ (c + d) then (jp (fun (σ2 : Sg) => lt' (sup σ2 1 2 b) (fun (σ3 : Sg) => lt' (sup σ3 1 3 c) (fun (σ4 : Sg) => some ((), σ4)))) (fun (J22 : Sg → Option (Unit × Sg)) => if a < 0 then (J22  σ) else (if a < (12 : Int32) then (lt' ((pX6_contains (σ 3 7) a)) (fun (x7 : Int32) => jp (fun (v8 : Int32) (σ9 : Sg) => lt' ((b ||| ((1 : Int32) <<< (a &&& 31)))) (fun (x10 : Int32) => jp (fun (σ11 : Sg) => bd (self (a - (1 : Int32)) b c (d - v8) σ11) (fun (_ : Unit) (σ12 : Sg) => some ((), σ12))) (fun (J108 : Sg → Option (Unit × Sg)) => if v8 ≤ 0 then (J108  σ9) else (bd (fX4_fits x10 σ9) (fun (r15 : Int32) (σ16 : Sg) => if r15 = 0 then (J108  σ16) else (bd (self (a - (1 : Int32)) x10 (c + v8) (d - v8) σ16) (fun (_ : Unit) (σ19 : Sg) => J108  σ19))))))) (fun (J64 : Int32 → Sg → Option (Unit × Sg)) => if x7 = 0 then (J64 (0 : Int32) σ) else (gd (inb a 12) (J64 (σ 12 a.toNatClampNeg) σ))))) else (J22  σ)))) else (some ((), σ))
def fX1_extend : Nat → Int32 → Int32 → Int32 → Int32 → Sg → Option (Unit × Sg)
  | 0, _, _, _, _, _ => none
  | m + 1, a, b, c, d, σ => fX1_extendB (fun a b c d σ => fX1_extend m a b c d σ) a b c d σ
set_option maxHeartbeats 4000000 in
theorem conX1_extend (l : Launch) (G : Gx) (ad : Nat → Nat) : ∀ (m : Nat) (a : Int32) (b : Int32) (c : Int32) (d : Int32) (σ : Sg) (σf : Sg), fX1_extend m a b c d σ = some ((), σf) → Con wX l G ad yX1_extend (Cond.code yX1_extend cX1_extend 8 none) (rmX1_extend m) 0 0 [.ref (ad 1), .int a, .int b, .int c, .int d] σ none σf := by
  intro m
  induction m with
  | zero =>
    intro a b c d σ σf hf
    exact absurd hf (by simp [fX1_extend])
  | succ m ihm =>
    intro a b c d σ σf hf
    rw [fX1_extend] at hf
    refine Con.start (by decide) (Nat.le_of_ble_eq_true rfl) (fun X Q hX C F => ?_)
    refine V_eq (L' := [(0, .ref (ad 1)), (1, .int a), (2, .int b), (3, .int c), (4, .int d)]) (st' := []) rfl rfl rfl ?_
    have hself : ∀ (a : Int32) (b : Int32) (c : Int32) (d : Int32) (σ : Sg) (σf : Sg), fX1_extend m a b c d σ = some ((), σf) → Con wX (x_l X) G ad yX1_extend (Cond.code yX1_extend cX1_extend 8 none) (rmX1_extend m) 0 0 [.ref (ad 1), .int a, .int b, .int c, .int d] σ none σf := by
      rw [hX]
      exact ihm
    unfold fX1_extendB at hf
    refine V_iload_n (q := 1) C dX1_extend_0 rfl rfl 3 rfl ?_
    refine V_iload (q := 3) C dX1_extend_1 rfl 4 rfl ?_
    refine V_iadd (q := 4) C dX1_extend_3 rfl ?_
    refine V_aload_n (q := 5) C dX1_extend_4 rfl rfl 0 rfl ?_
    refine GX_1_3 (q := 8) C q_246 dX1_extend_5 rfl ?_
    refine V_icmp_ge (t := 12) (q := 11) C dX1_extend_8 (by decide) rfl (fun c1 => ?_) (fun c1 => ?_)
    · replace hf := (ite_s hf).1 c1
      refine V_iload_n (q := 13) C dX1_extend_12 rfl rfl 1 rfl ?_
      obtain ⟨J22, eJ22, hf⟩ := jp_s hf
      have hJ22 : ∀ (σ2 : Sg), J22 σ2 = some ((), σf) → V wX X G ad 8 Q 0 0 σ2 22 [(0, .ref (ad 1)), (2, .int b), (3, .int c)] [] := by
        intro σ2 hf
        subst eJ22
        refine V_aload_n (q := 23) C dX1_extend_22 rfl rfl 0 rfl ?_
        refine V_iload_n (q := 24) C dX1_extend_23 rfl rfl 1 rfl ?_
        refine PX_1_2 (q := 27) C q_245 dX1_extend_24 rfl ?_
        refine V_lets hf (fun σ3 hf => ?_)
        refine V_aload_n (q := 28) C dX1_extend_27 rfl rfl 0 rfl ?_
        refine V_iload_n (q := 29) C dX1_extend_28 rfl rfl 2 rfl ?_
        refine PX_1_3 (q := 32) C q_246 dX1_extend_29 rfl ?_
        refine V_lets hf (fun σ4 hf => ?_)
        obtain ⟨-, e2⟩ := pr_s hf
        subst e2
        exact V_vret C F (by decide) (by decide) dX1_extend_32
      refine V_if_lt (t := 22) (q := 16) C dX1_extend_13 (by decide) rfl (fun c5 => ?_) (fun c5 => ?_)
      · replace hf := (ite_s hf).1 c5
        refine V_sub (L' := [(0, .ref (ad 1)), (2, .int b), (3, .int c)]) [0, 2, 3] rfl ?_
        exact hJ22 _ hf
      · replace hf := (ite_s hf).2 c5
        refine V_iload_n (q := 17) C dX1_extend_16 rfl rfl 1 rfl ?_
        refine V_bipush (v := 12) (q := 19) C dX1_extend_17 rfl bc_12 ?_
        refine V_icmp_lt (t := 33) (q := 22) C dX1_extend_19 (by decide) rfl (fun c6 => ?_) (fun c6 => ?_)
        · replace hf := (ite_s hf).1 c6
          refine V_aload_n (q := 34) C dX1_extend_33 rfl rfl 0 rfl ?_
          refine GX_1_1 (q := 37) C q_244 dX1_extend_34 rfl ?_
          refine GNX_3_7 (q := 40) C q_185 dX1_extend_37 rfl ?_
          refine V_iload_n (q := 41) C dX1_extend_40 rfl rfl 1 rfl ?_
          refine V_callSN (av := [.int (σ 3 7), .int a]) (st := []) (st1 := [.int (pX6_contains (σ 3 7) a)]) (q := 44) C (conX6_contains _ _ _ _ _ _ _ rfl) q_612 q_107 q_1105 q_611 nmX6_contains (rmk (by simp only [rmX1_extend, rmX6_contains]; try omega) (by simp only [rmX1_extend, rmX6_contains]; try omega) (by simp only [rmX1_extend, rmX6_contains]; try omega) (by simp only [rmX1_extend, rmX6_contains]; try omega) (by simp only [rmX1_extend, rmX6_contains]; try omega) (by simp only [rmX1_extend, rmX6_contains]; try omega)) rfl rfl (Nat.le_of_ble_eq_true rfl) dX1_extend_41 rfl rfl ?_
          refine V_let (cv := Value.int) hf (fun x7 hf => ?_)
          refine V_istore (L' := [(5, .int x7), (0, .ref (ad 1)), (1, .int a), (2, .int b), (3, .int c), (4, .int d)]) (q := 46) C dX1_extend_44 rfl (by decide) rfl ?_
          refine V_iload (q := 48) C dX1_extend_46 rfl 0 rfl ?_
          obtain ⟨J64, eJ64, hf⟩ := jp_s hf
          have hJ64 : ∀ (v8 : Int32) (σ9 : Sg), J64 v8 σ9 = some ((), σf) → V wX X G ad 8 Q 0 0 σ9 64 [(0, .ref (ad 1)), (1, .int a), (2, .int b), (3, .int c), (4, .int d)] [.int v8] := by
            intro v8 σ9 hf
            subst eJ64
            refine V_istore (L' := [(6, .int v8), (0, .ref (ad 1)), (1, .int a), (2, .int b), (3, .int c), (4, .int d)]) (q := 66) C dX1_extend_64 rfl (by decide) rfl ?_
            refine V_iload_n (q := 67) C dX1_extend_66 rfl rfl 3 rfl ?_
            refine V_iconst (v := 1) (q := 68) C dX1_extend_67 rfl ic_1 ?_
            refine V_iload_n (q := 69) C dX1_extend_68 rfl rfl 2 rfl ?_
            refine V_ishl (q := 70) C dX1_extend_69 rfl ?_
            refine V_ior (q := 71) C dX1_extend_70 rfl ?_
            refine V_let (cv := Value.int) hf (fun x10 hf => ?_)
            refine V_istore (L' := [(7, .int x10), (6, .int v8), (0, .ref (ad 1)), (1, .int a), (2, .int b), (3, .int c), (4, .int d)]) (q := 73) C dX1_extend_71 rfl (by decide) rfl ?_
            refine V_iload (q := 75) C dX1_extend_73 rfl 1 rfl ?_
            obtain ⟨J108, eJ108, hf⟩ := jp_s hf
            have hJ108 : ∀ (σ11 : Sg), J108 σ11 = some ((), σf) → V wX X G ad 8 Q 0 0 σ11 108 [(0, .ref (ad 1)), (1, .int a), (2, .int b), (3, .int c), (4, .int d), (6, .int v8)] [] := by
              intro σ11 hf
              subst eJ108
              refine V_aload_n (q := 109) C dX1_extend_108 rfl rfl 0 rfl ?_
              refine V_iload_n (q := 110) C dX1_extend_109 rfl rfl 1 rfl ?_
              refine V_iconst (v := 1) (q := 111) C dX1_extend_110 rfl ic_1 ?_
              refine V_isub (q := 112) C dX1_extend_111 rfl ?_
              refine V_iload_n (q := 113) C dX1_extend_112 rfl rfl 2 rfl ?_
              refine V_iload_n (q := 114) C dX1_extend_113 rfl rfl 3 rfl ?_
              refine V_iload (q := 116) C dX1_extend_114 rfl 4 rfl ?_
              refine V_iload (q := 118) C dX1_extend_116 rfl 5 rfl ?_
              refine V_isub (q := 119) C dX1_extend_118 rfl ?_
              obtain ⟨_u, σ12, h13, hf⟩ := bd_s hf
              refine V_callS (av := [.ref (ad 1), .int (a - (1 : Int32)), .int b, .int c, .int (d - v8)]) (st := []) (st1 := []) (q := 122) C (hself _ _ _ _ _ _ h13) q_1104 q_108 q_1102 q_1103 nmX1_extend (rmk (by simp only [rmX1_extend]; try omega) (by simp only [rmX1_extend]; try omega) (by simp only [rmX1_extend]; try omega) (by simp only [rmX1_extend]; try omega) (by simp only [rmX1_extend]; try omega) (by simp only [rmX1_extend]; try omega)) rfl rfl (Nat.le_of_ble_eq_true rfl) dX1_extend_119 rfl rfl ?_
              obtain ⟨-, e2⟩ := pr_s hf
              subst e2
              exact V_vret C F (by decide) (by decide) dX1_extend_122
            refine V_if_le (t := 108) (q := 78) C dX1_extend_75 (by decide) rfl (fun c14 => ?_) (fun c14 => ?_)
            · replace hf := (ite_s hf).1 c14
              refine V_sub (L' := [(0, .ref (ad 1)), (1, .int a), (2, .int b), (3, .int c), (4, .int d), (6, .int v8)]) [2, 3, 4, 5, 6, 1] rfl ?_
              exact hJ108 _ hf
            · replace hf := (ite_s hf).2 c14
              refine V_aload_n (q := 79) C dX1_extend_78 rfl rfl 2 rfl ?_
              refine GX_1_0 (q := 82) C q_242 dX1_extend_79 rfl ?_
              refine V_iload (q := 84) C dX1_extend_82 rfl 0 rfl ?_
              obtain ⟨r15, σ16, h17, hf⟩ := bd_s hf
              refine V_callVN (av := [.int x10]) (st := []) (st1 := [.int r15]) (q := 87) C 2 (by decide) (eX_2 G ad _) rfl rfl (conX4_fits _ _ _ _ _ _ _ h17) q_781 q_109 q_1106 q_780 q_27 nmX4_fits (rmk (by simp only [rmX1_extend, rmX4_fits]; try omega) (by simp only [rmX1_extend, rmX4_fits]; try omega) (by simp only [rmX1_extend, rmX4_fits]; try omega) (by simp only [rmX1_extend, rmX4_fits]; try omega) (by simp only [rmX1_extend, rmX4_fits]; try omega) (by simp only [rmX1_extend, rmX4_fits]; try omega)) rfl rfl (Nat.le_of_ble_eq_true rfl) dX1_extend_84 rfl rfl ?_
              refine V_if_eq (t := 108) (q := 90) C dX1_extend_87 (by decide) rfl (fun c18 => ?_) (fun c18 => ?_)
              · replace hf := (ite_s hf).1 c18
                refine V_sub (L' := [(0, .ref (ad 1)), (1, .int a), (2, .int b), (3, .int c), (4, .int d), (6, .int v8)]) [2, 3, 4, 5, 6, 1] rfl ?_
                exact hJ108 _ hf
              · replace hf := (ite_s hf).2 c18
                refine V_aload_n (q := 91) C dX1_extend_90 rfl rfl 2 rfl ?_
                refine V_iload_n (q := 92) C dX1_extend_91 rfl rfl 3 rfl ?_
                refine V_iconst (v := 1) (q := 93) C dX1_extend_92 rfl ic_1 ?_
                refine V_isub (q := 94) C dX1_extend_93 rfl ?_
                refine V_iload (q := 96) C dX1_extend_94 rfl 0 rfl ?_
                refine V_iload_n (q := 97) C dX1_extend_96 rfl rfl 5 rfl ?_
                refine V_iload (q := 99) C dX1_extend_97 rfl 1 rfl ?_
                refine V_iadd (q := 100) C dX1_extend_99 rfl ?_
                refine V_iload (q := 102) C dX1_extend_100 rfl 6 rfl ?_
                refine V_iload (q := 104) C dX1_extend_102 rfl 1 rfl ?_
                refine V_isub (q := 105) C dX1_extend_104 rfl ?_
                obtain ⟨_u, σ19, h20, hf⟩ := bd_s hf
                refine V_callS (av := [.ref (ad 1), .int (a - (1 : Int32)), .int x10, .int (c + v8), .int (d - v8)]) (st := []) (st1 := []) (q := 108) C (hself _ _ _ _ _ _ h20) q_1104 q_108 q_1102 q_1103 nmX1_extend (rmk (by simp only [rmX1_extend]; try omega) (by simp only [rmX1_extend]; try omega) (by simp only [rmX1_extend]; try omega) (by simp only [rmX1_extend]; try omega) (by simp only [rmX1_extend]; try omega) (by simp only [rmX1_extend]; try omega)) rfl rfl (Nat.le_of_ble_eq_true rfl) dX1_extend_105 rfl rfl ?_
                refine V_sub (L' := [(0, .ref (ad 1)), (1, .int a), (2, .int b), (3, .int c), (4, .int d), (6, .int v8)]) [2, 3, 4, 5, 6, 1] rfl ?_
                exact hJ108 _ hf
          refine V_if_eq (t := 63) (q := 51) C dX1_extend_48 (by decide) rfl (fun c21 => ?_) (fun c21 => ?_)
          · replace hf := (ite_s hf).1 c21
            refine V_iconst (v := 0) (q := 64) C dX1_extend_63 rfl ic_0 ?_
            refine V_sub (L' := [(0, .ref (ad 1)), (1, .int a), (2, .int b), (3, .int c), (4, .int d)]) [1, 2, 3, 4, 5] rfl ?_
            exact hJ64 _ _ hf
          · replace hf := (ite_s hf).2 c21
            refine V_aload_n (q := 52) C dX1_extend_51 rfl rfl 1 rfl ?_
            refine GX_1_1 (q := 55) C q_244 dX1_extend_52 rfl ?_
            refine GNX_3_1 (q := 58) C q_163 dX1_extend_55 rfl ?_
            refine V_iload_n (q := 59) C dX1_extend_58 rfl rfl 2 rfl ?_
            obtain ⟨g22, hf⟩ := gd_s hf
            refine RX_12 (z := a.toNatClampNeg) (q := 60) C rfl (inb_in g22) dX1_extend_59 rfl ?_
            refine V_goto (t := 64) C dX1_extend_60 (by decide) ?_
            refine V_sub (L' := [(0, .ref (ad 1)), (1, .int a), (2, .int b), (3, .int c), (4, .int d)]) [1, 2, 3, 4, 5] rfl ?_
            exact hJ64 _ _ hf
        · replace hf := (ite_s hf).2 c6
          refine V_sub (L' := [(0, .ref (ad 1)), (2, .int b), (3, .int c)]) [0, 2, 3] rfl ?_
          exact hJ22 _ hf
    · replace hf := (ite_s hf).2 c1
      obtain ⟨-, e2⟩ := pr_s hf
      subst e2
      exact V_vret C F (by decide) (by decide) dX1_extend_11
def rmX1_bestSet : Room := { frames := 34, cells := 0, slots := 0, locals := 969 }
def fX1_bestSet  (σ : Sg) : Option (Int32 × Sg) := bd (fX3_stayers  σ) (fun (r1 : Int32) (σ2 : Sg) => lt' (sup σ2 1 2 r1) (fun (σ4 : Sg) => lt' (sup σ4 1 3 (0 : Int32)) (fun (σ5 : Sg) => bd (fX6_sumOver_12 (σ5 3 7) σ5) (fun (r6 : Int32) (σ7 : Sg) => bd (fX1_extend 14 ((σ5 3 6) - (1 : Int32)) (σ5 1 2) (0 : Int32) r6 σ7) (fun (_ : Unit) (σ9 : Sg) => some ((σ9 1 2), σ9))))))
set_option maxHeartbeats 4000000 in
theorem conX1_bestSet (l : Launch) (G : Gx) (ad : Nat → Nat)  (σ : Sg) (r : Int32) (σf : Sg)  (hf : fX1_bestSet  σ = some (r, σf)) : Con wX l G ad yX1_bestSet (Cond.code yX1_bestSet cX1_bestSet 1 (some .int)) rmX1_bestSet 0 0 [.ref (ad 1)] σ (some (.int r)) σf := by
  refine Con.start (by decide) (Nat.le_of_ble_eq_true rfl) (fun X Q _ C F => ?_)
  refine V_eq (L' := [(0, .ref (ad 1))]) (st' := []) rfl rfl rfl ?_
  unfold fX1_bestSet at hf
  refine V_aload_n (q := 1) C dX1_bestSet_0 rfl rfl 0 rfl ?_
  refine V_aload_n (q := 2) C dX1_bestSet_1 rfl rfl 0 rfl ?_
  refine GX_1_1 (q := 5) C q_244 dX1_bestSet_2 rfl ?_
  obtain ⟨r1, σ2, h3, hf⟩ := bd_s hf
  refine V_callVN (av := []) (st := [.ref (ad 1)]) (st1 := [.int r1, .ref (ad 1)]) (q := 8) C 3 (by decide) (eX_3 G ad _) rfl rfl (conX3_stayers _ _ _  _ _ _ h3) q_933 q_110 q_1100 q_932 q_45 nmX3_stayers (by decide) rfl rfl (Nat.le_of_ble_eq_true rfl) dX1_bestSet_5 rfl rfl ?_
  refine PX_1_2 (q := 11) C q_245 dX1_bestSet_8 rfl ?_
  refine V_lets hf (fun σ4 hf => ?_)
  refine V_aload_n (q := 12) C dX1_bestSet_11 rfl rfl 0 rfl ?_
  refine V_iconst (v := 0) (q := 13) C dX1_bestSet_12 rfl ic_0 ?_
  refine PX_1_3 (q := 16) C q_246 dX1_bestSet_13 rfl ?_
  refine V_lets hf (fun σ5 hf => ?_)
  refine V_aload_n (q := 17) C dX1_bestSet_16 rfl rfl 0 rfl ?_
  refine V_aload_n (q := 18) C dX1_bestSet_17 rfl rfl 0 rfl ?_
  refine GX_1_1 (q := 21) C q_244 dX1_bestSet_18 rfl ?_
  refine GNX_3_6 (q := 24) C q_179 dX1_bestSet_21 rfl ?_
  refine V_iconst (v := 1) (q := 25) C dX1_bestSet_24 rfl ic_1 ?_
  refine V_isub (q := 26) C dX1_bestSet_25 rfl ?_
  refine V_aload_n (q := 27) C dX1_bestSet_26 rfl rfl 0 rfl ?_
  refine GX_1_2 (q := 30) C q_245 dX1_bestSet_27 rfl ?_
  refine V_iconst (v := 0) (q := 31) C dX1_bestSet_30 rfl ic_0 ?_
  refine V_aload_n (q := 32) C dX1_bestSet_31 rfl rfl 0 rfl ?_
  refine GX_1_1 (q := 35) C q_244 dX1_bestSet_32 rfl ?_
  refine GNX_3_1 (q := 38) C q_163 dX1_bestSet_35 rfl ?_
  refine V_aload_n (q := 39) C dX1_bestSet_38 rfl rfl 0 rfl ?_
  refine GX_1_1 (q := 42) C q_244 dX1_bestSet_39 rfl ?_
  refine GNX_3_7 (q := 45) C q_185 dX1_bestSet_42 rfl ?_
  obtain ⟨r6, σ7, h8, hf⟩ := bd_s hf
  refine V_callSN (av := [.ref (ad 12), .int (σ5 3 7)]) (st := [.int (0 : Int32), .int (σ5 1 2), .int ((σ5 3 6) - (1 : Int32)), .ref (ad 1)]) (st1 := [.int r6, .int (0 : Int32), .int (σ5 1 2), .int ((σ5 3 6) - (1 : Int32)), .ref (ad 1)]) (q := 48) C (conX6_sumOver_12 _ _ _ _ _ _ _ h8) q_1072 q_107 q_1101 q_1071 nmX6_sumOver (by decide) rfl rfl (Nat.le_of_ble_eq_true rfl) dX1_bestSet_45 rfl rfl ?_
  obtain ⟨_u, σ9, h10, hf⟩ := bd_s hf
  refine V_callS (av := [.ref (ad 1), .int ((σ5 3 6) - (1 : Int32)), .int (σ5 1 2), .int (0 : Int32), .int r6]) (st := []) (st1 := []) (q := 51) C (conX1_extend _ _ _ 14 _ _ _ _ _ _ h10) q_1104 q_108 q_1102 q_1103 nmX1_extend (by decide) rfl rfl (Nat.le_of_ble_eq_true rfl) dX1_bestSet_48 rfl rfl ?_
  refine V_aload_n (q := 52) C dX1_bestSet_51 rfl rfl 0 rfl ?_
  refine GX_1_2 (q := 55) C q_245 dX1_bestSet_52 rfl ?_
  obtain ⟨e1, e2⟩ := pr_s hf
  subst e1; subst e2
  exact V_iret C F (by decide) (by decide) dX1_bestSet_55
def rmX6_best : Room := { frames := 35, cells := 1, slots := 6, locals := 989 }
def fX6_best  (σ : Sg) : Option ((String ⊕ Int32) × Sg) := bd (fX3_stayers  σ) (fun (r1 : Int32) (σ2 : Sg) => bx (fX6_requireFeasible r1 σ2) (fun E σE => some (.inl E, σE)) (fun (_ : Unit) (σ5 : Sg) => bd (fX1_bestSet  σ5) (fun (r10 : Int32) (σ11 : Sg) => some (.inr r10, σ11))))
set_option maxHeartbeats 4000000 in
theorem conX6_best (l : Launch) (G : Gx) (ad : Nat → Nat)  (σ : Sg) (r : String ⊕ Int32) (σf : Sg) (hf : fX6_best  σ = some (r, σf)) : ConX wX l G ad yX6_best (Cond.code yX6_best cX6_best 1 (some .int)) rmX6_best 1 6 [.ref (ad 0)] σ (rI r) σf := by
  refine ConX.start (by decide) (Nat.le_of_ble_eq_true rfl) (fun X Q _ C Fr Fx => ?_)
  refine V_eq (L' := [(0, .ref (ad 0))]) (st' := []) rfl rfl rfl ?_
  unfold fX6_best at hf
  refine V_aload_n (q := 1) C dX6_best_0 rfl rfl 0 rfl ?_
  refine V_aload_n (q := 2) C dX6_best_1 rfl rfl 0 rfl ?_
  refine GX_0_2 (q := 5) C q_355 dX6_best_2 rfl ?_
  obtain ⟨r1, σ2, h3, hf⟩ := bd_s hf
  refine V_callVN (av := []) (st := [.ref (ad 0)]) (st1 := [.int r1, .ref (ad 0)]) (q := 8) C 3 (by decide) (eX_3 G ad _) rfl rfl (conX3_stayers _ _ _  _ _ _ h3) q_933 q_110 q_930 q_932 q_45 nmX3_stayers (by decide) rfl rfl (Nat.le_of_ble_eq_true rfl) dX6_best_5 rfl rfl ?_
  obtain ⟨z7, σ5, h6, hE, hA⟩ := bx_s hf
  refine V_callVX (av := [.int r1]) (st := []) (q := 11) (mc := 1) (ms := 6) C 0 (by decide) (eX_0 G ad _) rfl rfl (conX6_requireFeasible _ _ _ _ _ _ _ h6) q_848 q_107 q_845 q_847 q_38 nmX6_requireFeasible (by decide) rfl rfl (Nat.le_of_ble_eq_true rfl) dX6_best_8 rfl (by decide) (by decide) (fun E hz => by
    obtain rfl := rU_l hz
    obtain ⟨e1, e2⟩ := pr_s (hE _ rfl)
    subst e1; subst e2
    exact Fx _ rfl) (fun w8 h9 => ?_)
  obtain ⟨r4, rfl, rfl⟩ := rU_r h9
  replace hf := hA _ rfl
  refine V_eq (L' := [(0, .ref (ad 0))]) (st' := []) rfl rfl rfl ?_
  refine V_wide (k2 := 1) (n2 := 6) (by decide) (by decide) ?_
  refine V_aload_n (q := 12) C dX6_best_11 rfl rfl 0 rfl ?_
  refine GX_0_0 (q := 15) C q_353 dX6_best_12 rfl ?_
  obtain ⟨r10, σ11, h12, hf⟩ := bd_s hf
  refine V_callVN (av := []) (st := []) (st1 := [.int r10]) (q := 18) C 1 (by decide) (eX_1 G ad _) rfl rfl (conX1_bestSet _ _ _  _ _ _ h12) q_1099 q_108 q_1096 q_1098 q_61 nmX1_bestSet (by decide) rfl rfl (Nat.le_of_ble_eq_true rfl) dX6_best_15 rfl rfl ?_
  obtain ⟨e1, e2⟩ := pr_s hf
  subst e1; subst e2
  exact V_iret C (Fr _ rfl) (by decide) (by decide) dX6_best_18
def rmX6_bitsOf : Room := { frames := 0, cells := 0, slots := 0, locals := 0 }
def fX6_bitsOf_14 (b : Int32) (c : Int32) (K : UInt64 → Int32 → Sg → Option (Int64 × Sg)) : Nat → UInt64 → Int32 → Sg → Option (Int64 × Sg)
  | 0, _, _, _ => none
  | n + 1, x2, x3, σ4 => if (Op.cmpValue (FP.dcmp x2 (4611686018427387904 : UInt64)) CmpOp.l) < 0 then (K x2 x3 σ4) else (if ((2 : Int32) * c) ≤ x3 then (K x2 x3 σ4) else (gd (n64 (FP.ddiv x2 (4611686018427387904 : UInt64))) (lt' ((FP.ddiv x2 (4611686018427387904 : UInt64))) (fun (x10 : UInt64) => fX6_bitsOf_14 b c K n x10 (x3 + (1 : Int32)) σ4))))
def fX6_bitsOf_45 (b : Int32) (K : UInt64 → Int32 → Sg → Option (Int64 × Sg)) : Nat → UInt64 → Int32 → Sg → Option (Int64 × Sg)
  | 0, _, _, _ => none
  | n + 1, x12, x13, σ14 => if 0 ≤ (Op.cmpValue (FP.dcmp x12 FP.dconst1) CmpOp.g) then (K x12 x13 σ14) else (if x13 ≤ (1 : Int32) then (K x12 x13 σ14) else (gd (n64 (FP.dmul x12 (4611686018427387904 : UInt64))) (lt' ((FP.dmul x12 (4611686018427387904 : UInt64))) (fun (x20 : UInt64) => fX6_bitsOf_45 b K n x20 (x13 + (-1 : Int32)) σ14))))
def fX6_bitsOf (a : UInt64) (b : Int32) (c : Int32) (σ : Sg) : Option (Int64 × Sg) := if 0 < (Op.cmpValue (FP.dcmp a FP.dconst0) CmpOp.l) then (fX6_bitsOf_14 b c (fun (y5 : UInt64) (y6 : Int32) (σ11 : Sg) => fX6_bitsOf_45 b (fun (y15 : UInt64) (y16 : Int32) (σ21 : Sg) => gd (n64 (FP.dsub y15 FP.dconst1)) (gd (n64 (FP.dmul (FP.dsub y15 FP.dconst1) (FP.l2d ((1 : Int64) <<< (b.toInt64 &&& 63))))) (some (((y16.toInt64 <<< (b.toInt64 &&& 63)) + (FP.d2l (FP.dmul (FP.dsub y15 FP.dconst1) (FP.l2d ((1 : Int64) <<< (b.toInt64 &&& 63)))))), σ21)))) FU y5 y6 σ11) FU a c σ) else (some ((0 : Int64), σ))
set_option maxHeartbeats 4000000 in
theorem wlX6_bitsOf_14 {X : Cx} {G : Gx} {ad : Nat → Nat} {Q : State → Prop} {r : Int64} {σf : Sg} (C : OK wX X G ad RX6 cX6_bitsOf 7 rmX6_bitsOf) (F : FinR wX X G ad Q 0 0 (some .long) (some (.long r)) σf) (b : Int32) (c : Int32) (K : UInt64 → Int32 → Sg → Option (Int64 × Sg)) (hK : ∀ (y5 : UInt64) (y6 : Int32) (σk : Sg), K y5 y6 σk = some (r, σf) → V wX X G ad 7 Q 0 0 σk 45 [(2, .int b), (4, .double y5), (6, .int y6)] []) : ∀ (n : Nat) (x2 : UInt64) (x3 : Int32) (σ4 : Sg), fX6_bitsOf_14 b c K n x2 x3 σ4 = some (r, σf) → V wX X G ad 7 Q 0 0 σ4 14 [(2, .int b), (3, .int c), (4, .double x2), (6, .int x3)] [] := by
  intro n
  induction n with
  | zero =>
    intro _ _ _ hf
    exact absurd hf (by simp [fX6_bitsOf_14])
  | succ n ih =>
    intro x2 x3 σ4 hf
    rw [fX6_bitsOf_14] at hf
    refine V_dload (q := 16) C dX6_bitsOf_14 rfl 2 rfl ?_
    refine V_ldc2d (q := 19) C q_751 dX6_bitsOf_16 rfl ?_
    refine V_dcmp (q := 20) C dX6_bitsOf_19 rfl ?_
    refine V_if_lt (t := 45) (q := 23) C dX6_bitsOf_20 (by decide) rfl (fun c7 => ?_) (fun c7 => ?_)
    · replace hf := (ite_s hf).1 c7
      refine V_sub (L' := [(2, .int b), (4, .double x2), (6, .int x3)]) [0, 2, 3] rfl ?_
      exact hK _ _ _ hf
    · replace hf := (ite_s hf).2 c7
      refine V_iload (q := 25) C dX6_bitsOf_23 rfl 3 rfl ?_
      refine V_iconst (v := 2) (q := 26) C dX6_bitsOf_25 rfl ic_2 ?_
      refine V_iload_n (q := 27) C dX6_bitsOf_26 rfl rfl 1 rfl ?_
      refine V_imul (q := 28) C dX6_bitsOf_27 rfl ?_
      refine V_icmp_ge (t := 45) (q := 31) C dX6_bitsOf_28 (by decide) rfl (fun c8 => ?_) (fun c8 => ?_)
      · replace hf := (ite_s hf).1 c8
        refine V_sub (L' := [(2, .int b), (4, .double x2), (6, .int x3)]) [0, 2, 3] rfl ?_
        exact hK _ _ _ hf
      · replace hf := (ite_s hf).2 c8
        refine V_dload (q := 33) C dX6_bitsOf_31 rfl 2 rfl ?_
        refine V_ldc2d (q := 36) C q_751 dX6_bitsOf_33 rfl ?_
        obtain ⟨g9, hf⟩ := gd_s hf
        refine V_ddiv (q := 37) C dX6_bitsOf_36 rfl (n64_s g9) ?_
        refine V_let (cv := Value.double) hf (fun x10 hf => ?_)
        refine V_dstore (L' := [(4, .double x10), (2, .int b), (3, .int c), (6, .int x3)]) (q := 39) C dX6_bitsOf_37 rfl (by decide) rfl ?_
        refine V_iinc (L' := [(6, .int (x3 + (1 : Int32))), (4, .double x10), (2, .int b), (3, .int c)]) (q := 42) C dX6_bitsOf_39 rfl 3 rfl (congrArg (fun y => x3 + y) ic_1) (by decide) rfl ?_
        refine V_goto (t := 14) C dX6_bitsOf_42 (by decide) ?_
        refine V_sub (L' := [(2, .int b), (3, .int c), (4, .double x10), (6, .int (x3 + (1 : Int32)))]) [2, 3, 1, 0] rfl ?_
        exact ih _ _ _ hf
set_option maxHeartbeats 4000000 in
theorem wlX6_bitsOf_45 {X : Cx} {G : Gx} {ad : Nat → Nat} {Q : State → Prop} {r : Int64} {σf : Sg} (C : OK wX X G ad RX6 cX6_bitsOf 7 rmX6_bitsOf) (F : FinR wX X G ad Q 0 0 (some .long) (some (.long r)) σf) (b : Int32) (K : UInt64 → Int32 → Sg → Option (Int64 × Sg)) (hK : ∀ (y15 : UInt64) (y16 : Int32) (σk : Sg), K y15 y16 σk = some (r, σf) → V wX X G ad 7 Q 0 0 σk 72 [(2, .int b), (4, .double y15), (6, .int y16)] []) : ∀ (n : Nat) (x12 : UInt64) (x13 : Int32) (σ14 : Sg), fX6_bitsOf_45 b K n x12 x13 σ14 = some (r, σf) → V wX X G ad 7 Q 0 0 σ14 45 [(2, .int b), (4, .double x12), (6, .int x13)] [] := by
  intro n
  induction n with
  | zero =>
    intro _ _ _ hf
    exact absurd hf (by simp [fX6_bitsOf_45])
  | succ n ih =>
    intro x12 x13 σ14 hf
    rw [fX6_bitsOf_45] at hf
    refine V_dload (q := 47) C dX6_bitsOf_45 rfl 1 rfl ?_
    refine V_dconst1 (q := 48) C dX6_bitsOf_47 rfl ?_
    refine V_dcmp (q := 49) C dX6_bitsOf_48 rfl ?_
    refine V_if_ge (t := 72) (q := 52) C dX6_bitsOf_49 (by decide) rfl (fun c17 => ?_) (fun c17 => ?_)
    · replace hf := (ite_s hf).1 c17
      exact hK _ _ _ hf
    · replace hf := (ite_s hf).2 c17
      refine V_iload (q := 54) C dX6_bitsOf_52 rfl 2 rfl ?_
      refine V_iconst (v := 1) (q := 55) C dX6_bitsOf_54 rfl ic_1 ?_
      refine V_icmp_le (t := 72) (q := 58) C dX6_bitsOf_55 (by decide) rfl (fun c18 => ?_) (fun c18 => ?_)
      · replace hf := (ite_s hf).1 c18
        exact hK _ _ _ hf
      · replace hf := (ite_s hf).2 c18
        refine V_dload (q := 60) C dX6_bitsOf_58 rfl 1 rfl ?_
        refine V_ldc2d (q := 63) C q_751 dX6_bitsOf_60 rfl ?_
        obtain ⟨g19, hf⟩ := gd_s hf
        refine V_dmul (q := 64) C dX6_bitsOf_63 rfl (n64_s g19) ?_
        refine V_let (cv := Value.double) hf (fun x20 hf => ?_)
        refine V_dstore (L' := [(4, .double x20), (2, .int b), (6, .int x13)]) (q := 66) C dX6_bitsOf_64 rfl (by decide) rfl ?_
        refine V_iinc (L' := [(6, .int (x13 + (-1 : Int32))), (4, .double x20), (2, .int b)]) (q := 69) C dX6_bitsOf_66 rfl 2 rfl (congrArg (fun y => x13 + y) ic_m1) (by decide) rfl ?_
        refine V_goto (t := 45) C dX6_bitsOf_69 (by decide) ?_
        refine V_sub (L' := [(2, .int b), (4, .double x20), (6, .int (x13 + (-1 : Int32)))]) [2, 1, 0] rfl ?_
        exact ih _ _ _ hf
set_option maxHeartbeats 4000000 in
theorem conX6_bitsOf (l : Launch) (G : Gx) (ad : Nat → Nat) (a : UInt64) (b : Int32) (c : Int32) (σ : Sg) (r : Int64) (σf : Sg)  (hf : fX6_bitsOf a b c σ = some (r, σf)) : Con wX l G ad yX6_bitsOf (Cond.code yX6_bitsOf cX6_bitsOf 7 (some .long)) rmX6_bitsOf 0 0 [.double a, .int b, .int c] σ (some (.long r)) σf := by
  refine Con.start (by decide) (Nat.le_of_ble_eq_true rfl) (fun X Q _ C F => ?_)
  refine V_eq (L' := [(0, .double a), (2, .int b), (3, .int c)]) (st' := []) rfl rfl rfl ?_
  unfold fX6_bitsOf at hf
  refine V_dload_n (q := 1) C dX6_bitsOf_0 rfl rfl 0 rfl ?_
  refine V_dconst0 (q := 2) C dX6_bitsOf_1 rfl ?_
  refine V_dcmp (q := 3) C dX6_bitsOf_2 rfl ?_
  refine V_if_gt (t := 8) (q := 6) C dX6_bitsOf_3 (by decide) rfl (fun c1 => ?_) (fun c1 => ?_)
  · replace hf := (ite_s hf).1 c1
    refine V_dload_n (q := 9) C dX6_bitsOf_8 rfl rfl 0 rfl ?_
    refine V_dstore (L' := [(4, .double a), (0, .double a), (2, .int b), (3, .int c)]) (q := 11) C dX6_bitsOf_9 rfl (by decide) rfl ?_
    refine V_iload_n (q := 12) C dX6_bitsOf_11 rfl rfl 3 rfl ?_
    refine V_istore (L' := [(6, .int c), (4, .double a), (0, .double a), (2, .int b), (3, .int c)]) (q := 14) C dX6_bitsOf_12 rfl (by decide) rfl ?_
    refine V_sub (L' := [(2, .int b), (3, .int c), (4, .double a), (6, .int c)]) [3, 4, 1, 0] rfl ?_
    refine wlX6_bitsOf_14 C F b c _ (fun y5 y6 σ11 hf => ?_) FU _ _ _ hf
    refine wlX6_bitsOf_45 C F b _ (fun y15 y16 σ21 hf => ?_) FU _ _ _ hf
    refine V_iload (q := 74) C dX6_bitsOf_72 rfl 2 rfl ?_
    refine V_i2l (q := 75) C dX6_bitsOf_74 rfl ?_
    refine V_iload_n (q := 76) C dX6_bitsOf_75 rfl rfl 0 rfl ?_
    refine V_lshl (q := 77) C dX6_bitsOf_76 rfl ?_
    refine V_dload (q := 79) C dX6_bitsOf_77 rfl 1 rfl ?_
    refine V_dconst1 (q := 80) C dX6_bitsOf_79 rfl ?_
    obtain ⟨g22, hf⟩ := gd_s hf
    refine V_dsub (q := 81) C dX6_bitsOf_80 rfl (n64_s g22) ?_
    refine V_lconst (v := 1) (q := 82) C dX6_bitsOf_81 rfl (by decide) ?_
    refine V_iload_n (q := 83) C dX6_bitsOf_82 rfl rfl 0 rfl ?_
    refine V_lshl (q := 84) C dX6_bitsOf_83 rfl ?_
    refine V_l2d (q := 85) C dX6_bitsOf_84 rfl ?_
    obtain ⟨g23, hf⟩ := gd_s hf
    refine V_dmul (q := 86) C dX6_bitsOf_85 rfl (n64_s g23) ?_
    refine V_d2l (q := 87) C dX6_bitsOf_86 rfl ?_
    refine V_ladd (q := 88) C dX6_bitsOf_87 rfl ?_
    obtain ⟨e1, e2⟩ := pr_s hf
    subst e1; subst e2
    exact V_lret C F (by decide) (by decide) dX6_bitsOf_88
  · replace hf := (ite_s hf).2 c1
    refine V_lconst (v := 0) (q := 7) C dX6_bitsOf_6 rfl (by decide) ?_
    obtain ⟨e1, e2⟩ := pr_s hf
    subst e1; subst e2
    exact V_lret C F (by decide) (by decide) dX6_bitsOf_7
