def rmX6_hasConflict : Room := { frames := 7, cells := 3, slots := 18, locals := 111 }
def fX6_hasConflict (a : Int32) (b : Int32) (c : Int32) (σ : Sg) : Option ((String ⊕ Int32) × Sg) := bx (fX6_requireStation a σ) (fun E σE => some (.inl E, σE)) (fun (_ : Unit) (σ2 : Sg) => bx (fX6_requireStation b σ2) (fun E σE => some (.inl E, σE)) (fun (_ : Unit) (σ8 : Sg) => jp (fun (σ13 : Sg) => jp (fun (v14 : Int32) (σ15 : Sg) => gd (b01 (pX6_contains v14 b)) (some (.inr (pX6_contains v14 b), σ15))) (fun (J54 : Int32 → Sg → Option ((String ⊕ Int32) × Sg)) => if c = 0 then (gd (inb a 12) (J54 (σ13 15 a.toNatClampNeg) σ13)) else (gd (inb a 12) (J54 (σ13 16 a.toNatClampNeg) σ13)))) (fun (J29 : Sg → Option ((String ⊕ Int32) × Sg)) => if c = 0 then (J29  σ8) else (if c = (1 : Int32) then (J29  σ8) else (some (.inl "java/lang/IllegalArgumentException", σ8))))))
set_option maxHeartbeats 4000000 in
theorem conX6_hasConflict (l : Launch) (G : Gx) (ad : Nat → Nat) (a : Int32) (b : Int32) (c : Int32) (σ : Sg) (r : String ⊕ Int32) (σf : Sg) (hf : fX6_hasConflict a b c σ = some (r, σf)) : ConX wX l G ad yX6_hasConflict (Cond.code yX6_hasConflict cX6_hasConflict 4 (some .boolean)) rmX6_hasConflict 3 18 [.ref (ad 0), .int a, .int b, .int c] σ (rI r) σf := by
  refine ConX.start (by decide) (Nat.le_of_ble_eq_true rfl) (fun X Q _ C Fr Fx => ?_)
  refine V_eq (L' := [(0, .ref (ad 0)), (1, .int a), (2, .int b), (3, .int c)]) (st' := []) rfl rfl rfl ?_
  unfold fX6_hasConflict at hf
  refine V_aload_n (q := 1) C dX6_hasConflict_0 rfl rfl 0 rfl ?_
  refine V_iload_n (q := 2) C dX6_hasConflict_1 rfl rfl 1 rfl ?_
  obtain ⟨z4, σ2, h3, hE, hA⟩ := bx_s hf
  refine V_callVX (av := [.int a]) (st := []) (q := 5) (mc := 3) (ms := 18) C 0 (by decide) (eX_0 G ad _) rfl rfl (conX6_requireStation _ _ _ _ _ _ _ h3) q_596 q_107 q_593 q_595 q_10 nmX6_requireStation (by decide) rfl rfl (Nat.le_of_ble_eq_true rfl) dX6_hasConflict_2 rfl (by decide) (by decide) (fun E hz => by
    obtain rfl := rU_l hz
    obtain ⟨e1, e2⟩ := pr_s (hE _ rfl)
    subst e1; subst e2
    exact Fx _ rfl) (fun w5 h6 => ?_)
  obtain ⟨r1, rfl, rfl⟩ := rU_r h6
  replace hf := hA _ rfl
  refine V_eq (L' := [(0, .ref (ad 0)), (1, .int a), (2, .int b), (3, .int c)]) (st' := []) rfl rfl rfl ?_
  refine V_wide (k2 := 1) (n2 := 6) (by decide) (by decide) ?_
  refine V_aload_n (q := 6) C dX6_hasConflict_5 rfl rfl 0 rfl ?_
  refine V_iload_n (q := 7) C dX6_hasConflict_6 rfl rfl 2 rfl ?_
  obtain ⟨z10, σ8, h9, hE, hA⟩ := bx_s hf
  refine V_callVX (av := [.int b]) (st := []) (q := 10) (mc := 3) (ms := 18) C 0 (by decide) (eX_0 G ad _) rfl rfl (conX6_requireStation _ _ _ _ _ _ _ h9) q_596 q_107 q_593 q_595 q_10 nmX6_requireStation (by decide) rfl rfl (Nat.le_of_ble_eq_true rfl) dX6_hasConflict_7 rfl (by decide) (by decide) (fun E hz => by
    obtain rfl := rU_l hz
    obtain ⟨e1, e2⟩ := pr_s (hE _ rfl)
    subst e1; subst e2
    exact Fx _ rfl) (fun w11 h12 => ?_)
  obtain ⟨r7, rfl, rfl⟩ := rU_r h12
  replace hf := hA _ rfl
  refine V_eq (L' := [(0, .ref (ad 0)), (1, .int a), (2, .int b), (3, .int c)]) (st' := []) rfl rfl rfl ?_
  refine V_wide (k2 := 2) (n2 := 12) (by decide) (by decide) ?_
  refine V_iload_n (q := 11) C dX6_hasConflict_10 rfl rfl 3 rfl ?_
  obtain ⟨J29, eJ29, hf⟩ := jp_s hf
  have hJ29 : ∀ (σ13 : Sg), J29 σ13 = some (r, σf) → V wX X G ad 4 Q 2 12 σ13 29 [(0, .ref (ad 0)), (1, .int a), (2, .int b), (3, .int c)] [] := by
    intro σ13 hf
    subst eJ29
    refine V_iload_n (q := 30) C dX6_hasConflict_29 rfl rfl 3 rfl ?_
    obtain ⟨J54, eJ54, hf⟩ := jp_s hf
    have hJ54 : ∀ (v14 : Int32) (σ15 : Sg), J54 v14 σ15 = some (r, σf) → V wX X G ad 4 Q 2 12 σ15 54 [(2, .int b)] [.int v14] := by
      intro v14 σ15 hf
      subst eJ54
      refine V_iload_n (q := 55) C dX6_hasConflict_54 rfl rfl 0 rfl ?_
      refine V_callS (av := [.int v14, .int b]) (st := []) (st1 := [.int (pX6_contains v14 b)]) (q := 58) C (conX6_contains _ _ _ _ _ _ _ rfl) q_612 q_107 q_610 q_611 nmX6_contains (by decide) rfl rfl (Nat.le_of_ble_eq_true rfl) dX6_hasConflict_55 rfl rfl ?_
      obtain ⟨g16, hf⟩ := gd_s hf
      obtain ⟨e1, e2⟩ := pr_s hf
      subst e1; subst e2
      exact V_zret C (Fr _ rfl) (b01_s g16) (by decide) (by decide) dX6_hasConflict_58
    refine V_if_ne (t := 45) (q := 33) C dX6_hasConflict_30 (by decide) rfl (fun c17 => ?_) (fun c17 => ?_)
    · replace hf := (ite_s hf).2 c17
      refine V_aload_n (q := 46) C dX6_hasConflict_45 rfl rfl 0 rfl ?_
      refine GX_0_2 (q := 49) C q_355 dX6_hasConflict_46 rfl ?_
      refine GNX_3_5 (q := 52) C q_176 dX6_hasConflict_49 rfl ?_
      refine V_iload_n (q := 53) C dX6_hasConflict_52 rfl rfl 1 rfl ?_
      obtain ⟨g18, hf⟩ := gd_s hf
      refine RX_16 (z := a.toNatClampNeg) (q := 54) C rfl (inb_in g18) dX6_hasConflict_53 rfl ?_
      refine V_sub (L' := [(2, .int b)]) [2] rfl ?_
      exact hJ54 _ _ hf
    · replace hf := (ite_s hf).1 c17
      refine V_aload_n (q := 34) C dX6_hasConflict_33 rfl rfl 0 rfl ?_
      refine GX_0_2 (q := 37) C q_355 dX6_hasConflict_34 rfl ?_
      refine GNX_3_4 (q := 40) C q_172 dX6_hasConflict_37 rfl ?_
      refine V_iload_n (q := 41) C dX6_hasConflict_40 rfl rfl 1 rfl ?_
      obtain ⟨g19, hf⟩ := gd_s hf
      refine RX_15 (z := a.toNatClampNeg) (q := 42) C rfl (inb_in g19) dX6_hasConflict_41 rfl ?_
      refine V_goto (t := 54) C dX6_hasConflict_42 (by decide) ?_
      refine V_sub (L' := [(2, .int b)]) [2] rfl ?_
      exact hJ54 _ _ hf
  refine V_if_eq (t := 29) (q := 14) C dX6_hasConflict_11 (by decide) rfl (fun c20 => ?_) (fun c20 => ?_)
  · replace hf := (ite_s hf).1 c20
    exact hJ29 _ hf
  · replace hf := (ite_s hf).2 c20
    refine V_iload_n (q := 15) C dX6_hasConflict_14 rfl rfl 3 rfl ?_
    refine V_iconst (v := 1) (q := 16) C dX6_hasConflict_15 rfl ic_1 ?_
    refine V_icmp_eq (t := 29) (q := 19) C dX6_hasConflict_16 (by decide) rfl (fun c21 => ?_) (fun c21 => ?_)
    · replace hf := (ite_s hf).1 c21
      exact hJ29 _ hf
    · replace hf := (ite_s hf).2 c21
      obtain ⟨e1, e2⟩ := pr_s hf
      subst e1; subst e2
      exact V_throwS (text := "no such kind") C rfl (Fx _ rfl) rfl q_424 q_118 (by decide) xa_87 xg_87 dX6_hasConflict_19 dX6_hasConflict_22 dX6_hasConflict_23 dX6_hasConflict_25 dX6_hasConflict_28 (by decide) (Nat.le_of_ble_eq_true rfl) (by decide) (by decide) (by decide) (by decide)
def rmX6_isFeasible : Room := { frames := 19, cells := 1, slots := 6, locals := 564 }
def fX6_isFeasible (a : Int32) (σ : Sg) : Option ((String ⊕ Int32) × Sg) := bx (fX6_requireSet a σ) (fun E σE => some (.inl E, σE)) (fun (_ : Unit) (σ2 : Sg) => bd (fX4_fits a σ2) (fun (r7 : Int32) (σ8 : Sg) => gd (b01 r7) (some (.inr r7, σ8))))
set_option maxHeartbeats 4000000 in
theorem conX6_isFeasible (l : Launch) (G : Gx) (ad : Nat → Nat) (a : Int32) (σ : Sg) (r : String ⊕ Int32) (σf : Sg) (hf : fX6_isFeasible a σ = some (r, σf)) : ConX wX l G ad yX6_isFeasible (Cond.code yX6_isFeasible cX6_isFeasible 2 (some .boolean)) rmX6_isFeasible 1 6 [.ref (ad 0), .int a] σ (rI r) σf := by
  refine ConX.start (by decide) (Nat.le_of_ble_eq_true rfl) (fun X Q _ C Fr Fx => ?_)
  refine V_eq (L' := [(0, .ref (ad 0)), (1, .int a)]) (st' := []) rfl rfl rfl ?_
  unfold fX6_isFeasible at hf
  refine V_aload_n (q := 1) C dX6_isFeasible_0 rfl rfl 0 rfl ?_
  refine V_iload_n (q := 2) C dX6_isFeasible_1 rfl rfl 1 rfl ?_
  obtain ⟨z4, σ2, h3, hE, hA⟩ := bx_s hf
  refine V_callVX (av := [.int a]) (st := []) (q := 5) (mc := 1) (ms := 6) C 0 (by decide) (eX_0 G ad _) rfl rfl (conX6_requireSet _ _ _ _ _ _ _ h3) q_775 q_107 q_772 q_774 q_26 nmX6_requireSet (by decide) rfl rfl (Nat.le_of_ble_eq_true rfl) dX6_isFeasible_2 rfl (by decide) (by decide) (fun E hz => by
    obtain rfl := rU_l hz
    obtain ⟨e1, e2⟩ := pr_s (hE _ rfl)
    subst e1; subst e2
    exact Fx _ rfl) (fun w5 h6 => ?_)
  obtain ⟨r1, rfl, rfl⟩ := rU_r h6
  replace hf := hA _ rfl
  refine V_eq (L' := [(0, .ref (ad 0)), (1, .int a)]) (st' := []) rfl rfl rfl ?_
  refine V_wide (k2 := 1) (n2 := 6) (by decide) (by decide) ?_
  refine V_aload_n (q := 6) C dX6_isFeasible_5 rfl rfl 0 rfl ?_
  refine GX_0_1 (q := 9) C q_354 dX6_isFeasible_6 rfl ?_
  refine V_iload_n (q := 10) C dX6_isFeasible_9 rfl rfl 1 rfl ?_
  obtain ⟨r7, σ8, h9, hf⟩ := bd_s hf
  refine V_callVN (av := [.int a]) (st := []) (st1 := [.int r7]) (q := 13) C 2 (by decide) (eX_2 G ad _) rfl rfl (conX4_fits _ _ _ _ _ _ _ h9) q_781 q_109 q_778 q_780 q_27 nmX4_fits (by decide) rfl rfl (Nat.le_of_ble_eq_true rfl) dX6_isFeasible_10 rfl rfl ?_
  obtain ⟨g10, hf⟩ := gd_s hf
  obtain ⟨e1, e2⟩ := pr_s hf
  subst e1; subst e2
  exact V_zret C (Fr _ rfl) (b01_s g10) (by decide) (by decide) dX6_isFeasible_13
def rmX6_leastLoss : Room := { frames := 35, cells := 1, slots := 6, locals := 989 }
def fX6_leastLoss  (σ : Sg) : Option ((String ⊕ Int32) × Sg) := bd (fX3_stayers  σ) (fun (r1 : Int32) (σ2 : Sg) => bx (fX6_requireFeasible r1 σ2) (fun E σE => some (.inl E, σE)) (fun (_ : Unit) (σ5 : Sg) => bd (fX1_bestSet  σ5) (fun (r10 : Int32) (σ11 : Sg) => bd (fX6_lossWithout r10 σ11) (fun (r13 : Int32) (σ14 : Sg) => some (.inr r13, σ14)))))
set_option maxHeartbeats 4000000 in
theorem conX6_leastLoss (l : Launch) (G : Gx) (ad : Nat → Nat)  (σ : Sg) (r : String ⊕ Int32) (σf : Sg) (hf : fX6_leastLoss  σ = some (r, σf)) : ConX wX l G ad yX6_leastLoss (Cond.code yX6_leastLoss cX6_leastLoss 1 (some .int)) rmX6_leastLoss 1 6 [.ref (ad 0)] σ (rI r) σf := by
  refine ConX.start (by decide) (Nat.le_of_ble_eq_true rfl) (fun X Q _ C Fr Fx => ?_)
  refine V_eq (L' := [(0, .ref (ad 0))]) (st' := []) rfl rfl rfl ?_
  unfold fX6_leastLoss at hf
  refine V_aload_n (q := 1) C dX6_leastLoss_0 rfl rfl 0 rfl ?_
  refine V_aload_n (q := 2) C dX6_leastLoss_1 rfl rfl 0 rfl ?_
  refine GX_0_2 (q := 5) C q_355 dX6_leastLoss_2 rfl ?_
  obtain ⟨r1, σ2, h3, hf⟩ := bd_s hf
  refine V_callVN (av := []) (st := [.ref (ad 0)]) (st1 := [.int r1, .ref (ad 0)]) (q := 8) C 3 (by decide) (eX_3 G ad _) rfl rfl (conX3_stayers _ _ _  _ _ _ h3) q_933 q_110 q_930 q_932 q_45 nmX3_stayers (by decide) rfl rfl (Nat.le_of_ble_eq_true rfl) dX6_leastLoss_5 rfl rfl ?_
  obtain ⟨z7, σ5, h6, hE, hA⟩ := bx_s hf
  refine V_callVX (av := [.int r1]) (st := []) (q := 11) (mc := 1) (ms := 6) C 0 (by decide) (eX_0 G ad _) rfl rfl (conX6_requireFeasible _ _ _ _ _ _ _ h6) q_848 q_107 q_845 q_847 q_38 nmX6_requireFeasible (by decide) rfl rfl (Nat.le_of_ble_eq_true rfl) dX6_leastLoss_8 rfl (by decide) (by decide) (fun E hz => by
    obtain rfl := rU_l hz
    obtain ⟨e1, e2⟩ := pr_s (hE _ rfl)
    subst e1; subst e2
    exact Fx _ rfl) (fun w8 h9 => ?_)
  obtain ⟨r4, rfl, rfl⟩ := rU_r h9
  replace hf := hA _ rfl
  refine V_eq (L' := [(0, .ref (ad 0))]) (st' := []) rfl rfl rfl ?_
  refine V_wide (k2 := 1) (n2 := 6) (by decide) (by decide) ?_
  refine V_aload_n (q := 12) C dX6_leastLoss_11 rfl rfl 0 rfl ?_
  refine V_aload_n (q := 13) C dX6_leastLoss_12 rfl rfl 0 rfl ?_
  refine GX_0_0 (q := 16) C q_353 dX6_leastLoss_13 rfl ?_
  obtain ⟨r10, σ11, h12, hf⟩ := bd_s hf
  refine V_callVN (av := []) (st := [.ref (ad 0)]) (st1 := [.int r10, .ref (ad 0)]) (q := 19) C 1 (by decide) (eX_1 G ad _) rfl rfl (conX1_bestSet _ _ _  _ _ _ h12) q_1099 q_108 q_1096 q_1098 q_61 nmX1_bestSet (by decide) rfl rfl (Nat.le_of_ble_eq_true rfl) dX6_leastLoss_16 rfl rfl ?_
  obtain ⟨r13, σ14, h15, hf⟩ := bd_s hf
  refine V_callV (av := [.int r10]) (st := []) (st1 := [.int r13]) (q := 22) C 0 (by decide) (eX_0 G ad _) rfl rfl (conX6_lossWithout _ _ _ _ _ _ _ h15) q_1117 q_107 q_1114 q_1116 q_62 nmX6_lossWithout (by decide) rfl rfl (Nat.le_of_ble_eq_true rfl) dX6_leastLoss_19 rfl rfl ?_
  obtain ⟨e1, e2⟩ := pr_s hf
  subst e1; subst e2
  exact V_iret C (Fr _ rfl) (by decide) (by decide) dX6_leastLoss_22
def rmX6_meanPriceBits : Room := { frames := 7, cells := 2, slots := 12, locals := 110 }
def fX6_meanPriceBits  (σ : Sg) : Option ((String ⊕ Int64) × Sg) := bx (fX6_requireAuction  σ) (fun E σE => some (.inl E, σE)) (fun (_ : Unit) (σ2 : Sg) => lt' ((pJ6_bitCount_0f7a4 (σ2 7 8))) (fun (x7 : Int32) => if x7 = 0 then (some (.inl "java/lang/ArithmeticException", σ2)) else (bd (fX6_sumOver_28 (σ2 7 8) σ2) (fun (r9 : Int32) (σ10 : Sg) => gd (n64 (FP.ddiv (FP.i2d r9) (FP.i2d x7))) (bd (fX6_doubleBits (FP.ddiv (FP.i2d r9) (FP.i2d x7)) σ10) (fun (r13 : Int64) (σ14 : Sg) => some (.inr r13, σ14)))))))
set_option maxHeartbeats 4000000 in
theorem conX6_meanPriceBits (l : Launch) (G : Gx) (ad : Nat → Nat)  (σ : Sg) (r : String ⊕ Int64) (σf : Sg) (hf : fX6_meanPriceBits  σ = some (r, σf)) : ConX wX l G ad yX6_meanPriceBits (Cond.code yX6_meanPriceBits cX6_meanPriceBits 2 (some .long)) rmX6_meanPriceBits 2 12 [.ref (ad 0)] σ (rL r) σf := by
  refine ConX.start (by decide) (Nat.le_of_ble_eq_true rfl) (fun X Q _ C Fr Fx => ?_)
  refine V_eq (L' := [(0, .ref (ad 0))]) (st' := []) rfl rfl rfl ?_
  unfold fX6_meanPriceBits at hf
  refine V_aload_n (q := 1) C dX6_meanPriceBits_0 rfl rfl 0 rfl ?_
  obtain ⟨z4, σ2, h3, hE, hA⟩ := bx_s hf
  refine V_callVX (av := []) (st := []) (q := 4) (mc := 2) (ms := 12) C 0 (by decide) (eX_0 G ad _) rfl rfl (conX6_requireAuction _ _ _  _ _ _ h3) q_989 q_107 q_986 q_988 q_56 nmX6_requireAuction (by decide) rfl rfl (Nat.le_of_ble_eq_true rfl) dX6_meanPriceBits_1 rfl (by decide) (by decide) (fun E hz => by
    obtain rfl := rU_l hz
    obtain ⟨e1, e2⟩ := pr_s (hE _ rfl)
    subst e1; subst e2
    exact Fx _ rfl) (fun w5 h6 => ?_)
  obtain ⟨r1, rfl, rfl⟩ := rU_r h6
  replace hf := hA _ rfl
  refine V_eq (L' := [(0, .ref (ad 0))]) (st' := []) rfl rfl rfl ?_
  refine V_wide (k2 := 1) (n2 := 6) (by decide) (by decide) ?_
  refine V_aload_n (q := 5) C dX6_meanPriceBits_4 rfl rfl 0 rfl ?_
  refine GX_0_6 (q := 8) C q_359 dX6_meanPriceBits_5 rfl ?_
  refine GNX_7_8 (q := 11) C q_327 dX6_meanPriceBits_8 rfl ?_
  refine V_callS (av := [.int (σ2 7 8)]) (st := []) (st1 := [.int (pJ6_bitCount_0f7a4 (σ2 7 8))]) (q := 14) C (conJ6_bitCount_0f7a4 _ _ _ _ _ _ rfl) q_727 q_126 q_866 q_726 nmJ6_bitCount_0f7a4 (by decide) rfl rfl (Nat.le_of_ble_eq_true rfl) dX6_meanPriceBits_11 rfl rfl ?_
  refine V_let (cv := Value.int) hf (fun x7 hf => ?_)
  refine V_istore_n (L' := [(1, .int x7), (0, .ref (ad 0))]) (q := 15) C dX6_meanPriceBits_14 rfl rfl (by decide) rfl ?_
  refine V_iload_n (q := 16) C dX6_meanPriceBits_15 rfl rfl 0 rfl ?_
  refine V_if_ne (t := 30) (q := 19) C dX6_meanPriceBits_16 (by decide) rfl (fun c8 => ?_) (fun c8 => ?_)
  · replace hf := (ite_s hf).2 c8
    refine V_aload_n (q := 31) C dX6_meanPriceBits_30 rfl rfl 1 rfl ?_
    refine GX_0_6 (q := 34) C q_359 dX6_meanPriceBits_31 rfl ?_
    refine GNX_7_1 (q := 37) C q_313 dX6_meanPriceBits_34 rfl ?_
    refine V_aload_n (q := 38) C dX6_meanPriceBits_37 rfl rfl 1 rfl ?_
    refine GX_0_6 (q := 41) C q_359 dX6_meanPriceBits_38 rfl ?_
    refine GNX_7_8 (q := 44) C q_327 dX6_meanPriceBits_41 rfl ?_
    obtain ⟨r9, σ10, h11, hf⟩ := bd_s hf
    refine V_callS (av := [.ref (ad 28), .int (σ2 7 8)]) (st := []) (st1 := [.int r9]) (q := 47) C (conX6_sumOver_28 _ _ _ _ _ _ _ h11) q_1072 q_107 q_1070 q_1071 nmX6_sumOver (by decide) rfl rfl (Nat.le_of_ble_eq_true rfl) dX6_meanPriceBits_44 rfl rfl ?_
    refine V_i2d (q := 48) C dX6_meanPriceBits_47 rfl ?_
    refine V_iload_n (q := 49) C dX6_meanPriceBits_48 rfl rfl 0 rfl ?_
    refine V_i2d (q := 50) C dX6_meanPriceBits_49 rfl ?_
    obtain ⟨g12, hf⟩ := gd_s hf
    refine V_ddiv (q := 51) C dX6_meanPriceBits_50 rfl (n64_s g12) ?_
    obtain ⟨r13, σ14, h15, hf⟩ := bd_s hf
    refine V_callS (av := [.double (FP.ddiv (FP.i2d r9) (FP.i2d x7))]) (st := []) (st1 := [.long r13]) (q := 54) C (conX6_doubleBits _ _ _ _ _ _ _ h15) q_1151 q_107 q_1149 q_1150 nmX6_doubleBits (by decide) rfl rfl (Nat.le_of_ble_eq_true rfl) dX6_meanPriceBits_51 rfl rfl ?_
    obtain ⟨e1, e2⟩ := pr_s hf
    subst e1; subst e2
    exact V_lret C (Fr _ rfl) (by decide) (by decide) dX6_meanPriceBits_54
  · replace hf := (ite_s hf).1 c8
    obtain ⟨e1, e2⟩ := pr_s hf
    subst e1; subst e2
    exact V_throwSW (text := "no station is frozen") C rfl (Fx _ rfl) rfl q_1146 q_131 (by decide) xa_336 xg_336 dX6_meanPriceBits_19 dX6_meanPriceBits_22 dX6_meanPriceBits_23 dX6_meanPriceBits_26 dX6_meanPriceBits_29 (by decide) (Nat.le_of_ble_eq_true rfl) (by decide) (by decide) (by decide) (by decide)
def rmX0_begin : Room := { frames := 5, cells := 0, slots := 0, locals := 106 }
def fX0_begin (a : Int32) (σ : Sg) : Option (Unit × Sg) := lt' (sup σ 7 4 (1 : Int32)) (fun (σ1 : Sg) => lt' (sup σ1 7 5 (0 : Int32)) (fun (σ2 : Sg) => lt' (sup σ2 27 0 a) (fun (σ3 : Sg) => bd (fX3_stayers  σ3) (fun (r4 : Int32) (σ5 : Sg) => lt' (sup σ5 7 6 r4) (fun (σ7 : Sg) => lt' (sup σ7 7 7 (σ7 3 7)) (fun (σ8 : Sg) => lt' (sup σ8 7 8 (0 : Int32)) (fun (σ9 : Sg) => lt' (sup σ9 7 9 (0 : Int32)) (fun (σ10 : Sg) => bd (fX0_priceBidders  σ10) (fun (_ : Unit) (σ11 : Sg) => some ((), σ11))))))))))
set_option maxHeartbeats 4000000 in
theorem conX0_begin (l : Launch) (G : Gx) (ad : Nat → Nat) (a : Int32) (σ : Sg) (σf : Sg)  (hf : fX0_begin a σ = some ((), σf)) : Con wX l G ad yX0_begin (Cond.code yX0_begin cX0_begin 3 none) rmX0_begin 0 0 [.ref (ad 7), .ref (ad 3), .int a] σ none σf := by
  refine Con.start (by decide) (Nat.le_of_ble_eq_true rfl) (fun X Q _ C F => ?_)
  refine V_eq (L' := [(0, .ref (ad 7)), (1, .ref (ad 3)), (2, .int a)]) (st' := []) rfl rfl rfl ?_
  unfold fX0_begin at hf
  refine V_aload_n (q := 1) C dX0_begin_0 rfl rfl 0 rfl ?_
  refine V_iconst (v := 1) (q := 2) C dX0_begin_1 rfl ic_1 ?_
  refine PX_7_4 (q := 5) C (by decide) q_318 dX0_begin_2 rfl ?_
  refine V_lets hf (fun σ1 hf => ?_)
  refine V_aload_n (q := 6) C dX0_begin_5 rfl rfl 0 rfl ?_
  refine V_iconst (v := 0) (q := 7) C dX0_begin_6 rfl ic_0 ?_
  refine PX_7_5 (q := 10) C q_320 dX0_begin_7 rfl ?_
  refine V_lets hf (fun σ2 hf => ?_)
  refine V_aload_n (q := 11) C dX0_begin_10 rfl rfl 0 rfl ?_
  refine GX_7_0 (q := 14) C q_310 dX0_begin_11 rfl ?_
  refine V_iconst (v := 0) (q := 15) C dX0_begin_14 rfl ic_0 ?_
  refine V_iload_n (q := 16) C dX0_begin_15 rfl rfl 2 rfl ?_
  refine SX_27 (z := 0) (q := 17) C tn_0 (inb_in (by decide)) dX0_begin_16 rfl ?_
  refine V_lets hf (fun σ3 hf => ?_)
  refine V_aload_n (q := 18) C dX0_begin_17 rfl rfl 0 rfl ?_
  refine V_aload_n (q := 19) C dX0_begin_18 rfl rfl 1 rfl ?_
  obtain ⟨r4, σ5, h6, hf⟩ := bd_s hf
  refine V_callVN (av := []) (st := [.ref (ad 7)]) (st1 := [.int r4, .ref (ad 7)]) (q := 22) C 3 (by decide) (eX_3 G ad _) rfl rfl (conX3_stayers _ _ _  _ _ _ h6) q_933 q_110 q_938 q_932 q_45 nmX3_stayers (by decide) rfl rfl (Nat.le_of_ble_eq_true rfl) dX0_begin_19 rfl rfl ?_
  refine PX_7_6 (q := 25) C q_322 dX0_begin_22 rfl ?_
  refine V_lets hf (fun σ7 hf => ?_)
  refine V_aload_n (q := 26) C dX0_begin_25 rfl rfl 0 rfl ?_
  refine V_aload_n (q := 27) C dX0_begin_26 rfl rfl 1 rfl ?_
  refine GNX_3_7 (q := 30) C q_184 dX0_begin_27 rfl ?_
  refine PX_7_7 (q := 33) C q_324 dX0_begin_30 rfl ?_
  refine V_lets hf (fun σ8 hf => ?_)
  refine V_aload_n (q := 34) C dX0_begin_33 rfl rfl 0 rfl ?_
  refine V_iconst (v := 0) (q := 35) C dX0_begin_34 rfl ic_0 ?_
  refine PX_7_8 (q := 38) C q_326 dX0_begin_35 rfl ?_
  refine V_lets hf (fun σ9 hf => ?_)
  refine V_aload_n (q := 39) C dX0_begin_38 rfl rfl 0 rfl ?_
  refine V_iconst (v := 0) (q := 40) C dX0_begin_39 rfl ic_0 ?_
  refine PX_7_9 (q := 43) C q_328 dX0_begin_40 rfl ?_
  refine V_lets hf (fun σ10 hf => ?_)
  refine V_aload_n (q := 44) C dX0_begin_43 rfl rfl 0 rfl ?_
  refine V_aload_n (q := 45) C dX0_begin_44 rfl rfl 1 rfl ?_
  obtain ⟨_u, σ11, h12, hf⟩ := bd_s hf
  refine V_callV (av := [.ref (ad 3)]) (st := []) (st1 := []) (q := 48) C 7 (by decide) (eX_7 G ad _) rfl rfl (conX0_priceBidders _ _ _  _ _ h12) q_942 q_113 q_939 q_941 q_47 nmX0_priceBidders (by decide) rfl rfl (Nat.le_of_ble_eq_true rfl) dX0_begin_45 rfl rfl ?_
  obtain ⟨-, e2⟩ := pr_s hf
  subst e2
  exact V_vret C F (by decide) (by decide) dX0_begin_48
def rmX6_rankStations : Room := { frames := 3, cells := 0, slots := 0, locals := 62 }
def fX6_rankStations_41 (x1 : Int32) (x2 : Int32) (r8 : UInt32) (K : Int32 → Sg → Option (Int32 × Sg)) : Nat → Int32 → Sg → Option (Int32 × Sg)
  | 0, _, _ => none
  | n + 1, x11, σ12 => if x11 ≤ 0 then (K x11 σ12) else (gd (inb (x11 - (1 : Int32)) 12) (bd (fX3_volume (σ12 10 ((x11 - (1 : Int32)).toNatClampNeg)) σ12) (fun (r16 : UInt32) (σ17 : Sg) => if 0 ≤ (Op.cmpValue (FP.fcmp r16 r8) CmpOp.g) then (K x11 σ17) else (gd (inb (x11 - (1 : Int32)) 12) (gd (inb x11 12) (lt' (sup σ17 10 x11.toNatClampNeg (σ17 10 ((x11 - (1 : Int32)).toNatClampNeg))) (fun (σ22 : Sg) => fX6_rankStations_41 x1 x2 r8 K n (x11 + (-1 : Int32)) σ22)))))))
def fX6_rankStations_4 : Nat → Int32 → Int32 → Sg → Option (Int32 × Sg)
  | 0, _, _, _ => none
  | n + 1, x1, x2, σ3 => if (σ3 3 6) ≤ x2 then (some (x1, σ3)) else (jp (fun (y5 : Int32) (σ6 : Sg) => fX6_rankStations_4 n y5 (x2 + (1 : Int32)) σ6) (fun (J100 : Int32 → Sg → Option (Int32 × Sg)) => if (pX6_contains (σ3 3 7) x2) = 0 then (J100 x1 σ3) else (bd (fX3_volume x2 σ3) (fun (r8 : UInt32) (σ9 : Sg) => fX6_rankStations_41 x1 x2 r8 (fun (y13 : Int32) (σ23 : Sg) => gd (inb y13 12) (lt' (sup σ23 10 y13.toNatClampNeg x2) (fun (σ25 : Sg) => J100 (x1 + (1 : Int32)) σ25))) FU x1 σ9))))
def fX6_rankStations  (σ : Sg) : Option (Int32 × Sg) := fX6_rankStations_4 FU (0 : Int32) (0 : Int32) σ
set_option maxHeartbeats 4000000 in
theorem wlX6_rankStations_41 {X : Cx} {G : Gx} {ad : Nat → Nat} {Q : State → Prop} {r : Int32} {σf : Sg} (C : OK wX X G ad RX6 cX6_rankStations 5 rmX6_rankStations) (F : FinR wX X G ad Q 0 0 (some .int) (some (.int r)) σf) (x1 : Int32) (x2 : Int32) (r8 : UInt32) (K : Int32 → Sg → Option (Int32 × Sg)) (hK : ∀ (y13 : Int32) (σk : Sg), K y13 σk = some (r, σf) → V wX X G ad 5 Q 0 0 σk 89 [(0, .ref (ad 0)), (1, .int x1), (2, .int x2), (4, .int y13)] []) : ∀ (n : Nat) (x11 : Int32) (σ12 : Sg), fX6_rankStations_41 x1 x2 r8 K n x11 σ12 = some (r, σf) → V wX X G ad 5 Q 0 0 σ12 41 [(0, .ref (ad 0)), (1, .int x1), (2, .int x2), (3, .float r8), (4, .int x11)] [] := by
  intro n
  induction n with
  | zero =>
    intro _ _ hf
    exact absurd hf (by simp [fX6_rankStations_41])
  | succ n ih =>
    intro x11 σ12 hf
    rw [fX6_rankStations_41] at hf
    refine V_iload (q := 43) C dX6_rankStations_41 rfl 4 rfl ?_
    refine V_if_le (t := 89) (q := 46) C dX6_rankStations_43 (by decide) rfl (fun c14 => ?_) (fun c14 => ?_)
    · replace hf := (ite_s hf).1 c14
      refine V_sub (L' := [(0, .ref (ad 0)), (1, .int x1), (2, .int x2), (4, .int x11)]) [0, 1, 2, 4] rfl ?_
      exact hK _ _ hf
    · replace hf := (ite_s hf).2 c14
      refine V_aload_n (q := 47) C dX6_rankStations_46 rfl rfl 0 rfl ?_
      refine GX_0_2 (q := 50) C q_355 dX6_rankStations_47 rfl ?_
      refine V_aload_n (q := 51) C dX6_rankStations_50 rfl rfl 0 rfl ?_
      refine GX_0_9 (q := 54) C q_362 dX6_rankStations_51 rfl ?_
      refine V_iload (q := 56) C dX6_rankStations_54 rfl 4 rfl ?_
      refine V_iconst (v := 1) (q := 57) C dX6_rankStations_56 rfl ic_1 ?_
      refine V_isub (q := 58) C dX6_rankStations_57 rfl ?_
      obtain ⟨g15, hf⟩ := gd_s hf
      refine RX_10 (z := (x11 - (1 : Int32)).toNatClampNeg) (q := 59) C rfl (inb_in g15) dX6_rankStations_58 rfl ?_
      obtain ⟨r16, σ17, h18, hf⟩ := bd_s hf
      refine V_callVN (av := [.int (σ12 10 ((x11 - (1 : Int32)).toNatClampNeg))]) (st := []) (st1 := [.float r16]) (q := 62) C 3 (by decide) (eX_3 G ad _) rfl rfl (conX3_volume _ _ _ _ _ _ _ h18) q_742 q_110 q_739 q_741 q_24 nmX3_volume (by decide) rfl rfl (Nat.le_of_ble_eq_true rfl) dX6_rankStations_59 rfl rfl ?_
      refine V_fload_n (q := 63) C dX6_rankStations_62 rfl rfl 3 rfl ?_
      refine V_fcmp (q := 64) C dX6_rankStations_63 rfl ?_
      refine V_if_ge (t := 89) (q := 67) C dX6_rankStations_64 (by decide) rfl (fun c19 => ?_) (fun c19 => ?_)
      · replace hf := (ite_s hf).1 c19
        refine V_sub (L' := [(0, .ref (ad 0)), (1, .int x1), (2, .int x2), (4, .int x11)]) [0, 1, 2, 4] rfl ?_
        exact hK _ _ hf
      · replace hf := (ite_s hf).2 c19
        refine V_aload_n (q := 68) C dX6_rankStations_67 rfl rfl 0 rfl ?_
        refine GX_0_9 (q := 71) C q_362 dX6_rankStations_68 rfl ?_
        refine V_iload (q := 73) C dX6_rankStations_71 rfl 4 rfl ?_
        refine V_aload_n (q := 74) C dX6_rankStations_73 rfl rfl 0 rfl ?_
        refine GX_0_9 (q := 77) C q_362 dX6_rankStations_74 rfl ?_
        refine V_iload (q := 79) C dX6_rankStations_77 rfl 4 rfl ?_
        refine V_iconst (v := 1) (q := 80) C dX6_rankStations_79 rfl ic_1 ?_
        refine V_isub (q := 81) C dX6_rankStations_80 rfl ?_
        obtain ⟨g20, hf⟩ := gd_s hf
        refine RX_10 (z := (x11 - (1 : Int32)).toNatClampNeg) (q := 82) C rfl (inb_in g20) dX6_rankStations_81 rfl ?_
        obtain ⟨g21, hf⟩ := gd_s hf
        refine SX_10 (z := x11.toNatClampNeg) (q := 83) C rfl (inb_in g21) dX6_rankStations_82 rfl ?_
        refine V_lets hf (fun σ22 hf => ?_)
        refine V_iinc (L' := [(4, .int (x11 + (-1 : Int32))), (0, .ref (ad 0)), (1, .int x1), (2, .int x2), (3, .float r8)]) (q := 86) C dX6_rankStations_83 rfl 4 rfl (congrArg (fun y => x11 + y) ic_m1) (by decide) rfl ?_
        refine V_goto (t := 41) C dX6_rankStations_86 (by decide) ?_
        refine V_sub (L' := [(0, .ref (ad 0)), (1, .int x1), (2, .int x2), (3, .float r8), (4, .int (x11 + (-1 : Int32)))]) [1, 2, 3, 4, 0] rfl ?_
        exact ih _ _ hf
set_option maxHeartbeats 4000000 in
theorem wlX6_rankStations_4 {X : Cx} {G : Gx} {ad : Nat → Nat} {Q : State → Prop} {r : Int32} {σf : Sg} (C : OK wX X G ad RX6 cX6_rankStations 5 rmX6_rankStations) (F : FinR wX X G ad Q 0 0 (some .int) (some (.int r)) σf) : ∀ (n : Nat) (x1 : Int32) (x2 : Int32) (σ3 : Sg), fX6_rankStations_4 n x1 x2 σ3 = some (r, σf) → V wX X G ad 5 Q 0 0 σ3 4 [(0, .ref (ad 0)), (1, .int x1), (2, .int x2)] [] := by
  intro n
  induction n with
  | zero =>
    intro _ _ _ hf
    exact absurd hf (by simp [fX6_rankStations_4])
  | succ n ih =>
    intro x1 x2 σ3 hf
    rw [fX6_rankStations_4] at hf
    refine V_iload_n (q := 5) C dX6_rankStations_4 rfl rfl 2 rfl ?_
    refine V_aload_n (q := 6) C dX6_rankStations_5 rfl rfl 0 rfl ?_
    refine GX_0_2 (q := 9) C q_355 dX6_rankStations_6 rfl ?_
    refine GNX_3_6 (q := 12) C q_181 dX6_rankStations_9 rfl ?_
    refine V_icmp_ge (t := 106) (q := 15) C dX6_rankStations_12 (by decide) rfl (fun c4 => ?_) (fun c4 => ?_)
    · replace hf := (ite_s hf).1 c4
      refine V_iload_n (q := 107) C dX6_rankStations_106 rfl rfl 1 rfl ?_
      obtain ⟨e1, e2⟩ := pr_s hf
      subst e1; subst e2
      exact V_iret C F (by decide) (by decide) dX6_rankStations_107
    · replace hf := (ite_s hf).2 c4
      refine V_aload_n (q := 16) C dX6_rankStations_15 rfl rfl 0 rfl ?_
      refine GX_0_2 (q := 19) C q_355 dX6_rankStations_16 rfl ?_
      refine GNX_3_7 (q := 22) C q_186 dX6_rankStations_19 rfl ?_
      refine V_iload_n (q := 23) C dX6_rankStations_22 rfl rfl 2 rfl ?_
      refine V_callS (av := [.int (σ3 3 7), .int x2]) (st := []) (st1 := [.int (pX6_contains (σ3 3 7) x2)]) (q := 26) C (conX6_contains _ _ _ _ _ _ _ rfl) q_612 q_107 q_610 q_611 nmX6_contains (by decide) rfl rfl (Nat.le_of_ble_eq_true rfl) dX6_rankStations_23 rfl rfl ?_
      obtain ⟨J100, eJ100, hf⟩ := jp_s hf
      have hJ100 : ∀ (y5 : Int32) (σ6 : Sg), J100 y5 σ6 = some (r, σf) → V wX X G ad 5 Q 0 0 σ6 100 [(0, .ref (ad 0)), (1, .int y5), (2, .int x2)] [] := by
        intro y5 σ6 hf
        subst eJ100
        refine V_iinc (L' := [(2, .int (x2 + (1 : Int32))), (0, .ref (ad 0)), (1, .int y5)]) (q := 103) C dX6_rankStations_100 rfl 2 rfl (congrArg (fun y => x2 + y) ic_1) (by decide) rfl ?_
        refine V_goto (t := 4) C dX6_rankStations_103 (by decide) ?_
        refine V_sub (L' := [(0, .ref (ad 0)), (1, .int y5), (2, .int (x2 + (1 : Int32)))]) [1, 2, 0] rfl ?_
        exact ih _ _ _ hf
      refine V_if_eq (t := 100) (q := 29) C dX6_rankStations_26 (by decide) rfl (fun c7 => ?_) (fun c7 => ?_)
      · replace hf := (ite_s hf).1 c7
        exact hJ100 _ _ hf
      · replace hf := (ite_s hf).2 c7
        refine V_aload_n (q := 30) C dX6_rankStations_29 rfl rfl 0 rfl ?_
        refine GX_0_2 (q := 33) C q_355 dX6_rankStations_30 rfl ?_
        refine V_iload_n (q := 34) C dX6_rankStations_33 rfl rfl 2 rfl ?_
        obtain ⟨r8, σ9, h10, hf⟩ := bd_s hf
        refine V_callVN (av := [.int x2]) (st := []) (st1 := [.float r8]) (q := 37) C 3 (by decide) (eX_3 G ad _) rfl rfl (conX3_volume _ _ _ _ _ _ _ h10) q_742 q_110 q_739 q_741 q_24 nmX3_volume (by decide) rfl rfl (Nat.le_of_ble_eq_true rfl) dX6_rankStations_34 rfl rfl ?_
        refine V_fstore_n (L' := [(3, .float r8), (0, .ref (ad 0)), (1, .int x1), (2, .int x2)]) (q := 38) C dX6_rankStations_37 rfl rfl (by decide) rfl ?_
        refine V_iload_n (q := 39) C dX6_rankStations_38 rfl rfl 2 rfl ?_
        refine V_istore (L' := [(4, .int x1), (3, .float r8), (0, .ref (ad 0)), (1, .int x1), (2, .int x2)]) (q := 41) C dX6_rankStations_39 rfl (by decide) rfl ?_
        refine V_sub (L' := [(0, .ref (ad 0)), (1, .int x1), (2, .int x2), (3, .float r8), (4, .int x1)]) [2, 3, 4, 1, 0] rfl ?_
        refine wlX6_rankStations_41 C F x1 x2 r8 _ (fun y13 σ23 hf => ?_) FU _ _ hf
        refine V_aload_n (q := 90) C dX6_rankStations_89 rfl rfl 0 rfl ?_
        refine GX_0_9 (q := 93) C q_362 dX6_rankStations_90 rfl ?_
        refine V_iload (q := 95) C dX6_rankStations_93 rfl 3 rfl ?_
        refine V_iload_n (q := 96) C dX6_rankStations_95 rfl rfl 2 rfl ?_
        obtain ⟨g24, hf⟩ := gd_s hf
        refine SX_10 (z := y13.toNatClampNeg) (q := 97) C rfl (inb_in g24) dX6_rankStations_96 rfl ?_
        refine V_lets hf (fun σ25 hf => ?_)
        refine V_iinc (L' := [(1, .int (x1 + (1 : Int32))), (0, .ref (ad 0)), (2, .int x2), (4, .int y13)]) (q := 100) C dX6_rankStations_97 rfl 1 rfl (congrArg (fun y => x1 + y) ic_1) (by decide) rfl ?_
        refine V_sub (L' := [(0, .ref (ad 0)), (1, .int (x1 + (1 : Int32))), (2, .int x2)]) [1, 0, 2] rfl ?_
        exact hJ100 _ _ hf
set_option maxHeartbeats 4000000 in
theorem conX6_rankStations (l : Launch) (G : Gx) (ad : Nat → Nat)  (σ : Sg) (r : Int32) (σf : Sg)  (hf : fX6_rankStations  σ = some (r, σf)) : Con wX l G ad yX6_rankStations (Cond.code yX6_rankStations cX6_rankStations 5 (some .int)) rmX6_rankStations 0 0 [.ref (ad 0)] σ (some (.int r)) σf := by
  refine Con.start (by decide) (Nat.le_of_ble_eq_true rfl) (fun X Q _ C F => ?_)
  refine V_eq (L' := [(0, .ref (ad 0))]) (st' := []) rfl rfl rfl ?_
  unfold fX6_rankStations at hf
  refine V_iconst (v := 0) (q := 1) C dX6_rankStations_0 rfl ic_0 ?_
  refine V_istore_n (L' := [(1, .int (0 : Int32)), (0, .ref (ad 0))]) (q := 2) C dX6_rankStations_1 rfl rfl (by decide) rfl ?_
  refine V_iconst (v := 0) (q := 3) C dX6_rankStations_2 rfl ic_0 ?_
  refine V_istore_n (L' := [(2, .int (0 : Int32)), (1, .int (0 : Int32)), (0, .ref (ad 0))]) (q := 4) C dX6_rankStations_3 rfl rfl (by decide) rfl ?_
  refine V_sub (L' := [(0, .ref (ad 0)), (1, .int (0 : Int32)), (2, .int (0 : Int32))]) [2, 1, 0] rfl ?_
  refine wlX6_rankStations_4 C F FU _ _ _ hf
def rmX0_freezeBidders : Room := { frames := 2, cells := 0, slots := 0, locals := 45 }
def fX0_freezeBidders_2 : Nat → Int32 → Sg → Option (Unit × Sg)
  | 0, _, _ => none
  | n + 1, x1, σ2 => if (12 : Int32) ≤ x1 then (some ((), σ2)) else (jp (fun (σ4 : Sg) => fX0_freezeBidders_2 n (x1 + (1 : Int32)) σ4) (fun (J26 : Sg → Option (Unit × Sg)) => if (pX6_contains (σ2 7 7) x1) = 0 then (J26  σ2) else (bd (fX0_freeze x1 (-1 : Int32) (2 : Int32) σ2) (fun (_ : Unit) (σ6 : Sg) => J26  σ6))))
def fX0_freezeBidders  (σ : Sg) : Option (Unit × Sg) := fX0_freezeBidders_2 FU (0 : Int32) σ
set_option maxHeartbeats 4000000 in
theorem wlX0_freezeBidders_2 {X : Cx} {G : Gx} {ad : Nat → Nat} {Q : State → Prop} {σf : Sg} (C : OK wX X G ad RX0 cX0_freezeBidders 2 rmX0_freezeBidders) (F : FinR wX X G ad Q 0 0 none none σf) : ∀ (n : Nat) (x1 : Int32) (σ2 : Sg), fX0_freezeBidders_2 n x1 σ2 = some ((), σf) → V wX X G ad 2 Q 0 0 σ2 2 [(0, .ref (ad 7)), (1, .int x1)] [] := by
  intro n
  induction n with
  | zero =>
    intro _ _ hf
    exact absurd hf (by simp [fX0_freezeBidders_2])
  | succ n ih =>
    intro x1 σ2 hf
    rw [fX0_freezeBidders_2] at hf
    refine V_iload_n (q := 3) C dX0_freezeBidders_2 rfl rfl 1 rfl ?_
    refine V_bipush (v := 12) (q := 5) C dX0_freezeBidders_3 rfl bc_12 ?_
    refine V_icmp_ge (t := 32) (q := 8) C dX0_freezeBidders_5 (by decide) rfl (fun c3 => ?_) (fun c3 => ?_)
    · replace hf := (ite_s hf).1 c3
      obtain ⟨-, e2⟩ := pr_s hf
      subst e2
      exact V_vret C F (by decide) (by decide) dX0_freezeBidders_32
    · replace hf := (ite_s hf).2 c3
      refine V_aload_n (q := 9) C dX0_freezeBidders_8 rfl rfl 0 rfl ?_
      refine GX_7_7 (q := 12) C q_324 dX0_freezeBidders_9 rfl ?_
      refine V_iload_n (q := 13) C dX0_freezeBidders_12 rfl rfl 1 rfl ?_
      refine V_callSN (av := [.int (σ2 7 7), .int x1]) (st := []) (st1 := [.int (pX6_contains (σ2 7 7) x1)]) (q := 16) C (conX6_contains _ _ _ _ _ _ _ rfl) q_612 q_107 q_943 q_611 nmX6_contains (by decide) rfl rfl (Nat.le_of_ble_eq_true rfl) dX0_freezeBidders_13 rfl rfl ?_
      obtain ⟨J26, eJ26, hf⟩ := jp_s hf
      have hJ26 : ∀ (σ4 : Sg), J26 σ4 = some ((), σf) → V wX X G ad 2 Q 0 0 σ4 26 [(0, .ref (ad 7)), (1, .int x1)] [] := by
        intro σ4 hf
        subst eJ26
        refine V_iinc (L' := [(1, .int (x1 + (1 : Int32))), (0, .ref (ad 7))]) (q := 29) C dX0_freezeBidders_26 rfl 1 rfl (congrArg (fun y => x1 + y) ic_1) (by decide) rfl ?_
        refine V_goto (t := 2) C dX0_freezeBidders_29 (by decide) ?_
        refine V_sub (L' := [(0, .ref (ad 7)), (1, .int (x1 + (1 : Int32)))]) [1, 0] rfl ?_
        exact ih _ _ hf
      refine V_if_eq (t := 26) (q := 19) C dX0_freezeBidders_16 (by decide) rfl (fun c5 => ?_) (fun c5 => ?_)
      · replace hf := (ite_s hf).1 c5
        exact hJ26 _ hf
      · replace hf := (ite_s hf).2 c5
        refine V_aload_n (q := 20) C dX0_freezeBidders_19 rfl rfl 0 rfl ?_
        refine V_iload_n (q := 21) C dX0_freezeBidders_20 rfl rfl 1 rfl ?_
        refine V_iconst (v := (-1)) (q := 22) C dX0_freezeBidders_21 rfl ic_m1 ?_
        refine V_iconst (v := 2) (q := 23) C dX0_freezeBidders_22 rfl ic_2 ?_
        obtain ⟨_u, σ6, h7, hf⟩ := bd_s hf
        refine V_callV (av := [.int x1, .int (-1 : Int32), .int (2 : Int32)]) (st := []) (st1 := []) (q := 26) C 7 (by decide) (eX_7 G ad _) rfl rfl (conX0_freeze _ _ _ _ _ _ _ _ h7) q_960 q_113 q_973 q_959 q_51 nmX0_freeze (by decide) rfl rfl (Nat.le_of_ble_eq_true rfl) dX0_freezeBidders_23 rfl rfl ?_
        exact hJ26 _ hf
set_option maxHeartbeats 4000000 in
theorem conX0_freezeBidders (l : Launch) (G : Gx) (ad : Nat → Nat)  (σ : Sg) (σf : Sg)  (hf : fX0_freezeBidders  σ = some ((), σf)) : Con wX l G ad yX0_freezeBidders (Cond.code yX0_freezeBidders cX0_freezeBidders 2 none) rmX0_freezeBidders 0 0 [.ref (ad 7)] σ none σf := by
  refine Con.start (by decide) (Nat.le_of_ble_eq_true rfl) (fun X Q _ C F => ?_)
  refine V_eq (L' := [(0, .ref (ad 7))]) (st' := []) rfl rfl rfl ?_
  unfold fX0_freezeBidders at hf
  refine V_iconst (v := 0) (q := 1) C dX0_freezeBidders_0 rfl ic_0 ?_
  refine V_istore_n (L' := [(1, .int (0 : Int32)), (0, .ref (ad 7))]) (q := 2) C dX0_freezeBidders_1 rfl rfl (by decide) rfl ?_
  refine V_sub (L' := [(0, .ref (ad 7)), (1, .int (0 : Int32))]) [1, 0] rfl ?_
  refine wlX0_freezeBidders_2 C F FU _ _ hf
def rmX6_playRound : Room := { frames := 20, cells := 0, slots := 0, locals := 587 }
def fX6_playRound_23 (x2 : Int32) (r3 : Int32) (K : Sg → Option (Unit × Sg)) : Nat → Int32 → Sg → Option (Unit × Sg)
  | 0, _, _ => none
  | n + 1, x6, σ7 => if r3 ≤ x6 then (K σ7) else (gd (inb x6 12) (jp (fun (σ10 : Sg) => fX6_playRound_23 x2 r3 K n (x6 + (1 : Int32)) σ10) (fun (J58 : Sg → Option (Unit × Sg)) => if (pX6_contains (σ7 7 7) (σ7 10 x6.toNatClampNeg)) = 0 then (J58  σ7) else (gd (inb x6 12) (bd (fX6_consider (σ7 10 x6.toNatClampNeg) x2 σ7) (fun (_ : Unit) (σ13 : Sg) => J58  σ13))))))
def fX6_playRound  (σ : Sg) : Option (Unit × Sg) := gd (inb (σ 7 5) 101) (lt' ((σ 27 ((σ 7 5).toNatClampNeg))) (fun (x2 : Int32) => bd (fX6_rankStations  σ) (fun (r3 : Int32) (σ4 : Sg) => fX6_playRound_23 x2 r3 (fun (σ15 : Sg) => if x2 = 0 then (bd (fX0_freezeBidders  σ15) (fun (_ : Unit) (σ17 : Sg) => some ((), σ17))) else (some ((), σ15))) FU (0 : Int32) σ4)))
set_option maxHeartbeats 4000000 in
theorem wlX6_playRound_23 {X : Cx} {G : Gx} {ad : Nat → Nat} {Q : State → Prop} {σf : Sg} (C : OK wX X G ad RX6 cX6_playRound 4 rmX6_playRound) (F : FinR wX X G ad Q 0 0 none none σf) (x2 : Int32) (r3 : Int32) (K : Sg → Option (Unit × Sg)) (hK : ∀ (σk : Sg), K σk = some ((), σf) → V wX X G ad 4 Q 0 0 σk 64 [(0, .ref (ad 0)), (1, .int x2)] []) : ∀ (n : Nat) (x6 : Int32) (σ7 : Sg), fX6_playRound_23 x2 r3 K n x6 σ7 = some ((), σf) → V wX X G ad 4 Q 0 0 σ7 23 [(0, .ref (ad 0)), (1, .int x2), (2, .int r3), (3, .int x6)] [] := by
  intro n
  induction n with
  | zero =>
    intro _ _ hf
    exact absurd hf (by simp [fX6_playRound_23])
  | succ n ih =>
    intro x6 σ7 hf
    rw [fX6_playRound_23] at hf
    refine V_iload_n (q := 24) C dX6_playRound_23 rfl rfl 3 rfl ?_
    refine V_iload_n (q := 25) C dX6_playRound_24 rfl rfl 2 rfl ?_
    refine V_icmp_ge (t := 64) (q := 28) C dX6_playRound_25 (by decide) rfl (fun c8 => ?_) (fun c8 => ?_)
    · replace hf := (ite_s hf).1 c8
      refine V_sub (L' := [(0, .ref (ad 0)), (1, .int x2)]) [0, 1] rfl ?_
      exact hK _ hf
    · replace hf := (ite_s hf).2 c8
      refine V_aload_n (q := 29) C dX6_playRound_28 rfl rfl 0 rfl ?_
      refine GX_0_6 (q := 32) C q_359 dX6_playRound_29 rfl ?_
      refine GNX_7_7 (q := 35) C q_325 dX6_playRound_32 rfl ?_
      refine V_aload_n (q := 36) C dX6_playRound_35 rfl rfl 0 rfl ?_
      refine GX_0_9 (q := 39) C q_362 dX6_playRound_36 rfl ?_
      refine V_iload_n (q := 40) C dX6_playRound_39 rfl rfl 3 rfl ?_
      obtain ⟨g9, hf⟩ := gd_s hf
      refine RX_10 (z := x6.toNatClampNeg) (q := 41) C rfl (inb_in g9) dX6_playRound_40 rfl ?_
      refine V_callS (av := [.int (σ7 7 7), .int (σ7 10 x6.toNatClampNeg)]) (st := []) (st1 := [.int (pX6_contains (σ7 7 7) (σ7 10 x6.toNatClampNeg))]) (q := 44) C (conX6_contains _ _ _ _ _ _ _ rfl) q_612 q_107 q_610 q_611 nmX6_contains (by decide) rfl rfl (Nat.le_of_ble_eq_true rfl) dX6_playRound_41 rfl rfl ?_
      obtain ⟨J58, eJ58, hf⟩ := jp_s hf
      have hJ58 : ∀ (σ10 : Sg), J58 σ10 = some ((), σf) → V wX X G ad 4 Q 0 0 σ10 58 [(0, .ref (ad 0)), (1, .int x2), (2, .int r3), (3, .int x6)] [] := by
        intro σ10 hf
        subst eJ58
        refine V_iinc (L' := [(3, .int (x6 + (1 : Int32))), (0, .ref (ad 0)), (1, .int x2), (2, .int r3)]) (q := 61) C dX6_playRound_58 rfl 3 rfl (congrArg (fun y => x6 + y) ic_1) (by decide) rfl ?_
        refine V_goto (t := 23) C dX6_playRound_61 (by decide) ?_
        refine V_sub (L' := [(0, .ref (ad 0)), (1, .int x2), (2, .int r3), (3, .int (x6 + (1 : Int32)))]) [1, 2, 3, 0] rfl ?_
        exact ih _ _ hf
      refine V_if_eq (t := 58) (q := 47) C dX6_playRound_44 (by decide) rfl (fun c11 => ?_) (fun c11 => ?_)
      · replace hf := (ite_s hf).1 c11
        exact hJ58 _ hf
      · replace hf := (ite_s hf).2 c11
        refine V_aload_n (q := 48) C dX6_playRound_47 rfl rfl 0 rfl ?_
        refine V_aload_n (q := 49) C dX6_playRound_48 rfl rfl 0 rfl ?_
        refine GX_0_9 (q := 52) C q_362 dX6_playRound_49 rfl ?_
        refine V_iload_n (q := 53) C dX6_playRound_52 rfl rfl 3 rfl ?_
        obtain ⟨g12, hf⟩ := gd_s hf
        refine RX_10 (z := x6.toNatClampNeg) (q := 54) C rfl (inb_in g12) dX6_playRound_53 rfl ?_
        refine V_iload_n (q := 55) C dX6_playRound_54 rfl rfl 1 rfl ?_
        obtain ⟨_u, σ13, h14, hf⟩ := bd_s hf
        refine V_callV (av := [.int (σ7 10 x6.toNatClampNeg), .int x2]) (st := []) (st1 := []) (q := 58) C 0 (by decide) (eX_0 G ad _) rfl rfl (conX6_consider _ _ _ _ _ _ _ h14) q_956 q_107 q_953 q_955 q_50 nmX6_consider (by decide) rfl rfl (Nat.le_of_ble_eq_true rfl) dX6_playRound_55 rfl rfl ?_
        exact hJ58 _ hf
set_option maxHeartbeats 4000000 in
theorem conX6_playRound (l : Launch) (G : Gx) (ad : Nat → Nat)  (σ : Sg) (σf : Sg)  (hf : fX6_playRound  σ = some ((), σf)) : Con wX l G ad yX6_playRound (Cond.code yX6_playRound cX6_playRound 4 none) rmX6_playRound 0 0 [.ref (ad 0)] σ none σf := by
  refine Con.start (by decide) (Nat.le_of_ble_eq_true rfl) (fun X Q _ C F => ?_)
  refine V_eq (L' := [(0, .ref (ad 0))]) (st' := []) rfl rfl rfl ?_
  unfold fX6_playRound at hf
  refine V_aload_n (q := 1) C dX6_playRound_0 rfl rfl 0 rfl ?_
  refine GX_0_6 (q := 4) C q_359 dX6_playRound_1 rfl ?_
  refine GNX_7_0 (q := 7) C q_311 dX6_playRound_4 rfl ?_
  refine V_aload_n (q := 8) C dX6_playRound_7 rfl rfl 0 rfl ?_
  refine GX_0_6 (q := 11) C q_359 dX6_playRound_8 rfl ?_
  refine GNX_7_5 (q := 14) C q_321 dX6_playRound_11 rfl ?_
  obtain ⟨g1, hf⟩ := gd_s hf
  refine RX_27 (z := (σ 7 5).toNatClampNeg) (q := 15) C rfl (inb_in g1) dX6_playRound_14 rfl ?_
  refine V_let (cv := Value.int) hf (fun x2 hf => ?_)
  refine V_istore_n (L' := [(1, .int x2), (0, .ref (ad 0))]) (q := 16) C dX6_playRound_15 rfl rfl (by decide) rfl ?_
  refine V_aload_n (q := 17) C dX6_playRound_16 rfl rfl 1 rfl ?_
  obtain ⟨r3, σ4, h5, hf⟩ := bd_s hf
  refine V_callV (av := []) (st := []) (st1 := [.int r3]) (q := 20) C 0 (by decide) (eX_0 G ad _) rfl rfl (conX6_rankStations _ _ _  _ _ _ h5) q_952 q_107 q_949 q_951 q_49 nmX6_rankStations (by decide) rfl rfl (Nat.le_of_ble_eq_true rfl) dX6_playRound_17 rfl rfl ?_
  refine V_istore_n (L' := [(2, .int r3), (1, .int x2), (0, .ref (ad 0))]) (q := 21) C dX6_playRound_20 rfl rfl (by decide) rfl ?_
  refine V_iconst (v := 0) (q := 22) C dX6_playRound_21 rfl ic_0 ?_
  refine V_istore_n (L' := [(3, .int (0 : Int32)), (2, .int r3), (1, .int x2), (0, .ref (ad 0))]) (q := 23) C dX6_playRound_22 rfl rfl (by decide) rfl ?_
  refine V_sub (L' := [(0, .ref (ad 0)), (1, .int x2), (2, .int r3), (3, .int (0 : Int32))]) [3, 2, 1, 0] rfl ?_
  refine wlX6_playRound_23 C F x2 r3 _ (fun σ15 hf => ?_) FU _ _ hf
  refine V_iload_n (q := 65) C dX6_playRound_64 rfl rfl 1 rfl ?_
  refine V_if_ne (t := 75) (q := 68) C dX6_playRound_65 (by decide) rfl (fun c16 => ?_) (fun c16 => ?_)
  · replace hf := (ite_s hf).2 c16
    obtain ⟨-, e2⟩ := pr_s hf
    subst e2
    exact V_vret C F (by decide) (by decide) dX6_playRound_75
  · replace hf := (ite_s hf).1 c16
    refine V_aload_n (q := 69) C dX6_playRound_68 rfl rfl 0 rfl ?_
    refine GX_0_6 (q := 72) C q_359 dX6_playRound_69 rfl ?_
    obtain ⟨_u, σ17, h18, hf⟩ := bd_s hf
    refine V_callVN (av := []) (st := []) (st1 := []) (q := 75) C 7 (by decide) (eX_7 G ad _) rfl rfl (conX0_freezeBidders _ _ _  _ _ h18) q_972 q_113 q_969 q_971 q_54 nmX0_freezeBidders (by decide) rfl rfl (Nat.le_of_ble_eq_true rfl) dX6_playRound_72 rfl rfl ?_
    obtain ⟨-, e2⟩ := pr_s hf
    subst e2
    exact V_vret C F (by decide) (by decide) dX6_playRound_75
def rmX6_open : Room := { frames := 21, cells := 2, slots := 12, locals := 610 }
def fX6_open (a : Int32) (σ : Sg) : Option ((String ⊕ Int32) × Sg) := jp (fun (σ1 : Sg) => some (.inl "java/lang/IllegalArgumentException", σ1)) (fun (J12 : Sg → Option ((String ⊕ Int32) × Sg)) => if a < (1 : Int32) then (J12  σ) else (if a ≤ (1000 : Int32) then (bx (fX6_requireNoAuction  σ) (fun E σE => some (.inl E, σE)) (fun (_ : Unit) (σ5 : Sg) => bd (fX3_stayers  σ5) (fun (r10 : Int32) (σ11 : Sg) => bx (fX6_requireFeasible r10 σ11) (fun E σE => some (.inl E, σE)) (fun (_ : Unit) (σ14 : Sg) => bd (fX0_begin a σ14) (fun (_ : Unit) (σ19 : Sg) => bd (fX6_playRound  σ19) (fun (_ : Unit) (σ21 : Sg) => some (.inr (pJ6_bitCount_0f7a4 (σ21 7 7)), σ21))))))) else (J12  σ)))
set_option maxHeartbeats 4000000 in
theorem conX6_open (l : Launch) (G : Gx) (ad : Nat → Nat) (a : Int32) (σ : Sg) (r : String ⊕ Int32) (σf : Sg) (hf : fX6_open a σ = some (r, σf)) : ConX wX l G ad yX6_open (Cond.code yX6_open cX6_open 2 (some .int)) rmX6_open 2 12 [.ref (ad 0), .int a] σ (rI r) σf := by
  refine ConX.start (by decide) (Nat.le_of_ble_eq_true rfl) (fun X Q _ C Fr Fx => ?_)
  refine V_eq (L' := [(0, .ref (ad 0)), (1, .int a)]) (st' := []) rfl rfl rfl ?_
  unfold fX6_open at hf
  refine V_iload_n (q := 1) C dX6_open_0 rfl rfl 1 rfl ?_
  refine V_iconst (v := 1) (q := 2) C dX6_open_1 rfl ic_1 ?_
  obtain ⟨J12, eJ12, hf⟩ := jp_s hf
  have hJ12 : ∀ (σ1 : Sg), J12 σ1 = some (r, σf) → V wX X G ad 2 Q 0 0 σ1 12 [] [] := by
    intro σ1 hf
    subst eJ12
    obtain ⟨e1, e2⟩ := pr_s hf
    subst e1; subst e2
    exact V_throwS (text := "base price out of range") C rfl (Fx _ rfl) rfl q_424 q_118 (by decide) xa_87 xg_87 dX6_open_12 dX6_open_15 dX6_open_16 dX6_open_18 dX6_open_21 (by decide) (Nat.le_of_ble_eq_true rfl) (by decide) (by decide) (by decide) (by decide)
  refine V_icmp_lt (t := 12) (q := 5) C dX6_open_2 (by decide) rfl (fun c2 => ?_) (fun c2 => ?_)
  · replace hf := (ite_s hf).1 c2
    refine V_sub (L' := []) [] rfl ?_
    exact hJ12 _ hf
  · replace hf := (ite_s hf).2 c2
    refine V_iload_n (q := 6) C dX6_open_5 rfl rfl 1 rfl ?_
    refine V_sipush (v := 1000) (q := 9) C dX6_open_6 rfl sc_1000 ?_
    refine V_icmp_le (t := 22) (q := 12) C dX6_open_9 (by decide) rfl (fun c3 => ?_) (fun c3 => ?_)
    · replace hf := (ite_s hf).1 c3
      refine V_aload_n (q := 23) C dX6_open_22 rfl rfl 0 rfl ?_
      obtain ⟨z7, σ5, h6, hE, hA⟩ := bx_s hf
      refine V_callVX (av := []) (st := []) (q := 26) (mc := 2) (ms := 12) C 0 (by decide) (eX_0 G ad _) rfl rfl (conX6_requireNoAuction _ _ _  _ _ _ h6) q_505 q_107 q_502 q_504 q_5 nmX6_requireNoAuction (by decide) rfl rfl (Nat.le_of_ble_eq_true rfl) dX6_open_23 rfl (by decide) (by decide) (fun E hz => by
        obtain rfl := rU_l hz
        obtain ⟨e1, e2⟩ := pr_s (hE _ rfl)
        subst e1; subst e2
        exact Fx _ rfl) (fun w8 h9 => ?_)
      obtain ⟨r4, rfl, rfl⟩ := rU_r h9
      replace hf := hA _ rfl
      refine V_eq (L' := [(0, .ref (ad 0)), (1, .int a)]) (st' := []) rfl rfl rfl ?_
      refine V_wide (k2 := 1) (n2 := 6) (by decide) (by decide) ?_
      refine V_aload_n (q := 27) C dX6_open_26 rfl rfl 0 rfl ?_
      refine V_aload_n (q := 28) C dX6_open_27 rfl rfl 0 rfl ?_
      refine GX_0_2 (q := 31) C q_355 dX6_open_28 rfl ?_
      obtain ⟨r10, σ11, h12, hf⟩ := bd_s hf
      refine V_callVN (av := []) (st := [.ref (ad 0)]) (st1 := [.int r10, .ref (ad 0)]) (q := 34) C 3 (by decide) (eX_3 G ad _) rfl rfl (conX3_stayers _ _ _  _ _ _ h12) q_933 q_110 q_930 q_932 q_45 nmX3_stayers (by decide) rfl rfl (Nat.le_of_ble_eq_true rfl) dX6_open_31 rfl rfl ?_
      obtain ⟨z16, σ14, h15, hE, hA⟩ := bx_s hf
      refine V_callVX (av := [.int r10]) (st := []) (q := 37) (mc := 2) (ms := 12) C 0 (by decide) (eX_0 G ad _) rfl rfl (conX6_requireFeasible _ _ _ _ _ _ _ h15) q_848 q_107 q_845 q_847 q_38 nmX6_requireFeasible (by decide) rfl rfl (Nat.le_of_ble_eq_true rfl) dX6_open_34 rfl (by decide) (by decide) (fun E hz => by
        obtain rfl := rU_l hz
        obtain ⟨e1, e2⟩ := pr_s (hE _ rfl)
        subst e1; subst e2
        exact Fx _ rfl) (fun w17 h18 => ?_)
      obtain ⟨r13, rfl, rfl⟩ := rU_r h18
      replace hf := hA _ rfl
      refine V_eq (L' := [(0, .ref (ad 0)), (1, .int a)]) (st' := []) rfl rfl rfl ?_
      refine V_wide (k2 := 2) (n2 := 12) (by decide) (by decide) ?_
      refine V_aload_n (q := 38) C dX6_open_37 rfl rfl 0 rfl ?_
      refine GX_0_6 (q := 41) C q_359 dX6_open_38 rfl ?_
      refine V_aload_n (q := 42) C dX6_open_41 rfl rfl 0 rfl ?_
      refine GX_0_2 (q := 45) C q_355 dX6_open_42 rfl ?_
      refine V_iload_n (q := 46) C dX6_open_45 rfl rfl 1 rfl ?_
      obtain ⟨_u, σ19, h20, hf⟩ := bd_s hf
      refine V_callVN (av := [.ref (ad 3), .int a]) (st := []) (st1 := []) (q := 49) C 7 (by decide) (eX_7 G ad _) rfl rfl (conX0_begin _ _ _ _ _ _ h20) q_937 q_113 q_934 q_936 q_46 nmX0_begin (by decide) rfl rfl (Nat.le_of_ble_eq_true rfl) dX6_open_46 rfl rfl ?_
      refine V_aload_n (q := 50) C dX6_open_49 rfl rfl 0 rfl ?_
      obtain ⟨_u, σ21, h22, hf⟩ := bd_s hf
      refine V_callV (av := []) (st := []) (st1 := []) (q := 53) C 0 (by decide) (eX_0 G ad _) rfl rfl (conX6_playRound _ _ _  _ _ h22) q_948 q_107 q_945 q_947 q_48 nmX6_playRound (by decide) rfl rfl (Nat.le_of_ble_eq_true rfl) dX6_open_50 rfl rfl ?_
      refine V_aload_n (q := 54) C dX6_open_53 rfl rfl 0 rfl ?_
      refine GX_0_6 (q := 57) C q_359 dX6_open_54 rfl ?_
      refine GNX_7_7 (q := 60) C q_325 dX6_open_57 rfl ?_
      refine V_callS (av := [.int (σ21 7 7)]) (st := []) (st1 := [.int (pJ6_bitCount_0f7a4 (σ21 7 7))]) (q := 63) C (conJ6_bitCount_0f7a4 _ _ _ _ _ _ rfl) q_727 q_126 q_866 q_726 nmJ6_bitCount_0f7a4 (by decide) rfl rfl (Nat.le_of_ble_eq_true rfl) dX6_open_60 rfl rfl ?_
      obtain ⟨e1, e2⟩ := pr_s hf
      subst e1; subst e2
      exact V_iret C (Fr _ rfl) (by decide) (by decide) dX6_open_63
    · replace hf := (ite_s hf).2 c3
      refine V_sub (L' := []) [] rfl ?_
      exact hJ12 _ hf
def rmX6_order : Room := { frames := 6, cells := 1, slots := 6, locals := 90 }
def fX6_order (a : Int32) (σ : Sg) : Option ((String ⊕ Int32) × Sg) := bd (fX6_rankStations  σ) (fun (r1 : Int32) (σ2 : Sg) => jp (fun (σ4 : Sg) => some (.inl "java/util/NoSuchElementException", σ4)) (fun (J14 : Sg → Option ((String ⊕ Int32) × Sg)) => if a < 0 then (J14  σ2) else (if a < r1 then (gd (inb a 12) (some (.inr (σ2 10 a.toNatClampNeg), σ2))) else (J14  σ2))))
set_option maxHeartbeats 4000000 in
theorem conX6_order (l : Launch) (G : Gx) (ad : Nat → Nat) (a : Int32) (σ : Sg) (r : String ⊕ Int32) (σf : Sg) (hf : fX6_order a σ = some (r, σf)) : ConX wX l G ad yX6_order (Cond.code yX6_order cX6_order 3 (some .int)) rmX6_order 1 6 [.ref (ad 0), .int a] σ (rI r) σf := by
  refine ConX.start (by decide) (Nat.le_of_ble_eq_true rfl) (fun X Q _ C Fr Fx => ?_)
  refine V_eq (L' := [(0, .ref (ad 0)), (1, .int a)]) (st' := []) rfl rfl rfl ?_
  unfold fX6_order at hf
  refine V_aload_n (q := 1) C dX6_order_0 rfl rfl 0 rfl ?_
  obtain ⟨r1, σ2, h3, hf⟩ := bd_s hf
  refine V_callV (av := []) (st := []) (st1 := [.int r1]) (q := 4) C 0 (by decide) (eX_0 G ad _) rfl rfl (conX6_rankStations _ _ _  _ _ _ h3) q_952 q_107 q_949 q_951 q_49 nmX6_rankStations (by decide) rfl rfl (Nat.le_of_ble_eq_true rfl) dX6_order_1 rfl rfl ?_
  refine V_istore_n (L' := [(2, .int r1), (0, .ref (ad 0)), (1, .int a)]) (q := 5) C dX6_order_4 rfl rfl (by decide) rfl ?_
  refine V_iload_n (q := 6) C dX6_order_5 rfl rfl 2 rfl ?_
  obtain ⟨J14, eJ14, hf⟩ := jp_s hf
  have hJ14 : ∀ (σ4 : Sg), J14 σ4 = some (r, σf) → V wX X G ad 3 Q 0 0 σ4 14 [] [] := by
    intro σ4 hf
    subst eJ14
    obtain ⟨e1, e2⟩ := pr_s hf
    subst e1; subst e2
    exact V_throwNW (text := "no such rank") C rfl (Fx _ rfl) q_902 (by decide) dX6_order_14 dX6_order_17 dX6_order_18 dX6_order_21 dX6_order_24 (by decide) (Nat.le_of_ble_eq_true rfl) (by decide) (by decide) (by decide) (by decide)
  refine V_if_lt (t := 14) (q := 9) C dX6_order_6 (by decide) rfl (fun c5 => ?_) (fun c5 => ?_)
  · replace hf := (ite_s hf).1 c5
    refine V_sub (L' := []) [] rfl ?_
    exact hJ14 _ hf
  · replace hf := (ite_s hf).2 c5
    refine V_iload_n (q := 10) C dX6_order_9 rfl rfl 2 rfl ?_
    refine V_iload_n (q := 11) C dX6_order_10 rfl rfl 0 rfl ?_
    refine V_icmp_lt (t := 25) (q := 14) C dX6_order_11 (by decide) rfl (fun c6 => ?_) (fun c6 => ?_)
    · replace hf := (ite_s hf).1 c6
      refine V_aload_n (q := 26) C dX6_order_25 rfl rfl 1 rfl ?_
      refine GX_0_9 (q := 29) C q_362 dX6_order_26 rfl ?_
      refine V_iload_n (q := 30) C dX6_order_29 rfl rfl 2 rfl ?_
      obtain ⟨g7, hf⟩ := gd_s hf
      refine RX_10 (z := a.toNatClampNeg) (q := 31) C rfl (inb_in g7) dX6_order_30 rfl ?_
      obtain ⟨e1, e2⟩ := pr_s hf
      subst e1; subst e2
      exact V_iret C (Fr _ rfl) (by decide) (by decide) dX6_order_31
    · replace hf := (ite_s hf).2 c6
      refine V_sub (L' := []) [] rfl ?_
      exact hJ14 _ hf
def rmX6_price : Room := { frames := 7, cells := 3, slots := 18, locals := 111 }
def fX6_price (a : Int32) (σ : Sg) : Option ((String ⊕ Int32) × Sg) := bx (fX6_requireStation a σ) (fun E σE => some (.inl E, σE)) (fun (_ : Unit) (σ2 : Sg) => bx (fX6_requireAuction  σ2) (fun E σE => some (.inl E, σE)) (fun (_ : Unit) (σ8 : Sg) => if (pX6_contains (σ8 3 7) a) = 0 then (some (.inl "java/util/NoSuchElementException", σ8)) else (gd (inb a 12) (some (.inr (σ8 28 a.toNatClampNeg), σ8)))))
set_option maxHeartbeats 4000000 in
theorem conX6_price (l : Launch) (G : Gx) (ad : Nat → Nat) (a : Int32) (σ : Sg) (r : String ⊕ Int32) (σf : Sg) (hf : fX6_price a σ = some (r, σf)) : ConX wX l G ad yX6_price (Cond.code yX6_price cX6_price 2 (some .int)) rmX6_price 3 18 [.ref (ad 0), .int a] σ (rI r) σf := by
  refine ConX.start (by decide) (Nat.le_of_ble_eq_true rfl) (fun X Q _ C Fr Fx => ?_)
  refine V_eq (L' := [(0, .ref (ad 0)), (1, .int a)]) (st' := []) rfl rfl rfl ?_
  unfold fX6_price at hf
  refine V_aload_n (q := 1) C dX6_price_0 rfl rfl 0 rfl ?_
  refine V_iload_n (q := 2) C dX6_price_1 rfl rfl 1 rfl ?_
  obtain ⟨z4, σ2, h3, hE, hA⟩ := bx_s hf
  refine V_callVX (av := [.int a]) (st := []) (q := 5) (mc := 3) (ms := 18) C 0 (by decide) (eX_0 G ad _) rfl rfl (conX6_requireStation _ _ _ _ _ _ _ h3) q_596 q_107 q_593 q_595 q_10 nmX6_requireStation (by decide) rfl rfl (Nat.le_of_ble_eq_true rfl) dX6_price_2 rfl (by decide) (by decide) (fun E hz => by
    obtain rfl := rU_l hz
    obtain ⟨e1, e2⟩ := pr_s (hE _ rfl)
    subst e1; subst e2
    exact Fx _ rfl) (fun w5 h6 => ?_)
  obtain ⟨r1, rfl, rfl⟩ := rU_r h6
  replace hf := hA _ rfl
  refine V_eq (L' := [(0, .ref (ad 0)), (1, .int a)]) (st' := []) rfl rfl rfl ?_
  refine V_wide (k2 := 1) (n2 := 6) (by decide) (by decide) ?_
  refine V_aload_n (q := 6) C dX6_price_5 rfl rfl 0 rfl ?_
  obtain ⟨z10, σ8, h9, hE, hA⟩ := bx_s hf
  refine V_callVX (av := []) (st := []) (q := 9) (mc := 3) (ms := 18) C 0 (by decide) (eX_0 G ad _) rfl rfl (conX6_requireAuction _ _ _  _ _ _ h9) q_989 q_107 q_986 q_988 q_56 nmX6_requireAuction (by decide) rfl rfl (Nat.le_of_ble_eq_true rfl) dX6_price_6 rfl (by decide) (by decide) (fun E hz => by
    obtain rfl := rU_l hz
    obtain ⟨e1, e2⟩ := pr_s (hE _ rfl)
    subst e1; subst e2
    exact Fx _ rfl) (fun w11 h12 => ?_)
  obtain ⟨r7, rfl, rfl⟩ := rU_r h12
  replace hf := hA _ rfl
  refine V_eq (L' := [(0, .ref (ad 0)), (1, .int a)]) (st' := []) rfl rfl rfl ?_
  refine V_wide (k2 := 2) (n2 := 12) (by decide) (by decide) ?_
  refine V_aload_n (q := 10) C dX6_price_9 rfl rfl 0 rfl ?_
  refine GX_0_2 (q := 13) C q_355 dX6_price_10 rfl ?_
  refine GNX_3_7 (q := 16) C q_186 dX6_price_13 rfl ?_
  refine V_iload_n (q := 17) C dX6_price_16 rfl rfl 1 rfl ?_
  refine V_callS (av := [.int (σ8 3 7), .int a]) (st := []) (st1 := [.int (pX6_contains (σ8 3 7) a)]) (q := 20) C (conX6_contains _ _ _ _ _ _ _ rfl) q_612 q_107 q_610 q_611 nmX6_contains (by decide) rfl rfl (Nat.le_of_ble_eq_true rfl) dX6_price_17 rfl rfl ?_
  refine V_if_ne (t := 34) (q := 23) C dX6_price_20 (by decide) rfl (fun c13 => ?_) (fun c13 => ?_)
  · replace hf := (ite_s hf).2 c13
    refine V_aload_n (q := 35) C dX6_price_34 rfl rfl 0 rfl ?_
    refine GX_0_6 (q := 38) C q_359 dX6_price_35 rfl ?_
    refine GNX_7_1 (q := 41) C q_313 dX6_price_38 rfl ?_
    refine V_iload_n (q := 42) C dX6_price_41 rfl rfl 1 rfl ?_
    obtain ⟨g14, hf⟩ := gd_s hf
    refine RX_28 (z := a.toNatClampNeg) (q := 43) C rfl (inb_in g14) dX6_price_42 rfl ?_
    obtain ⟨e1, e2⟩ := pr_s hf
    subst e1; subst e2
    exact V_iret C (Fr _ rfl) (by decide) (by decide) dX6_price_43
  · replace hf := (ite_s hf).1 c13
    obtain ⟨e1, e2⟩ := pr_s hf
    subst e1; subst e2
    exact V_throwNW (text := "the station does not take part") C rfl (Fx _ rfl) q_902 (by decide) dX6_price_23 dX6_price_26 dX6_price_27 dX6_price_30 dX6_price_33 (by decide) (Nat.le_of_ble_eq_true rfl) (by decide) (by decide) (by decide) (by decide)
def rmX6_priceAt : Room := { frames := 7, cells := 2, slots := 12, locals := 111 }
def fX6_priceAt (a : Int32) (b : Int32) (σ : Sg) : Option ((String ⊕ Int32) × Sg) := bx (fX6_requireStation a σ) (fun E σE => some (.inl E, σE)) (fun (_ : Unit) (σ2 : Sg) => jp (fun (σ7 : Sg) => some (.inl "java/lang/IllegalArgumentException", σ7)) (fun (J16 : Sg → Option ((String ⊕ Int32) × Sg)) => if b < 0 then (J16  σ2) else (if b ≤ (1000 : Int32) then (bd (fX3_priceWith a b σ2) (fun (r10 : Int32) (σ11 : Sg) => some (.inr r10, σ11))) else (J16  σ2))))
set_option maxHeartbeats 4000000 in
theorem conX6_priceAt (l : Launch) (G : Gx) (ad : Nat → Nat) (a : Int32) (b : Int32) (σ : Sg) (r : String ⊕ Int32) (σf : Sg) (hf : fX6_priceAt a b σ = some (r, σf)) : ConX wX l G ad yX6_priceAt (Cond.code yX6_priceAt cX6_priceAt 3 (some .int)) rmX6_priceAt 2 12 [.ref (ad 0), .int a, .int b] σ (rI r) σf := by
  refine ConX.start (by decide) (Nat.le_of_ble_eq_true rfl) (fun X Q _ C Fr Fx => ?_)
  refine V_eq (L' := [(0, .ref (ad 0)), (1, .int a), (2, .int b)]) (st' := []) rfl rfl rfl ?_
  unfold fX6_priceAt at hf
  refine V_aload_n (q := 1) C dX6_priceAt_0 rfl rfl 0 rfl ?_
  refine V_iload_n (q := 2) C dX6_priceAt_1 rfl rfl 1 rfl ?_
  obtain ⟨z4, σ2, h3, hE, hA⟩ := bx_s hf
  refine V_callVX (av := [.int a]) (st := []) (q := 5) (mc := 2) (ms := 12) C 0 (by decide) (eX_0 G ad _) rfl rfl (conX6_requireStation _ _ _ _ _ _ _ h3) q_596 q_107 q_593 q_595 q_10 nmX6_requireStation (by decide) rfl rfl (Nat.le_of_ble_eq_true rfl) dX6_priceAt_2 rfl (by decide) (by decide) (fun E hz => by
    obtain rfl := rU_l hz
    obtain ⟨e1, e2⟩ := pr_s (hE _ rfl)
    subst e1; subst e2
    exact Fx _ rfl) (fun w5 h6 => ?_)
  obtain ⟨r1, rfl, rfl⟩ := rU_r h6
  replace hf := hA _ rfl
  refine V_eq (L' := [(0, .ref (ad 0)), (1, .int a), (2, .int b)]) (st' := []) rfl rfl rfl ?_
  refine V_wide (k2 := 1) (n2 := 6) (by decide) (by decide) ?_
  refine V_iload_n (q := 6) C dX6_priceAt_5 rfl rfl 2 rfl ?_
  obtain ⟨J16, eJ16, hf⟩ := jp_s hf
  have hJ16 : ∀ (σ7 : Sg), J16 σ7 = some (r, σf) → V wX X G ad 3 Q 1 6 σ7 16 [] [] := by
    intro σ7 hf
    subst eJ16
    obtain ⟨e1, e2⟩ := pr_s hf
    subst e1; subst e2
    exact V_throwS (text := "base price out of range") C rfl (Fx _ rfl) rfl q_424 q_118 (by decide) xa_87 xg_87 dX6_priceAt_16 dX6_priceAt_19 dX6_priceAt_20 dX6_priceAt_22 dX6_priceAt_25 (by decide) (Nat.le_of_ble_eq_true rfl) (by decide) (by decide) (by decide) (by decide)
  refine V_if_lt (t := 16) (q := 9) C dX6_priceAt_6 (by decide) rfl (fun c8 => ?_) (fun c8 => ?_)
  · replace hf := (ite_s hf).1 c8
    refine V_sub (L' := []) [] rfl ?_
    exact hJ16 _ hf
  · replace hf := (ite_s hf).2 c8
    refine V_iload_n (q := 10) C dX6_priceAt_9 rfl rfl 2 rfl ?_
    refine V_sipush (v := 1000) (q := 13) C dX6_priceAt_10 rfl sc_1000 ?_
    refine V_icmp_le (t := 26) (q := 16) C dX6_priceAt_13 (by decide) rfl (fun c9 => ?_) (fun c9 => ?_)
    · replace hf := (ite_s hf).1 c9
      refine V_aload_n (q := 27) C dX6_priceAt_26 rfl rfl 0 rfl ?_
      refine GX_0_2 (q := 30) C q_355 dX6_priceAt_27 rfl ?_
      refine V_iload_n (q := 31) C dX6_priceAt_30 rfl rfl 1 rfl ?_
      refine V_iload_n (q := 32) C dX6_priceAt_31 rfl rfl 2 rfl ?_
      obtain ⟨r10, σ11, h12, hf⟩ := bd_s hf
      refine V_callVN (av := [.int a, .int b]) (st := []) (st1 := [.int r10]) (q := 35) C 3 (by decide) (eX_3 G ad _) rfl rfl (conX3_priceWith _ _ _ _ _ _ _ _ h12) q_763 q_110 q_760 q_762 q_25 nmX3_priceWith (by decide) rfl rfl (Nat.le_of_ble_eq_true rfl) dX6_priceAt_32 rfl rfl ?_
      obtain ⟨e1, e2⟩ := pr_s hf
      subst e1; subst e2
      exact V_iret C (Fr _ rfl) (by decide) (by decide) dX6_priceAt_35
    · replace hf := (ite_s hf).2 c9
      refine V_sub (L' := []) [] rfl ?_
      exact hJ16 _ hf
def rmX3_dropLast : Room := { frames := 1, cells := 0, slots := 0, locals := 20 }
def fX3_dropLast_33 (K : Sg → Option (Unit × Sg)) : Nat → Int32 → Sg → Option (Unit × Sg)
  | 0, _, _ => none
  | n + 1, x7, σ8 => if (σ8 3 6) ≤ x7 then (K σ8) else (gd (inb x7 12) (bd (fX3_everyone  σ8) (fun (r11 : Int32) (σ12 : Sg) => gd (inb x7 12) (lt' (sup σ12 15 x7.toNatClampNeg ((σ8 15 x7.toNatClampNeg) &&& r11)) (fun (σ15 : Sg) => gd (inb x7 12) (bd (fX3_everyone  σ15) (fun (r17 : Int32) (σ18 : Sg) => gd (inb x7 12) (lt' (sup σ18 16 x7.toNatClampNeg ((σ15 16 x7.toNatClampNeg) &&& r17)) (fun (σ21 : Sg) => fX3_dropLast_33 K n (x7 + (1 : Int32)) σ21)))))))))
def fX3_dropLast  (σ : Sg) : Option (Unit × Sg) := if 0 < (σ 3 6) then (lt' (sup σ 3 6 ((σ 3 6) - (1 : Int32))) (fun (σ2 : Sg) => bd (fX3_everyone  σ2) (fun (r3 : Int32) (σ4 : Sg) => lt' (sup σ4 3 7 ((σ2 3 7) &&& r3)) (fun (σ6 : Sg) => fX3_dropLast_33 (fun (σ22 : Sg) => gd (inb (σ22 3 6) 12) (lt' (sup σ22 15 ((σ22 3 6).toNatClampNeg) (0 : Int32)) (fun (σ24 : Sg) => gd (inb (σ24 3 6) 12) (lt' (sup σ24 16 ((σ24 3 6).toNatClampNeg) (0 : Int32)) (fun (σ26 : Sg) => some ((), σ26)))))) FU (0 : Int32) σ6)))) else (some ((), σ))
set_option maxHeartbeats 4000000 in
theorem wlX3_dropLast_33 {X : Cx} {G : Gx} {ad : Nat → Nat} {Q : State → Prop} {σf : Sg} (C : OK wX X G ad RX3 cX3_dropLast 2 rmX3_dropLast) (F : FinR wX X G ad Q 0 0 none none σf) (K : Sg → Option (Unit × Sg)) (hK : ∀ (σk : Sg), K σk = some ((), σf) → V wX X G ad 2 Q 0 0 σk 73 [(0, .ref (ad 3))] []) : ∀ (n : Nat) (x7 : Int32) (σ8 : Sg), fX3_dropLast_33 K n x7 σ8 = some ((), σf) → V wX X G ad 2 Q 0 0 σ8 33 [(0, .ref (ad 3)), (1, .int x7)] [] := by
  intro n
  induction n with
  | zero =>
    intro _ _ hf
    exact absurd hf (by simp [fX3_dropLast_33])
  | succ n ih =>
    intro x7 σ8 hf
    rw [fX3_dropLast_33] at hf
    refine V_iload_n (q := 34) C dX3_dropLast_33 rfl rfl 1 rfl ?_
    refine V_aload_n (q := 35) C dX3_dropLast_34 rfl rfl 0 rfl ?_
    refine GX_3_6 (q := 38) C q_178 dX3_dropLast_35 rfl ?_
    refine V_icmp_ge (t := 73) (q := 41) C dX3_dropLast_38 (by decide) rfl (fun c9 => ?_) (fun c9 => ?_)
    · replace hf := (ite_s hf).1 c9
      refine V_sub (L' := [(0, .ref (ad 3))]) [0] rfl ?_
      exact hK _ hf
    · replace hf := (ite_s hf).2 c9
      refine V_aload_n (q := 42) C dX3_dropLast_41 rfl rfl 0 rfl ?_
      refine GX_3_4 (q := 45) C q_170 dX3_dropLast_42 rfl ?_
      refine V_iload_n (q := 46) C dX3_dropLast_45 rfl rfl 1 rfl ?_
      refine V_dup2 (q := 47) C dX3_dropLast_46 rfl rfl rfl ?_
      obtain ⟨g10, hf⟩ := gd_s hf
      refine RX_15 (z := x7.toNatClampNeg) (q := 48) C rfl (inb_in g10) dX3_dropLast_47 rfl ?_
      refine V_aload_n (q := 49) C dX3_dropLast_48 rfl rfl 0 rfl ?_
      obtain ⟨r11, σ12, h13, hf⟩ := bd_s hf
      refine V_callV (av := []) (st := [.int (σ8 15 x7.toNatClampNeg), .int x7, .ref (ad 15)]) (st1 := [.int r11, .int (σ8 15 x7.toNatClampNeg), .int x7, .ref (ad 15)]) (q := 52) C 3 (by decide) (eX_3 G ad _) rfl rfl (conX3_everyone _ _ _  _ _ _ h13) q_561 q_110 q_558 q_560 q_9 nmX3_everyone (by decide) rfl rfl (Nat.le_of_ble_eq_true rfl) dX3_dropLast_49 rfl rfl ?_
      refine V_iand (q := 53) C dX3_dropLast_52 rfl ?_
      obtain ⟨g14, hf⟩ := gd_s hf
      refine SX_15 (z := x7.toNatClampNeg) (q := 54) C rfl (inb_in g14) dX3_dropLast_53 rfl ?_
      refine V_lets hf (fun σ15 hf => ?_)
      refine V_aload_n (q := 55) C dX3_dropLast_54 rfl rfl 0 rfl ?_
      refine GX_3_5 (q := 58) C q_174 dX3_dropLast_55 rfl ?_
      refine V_iload_n (q := 59) C dX3_dropLast_58 rfl rfl 1 rfl ?_
      refine V_dup2 (q := 60) C dX3_dropLast_59 rfl rfl rfl ?_
      obtain ⟨g16, hf⟩ := gd_s hf
      refine RX_16 (z := x7.toNatClampNeg) (q := 61) C rfl (inb_in g16) dX3_dropLast_60 rfl ?_
      refine V_aload_n (q := 62) C dX3_dropLast_61 rfl rfl 0 rfl ?_
      obtain ⟨r17, σ18, h19, hf⟩ := bd_s hf
      refine V_callV (av := []) (st := [.int (σ15 16 x7.toNatClampNeg), .int x7, .ref (ad 16)]) (st1 := [.int r17, .int (σ15 16 x7.toNatClampNeg), .int x7, .ref (ad 16)]) (q := 65) C 3 (by decide) (eX_3 G ad _) rfl rfl (conX3_everyone _ _ _  _ _ _ h19) q_561 q_110 q_558 q_560 q_9 nmX3_everyone (by decide) rfl rfl (Nat.le_of_ble_eq_true rfl) dX3_dropLast_62 rfl rfl ?_
      refine V_iand (q := 66) C dX3_dropLast_65 rfl ?_
      obtain ⟨g20, hf⟩ := gd_s hf
      refine SX_16 (z := x7.toNatClampNeg) (q := 67) C rfl (inb_in g20) dX3_dropLast_66 rfl ?_
      refine V_lets hf (fun σ21 hf => ?_)
      refine V_iinc (L' := [(1, .int (x7 + (1 : Int32))), (0, .ref (ad 3))]) (q := 70) C dX3_dropLast_67 rfl 1 rfl (congrArg (fun y => x7 + y) ic_1) (by decide) rfl ?_
      refine V_goto (t := 33) C dX3_dropLast_70 (by decide) ?_
      refine V_sub (L' := [(0, .ref (ad 3)), (1, .int (x7 + (1 : Int32)))]) [1, 0] rfl ?_
      exact ih _ _ hf
set_option maxHeartbeats 4000000 in
theorem conX3_dropLast (l : Launch) (G : Gx) (ad : Nat → Nat)  (σ : Sg) (σf : Sg)  (hf : fX3_dropLast  σ = some ((), σf)) : Con wX l G ad yX3_dropLast (Cond.code yX3_dropLast cX3_dropLast 2 none) rmX3_dropLast 0 0 [.ref (ad 3)] σ none σf := by
  refine Con.start (by decide) (Nat.le_of_ble_eq_true rfl) (fun X Q _ C F => ?_)
  refine V_eq (L' := [(0, .ref (ad 3))]) (st' := []) rfl rfl rfl ?_
  unfold fX3_dropLast at hf
  refine V_aload_n (q := 1) C dX3_dropLast_0 rfl rfl 0 rfl ?_
  refine GX_3_6 (q := 4) C q_178 dX3_dropLast_1 rfl ?_
  refine V_if_gt (t := 8) (q := 7) C dX3_dropLast_4 (by decide) rfl (fun c1 => ?_) (fun c1 => ?_)
  · replace hf := (ite_s hf).1 c1
    refine V_aload_n (q := 9) C dX3_dropLast_8 rfl rfl 0 rfl ?_
    refine V_dup (q := 10) C dX3_dropLast_9 rfl rfl ?_
    refine GX_3_6 (q := 13) C q_178 dX3_dropLast_10 rfl ?_
    refine V_iconst (v := 1) (q := 14) C dX3_dropLast_13 rfl ic_1 ?_
    refine V_isub (q := 15) C dX3_dropLast_14 rfl ?_
    refine PX_3_6 (q := 18) C q_178 dX3_dropLast_15 rfl ?_
    refine V_lets hf (fun σ2 hf => ?_)
    refine V_aload_n (q := 19) C dX3_dropLast_18 rfl rfl 0 rfl ?_
    refine V_dup (q := 20) C dX3_dropLast_19 rfl rfl ?_
    refine GX_3_7 (q := 23) C q_183 dX3_dropLast_20 rfl ?_
    refine V_aload_n (q := 24) C dX3_dropLast_23 rfl rfl 0 rfl ?_
    obtain ⟨r3, σ4, h5, hf⟩ := bd_s hf
    refine V_callV (av := []) (st := [.int (σ2 3 7), .ref (ad 3)]) (st1 := [.int r3, .int (σ2 3 7), .ref (ad 3)]) (q := 27) C 3 (by decide) (eX_3 G ad _) rfl rfl (conX3_everyone _ _ _  _ _ _ h5) q_561 q_110 q_558 q_560 q_9 nmX3_everyone (by decide) rfl rfl (Nat.le_of_ble_eq_true rfl) dX3_dropLast_24 rfl rfl ?_
    refine V_iand (q := 28) C dX3_dropLast_27 rfl ?_
    refine PX_3_7 (q := 31) C q_183 dX3_dropLast_28 rfl ?_
    refine V_lets hf (fun σ6 hf => ?_)
    refine V_iconst (v := 0) (q := 32) C dX3_dropLast_31 rfl ic_0 ?_
    refine V_istore_n (L' := [(1, .int (0 : Int32)), (0, .ref (ad 3))]) (q := 33) C dX3_dropLast_32 rfl rfl (by decide) rfl ?_
    refine V_sub (L' := [(0, .ref (ad 3)), (1, .int (0 : Int32))]) [1, 0] rfl ?_
    refine wlX3_dropLast_33 C F _ (fun σ22 hf => ?_) FU _ _ hf
    refine V_aload_n (q := 74) C dX3_dropLast_73 rfl rfl 0 rfl ?_
    refine GX_3_4 (q := 77) C q_170 dX3_dropLast_74 rfl ?_
    refine V_aload_n (q := 78) C dX3_dropLast_77 rfl rfl 0 rfl ?_
    refine GX_3_6 (q := 81) C q_178 dX3_dropLast_78 rfl ?_
    refine V_iconst (v := 0) (q := 82) C dX3_dropLast_81 rfl ic_0 ?_
    obtain ⟨g23, hf⟩ := gd_s hf
    refine SX_15 (z := (σ22 3 6).toNatClampNeg) (q := 83) C rfl (inb_in g23) dX3_dropLast_82 rfl ?_
    refine V_lets hf (fun σ24 hf => ?_)
    refine V_aload_n (q := 84) C dX3_dropLast_83 rfl rfl 0 rfl ?_
    refine GX_3_5 (q := 87) C q_174 dX3_dropLast_84 rfl ?_
    refine V_aload_n (q := 88) C dX3_dropLast_87 rfl rfl 0 rfl ?_
    refine GX_3_6 (q := 91) C q_178 dX3_dropLast_88 rfl ?_
    refine V_iconst (v := 0) (q := 92) C dX3_dropLast_91 rfl ic_0 ?_
    obtain ⟨g25, hf⟩ := gd_s hf
    refine SX_16 (z := (σ24 3 6).toNatClampNeg) (q := 93) C rfl (inb_in g25) dX3_dropLast_92 rfl ?_
    refine V_lets hf (fun σ26 hf => ?_)
    obtain ⟨-, e2⟩ := pr_s hf
    subst e2
    exact V_vret C F (by decide) (by decide) dX3_dropLast_93
  · replace hf := (ite_s hf).2 c1
    obtain ⟨-, e2⟩ := pr_s hf
    subst e2
    exact V_vret C F (by decide) (by decide) dX3_dropLast_7
def rmX6_removeStation : Room := { frames := 7, cells := 2, slots := 12, locals := 110 }
def fX6_removeStation  (σ : Sg) : Option ((String ⊕ Int32) × Sg) := bx (fX6_requireNoAuction  σ) (fun E σE => some (.inl E, σE)) (fun (_ : Unit) (σ2 : Sg) => if 0 < (σ2 3 6) then (bd (fX3_dropLast  σ2) (fun (_ : Unit) (σ8 : Sg) => bd (fX4_forget  σ8) (fun (_ : Unit) (σ10 : Sg) => some (.inr (σ10 3 6), σ10)))) else (some (.inl "java/lang/IllegalStateException", σ2)))
set_option maxHeartbeats 4000000 in
theorem conX6_removeStation (l : Launch) (G : Gx) (ad : Nat → Nat)  (σ : Sg) (r : String ⊕ Int32) (σf : Sg) (hf : fX6_removeStation  σ = some (r, σf)) : ConX wX l G ad yX6_removeStation (Cond.code yX6_removeStation cX6_removeStation 1 (some .int)) rmX6_removeStation 2 12 [.ref (ad 0)] σ (rI r) σf := by
  refine ConX.start (by decide) (Nat.le_of_ble_eq_true rfl) (fun X Q _ C Fr Fx => ?_)
  refine V_eq (L' := [(0, .ref (ad 0))]) (st' := []) rfl rfl rfl ?_
  unfold fX6_removeStation at hf
  refine V_aload_n (q := 1) C dX6_removeStation_0 rfl rfl 0 rfl ?_
  obtain ⟨z4, σ2, h3, hE, hA⟩ := bx_s hf
  refine V_callVX (av := []) (st := []) (q := 4) (mc := 2) (ms := 12) C 0 (by decide) (eX_0 G ad _) rfl rfl (conX6_requireNoAuction _ _ _  _ _ _ h3) q_505 q_107 q_502 q_504 q_5 nmX6_requireNoAuction (by decide) rfl rfl (Nat.le_of_ble_eq_true rfl) dX6_removeStation_1 rfl (by decide) (by decide) (fun E hz => by
    obtain rfl := rU_l hz
    obtain ⟨e1, e2⟩ := pr_s (hE _ rfl)
    subst e1; subst e2
    exact Fx _ rfl) (fun w5 h6 => ?_)
  obtain ⟨r1, rfl, rfl⟩ := rU_r h6
  replace hf := hA _ rfl
  refine V_eq (L' := [(0, .ref (ad 0))]) (st' := []) rfl rfl rfl ?_
  refine V_wide (k2 := 1) (n2 := 6) (by decide) (by decide) ?_
  refine V_aload_n (q := 5) C dX6_removeStation_4 rfl rfl 0 rfl ?_
  refine GX_0_2 (q := 8) C q_355 dX6_removeStation_5 rfl ?_
  refine GNX_3_6 (q := 11) C q_181 dX6_removeStation_8 rfl ?_
  refine V_if_gt (t := 24) (q := 14) C dX6_removeStation_11 (by decide) rfl (fun c7 => ?_) (fun c7 => ?_)
  · replace hf := (ite_s hf).1 c7
    refine V_aload_n (q := 25) C dX6_removeStation_24 rfl rfl 0 rfl ?_
    refine GX_0_2 (q := 28) C q_355 dX6_removeStation_25 rfl ?_
    obtain ⟨_u, σ8, h9, hf⟩ := bd_s hf
    refine V_callVN (av := []) (st := []) (st1 := []) (q := 31) C 3 (by decide) (eX_3 G ad _) rfl rfl (conX3_dropLast _ _ _  _ _ h9) q_557 q_110 q_554 q_556 q_8 nmX3_dropLast (by decide) rfl rfl (Nat.le_of_ble_eq_true rfl) dX6_removeStation_28 rfl rfl ?_
    refine V_aload_n (q := 32) C dX6_removeStation_31 rfl rfl 0 rfl ?_
    refine GX_0_1 (q := 35) C q_354 dX6_removeStation_32 rfl ?_
    obtain ⟨_u, σ10, h11, hf⟩ := bd_s hf
    refine V_callVN (av := []) (st := []) (st1 := []) (q := 38) C 2 (by decide) (eX_2 G ad _) rfl rfl (conX4_forget _ _ _  _ _ h11) q_545 q_109 q_542 q_544 q_7 nmX4_forget (by decide) rfl rfl (Nat.le_of_ble_eq_true rfl) dX6_removeStation_35 rfl rfl ?_
    refine V_aload_n (q := 39) C dX6_removeStation_38 rfl rfl 0 rfl ?_
    refine GX_0_2 (q := 42) C q_355 dX6_removeStation_39 rfl ?_
    refine GNX_3_6 (q := 45) C q_181 dX6_removeStation_42 rfl ?_
    obtain ⟨e1, e2⟩ := pr_s hf
    subst e1; subst e2
    exact V_iret C (Fr _ rfl) (by decide) (by decide) dX6_removeStation_45
  · replace hf := (ite_s hf).2 c7
    obtain ⟨e1, e2⟩ := pr_s hf
    subst e1; subst e2
    exact V_throwS (text := "no station") C rfl (Fx _ rfl) rfl q_522 q_120 (by decide) xa_100 xg_100 dX6_removeStation_14 dX6_removeStation_17 dX6_removeStation_18 dX6_removeStation_20 dX6_removeStation_23 (by decide) (Nat.le_of_ble_eq_true rfl) (by decide) (by decide) (by decide) (by decide)
def rmX6_repack : Room := { frames := 20, cells := 2, slots := 12, locals := 593 }
def fX6_repack (a : Int32) (σ : Sg) : Option ((String ⊕ Int32) × Sg) := bx (fX6_requireSet a σ) (fun E σE => some (.inl E, σE)) (fun (_ : Unit) (σ2 : Sg) => bx (fX6_requireFeasible a σ2) (fun E σE => some (.inl E, σE)) (fun (_ : Unit) (σ8 : Sg) => bd (fX4_settle a (1 : Int32) σ8) (fun (_ : Unit) (σ13 : Sg) => bd (fX4_keep a σ13) (fun (r15 : Int32) (σ16 : Sg) => some (.inr r15, σ16)))))
set_option maxHeartbeats 4000000 in
theorem conX6_repack (l : Launch) (G : Gx) (ad : Nat → Nat) (a : Int32) (σ : Sg) (r : String ⊕ Int32) (σf : Sg) (hf : fX6_repack a σ = some (r, σf)) : ConX wX l G ad yX6_repack (Cond.code yX6_repack cX6_repack 2 (some .int)) rmX6_repack 2 12 [.ref (ad 0), .int a] σ (rI r) σf := by
  refine ConX.start (by decide) (Nat.le_of_ble_eq_true rfl) (fun X Q _ C Fr Fx => ?_)
  refine V_eq (L' := [(0, .ref (ad 0)), (1, .int a)]) (st' := []) rfl rfl rfl ?_
  unfold fX6_repack at hf
  refine V_aload_n (q := 1) C dX6_repack_0 rfl rfl 0 rfl ?_
  refine V_iload_n (q := 2) C dX6_repack_1 rfl rfl 1 rfl ?_
  obtain ⟨z4, σ2, h3, hE, hA⟩ := bx_s hf
  refine V_callVX (av := [.int a]) (st := []) (q := 5) (mc := 2) (ms := 12) C 0 (by decide) (eX_0 G ad _) rfl rfl (conX6_requireSet _ _ _ _ _ _ _ h3) q_775 q_107 q_772 q_774 q_26 nmX6_requireSet (by decide) rfl rfl (Nat.le_of_ble_eq_true rfl) dX6_repack_2 rfl (by decide) (by decide) (fun E hz => by
    obtain rfl := rU_l hz
    obtain ⟨e1, e2⟩ := pr_s (hE _ rfl)
    subst e1; subst e2
    exact Fx _ rfl) (fun w5 h6 => ?_)
  obtain ⟨r1, rfl, rfl⟩ := rU_r h6
  replace hf := hA _ rfl
  refine V_eq (L' := [(0, .ref (ad 0)), (1, .int a)]) (st' := []) rfl rfl rfl ?_
  refine V_wide (k2 := 1) (n2 := 6) (by decide) (by decide) ?_
  refine V_aload_n (q := 6) C dX6_repack_5 rfl rfl 0 rfl ?_
  refine V_iload_n (q := 7) C dX6_repack_6 rfl rfl 1 rfl ?_
  obtain ⟨z10, σ8, h9, hE, hA⟩ := bx_s hf
  refine V_callVX (av := [.int a]) (st := []) (q := 10) (mc := 2) (ms := 12) C 0 (by decide) (eX_0 G ad _) rfl rfl (conX6_requireFeasible _ _ _ _ _ _ _ h9) q_848 q_107 q_845 q_847 q_38 nmX6_requireFeasible (by decide) rfl rfl (Nat.le_of_ble_eq_true rfl) dX6_repack_7 rfl (by decide) (by decide) (fun E hz => by
    obtain rfl := rU_l hz
    obtain ⟨e1, e2⟩ := pr_s (hE _ rfl)
    subst e1; subst e2
    exact Fx _ rfl) (fun w11 h12 => ?_)
  obtain ⟨r7, rfl, rfl⟩ := rU_r h12
  replace hf := hA _ rfl
  refine V_eq (L' := [(0, .ref (ad 0)), (1, .int a)]) (st' := []) rfl rfl rfl ?_
  refine V_wide (k2 := 2) (n2 := 12) (by decide) (by decide) ?_
  refine V_aload_n (q := 11) C dX6_repack_10 rfl rfl 0 rfl ?_
  refine GX_0_1 (q := 14) C q_354 dX6_repack_11 rfl ?_
  refine V_iload_n (q := 15) C dX6_repack_14 rfl rfl 1 rfl ?_
  refine V_iconst (v := 1) (q := 16) C dX6_repack_15 rfl ic_1 ?_
  obtain ⟨_u, σ13, h14, hf⟩ := bd_s hf
  refine V_callVN (av := [.int a, .int (1 : Int32)]) (st := []) (st1 := []) (q := 19) C 2 (by decide) (eX_2 G ad _) rfl rfl (conX4_settle _ _ _ _ _ _ _ h14) q_853 q_109 q_850 q_852 q_39 nmX4_settle (by decide) rfl rfl (Nat.le_of_ble_eq_true rfl) dX6_repack_16 rfl rfl ?_
  refine V_aload_n (q := 20) C dX6_repack_19 rfl rfl 0 rfl ?_
  refine GX_0_1 (q := 23) C q_354 dX6_repack_20 rfl ?_
  refine V_iload_n (q := 24) C dX6_repack_23 rfl rfl 1 rfl ?_
  obtain ⟨r15, σ16, h17, hf⟩ := bd_s hf
  refine V_callVN (av := [.int a]) (st := []) (st1 := [.int r15]) (q := 27) C 2 (by decide) (eX_2 G ad _) rfl rfl (conX4_keep _ _ _ _ _ _ _ h17) q_861 q_109 q_858 q_860 q_41 nmX4_keep (by decide) rfl rfl (Nat.le_of_ble_eq_true rfl) dX6_repack_24 rfl rfl ?_
  obtain ⟨e1, e2⟩ := pr_s hf
  subst e1; subst e2
  exact V_iret C (Fr _ rfl) (by decide) (by decide) dX6_repack_27
def rmX3_copyFrom_3_8 : Room := { frames := 1, cells := 0, slots := 0, locals := 60 }
def fX3_copyFrom_3_8  (σ : Sg) : Option (Unit × Sg) := lt' (sst σ 11 (va_cpy (σ 17) (σ 11) 0 0 12)) (fun (σ1 : Sg) => lt' (sst σ1 12 (va_cpy (σ1 18) (σ1 12) 0 0 12)) (fun (σ2 : Sg) => lt' (sst σ2 13 (va_cpy (σ2 19) (σ2 13) 0 0 12)) (fun (σ3 : Sg) => lt' (sst σ3 14 (va_cpy (σ3 20) (σ3 14) 0 0 12)) (fun (σ4 : Sg) => lt' (sst σ4 15 (va_cpy (σ4 21) (σ4 15) 0 0 12)) (fun (σ5 : Sg) => lt' (sst σ5 16 (va_cpy (σ5 22) (σ5 16) 0 0 12)) (fun (σ6 : Sg) => lt' (sup σ6 3 6 (σ6 8 6)) (fun (σ7 : Sg) => lt' (sup σ7 3 7 (σ7 8 7)) (fun (σ8 : Sg) => lt' (sup σ8 3 8 (σ8 8 8)) (fun (σ9 : Sg) => some ((), σ9))))))))))
set_option maxHeartbeats 4000000 in
theorem conX3_copyFrom_3_8 (l : Launch) (G : Gx) (ad : Nat → Nat)  (σ : Sg) (σf : Sg)  (hf : fX3_copyFrom_3_8  σ = some ((), σf)) : Con wX l G ad yX3_copyFrom (Cond.code yX3_copyFrom cX3_copyFrom 2 none) rmX3_copyFrom_3_8 0 0 [.ref (ad 3), .ref (ad 8)] σ none σf := by
  refine Con.start (by decide) (Nat.le_of_ble_eq_true rfl) (fun X Q _ C F => ?_)
  refine V_eq (L' := [(0, .ref (ad 3)), (1, .ref (ad 8))]) (st' := []) rfl rfl rfl ?_
  unfold fX3_copyFrom_3_8 at hf
  refine V_aload_n (q := 1) C dX3_copyFrom_0 rfl rfl 1 rfl ?_
  refine GX_8_0 (q := 4) C q_159 dX3_copyFrom_1 rfl ?_
  refine V_iconst (v := 0) (q := 5) C dX3_copyFrom_4 rfl ic_0 ?_
  refine V_aload_n (q := 6) C dX3_copyFrom_5 rfl rfl 0 rfl ?_
  refine GX_3_0 (q := 9) C q_159 dX3_copyFrom_6 rfl ?_
  refine V_iconst (v := 0) (q := 10) C dX3_copyFrom_9 rfl ic_0 ?_
  refine V_bipush (v := 12) (q := 12) C dX3_copyFrom_10 rfl bc_12 ?_
  refine V_copy0 (z := 12) (q := 15) C 17 11 (by decide) (by decide) (eX_17 G ad _) (eX_11 G ad _) tn_12 (by decide) (by decide) (by decide) (hsX (g := va_cpy (σ 17) (σ 11) 0 0 12) (eX_11 G ad _)) hoX q_402 q_404 q_403 q_124 (by decide) (Nat.le_of_ble_eq_true rfl) dX3_copyFrom_12 rfl ?_
  refine V_lets hf (fun σ1 hf => ?_)
  refine V_aload_n (q := 16) C dX3_copyFrom_15 rfl rfl 1 rfl ?_
  refine GX_8_1 (q := 19) C q_162 dX3_copyFrom_16 rfl ?_
  refine V_iconst (v := 0) (q := 20) C dX3_copyFrom_19 rfl ic_0 ?_
  refine V_aload_n (q := 21) C dX3_copyFrom_20 rfl rfl 0 rfl ?_
  refine GX_3_1 (q := 24) C q_162 dX3_copyFrom_21 rfl ?_
  refine V_iconst (v := 0) (q := 25) C dX3_copyFrom_24 rfl ic_0 ?_
  refine V_bipush (v := 12) (q := 27) C dX3_copyFrom_25 rfl bc_12 ?_
  refine V_copy0 (z := 12) (q := 30) C 18 12 (by decide) (by decide) (eX_18 G ad _) (eX_12 G ad _) tn_12 (by decide) (by decide) (by decide) (hsX (g := va_cpy (σ1 18) (σ1 12) 0 0 12) (eX_12 G ad _)) hoX q_402 q_404 q_403 q_124 (by decide) (Nat.le_of_ble_eq_true rfl) dX3_copyFrom_27 rfl ?_
  refine V_lets hf (fun σ2 hf => ?_)
  refine V_aload_n (q := 31) C dX3_copyFrom_30 rfl rfl 1 rfl ?_
  refine GX_8_2 (q := 34) C q_165 dX3_copyFrom_31 rfl ?_
  refine V_iconst (v := 0) (q := 35) C dX3_copyFrom_34 rfl ic_0 ?_
  refine V_aload_n (q := 36) C dX3_copyFrom_35 rfl rfl 0 rfl ?_
  refine GX_3_2 (q := 39) C q_165 dX3_copyFrom_36 rfl ?_
  refine V_iconst (v := 0) (q := 40) C dX3_copyFrom_39 rfl ic_0 ?_
  refine V_bipush (v := 12) (q := 42) C dX3_copyFrom_40 rfl bc_12 ?_
  refine V_copy0 (z := 12) (q := 45) C 19 13 (by decide) (by decide) (eX_19 G ad _) (eX_13 G ad _) tn_12 (by decide) (by decide) (by decide) (hsX (g := va_cpy (σ2 19) (σ2 13) 0 0 12) (eX_13 G ad _)) hoX q_402 q_404 q_403 q_124 (by decide) (Nat.le_of_ble_eq_true rfl) dX3_copyFrom_42 rfl ?_
  refine V_lets hf (fun σ3 hf => ?_)
  refine V_aload_n (q := 46) C dX3_copyFrom_45 rfl rfl 1 rfl ?_
  refine GX_8_3 (q := 49) C q_167 dX3_copyFrom_46 rfl ?_
  refine V_iconst (v := 0) (q := 50) C dX3_copyFrom_49 rfl ic_0 ?_
  refine V_aload_n (q := 51) C dX3_copyFrom_50 rfl rfl 0 rfl ?_
  refine GX_3_3 (q := 54) C q_167 dX3_copyFrom_51 rfl ?_
  refine V_iconst (v := 0) (q := 55) C dX3_copyFrom_54 rfl ic_0 ?_
  refine V_bipush (v := 12) (q := 57) C dX3_copyFrom_55 rfl bc_12 ?_
  refine V_copy0 (z := 12) (q := 60) C 20 14 (by decide) (by decide) (eX_20 G ad _) (eX_14 G ad _) tn_12 (by decide) (by decide) (by decide) (hsX (g := va_cpy (σ3 20) (σ3 14) 0 0 12) (eX_14 G ad _)) hoX q_402 q_404 q_403 q_124 (by decide) (Nat.le_of_ble_eq_true rfl) dX3_copyFrom_57 rfl ?_
  refine V_lets hf (fun σ4 hf => ?_)
  refine V_aload_n (q := 61) C dX3_copyFrom_60 rfl rfl 1 rfl ?_
  refine GX_8_4 (q := 64) C q_170 dX3_copyFrom_61 rfl ?_
  refine V_iconst (v := 0) (q := 65) C dX3_copyFrom_64 rfl ic_0 ?_
  refine V_aload_n (q := 66) C dX3_copyFrom_65 rfl rfl 0 rfl ?_
  refine GX_3_4 (q := 69) C q_170 dX3_copyFrom_66 rfl ?_
  refine V_iconst (v := 0) (q := 70) C dX3_copyFrom_69 rfl ic_0 ?_
  refine V_bipush (v := 12) (q := 72) C dX3_copyFrom_70 rfl bc_12 ?_
  refine V_copy0 (z := 12) (q := 75) C 21 15 (by decide) (by decide) (eX_21 G ad _) (eX_15 G ad _) tn_12 (by decide) (by decide) (by decide) (hsX (g := va_cpy (σ4 21) (σ4 15) 0 0 12) (eX_15 G ad _)) hoX q_402 q_404 q_403 q_124 (by decide) (Nat.le_of_ble_eq_true rfl) dX3_copyFrom_72 rfl ?_
  refine V_lets hf (fun σ5 hf => ?_)
  refine V_aload_n (q := 76) C dX3_copyFrom_75 rfl rfl 1 rfl ?_
  refine GX_8_5 (q := 79) C q_174 dX3_copyFrom_76 rfl ?_
  refine V_iconst (v := 0) (q := 80) C dX3_copyFrom_79 rfl ic_0 ?_
  refine V_aload_n (q := 81) C dX3_copyFrom_80 rfl rfl 0 rfl ?_
  refine GX_3_5 (q := 84) C q_174 dX3_copyFrom_81 rfl ?_
  refine V_iconst (v := 0) (q := 85) C dX3_copyFrom_84 rfl ic_0 ?_
  refine V_bipush (v := 12) (q := 87) C dX3_copyFrom_85 rfl bc_12 ?_
  refine V_copy0 (z := 12) (q := 90) C 22 16 (by decide) (by decide) (eX_22 G ad _) (eX_16 G ad _) tn_12 (by decide) (by decide) (by decide) (hsX (g := va_cpy (σ5 22) (σ5 16) 0 0 12) (eX_16 G ad _)) hoX q_402 q_404 q_403 q_124 (by decide) (Nat.le_of_ble_eq_true rfl) dX3_copyFrom_87 rfl ?_
  refine V_lets hf (fun σ6 hf => ?_)
  refine V_aload_n (q := 91) C dX3_copyFrom_90 rfl rfl 0 rfl ?_
  refine V_aload_n (q := 92) C dX3_copyFrom_91 rfl rfl 1 rfl ?_
  refine GX_8_6 (q := 95) C q_178 dX3_copyFrom_92 rfl ?_
  refine PX_3_6 (q := 98) C q_178 dX3_copyFrom_95 rfl ?_
  refine V_lets hf (fun σ7 hf => ?_)
  refine V_aload_n (q := 99) C dX3_copyFrom_98 rfl rfl 0 rfl ?_
  refine V_aload_n (q := 100) C dX3_copyFrom_99 rfl rfl 1 rfl ?_
  refine GX_8_7 (q := 103) C q_183 dX3_copyFrom_100 rfl ?_
  refine PX_3_7 (q := 106) C q_183 dX3_copyFrom_103 rfl ?_
  refine V_lets hf (fun σ8 hf => ?_)
  refine V_aload_n (q := 107) C dX3_copyFrom_106 rfl rfl 0 rfl ?_
  refine V_aload_n (q := 108) C dX3_copyFrom_107 rfl rfl 1 rfl ?_
  refine GX_8_8 (q := 111) C q_187 dX3_copyFrom_108 rfl ?_
  refine PX_3_8 (q := 114) C q_187 dX3_copyFrom_111 rfl ?_
  refine V_lets hf (fun σ9 hf => ?_)
  obtain ⟨-, e2⟩ := pr_s hf
  subst e2
  exact V_vret C F (by decide) (by decide) dX3_copyFrom_114
def rmX0_copyFrom_7_9 : Room := { frames := 1, cells := 0, slots := 0, locals := 60 }
def fX0_copyFrom_7_9  (σ : Sg) : Option (Unit × Sg) := lt' (sst σ 27 (va_cpy (σ 31) (σ 27) 0 0 101)) (fun (σ1 : Sg) => lt' (sst σ1 28 (va_cpy (σ1 32) (σ1 28) 0 0 12)) (fun (σ2 : Sg) => lt' (sst σ2 29 (va_cpy (σ2 33) (σ2 29) 0 0 12)) (fun (σ3 : Sg) => lt' (sst σ3 30 (va_cpy (σ3 34) (σ3 30) 0 0 12)) (fun (σ4 : Sg) => gd (b01 (σ4 9 4)) (lt' (sup σ4 7 4 (σ4 9 4)) (fun (σ6 : Sg) => lt' (sup σ6 7 5 (σ6 9 5)) (fun (σ7 : Sg) => lt' (sup σ7 7 6 (σ7 9 6)) (fun (σ8 : Sg) => lt' (sup σ8 7 7 (σ8 9 7)) (fun (σ9 : Sg) => lt' (sup σ9 7 8 (σ9 9 8)) (fun (σ10 : Sg) => lt' (sup σ10 7 9 (σ10 9 9)) (fun (σ11 : Sg) => some ((), σ11))))))))))))
set_option maxHeartbeats 4000000 in
theorem conX0_copyFrom_7_9 (l : Launch) (G : Gx) (ad : Nat → Nat)  (σ : Sg) (σf : Sg)  (hf : fX0_copyFrom_7_9  σ = some ((), σf)) : Con wX l G ad yX0_copyFrom (Cond.code yX0_copyFrom cX0_copyFrom 2 none) rmX0_copyFrom_7_9 0 0 [.ref (ad 7), .ref (ad 9)] σ none σf := by
  refine Con.start (by decide) (Nat.le_of_ble_eq_true rfl) (fun X Q _ C F => ?_)
  refine V_eq (L' := [(0, .ref (ad 7)), (1, .ref (ad 9))]) (st' := []) rfl rfl rfl ?_
  unfold fX0_copyFrom_7_9 at hf
  refine V_aload_n (q := 1) C dX0_copyFrom_0 rfl rfl 1 rfl ?_
  refine GX_9_0 (q := 4) C q_310 dX0_copyFrom_1 rfl ?_
  refine V_iconst (v := 0) (q := 5) C dX0_copyFrom_4 rfl ic_0 ?_
  refine V_aload_n (q := 6) C dX0_copyFrom_5 rfl rfl 0 rfl ?_
  refine GX_7_0 (q := 9) C q_310 dX0_copyFrom_6 rfl ?_
  refine V_iconst (v := 0) (q := 10) C dX0_copyFrom_9 rfl ic_0 ?_
  refine V_bipush (v := 101) (q := 12) C dX0_copyFrom_10 rfl bc_101 ?_
  refine V_copy0 (z := 101) (q := 15) C 31 27 (by decide) (by decide) (eX_31 G ad _) (eX_27 G ad _) tn_101 (by decide) (by decide) (by decide) (hsX (g := va_cpy (σ 31) (σ 27) 0 0 101) (eX_27 G ad _)) hoX q_409 q_404 q_403 q_124 (by decide) (Nat.le_of_ble_eq_true rfl) dX0_copyFrom_12 rfl ?_
  refine V_lets hf (fun σ1 hf => ?_)
  refine V_aload_n (q := 16) C dX0_copyFrom_15 rfl rfl 1 rfl ?_
  refine GX_9_1 (q := 19) C q_312 dX0_copyFrom_16 rfl ?_
  refine V_iconst (v := 0) (q := 20) C dX0_copyFrom_19 rfl ic_0 ?_
  refine V_aload_n (q := 21) C dX0_copyFrom_20 rfl rfl 0 rfl ?_
  refine GX_7_1 (q := 24) C q_312 dX0_copyFrom_21 rfl ?_
  refine V_iconst (v := 0) (q := 25) C dX0_copyFrom_24 rfl ic_0 ?_
  refine V_bipush (v := 12) (q := 27) C dX0_copyFrom_25 rfl bc_12 ?_
  refine V_copy0 (z := 12) (q := 30) C 32 28 (by decide) (by decide) (eX_32 G ad _) (eX_28 G ad _) tn_12 (by decide) (by decide) (by decide) (hsX (g := va_cpy (σ1 32) (σ1 28) 0 0 12) (eX_28 G ad _)) hoX q_409 q_404 q_403 q_124 (by decide) (Nat.le_of_ble_eq_true rfl) dX0_copyFrom_27 rfl ?_
  refine V_lets hf (fun σ2 hf => ?_)
  refine V_aload_n (q := 31) C dX0_copyFrom_30 rfl rfl 1 rfl ?_
  refine GX_9_2 (q := 34) C q_314 dX0_copyFrom_31 rfl ?_
  refine V_iconst (v := 0) (q := 35) C dX0_copyFrom_34 rfl ic_0 ?_
  refine V_aload_n (q := 36) C dX0_copyFrom_35 rfl rfl 0 rfl ?_
  refine GX_7_2 (q := 39) C q_314 dX0_copyFrom_36 rfl ?_
  refine V_iconst (v := 0) (q := 40) C dX0_copyFrom_39 rfl ic_0 ?_
  refine V_bipush (v := 12) (q := 42) C dX0_copyFrom_40 rfl bc_12 ?_
  refine V_copy0 (z := 12) (q := 45) C 33 29 (by decide) (by decide) (eX_33 G ad _) (eX_29 G ad _) tn_12 (by decide) (by decide) (by decide) (hsX (g := va_cpy (σ2 33) (σ2 29) 0 0 12) (eX_29 G ad _)) hoX q_409 q_404 q_403 q_124 (by decide) (Nat.le_of_ble_eq_true rfl) dX0_copyFrom_42 rfl ?_
  refine V_lets hf (fun σ3 hf => ?_)
  refine V_aload_n (q := 46) C dX0_copyFrom_45 rfl rfl 1 rfl ?_
  refine GX_9_3 (q := 49) C q_316 dX0_copyFrom_46 rfl ?_
  refine V_iconst (v := 0) (q := 50) C dX0_copyFrom_49 rfl ic_0 ?_
  refine V_aload_n (q := 51) C dX0_copyFrom_50 rfl rfl 0 rfl ?_
  refine GX_7_3 (q := 54) C q_316 dX0_copyFrom_51 rfl ?_
  refine V_iconst (v := 0) (q := 55) C dX0_copyFrom_54 rfl ic_0 ?_
  refine V_bipush (v := 12) (q := 57) C dX0_copyFrom_55 rfl bc_12 ?_
  refine V_copy0 (z := 12) (q := 60) C 34 30 (by decide) (by decide) (eX_34 G ad _) (eX_30 G ad _) tn_12 (by decide) (by decide) (by decide) (hsX (g := va_cpy (σ3 34) (σ3 30) 0 0 12) (eX_30 G ad _)) hoX q_409 q_404 q_403 q_124 (by decide) (Nat.le_of_ble_eq_true rfl) dX0_copyFrom_57 rfl ?_
  refine V_lets hf (fun σ4 hf => ?_)
  refine V_aload_n (q := 61) C dX0_copyFrom_60 rfl rfl 0 rfl ?_
  refine V_aload_n (q := 62) C dX0_copyFrom_61 rfl rfl 1 rfl ?_
  refine GX_9_4 (q := 65) C q_318 dX0_copyFrom_62 rfl ?_
  obtain ⟨g5, hf⟩ := gd_s hf
  refine PX_7_4 (q := 68) C (b01_s g5) q_318 dX0_copyFrom_65 rfl ?_
  refine V_lets hf (fun σ6 hf => ?_)
  refine V_aload_n (q := 69) C dX0_copyFrom_68 rfl rfl 0 rfl ?_
  refine V_aload_n (q := 70) C dX0_copyFrom_69 rfl rfl 1 rfl ?_
  refine GX_9_5 (q := 73) C q_320 dX0_copyFrom_70 rfl ?_
  refine PX_7_5 (q := 76) C q_320 dX0_copyFrom_73 rfl ?_
  refine V_lets hf (fun σ7 hf => ?_)
  refine V_aload_n (q := 77) C dX0_copyFrom_76 rfl rfl 0 rfl ?_
  refine V_aload_n (q := 78) C dX0_copyFrom_77 rfl rfl 1 rfl ?_
  refine GX_9_6 (q := 81) C q_322 dX0_copyFrom_78 rfl ?_
  refine PX_7_6 (q := 84) C q_322 dX0_copyFrom_81 rfl ?_
  refine V_lets hf (fun σ8 hf => ?_)
  refine V_aload_n (q := 85) C dX0_copyFrom_84 rfl rfl 0 rfl ?_
  refine V_aload_n (q := 86) C dX0_copyFrom_85 rfl rfl 1 rfl ?_
  refine GX_9_7 (q := 89) C q_324 dX0_copyFrom_86 rfl ?_
  refine PX_7_7 (q := 92) C q_324 dX0_copyFrom_89 rfl ?_
  refine V_lets hf (fun σ9 hf => ?_)
  refine V_aload_n (q := 93) C dX0_copyFrom_92 rfl rfl 0 rfl ?_
  refine V_aload_n (q := 94) C dX0_copyFrom_93 rfl rfl 1 rfl ?_
  refine GX_9_8 (q := 97) C q_326 dX0_copyFrom_94 rfl ?_
  refine PX_7_8 (q := 100) C q_326 dX0_copyFrom_97 rfl ?_
  refine V_lets hf (fun σ10 hf => ?_)
  refine V_aload_n (q := 101) C dX0_copyFrom_100 rfl rfl 0 rfl ?_
  refine V_aload_n (q := 102) C dX0_copyFrom_101 rfl rfl 1 rfl ?_
  refine GX_9_9 (q := 105) C q_328 dX0_copyFrom_102 rfl ?_
  refine PX_7_9 (q := 108) C q_328 dX0_copyFrom_105 rfl ?_
  refine V_lets hf (fun σ11 hf => ?_)
  obtain ⟨-, e2⟩ := pr_s hf
  subst e2
  exact V_vret C F (by decide) (by decide) dX0_copyFrom_108
def rmX6_restore : Room := { frames := 6, cells := 1, slots := 6, locals := 90 }
def fX6_restore  (σ : Sg) : Option ((String ⊕ Int32) × Sg) := if (σ 0 10) = 0 then (some (.inl "java/lang/IllegalStateException", σ)) else (bd (fX3_copyFrom_3_8  σ) (fun (_ : Unit) (σ2 : Sg) => bd (fX0_copyFrom_7_9  σ2) (fun (_ : Unit) (σ4 : Sg) => bd (fX4_forget  σ4) (fun (_ : Unit) (σ6 : Sg) => some (.inr (σ6 3 6), σ6)))))
set_option maxHeartbeats 4000000 in
theorem conX6_restore (l : Launch) (G : Gx) (ad : Nat → Nat)  (σ : Sg) (r : String ⊕ Int32) (σf : Sg) (hf : fX6_restore  σ = some (r, σf)) : ConX wX l G ad yX6_restore (Cond.code yX6_restore cX6_restore 1 (some .int)) rmX6_restore 1 6 [.ref (ad 0)] σ (rI r) σf := by
  refine ConX.start (by decide) (Nat.le_of_ble_eq_true rfl) (fun X Q _ C Fr Fx => ?_)
  refine V_eq (L' := [(0, .ref (ad 0))]) (st' := []) rfl rfl rfl ?_
  unfold fX6_restore at hf
  refine V_aload_n (q := 1) C dX6_restore_0 rfl rfl 0 rfl ?_
  refine GX_0_10 (q := 4) C q_363 dX6_restore_1 rfl ?_
  refine V_if_ne (t := 18) (q := 7) C dX6_restore_4 (by decide) rfl (fun c1 => ?_) (fun c1 => ?_)
  · replace hf := (ite_s hf).2 c1
    refine V_aload_n (q := 19) C dX6_restore_18 rfl rfl 0 rfl ?_
    refine GX_0_2 (q := 22) C q_355 dX6_restore_19 rfl ?_
    refine V_aload_n (q := 23) C dX6_restore_22 rfl rfl 0 rfl ?_
    refine GX_0_7 (q := 26) C q_360 dX6_restore_23 rfl ?_
    obtain ⟨_u, σ2, h3, hf⟩ := bd_s hf
    refine V_callVN (av := [.ref (ad 8)]) (st := []) (st1 := []) (q := 29) C 3 (by decide) (eX_3 G ad _) rfl rfl (conX3_copyFrom_3_8 _ _ _  _ _ h3) q_401 q_110 q_398 q_400 q_0 nmX3_copyFrom (by decide) rfl rfl (Nat.le_of_ble_eq_true rfl) dX6_restore_26 rfl rfl ?_
    refine V_aload_n (q := 30) C dX6_restore_29 rfl rfl 0 rfl ?_
    refine GX_0_6 (q := 33) C q_359 dX6_restore_30 rfl ?_
    refine V_aload_n (q := 34) C dX6_restore_33 rfl rfl 0 rfl ?_
    refine GX_0_8 (q := 37) C q_361 dX6_restore_34 rfl ?_
    obtain ⟨_u, σ4, h5, hf⟩ := bd_s hf
    refine V_callVN (av := [.ref (ad 9)]) (st := []) (st1 := []) (q := 40) C 7 (by decide) (eX_7 G ad _) rfl rfl (conX0_copyFrom_7_9 _ _ _  _ _ h5) q_408 q_113 q_405 q_407 q_1 nmX0_copyFrom (by decide) rfl rfl (Nat.le_of_ble_eq_true rfl) dX6_restore_37 rfl rfl ?_
    refine V_aload_n (q := 41) C dX6_restore_40 rfl rfl 0 rfl ?_
    refine GX_0_1 (q := 44) C q_354 dX6_restore_41 rfl ?_
    obtain ⟨_u, σ6, h7, hf⟩ := bd_s hf
    refine V_callVN (av := []) (st := []) (st1 := []) (q := 47) C 2 (by decide) (eX_2 G ad _) rfl rfl (conX4_forget _ _ _  _ _ h7) q_545 q_109 q_542 q_544 q_7 nmX4_forget (by decide) rfl rfl (Nat.le_of_ble_eq_true rfl) dX6_restore_44 rfl rfl ?_
    refine V_aload_n (q := 48) C dX6_restore_47 rfl rfl 0 rfl ?_
    refine GX_0_2 (q := 51) C q_355 dX6_restore_48 rfl ?_
    refine GNX_3_6 (q := 54) C q_181 dX6_restore_51 rfl ?_
    obtain ⟨e1, e2⟩ := pr_s hf
    subst e1; subst e2
    exact V_iret C (Fr _ rfl) (by decide) (by decide) dX6_restore_54
  · replace hf := (ite_s hf).1 c1
    obtain ⟨e1, e2⟩ := pr_s hf
    subst e1; subst e2
    exact V_throwSW (text := "nothing was saved") C rfl (Fx _ rfl) rfl q_522 q_120 (by decide) xa_100 xg_100 dX6_restore_7 dX6_restore_10 dX6_restore_11 dX6_restore_14 dX6_restore_17 (by decide) (Nat.le_of_ble_eq_true rfl) (by decide) (by decide) (by decide) (by decide)
def rmX6_requireDecrement : Room := { frames := 6, cells := 1, slots := 6, locals := 90 }
def fX6_requireDecrement (a : Int32) (σ : Sg) : Option ((String ⊕ Unit) × Sg) := jp (fun (σ1 : Sg) => some (.inl "java/lang/IllegalArgumentException", σ1)) (fun (J13 : Sg → Option ((String ⊕ Unit) × Sg)) => if a < (10 : Int32) then (J13  σ) else (if a ≤ (1000 : Int32) then (some (.inr (), σ)) else (J13  σ)))
set_option maxHeartbeats 4000000 in
theorem conX6_requireDecrement (l : Launch) (G : Gx) (ad : Nat → Nat) (a : Int32) (σ : Sg) (r : String ⊕ Unit) (σf : Sg) (hf : fX6_requireDecrement a σ = some (r, σf)) : ConX wX l G ad yX6_requireDecrement (Cond.code yX6_requireDecrement cX6_requireDecrement 2 none) rmX6_requireDecrement 1 6 [.ref (ad 0), .int a] σ (rU r) σf := by
  refine ConX.start (by decide) (Nat.le_of_ble_eq_true rfl) (fun X Q _ C Fr Fx => ?_)
  refine V_eq (L' := [(0, .ref (ad 0)), (1, .int a)]) (st' := []) rfl rfl rfl ?_
  unfold fX6_requireDecrement at hf
  refine V_iload_n (q := 1) C dX6_requireDecrement_0 rfl rfl 1 rfl ?_
  refine V_bipush (v := 10) (q := 3) C dX6_requireDecrement_1 rfl bc_10 ?_
  obtain ⟨J13, eJ13, hf⟩ := jp_s hf
  have hJ13 : ∀ (σ1 : Sg), J13 σ1 = some (r, σf) → V wX X G ad 2 Q 0 0 σ1 13 [] [] := by
    intro σ1 hf
    subst eJ13
    obtain ⟨e1, e2⟩ := pr_s hf
    subst e1; subst e2
    exact V_throwSW (text := "decrement out of range") C rfl (Fx _ rfl) rfl q_424 q_118 (by decide) xa_87 xg_87 dX6_requireDecrement_13 dX6_requireDecrement_16 dX6_requireDecrement_17 dX6_requireDecrement_20 dX6_requireDecrement_23 (by decide) (Nat.le_of_ble_eq_true rfl) (by decide) (by decide) (by decide) (by decide)
  refine V_icmp_lt (t := 13) (q := 6) C dX6_requireDecrement_3 (by decide) rfl (fun c2 => ?_) (fun c2 => ?_)
  · replace hf := (ite_s hf).1 c2
    refine V_sub (L' := []) [] rfl ?_
    exact hJ13 _ hf
  · replace hf := (ite_s hf).2 c2
    refine V_iload_n (q := 7) C dX6_requireDecrement_6 rfl rfl 1 rfl ?_
    refine V_sipush (v := 1000) (q := 10) C dX6_requireDecrement_7 rfl sc_1000 ?_
    refine V_icmp_le (t := 24) (q := 13) C dX6_requireDecrement_10 (by decide) rfl (fun c3 => ?_) (fun c3 => ?_)
    · replace hf := (ite_s hf).1 c3
      obtain ⟨e1, e2⟩ := pr_s hf
      subst e1; subst e2
      exact V_vret C (Fr _ rfl) (by decide) (by decide) dX6_requireDecrement_24
    · replace hf := (ite_s hf).2 c3
      refine V_sub (L' := []) [] rfl ?_
      exact hJ13 _ hf
def rmX0_lower : Room := { frames := 1, cells := 0, slots := 0, locals := 48 }
def fX0_lower (a : Int32) (σ : Sg) : Option (Unit × Sg) := if (101 : Int32) ≤ ((σ 7 5) + (1 : Int32)) then (some ((), σ)) else (lt' (sup σ 7 5 ((σ 7 5) + (1 : Int32))) (fun (σ2 : Sg) => gd (inb ((σ2 7 5) - (1 : Int32)) 101) (gd (inb (σ2 7 5) 101) (lt' (sup σ2 27 ((σ2 7 5).toNatClampNeg) (if (0 : Int32) < ((σ2 27 (((σ2 7 5) - (1 : Int32)).toNatClampNeg)) - a) then ((σ2 27 (((σ2 7 5) - (1 : Int32)).toNatClampNeg)) - a) else (0 : Int32))) (fun (σ5 : Sg) => some ((), σ5))))))
set_option maxHeartbeats 4000000 in
theorem conX0_lower (l : Launch) (G : Gx) (ad : Nat → Nat) (a : Int32) (σ : Sg) (σf : Sg)  (hf : fX0_lower a σ = some ((), σf)) : Con wX l G ad yX0_lower (Cond.code yX0_lower cX0_lower 2 none) rmX0_lower 0 0 [.ref (ad 7), .int a] σ none σf := by
  refine Con.start (by decide) (Nat.le_of_ble_eq_true rfl) (fun X Q _ C F => ?_)
  refine V_eq (L' := [(0, .ref (ad 7)), (1, .int a)]) (st' := []) rfl rfl rfl ?_
  unfold fX0_lower at hf
  refine V_aload_n (q := 1) C dX0_lower_0 rfl rfl 0 rfl ?_
  refine GX_7_5 (q := 4) C q_320 dX0_lower_1 rfl ?_
  refine V_iconst (v := 1) (q := 5) C dX0_lower_4 rfl ic_1 ?_
  refine V_iadd (q := 6) C dX0_lower_5 rfl ?_
  refine V_bipush (v := 101) (q := 8) C dX0_lower_6 rfl bc_101 ?_
  refine V_icmp_ge (t := 47) (q := 11) C dX0_lower_8 (by decide) rfl (fun c1 => ?_) (fun c1 => ?_)
  · replace hf := (ite_s hf).1 c1
    obtain ⟨-, e2⟩ := pr_s hf
    subst e2
    exact V_vret C F (by decide) (by decide) dX0_lower_47
  · replace hf := (ite_s hf).2 c1
    refine V_aload_n (q := 12) C dX0_lower_11 rfl rfl 0 rfl ?_
    refine V_dup (q := 13) C dX0_lower_12 rfl rfl ?_
    refine GX_7_5 (q := 16) C q_320 dX0_lower_13 rfl ?_
    refine V_iconst (v := 1) (q := 17) C dX0_lower_16 rfl ic_1 ?_
    refine V_iadd (q := 18) C dX0_lower_17 rfl ?_
    refine PX_7_5 (q := 21) C q_320 dX0_lower_18 rfl ?_
    refine V_lets hf (fun σ2 hf => ?_)
    refine V_aload_n (q := 22) C dX0_lower_21 rfl rfl 0 rfl ?_
    refine GX_7_0 (q := 25) C q_310 dX0_lower_22 rfl ?_
    refine V_aload_n (q := 26) C dX0_lower_25 rfl rfl 0 rfl ?_
    refine GX_7_5 (q := 29) C q_320 dX0_lower_26 rfl ?_
    refine V_iconst (v := 0) (q := 30) C dX0_lower_29 rfl ic_0 ?_
    refine V_aload_n (q := 31) C dX0_lower_30 rfl rfl 0 rfl ?_
    refine GX_7_0 (q := 34) C q_310 dX0_lower_31 rfl ?_
    refine V_aload_n (q := 35) C dX0_lower_34 rfl rfl 0 rfl ?_
    refine GX_7_5 (q := 38) C q_320 dX0_lower_35 rfl ?_
    refine V_iconst (v := 1) (q := 39) C dX0_lower_38 rfl ic_1 ?_
    refine V_isub (q := 40) C dX0_lower_39 rfl ?_
    obtain ⟨g3, hf⟩ := gd_s hf
    refine RX_27 (z := ((σ2 7 5) - (1 : Int32)).toNatClampNeg) (q := 41) C rfl (inb_in g3) dX0_lower_40 rfl ?_
    refine V_iload_n (q := 42) C dX0_lower_41 rfl rfl 1 rfl ?_
    refine V_isub (q := 43) C dX0_lower_42 rfl ?_
    refine V_mmax (q := 46) C (q_1000) (q_819) q_128 (mc_max) (by decide) (Nat.le_of_ble_eq_true rfl) (by decide) (by decide) dX0_lower_43 rfl ?_
    obtain ⟨g4, hf⟩ := gd_s hf
    refine SX_27 (z := (σ2 7 5).toNatClampNeg) (q := 47) C rfl (inb_in g4) dX0_lower_46 rfl ?_
    refine V_lets hf (fun σ5 hf => ?_)
    obtain ⟨-, e2⟩ := pr_s hf
    subst e2
    exact V_vret C F (by decide) (by decide) dX0_lower_47
def rmX6_round : Room := { frames := 21, cells := 3, slots := 18, locals := 610 }
def fX6_round (a : Int32) (σ : Sg) : Option ((String ⊕ Int32) × Sg) := bx (fX6_requireDecrement a σ) (fun E σE => some (.inl E, σE)) (fun (_ : Unit) (σ2 : Sg) => bx (fX6_requireAuction  σ2) (fun E σE => some (.inl E, σE)) (fun (_ : Unit) (σ8 : Sg) => bd (fX0_isOver  σ8) (fun (r13 : Int32) (σ14 : Sg) => if r13 = 0 then (bd (fX0_lower a σ14) (fun (_ : Unit) (σ17 : Sg) => bd (fX6_playRound  σ17) (fun (_ : Unit) (σ19 : Sg) => some (.inr (pJ6_bitCount_0f7a4 (σ19 7 7)), σ19)))) else (some (.inl "java/lang/IllegalStateException", σ14)))))
set_option maxHeartbeats 4000000 in
theorem conX6_round (l : Launch) (G : Gx) (ad : Nat → Nat) (a : Int32) (σ : Sg) (r : String ⊕ Int32) (σf : Sg) (hf : fX6_round a σ = some (r, σf)) : ConX wX l G ad yX6_round (Cond.code yX6_round cX6_round 2 (some .int)) rmX6_round 3 18 [.ref (ad 0), .int a] σ (rI r) σf := by
  refine ConX.start (by decide) (Nat.le_of_ble_eq_true rfl) (fun X Q _ C Fr Fx => ?_)
  refine V_eq (L' := [(0, .ref (ad 0)), (1, .int a)]) (st' := []) rfl rfl rfl ?_
  unfold fX6_round at hf
  refine V_aload_n (q := 1) C dX6_round_0 rfl rfl 0 rfl ?_
  refine V_iload_n (q := 2) C dX6_round_1 rfl rfl 1 rfl ?_
  obtain ⟨z4, σ2, h3, hE, hA⟩ := bx_s hf
  refine V_callVX (av := [.int a]) (st := []) (q := 5) (mc := 3) (ms := 18) C 0 (by decide) (eX_0 G ad _) rfl rfl (conX6_requireDecrement _ _ _ _ _ _ _ h3) q_984 q_107 q_981 q_983 q_55 nmX6_requireDecrement (by decide) rfl rfl (Nat.le_of_ble_eq_true rfl) dX6_round_2 rfl (by decide) (by decide) (fun E hz => by
    obtain rfl := rU_l hz
    obtain ⟨e1, e2⟩ := pr_s (hE _ rfl)
    subst e1; subst e2
    exact Fx _ rfl) (fun w5 h6 => ?_)
  obtain ⟨r1, rfl, rfl⟩ := rU_r h6
  replace hf := hA _ rfl
  refine V_eq (L' := [(0, .ref (ad 0)), (1, .int a)]) (st' := []) rfl rfl rfl ?_
  refine V_wide (k2 := 1) (n2 := 6) (by decide) (by decide) ?_
  refine V_aload_n (q := 6) C dX6_round_5 rfl rfl 0 rfl ?_
  obtain ⟨z10, σ8, h9, hE, hA⟩ := bx_s hf
  refine V_callVX (av := []) (st := []) (q := 9) (mc := 3) (ms := 18) C 0 (by decide) (eX_0 G ad _) rfl rfl (conX6_requireAuction _ _ _  _ _ _ h9) q_989 q_107 q_986 q_988 q_56 nmX6_requireAuction (by decide) rfl rfl (Nat.le_of_ble_eq_true rfl) dX6_round_6 rfl (by decide) (by decide) (fun E hz => by
    obtain rfl := rU_l hz
    obtain ⟨e1, e2⟩ := pr_s (hE _ rfl)
    subst e1; subst e2
    exact Fx _ rfl) (fun w11 h12 => ?_)
  obtain ⟨r7, rfl, rfl⟩ := rU_r h12
  replace hf := hA _ rfl
  refine V_eq (L' := [(0, .ref (ad 0)), (1, .int a)]) (st' := []) rfl rfl rfl ?_
  refine V_wide (k2 := 2) (n2 := 12) (by decide) (by decide) ?_
  refine V_aload_n (q := 10) C dX6_round_9 rfl rfl 0 rfl ?_
  refine GX_0_6 (q := 13) C q_359 dX6_round_10 rfl ?_
  obtain ⟨r13, σ14, h15, hf⟩ := bd_s hf
  refine V_callVN (av := []) (st := []) (st1 := [.int r13]) (q := 16) C 7 (by decide) (eX_7 G ad _) rfl rfl (conX0_isOver _ _ _  _ _ _ h15) q_994 q_113 q_991 q_993 q_57 nmX0_isOver (by decide) rfl rfl (Nat.le_of_ble_eq_true rfl) dX6_round_13 rfl rfl ?_
  refine V_if_eq (t := 30) (q := 19) C dX6_round_16 (by decide) rfl (fun c16 => ?_) (fun c16 => ?_)
  · replace hf := (ite_s hf).1 c16
    refine V_aload_n (q := 31) C dX6_round_30 rfl rfl 0 rfl ?_
    refine GX_0_6 (q := 34) C q_359 dX6_round_31 rfl ?_
    refine V_iload_n (q := 35) C dX6_round_34 rfl rfl 1 rfl ?_
    obtain ⟨_u, σ17, h18, hf⟩ := bd_s hf
    refine V_callVN (av := [.int a]) (st := []) (st1 := []) (q := 38) C 7 (by decide) (eX_7 G ad _) rfl rfl (conX0_lower _ _ _ _ _ _ h18) q_999 q_113 q_996 q_998 q_58 nmX0_lower (by decide) rfl rfl (Nat.le_of_ble_eq_true rfl) dX6_round_35 rfl rfl ?_
    refine V_aload_n (q := 39) C dX6_round_38 rfl rfl 0 rfl ?_
    obtain ⟨_u, σ19, h20, hf⟩ := bd_s hf
    refine V_callV (av := []) (st := []) (st1 := []) (q := 42) C 0 (by decide) (eX_0 G ad _) rfl rfl (conX6_playRound _ _ _  _ _ h20) q_948 q_107 q_945 q_947 q_48 nmX6_playRound (by decide) rfl rfl (Nat.le_of_ble_eq_true rfl) dX6_round_39 rfl rfl ?_
    refine V_aload_n (q := 43) C dX6_round_42 rfl rfl 0 rfl ?_
    refine GX_0_6 (q := 46) C q_359 dX6_round_43 rfl ?_
    refine GNX_7_7 (q := 49) C q_325 dX6_round_46 rfl ?_
    refine V_callS (av := [.int (σ19 7 7)]) (st := []) (st1 := [.int (pJ6_bitCount_0f7a4 (σ19 7 7))]) (q := 52) C (conJ6_bitCount_0f7a4 _ _ _ _ _ _ rfl) q_727 q_126 q_866 q_726 nmJ6_bitCount_0f7a4 (by decide) rfl rfl (Nat.le_of_ble_eq_true rfl) dX6_round_49 rfl rfl ?_
    obtain ⟨e1, e2⟩ := pr_s hf
    subst e1; subst e2
    exact V_iret C (Fr _ rfl) (by decide) (by decide) dX6_round_52
  · replace hf := (ite_s hf).2 c16
    obtain ⟨e1, e2⟩ := pr_s hf
    subst e1; subst e2
    exact V_throwSW (text := "the auction is over") C rfl (Fx _ rfl) rfl q_522 q_120 (by decide) xa_100 xg_100 dX6_round_19 dX6_round_22 dX6_round_23 dX6_round_26 dX6_round_29 (by decide) (Nat.le_of_ble_eq_true rfl) (by decide) (by decide) (by decide) (by decide)
def rmX6_run : Room := { frames := 21, cells := 2, slots := 12, locals := 610 }
def fX6_run_11 (a : Int32) (K : Int32 → Sg → Option ((String ⊕ Int32) × Sg)) : Nat → Int32 → Sg → Option ((String ⊕ Int32) × Sg)
  | 0, _, _ => none
  | n + 1, x13, σ14 => if (101 : Int32) ≤ x13 then (K x13 σ14) else (bd (fX0_isOver  σ14) (fun (r17 : Int32) (σ18 : Sg) => if r17 = 0 then (bd (fX0_lower a σ18) (fun (_ : Unit) (σ21 : Sg) => bd (fX6_playRound  σ21) (fun (_ : Unit) (σ23 : Sg) => fX6_run_11 a K n (x13 + (1 : Int32)) σ23))) else (K x13 σ18)))
def fX6_run (a : Int32) (σ : Sg) : Option ((String ⊕ Int32) × Sg) := bx (fX6_requireDecrement a σ) (fun E σE => some (.inl E, σE)) (fun (_ : Unit) (σ2 : Sg) => bx (fX6_requireAuction  σ2) (fun E σE => some (.inl E, σE)) (fun (_ : Unit) (σ8 : Sg) => fX6_run_11 a (fun (y15 : Int32) (σ25 : Sg) => some (.inr y15, σ25)) FU (0 : Int32) σ8))
set_option maxHeartbeats 4000000 in
theorem wlX6_run_11 {X : Cx} {G : Gx} {ad : Nat → Nat} {Q : State → Prop} {r : String ⊕ Int32} {σf : Sg} (C : OK wX X G ad RX6 cX6_run 3 rmX6_run) (Fr : ∀ v, rI r = .inr v → FinR wX X G ad Q 2 12 (some .int) v σf) (Fx : ∀ E, rI r = .inl E → FinX wX X G ad Q 2 12 E σf) (a : Int32) (K : Int32 → Sg → Option ((String ⊕ Int32) × Sg)) (hK : ∀ (y15 : Int32) (σk : Sg), K y15 σk = some (r, σf) → V wX X G ad 3 Q 2 12 σk 45 [(2, .int y15)] []) : ∀ (n : Nat) (x13 : Int32) (σ14 : Sg), fX6_run_11 a K n x13 σ14 = some (r, σf) → V wX X G ad 3 Q 2 12 σ14 11 [(0, .ref (ad 0)), (1, .int a), (2, .int x13)] [] := by
  intro n
  induction n with
  | zero =>
    intro _ _ hf
    exact absurd hf (by simp [fX6_run_11])
  | succ n ih =>
    intro x13 σ14 hf
    rw [fX6_run_11] at hf
    refine V_iload_n (q := 12) C dX6_run_11 rfl rfl 2 rfl ?_
    refine V_bipush (v := 101) (q := 14) C dX6_run_12 rfl bc_101 ?_
    refine V_icmp_ge (t := 45) (q := 17) C dX6_run_14 (by decide) rfl (fun c16 => ?_) (fun c16 => ?_)
    · replace hf := (ite_s hf).1 c16
      refine V_sub (L' := [(2, .int x13)]) [2] rfl ?_
      exact hK _ _ hf
    · replace hf := (ite_s hf).2 c16
      refine V_aload_n (q := 18) C dX6_run_17 rfl rfl 0 rfl ?_
      refine GX_0_6 (q := 21) C q_359 dX6_run_18 rfl ?_
      obtain ⟨r17, σ18, h19, hf⟩ := bd_s hf
      refine V_callVN (av := []) (st := []) (st1 := [.int r17]) (q := 24) C 7 (by decide) (eX_7 G ad _) rfl rfl (conX0_isOver _ _ _  _ _ _ h19) q_994 q_113 q_991 q_993 q_57 nmX0_isOver (by decide) rfl rfl (Nat.le_of_ble_eq_true rfl) dX6_run_21 rfl rfl ?_
      refine V_if_ne (t := 45) (q := 27) C dX6_run_24 (by decide) rfl (fun c20 => ?_) (fun c20 => ?_)
      · replace hf := (ite_s hf).2 c20
        refine V_sub (L' := [(2, .int x13)]) [2] rfl ?_
        exact hK _ _ hf
      · replace hf := (ite_s hf).1 c20
        refine V_aload_n (q := 28) C dX6_run_27 rfl rfl 0 rfl ?_
        refine GX_0_6 (q := 31) C q_359 dX6_run_28 rfl ?_
        refine V_iload_n (q := 32) C dX6_run_31 rfl rfl 1 rfl ?_
        obtain ⟨_u, σ21, h22, hf⟩ := bd_s hf
        refine V_callVN (av := [.int a]) (st := []) (st1 := []) (q := 35) C 7 (by decide) (eX_7 G ad _) rfl rfl (conX0_lower _ _ _ _ _ _ h22) q_999 q_113 q_996 q_998 q_58 nmX0_lower (by decide) rfl rfl (Nat.le_of_ble_eq_true rfl) dX6_run_32 rfl rfl ?_
        refine V_aload_n (q := 36) C dX6_run_35 rfl rfl 0 rfl ?_
        obtain ⟨_u, σ23, h24, hf⟩ := bd_s hf
        refine V_callV (av := []) (st := []) (st1 := []) (q := 39) C 0 (by decide) (eX_0 G ad _) rfl rfl (conX6_playRound _ _ _  _ _ h24) q_948 q_107 q_945 q_947 q_48 nmX6_playRound (by decide) rfl rfl (Nat.le_of_ble_eq_true rfl) dX6_run_36 rfl rfl ?_
        refine V_iinc (L' := [(2, .int (x13 + (1 : Int32))), (0, .ref (ad 0)), (1, .int a)]) (q := 42) C dX6_run_39 rfl 2 rfl (congrArg (fun y => x13 + y) ic_1) (by decide) rfl ?_
        refine V_goto (t := 11) C dX6_run_42 (by decide) ?_
        refine V_sub (L' := [(0, .ref (ad 0)), (1, .int a), (2, .int (x13 + (1 : Int32)))]) [1, 2, 0] rfl ?_
        exact ih _ _ hf
set_option maxHeartbeats 4000000 in
theorem conX6_run (l : Launch) (G : Gx) (ad : Nat → Nat) (a : Int32) (σ : Sg) (r : String ⊕ Int32) (σf : Sg) (hf : fX6_run a σ = some (r, σf)) : ConX wX l G ad yX6_run (Cond.code yX6_run cX6_run 3 (some .int)) rmX6_run 2 12 [.ref (ad 0), .int a] σ (rI r) σf := by
  refine ConX.start (by decide) (Nat.le_of_ble_eq_true rfl) (fun X Q _ C Fr Fx => ?_)
  refine V_eq (L' := [(0, .ref (ad 0)), (1, .int a)]) (st' := []) rfl rfl rfl ?_
  unfold fX6_run at hf
  refine V_aload_n (q := 1) C dX6_run_0 rfl rfl 0 rfl ?_
  refine V_iload_n (q := 2) C dX6_run_1 rfl rfl 1 rfl ?_
  obtain ⟨z4, σ2, h3, hE, hA⟩ := bx_s hf
  refine V_callVX (av := [.int a]) (st := []) (q := 5) (mc := 2) (ms := 12) C 0 (by decide) (eX_0 G ad _) rfl rfl (conX6_requireDecrement _ _ _ _ _ _ _ h3) q_984 q_107 q_981 q_983 q_55 nmX6_requireDecrement (by decide) rfl rfl (Nat.le_of_ble_eq_true rfl) dX6_run_2 rfl (by decide) (by decide) (fun E hz => by
    obtain rfl := rU_l hz
    obtain ⟨e1, e2⟩ := pr_s (hE _ rfl)
    subst e1; subst e2
    exact Fx _ rfl) (fun w5 h6 => ?_)
  obtain ⟨r1, rfl, rfl⟩ := rU_r h6
  replace hf := hA _ rfl
  refine V_eq (L' := [(0, .ref (ad 0)), (1, .int a)]) (st' := []) rfl rfl rfl ?_
  refine V_wide (k2 := 1) (n2 := 6) (by decide) (by decide) ?_
  refine V_aload_n (q := 6) C dX6_run_5 rfl rfl 0 rfl ?_
  obtain ⟨z10, σ8, h9, hE, hA⟩ := bx_s hf
  refine V_callVX (av := []) (st := []) (q := 9) (mc := 2) (ms := 12) C 0 (by decide) (eX_0 G ad _) rfl rfl (conX6_requireAuction _ _ _  _ _ _ h9) q_989 q_107 q_986 q_988 q_56 nmX6_requireAuction (by decide) rfl rfl (Nat.le_of_ble_eq_true rfl) dX6_run_6 rfl (by decide) (by decide) (fun E hz => by
    obtain rfl := rU_l hz
    obtain ⟨e1, e2⟩ := pr_s (hE _ rfl)
    subst e1; subst e2
    exact Fx _ rfl) (fun w11 h12 => ?_)
  obtain ⟨r7, rfl, rfl⟩ := rU_r h12
  replace hf := hA _ rfl
  refine V_eq (L' := [(0, .ref (ad 0)), (1, .int a)]) (st' := []) rfl rfl rfl ?_
  refine V_wide (k2 := 2) (n2 := 12) (by decide) (by decide) ?_
  refine V_iconst (v := 0) (q := 10) C dX6_run_9 rfl ic_0 ?_
  refine V_istore_n (L' := [(2, .int (0 : Int32)), (0, .ref (ad 0)), (1, .int a)]) (q := 11) C dX6_run_10 rfl rfl (by decide) rfl ?_
  refine V_sub (L' := [(0, .ref (ad 0)), (1, .int a), (2, .int (0 : Int32))]) [1, 2, 0] rfl ?_
  refine wlX6_run_11 C Fr Fx a _ (fun y15 σ25 hf => ?_) FU _ _ hf
  refine V_iload_n (q := 46) C dX6_run_45 rfl rfl 0 rfl ?_
  obtain ⟨e1, e2⟩ := pr_s hf
  subst e1; subst e2
  exact V_iret C (Fr _ rfl) (by decide) (by decide) dX6_run_46
def rmX3_copyFrom_8_3 : Room := { frames := 1, cells := 0, slots := 0, locals := 60 }
def fX3_copyFrom_8_3  (σ : Sg) : Option (Unit × Sg) := lt' (sst σ 17 (va_cpy (σ 11) (σ 17) 0 0 12)) (fun (σ1 : Sg) => lt' (sst σ1 18 (va_cpy (σ1 12) (σ1 18) 0 0 12)) (fun (σ2 : Sg) => lt' (sst σ2 19 (va_cpy (σ2 13) (σ2 19) 0 0 12)) (fun (σ3 : Sg) => lt' (sst σ3 20 (va_cpy (σ3 14) (σ3 20) 0 0 12)) (fun (σ4 : Sg) => lt' (sst σ4 21 (va_cpy (σ4 15) (σ4 21) 0 0 12)) (fun (σ5 : Sg) => lt' (sst σ5 22 (va_cpy (σ5 16) (σ5 22) 0 0 12)) (fun (σ6 : Sg) => lt' (sup σ6 8 6 (σ6 3 6)) (fun (σ7 : Sg) => lt' (sup σ7 8 7 (σ7 3 7)) (fun (σ8 : Sg) => lt' (sup σ8 8 8 (σ8 3 8)) (fun (σ9 : Sg) => some ((), σ9))))))))))
set_option maxHeartbeats 4000000 in
theorem conX3_copyFrom_8_3 (l : Launch) (G : Gx) (ad : Nat → Nat)  (σ : Sg) (σf : Sg)  (hf : fX3_copyFrom_8_3  σ = some ((), σf)) : Con wX l G ad yX3_copyFrom (Cond.code yX3_copyFrom cX3_copyFrom 2 none) rmX3_copyFrom_8_3 0 0 [.ref (ad 8), .ref (ad 3)] σ none σf := by
  refine Con.start (by decide) (Nat.le_of_ble_eq_true rfl) (fun X Q _ C F => ?_)
  refine V_eq (L' := [(0, .ref (ad 8)), (1, .ref (ad 3))]) (st' := []) rfl rfl rfl ?_
  unfold fX3_copyFrom_8_3 at hf
  refine V_aload_n (q := 1) C dX3_copyFrom_0 rfl rfl 1 rfl ?_
  refine GX_3_0 (q := 4) C q_159 dX3_copyFrom_1 rfl ?_
  refine V_iconst (v := 0) (q := 5) C dX3_copyFrom_4 rfl ic_0 ?_
  refine V_aload_n (q := 6) C dX3_copyFrom_5 rfl rfl 0 rfl ?_
  refine GX_8_0 (q := 9) C q_159 dX3_copyFrom_6 rfl ?_
  refine V_iconst (v := 0) (q := 10) C dX3_copyFrom_9 rfl ic_0 ?_
  refine V_bipush (v := 12) (q := 12) C dX3_copyFrom_10 rfl bc_12 ?_
  refine V_copy0 (z := 12) (q := 15) C 11 17 (by decide) (by decide) (eX_11 G ad _) (eX_17 G ad _) tn_12 (by decide) (by decide) (by decide) (hsX (g := va_cpy (σ 11) (σ 17) 0 0 12) (eX_17 G ad _)) hoX q_402 q_404 q_403 q_124 (by decide) (Nat.le_of_ble_eq_true rfl) dX3_copyFrom_12 rfl ?_
  refine V_lets hf (fun σ1 hf => ?_)
  refine V_aload_n (q := 16) C dX3_copyFrom_15 rfl rfl 1 rfl ?_
  refine GX_3_1 (q := 19) C q_162 dX3_copyFrom_16 rfl ?_
  refine V_iconst (v := 0) (q := 20) C dX3_copyFrom_19 rfl ic_0 ?_
  refine V_aload_n (q := 21) C dX3_copyFrom_20 rfl rfl 0 rfl ?_
  refine GX_8_1 (q := 24) C q_162 dX3_copyFrom_21 rfl ?_
  refine V_iconst (v := 0) (q := 25) C dX3_copyFrom_24 rfl ic_0 ?_
  refine V_bipush (v := 12) (q := 27) C dX3_copyFrom_25 rfl bc_12 ?_
  refine V_copy0 (z := 12) (q := 30) C 12 18 (by decide) (by decide) (eX_12 G ad _) (eX_18 G ad _) tn_12 (by decide) (by decide) (by decide) (hsX (g := va_cpy (σ1 12) (σ1 18) 0 0 12) (eX_18 G ad _)) hoX q_402 q_404 q_403 q_124 (by decide) (Nat.le_of_ble_eq_true rfl) dX3_copyFrom_27 rfl ?_
  refine V_lets hf (fun σ2 hf => ?_)
  refine V_aload_n (q := 31) C dX3_copyFrom_30 rfl rfl 1 rfl ?_
  refine GX_3_2 (q := 34) C q_165 dX3_copyFrom_31 rfl ?_
  refine V_iconst (v := 0) (q := 35) C dX3_copyFrom_34 rfl ic_0 ?_
  refine V_aload_n (q := 36) C dX3_copyFrom_35 rfl rfl 0 rfl ?_
  refine GX_8_2 (q := 39) C q_165 dX3_copyFrom_36 rfl ?_
  refine V_iconst (v := 0) (q := 40) C dX3_copyFrom_39 rfl ic_0 ?_
  refine V_bipush (v := 12) (q := 42) C dX3_copyFrom_40 rfl bc_12 ?_
  refine V_copy0 (z := 12) (q := 45) C 13 19 (by decide) (by decide) (eX_13 G ad _) (eX_19 G ad _) tn_12 (by decide) (by decide) (by decide) (hsX (g := va_cpy (σ2 13) (σ2 19) 0 0 12) (eX_19 G ad _)) hoX q_402 q_404 q_403 q_124 (by decide) (Nat.le_of_ble_eq_true rfl) dX3_copyFrom_42 rfl ?_
  refine V_lets hf (fun σ3 hf => ?_)
  refine V_aload_n (q := 46) C dX3_copyFrom_45 rfl rfl 1 rfl ?_
  refine GX_3_3 (q := 49) C q_167 dX3_copyFrom_46 rfl ?_
  refine V_iconst (v := 0) (q := 50) C dX3_copyFrom_49 rfl ic_0 ?_
  refine V_aload_n (q := 51) C dX3_copyFrom_50 rfl rfl 0 rfl ?_
  refine GX_8_3 (q := 54) C q_167 dX3_copyFrom_51 rfl ?_
  refine V_iconst (v := 0) (q := 55) C dX3_copyFrom_54 rfl ic_0 ?_
  refine V_bipush (v := 12) (q := 57) C dX3_copyFrom_55 rfl bc_12 ?_
  refine V_copy0 (z := 12) (q := 60) C 14 20 (by decide) (by decide) (eX_14 G ad _) (eX_20 G ad _) tn_12 (by decide) (by decide) (by decide) (hsX (g := va_cpy (σ3 14) (σ3 20) 0 0 12) (eX_20 G ad _)) hoX q_402 q_404 q_403 q_124 (by decide) (Nat.le_of_ble_eq_true rfl) dX3_copyFrom_57 rfl ?_
  refine V_lets hf (fun σ4 hf => ?_)
  refine V_aload_n (q := 61) C dX3_copyFrom_60 rfl rfl 1 rfl ?_
  refine GX_3_4 (q := 64) C q_170 dX3_copyFrom_61 rfl ?_
  refine V_iconst (v := 0) (q := 65) C dX3_copyFrom_64 rfl ic_0 ?_
  refine V_aload_n (q := 66) C dX3_copyFrom_65 rfl rfl 0 rfl ?_
  refine GX_8_4 (q := 69) C q_170 dX3_copyFrom_66 rfl ?_
  refine V_iconst (v := 0) (q := 70) C dX3_copyFrom_69 rfl ic_0 ?_
  refine V_bipush (v := 12) (q := 72) C dX3_copyFrom_70 rfl bc_12 ?_
  refine V_copy0 (z := 12) (q := 75) C 15 21 (by decide) (by decide) (eX_15 G ad _) (eX_21 G ad _) tn_12 (by decide) (by decide) (by decide) (hsX (g := va_cpy (σ4 15) (σ4 21) 0 0 12) (eX_21 G ad _)) hoX q_402 q_404 q_403 q_124 (by decide) (Nat.le_of_ble_eq_true rfl) dX3_copyFrom_72 rfl ?_
  refine V_lets hf (fun σ5 hf => ?_)
  refine V_aload_n (q := 76) C dX3_copyFrom_75 rfl rfl 1 rfl ?_
  refine GX_3_5 (q := 79) C q_174 dX3_copyFrom_76 rfl ?_
  refine V_iconst (v := 0) (q := 80) C dX3_copyFrom_79 rfl ic_0 ?_
  refine V_aload_n (q := 81) C dX3_copyFrom_80 rfl rfl 0 rfl ?_
  refine GX_8_5 (q := 84) C q_174 dX3_copyFrom_81 rfl ?_
  refine V_iconst (v := 0) (q := 85) C dX3_copyFrom_84 rfl ic_0 ?_
  refine V_bipush (v := 12) (q := 87) C dX3_copyFrom_85 rfl bc_12 ?_
  refine V_copy0 (z := 12) (q := 90) C 16 22 (by decide) (by decide) (eX_16 G ad _) (eX_22 G ad _) tn_12 (by decide) (by decide) (by decide) (hsX (g := va_cpy (σ5 16) (σ5 22) 0 0 12) (eX_22 G ad _)) hoX q_402 q_404 q_403 q_124 (by decide) (Nat.le_of_ble_eq_true rfl) dX3_copyFrom_87 rfl ?_
  refine V_lets hf (fun σ6 hf => ?_)
  refine V_aload_n (q := 91) C dX3_copyFrom_90 rfl rfl 0 rfl ?_
  refine V_aload_n (q := 92) C dX3_copyFrom_91 rfl rfl 1 rfl ?_
  refine GX_3_6 (q := 95) C q_178 dX3_copyFrom_92 rfl ?_
  refine PX_8_6 (q := 98) C q_178 dX3_copyFrom_95 rfl ?_
  refine V_lets hf (fun σ7 hf => ?_)
  refine V_aload_n (q := 99) C dX3_copyFrom_98 rfl rfl 0 rfl ?_
  refine V_aload_n (q := 100) C dX3_copyFrom_99 rfl rfl 1 rfl ?_
  refine GX_3_7 (q := 103) C q_183 dX3_copyFrom_100 rfl ?_
  refine PX_8_7 (q := 106) C q_183 dX3_copyFrom_103 rfl ?_
  refine V_lets hf (fun σ8 hf => ?_)
  refine V_aload_n (q := 107) C dX3_copyFrom_106 rfl rfl 0 rfl ?_
  refine V_aload_n (q := 108) C dX3_copyFrom_107 rfl rfl 1 rfl ?_
  refine GX_3_8 (q := 111) C q_187 dX3_copyFrom_108 rfl ?_
  refine PX_8_8 (q := 114) C q_187 dX3_copyFrom_111 rfl ?_
  refine V_lets hf (fun σ9 hf => ?_)
  obtain ⟨-, e2⟩ := pr_s hf
  subst e2
  exact V_vret C F (by decide) (by decide) dX3_copyFrom_114
def rmX0_copyFrom_9_7 : Room := { frames := 1, cells := 0, slots := 0, locals := 60 }
def fX0_copyFrom_9_7  (σ : Sg) : Option (Unit × Sg) := lt' (sst σ 31 (va_cpy (σ 27) (σ 31) 0 0 101)) (fun (σ1 : Sg) => lt' (sst σ1 32 (va_cpy (σ1 28) (σ1 32) 0 0 12)) (fun (σ2 : Sg) => lt' (sst σ2 33 (va_cpy (σ2 29) (σ2 33) 0 0 12)) (fun (σ3 : Sg) => lt' (sst σ3 34 (va_cpy (σ3 30) (σ3 34) 0 0 12)) (fun (σ4 : Sg) => gd (b01 (σ4 7 4)) (lt' (sup σ4 9 4 (σ4 7 4)) (fun (σ6 : Sg) => lt' (sup σ6 9 5 (σ6 7 5)) (fun (σ7 : Sg) => lt' (sup σ7 9 6 (σ7 7 6)) (fun (σ8 : Sg) => lt' (sup σ8 9 7 (σ8 7 7)) (fun (σ9 : Sg) => lt' (sup σ9 9 8 (σ9 7 8)) (fun (σ10 : Sg) => lt' (sup σ10 9 9 (σ10 7 9)) (fun (σ11 : Sg) => some ((), σ11))))))))))))
set_option maxHeartbeats 4000000 in
theorem conX0_copyFrom_9_7 (l : Launch) (G : Gx) (ad : Nat → Nat)  (σ : Sg) (σf : Sg)  (hf : fX0_copyFrom_9_7  σ = some ((), σf)) : Con wX l G ad yX0_copyFrom (Cond.code yX0_copyFrom cX0_copyFrom 2 none) rmX0_copyFrom_9_7 0 0 [.ref (ad 9), .ref (ad 7)] σ none σf := by
  refine Con.start (by decide) (Nat.le_of_ble_eq_true rfl) (fun X Q _ C F => ?_)
  refine V_eq (L' := [(0, .ref (ad 9)), (1, .ref (ad 7))]) (st' := []) rfl rfl rfl ?_
  unfold fX0_copyFrom_9_7 at hf
  refine V_aload_n (q := 1) C dX0_copyFrom_0 rfl rfl 1 rfl ?_
  refine GX_7_0 (q := 4) C q_310 dX0_copyFrom_1 rfl ?_
  refine V_iconst (v := 0) (q := 5) C dX0_copyFrom_4 rfl ic_0 ?_
  refine V_aload_n (q := 6) C dX0_copyFrom_5 rfl rfl 0 rfl ?_
  refine GX_9_0 (q := 9) C q_310 dX0_copyFrom_6 rfl ?_
  refine V_iconst (v := 0) (q := 10) C dX0_copyFrom_9 rfl ic_0 ?_
  refine V_bipush (v := 101) (q := 12) C dX0_copyFrom_10 rfl bc_101 ?_
  refine V_copy0 (z := 101) (q := 15) C 27 31 (by decide) (by decide) (eX_27 G ad _) (eX_31 G ad _) tn_101 (by decide) (by decide) (by decide) (hsX (g := va_cpy (σ 27) (σ 31) 0 0 101) (eX_31 G ad _)) hoX q_409 q_404 q_403 q_124 (by decide) (Nat.le_of_ble_eq_true rfl) dX0_copyFrom_12 rfl ?_
  refine V_lets hf (fun σ1 hf => ?_)
  refine V_aload_n (q := 16) C dX0_copyFrom_15 rfl rfl 1 rfl ?_
  refine GX_7_1 (q := 19) C q_312 dX0_copyFrom_16 rfl ?_
  refine V_iconst (v := 0) (q := 20) C dX0_copyFrom_19 rfl ic_0 ?_
  refine V_aload_n (q := 21) C dX0_copyFrom_20 rfl rfl 0 rfl ?_
  refine GX_9_1 (q := 24) C q_312 dX0_copyFrom_21 rfl ?_
  refine V_iconst (v := 0) (q := 25) C dX0_copyFrom_24 rfl ic_0 ?_
  refine V_bipush (v := 12) (q := 27) C dX0_copyFrom_25 rfl bc_12 ?_
  refine V_copy0 (z := 12) (q := 30) C 28 32 (by decide) (by decide) (eX_28 G ad _) (eX_32 G ad _) tn_12 (by decide) (by decide) (by decide) (hsX (g := va_cpy (σ1 28) (σ1 32) 0 0 12) (eX_32 G ad _)) hoX q_409 q_404 q_403 q_124 (by decide) (Nat.le_of_ble_eq_true rfl) dX0_copyFrom_27 rfl ?_
  refine V_lets hf (fun σ2 hf => ?_)
  refine V_aload_n (q := 31) C dX0_copyFrom_30 rfl rfl 1 rfl ?_
  refine GX_7_2 (q := 34) C q_314 dX0_copyFrom_31 rfl ?_
  refine V_iconst (v := 0) (q := 35) C dX0_copyFrom_34 rfl ic_0 ?_
  refine V_aload_n (q := 36) C dX0_copyFrom_35 rfl rfl 0 rfl ?_
  refine GX_9_2 (q := 39) C q_314 dX0_copyFrom_36 rfl ?_
  refine V_iconst (v := 0) (q := 40) C dX0_copyFrom_39 rfl ic_0 ?_
  refine V_bipush (v := 12) (q := 42) C dX0_copyFrom_40 rfl bc_12 ?_
  refine V_copy0 (z := 12) (q := 45) C 29 33 (by decide) (by decide) (eX_29 G ad _) (eX_33 G ad _) tn_12 (by decide) (by decide) (by decide) (hsX (g := va_cpy (σ2 29) (σ2 33) 0 0 12) (eX_33 G ad _)) hoX q_409 q_404 q_403 q_124 (by decide) (Nat.le_of_ble_eq_true rfl) dX0_copyFrom_42 rfl ?_
  refine V_lets hf (fun σ3 hf => ?_)
  refine V_aload_n (q := 46) C dX0_copyFrom_45 rfl rfl 1 rfl ?_
  refine GX_7_3 (q := 49) C q_316 dX0_copyFrom_46 rfl ?_
  refine V_iconst (v := 0) (q := 50) C dX0_copyFrom_49 rfl ic_0 ?_
  refine V_aload_n (q := 51) C dX0_copyFrom_50 rfl rfl 0 rfl ?_
  refine GX_9_3 (q := 54) C q_316 dX0_copyFrom_51 rfl ?_
  refine V_iconst (v := 0) (q := 55) C dX0_copyFrom_54 rfl ic_0 ?_
  refine V_bipush (v := 12) (q := 57) C dX0_copyFrom_55 rfl bc_12 ?_
  refine V_copy0 (z := 12) (q := 60) C 30 34 (by decide) (by decide) (eX_30 G ad _) (eX_34 G ad _) tn_12 (by decide) (by decide) (by decide) (hsX (g := va_cpy (σ3 30) (σ3 34) 0 0 12) (eX_34 G ad _)) hoX q_409 q_404 q_403 q_124 (by decide) (Nat.le_of_ble_eq_true rfl) dX0_copyFrom_57 rfl ?_
  refine V_lets hf (fun σ4 hf => ?_)
  refine V_aload_n (q := 61) C dX0_copyFrom_60 rfl rfl 0 rfl ?_
  refine V_aload_n (q := 62) C dX0_copyFrom_61 rfl rfl 1 rfl ?_
  refine GX_7_4 (q := 65) C q_318 dX0_copyFrom_62 rfl ?_
  obtain ⟨g5, hf⟩ := gd_s hf
  refine PX_9_4 (q := 68) C (b01_s g5) q_318 dX0_copyFrom_65 rfl ?_
  refine V_lets hf (fun σ6 hf => ?_)
  refine V_aload_n (q := 69) C dX0_copyFrom_68 rfl rfl 0 rfl ?_
  refine V_aload_n (q := 70) C dX0_copyFrom_69 rfl rfl 1 rfl ?_
  refine GX_7_5 (q := 73) C q_320 dX0_copyFrom_70 rfl ?_
  refine PX_9_5 (q := 76) C q_320 dX0_copyFrom_73 rfl ?_
  refine V_lets hf (fun σ7 hf => ?_)
  refine V_aload_n (q := 77) C dX0_copyFrom_76 rfl rfl 0 rfl ?_
  refine V_aload_n (q := 78) C dX0_copyFrom_77 rfl rfl 1 rfl ?_
  refine GX_7_6 (q := 81) C q_322 dX0_copyFrom_78 rfl ?_
  refine PX_9_6 (q := 84) C q_322 dX0_copyFrom_81 rfl ?_
  refine V_lets hf (fun σ8 hf => ?_)
  refine V_aload_n (q := 85) C dX0_copyFrom_84 rfl rfl 0 rfl ?_
  refine V_aload_n (q := 86) C dX0_copyFrom_85 rfl rfl 1 rfl ?_
  refine GX_7_7 (q := 89) C q_324 dX0_copyFrom_86 rfl ?_
  refine PX_9_7 (q := 92) C q_324 dX0_copyFrom_89 rfl ?_
  refine V_lets hf (fun σ9 hf => ?_)
  refine V_aload_n (q := 93) C dX0_copyFrom_92 rfl rfl 0 rfl ?_
  refine V_aload_n (q := 94) C dX0_copyFrom_93 rfl rfl 1 rfl ?_
  refine GX_7_8 (q := 97) C q_326 dX0_copyFrom_94 rfl ?_
  refine PX_9_8 (q := 100) C q_326 dX0_copyFrom_97 rfl ?_
  refine V_lets hf (fun σ10 hf => ?_)
  refine V_aload_n (q := 101) C dX0_copyFrom_100 rfl rfl 0 rfl ?_
  refine V_aload_n (q := 102) C dX0_copyFrom_101 rfl rfl 1 rfl ?_
  refine GX_7_9 (q := 105) C q_328 dX0_copyFrom_102 rfl ?_
  refine PX_9_9 (q := 108) C q_328 dX0_copyFrom_105 rfl ?_
  refine V_lets hf (fun σ11 hf => ?_)
  obtain ⟨-, e2⟩ := pr_s hf
  subst e2
  exact V_vret C F (by decide) (by decide) dX0_copyFrom_108
