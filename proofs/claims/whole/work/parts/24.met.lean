def rmX6_save : Room := { frames := 2, cells := 0, slots := 0, locals := 81 }
def fX6_save  (σ : Sg) : Option (Int32 × Sg) := bd (fX3_copyFrom_8_3  σ) (fun (_ : Unit) (σ1 : Sg) => bd (fX0_copyFrom_9_7  σ1) (fun (_ : Unit) (σ3 : Sg) => lt' (sup σ3 0 10 (1 : Int32)) (fun (σ5 : Sg) => some ((σ5 3 6), σ5))))
set_option maxHeartbeats 4000000 in
theorem conX6_save (l : Launch) (G : Gx) (ad : Nat → Nat)  (σ : Sg) (r : Int32) (σf : Sg)  (hf : fX6_save  σ = some (r, σf)) : Con wX l G ad yX6_save (Cond.code yX6_save cX6_save 1 (some .int)) rmX6_save 0 0 [.ref (ad 0)] σ (some (.int r)) σf := by
  refine Con.start (by decide) (Nat.le_of_ble_eq_true rfl) (fun X Q _ C F => ?_)
  refine V_eq (L' := [(0, .ref (ad 0))]) (st' := []) rfl rfl rfl ?_
  unfold fX6_save at hf
  refine V_aload_n (q := 1) C dX6_save_0 rfl rfl 0 rfl ?_
  refine GX_0_7 (q := 4) C q_360 dX6_save_1 rfl ?_
  refine V_aload_n (q := 5) C dX6_save_4 rfl rfl 0 rfl ?_
  refine GX_0_2 (q := 8) C q_355 dX6_save_5 rfl ?_
  obtain ⟨_u, σ1, h2, hf⟩ := bd_s hf
  refine V_callVN (av := [.ref (ad 3)]) (st := []) (st1 := []) (q := 11) C 8 (by decide) (eX_8 G ad _) rfl rfl (conX3_copyFrom_8_3 _ _ _  _ _ h2) q_401 q_110 q_398 q_400 q_0 nmX3_copyFrom (by decide) rfl rfl (Nat.le_of_ble_eq_true rfl) dX6_save_8 rfl rfl ?_
  refine V_aload_n (q := 12) C dX6_save_11 rfl rfl 0 rfl ?_
  refine GX_0_8 (q := 15) C q_361 dX6_save_12 rfl ?_
  refine V_aload_n (q := 16) C dX6_save_15 rfl rfl 0 rfl ?_
  refine GX_0_6 (q := 19) C q_359 dX6_save_16 rfl ?_
  obtain ⟨_u, σ3, h4, hf⟩ := bd_s hf
  refine V_callVN (av := [.ref (ad 7)]) (st := []) (st1 := []) (q := 22) C 9 (by decide) (eX_9 G ad _) rfl rfl (conX0_copyFrom_9_7 _ _ _  _ _ h4) q_408 q_113 q_405 q_407 q_1 nmX0_copyFrom (by decide) rfl rfl (Nat.le_of_ble_eq_true rfl) dX6_save_19 rfl rfl ?_
  refine V_aload_n (q := 23) C dX6_save_22 rfl rfl 0 rfl ?_
  refine V_iconst (v := 1) (q := 24) C dX6_save_23 rfl ic_1 ?_
  refine PX_0_10 (q := 27) C (by decide) q_363 dX6_save_24 rfl ?_
  refine V_lets hf (fun σ5 hf => ?_)
  refine V_aload_n (q := 28) C dX6_save_27 rfl rfl 0 rfl ?_
  refine GX_0_2 (q := 31) C q_355 dX6_save_28 rfl ?_
  refine GNX_3_6 (q := 34) C q_181 dX6_save_31 rfl ?_
  obtain ⟨e1, e2⟩ := pr_s hf
  subst e1; subst e2
  exact V_iret C F (by decide) (by decide) dX6_save_34
def rmX6_setAvailable : Room := { frames := 7, cells := 2, slots := 12, locals := 111 }
def fX6_setAvailable (a : Int32) (σ : Sg) : Option ((String ⊕ Int32) × Sg) := bx (fX6_requireChannels a σ) (fun E σE => some (.inl E, σE)) (fun (_ : Unit) (σ2 : Sg) => bx (fX6_requireNoAuction  σ2) (fun E σE => some (.inl E, σE)) (fun (_ : Unit) (σ8 : Sg) => lt' ((σ8 3 8)) (fun (x13 : Int32) => lt' (sup σ8 3 8 a) (fun (σ14 : Sg) => bd (fX4_forget  σ14) (fun (_ : Unit) (σ15 : Sg) => some (.inr x13, σ15))))))
set_option maxHeartbeats 4000000 in
theorem conX6_setAvailable (l : Launch) (G : Gx) (ad : Nat → Nat) (a : Int32) (σ : Sg) (r : String ⊕ Int32) (σf : Sg) (hf : fX6_setAvailable a σ = some (r, σf)) : ConX wX l G ad yX6_setAvailable (Cond.code yX6_setAvailable cX6_setAvailable 3 (some .int)) rmX6_setAvailable 2 12 [.ref (ad 0), .int a] σ (rI r) σf := by
  refine ConX.start (by decide) (Nat.le_of_ble_eq_true rfl) (fun X Q _ C Fr Fx => ?_)
  refine V_eq (L' := [(0, .ref (ad 0)), (1, .int a)]) (st' := []) rfl rfl rfl ?_
  unfold fX6_setAvailable at hf
  refine V_aload_n (q := 1) C dX6_setAvailable_0 rfl rfl 0 rfl ?_
  refine V_iload_n (q := 2) C dX6_setAvailable_1 rfl rfl 1 rfl ?_
  obtain ⟨z4, σ2, h3, hE, hA⟩ := bx_s hf
  refine V_callVX (av := [.int a]) (st := []) (q := 5) (mc := 2) (ms := 12) C 0 (by decide) (eX_0 G ad _) rfl rfl (conX6_requireChannels _ _ _ _ _ _ _ h3) q_423 q_107 q_420 q_422 q_2 nmX6_requireChannels (by decide) rfl rfl (Nat.le_of_ble_eq_true rfl) dX6_setAvailable_2 rfl (by decide) (by decide) (fun E hz => by
    obtain rfl := rU_l hz
    obtain ⟨e1, e2⟩ := pr_s (hE _ rfl)
    subst e1; subst e2
    exact Fx _ rfl) (fun w5 h6 => ?_)
  obtain ⟨r1, rfl, rfl⟩ := rU_r h6
  replace hf := hA _ rfl
  refine V_eq (L' := [(0, .ref (ad 0)), (1, .int a)]) (st' := []) rfl rfl rfl ?_
  refine V_wide (k2 := 1) (n2 := 6) (by decide) (by decide) ?_
  refine V_aload_n (q := 6) C dX6_setAvailable_5 rfl rfl 0 rfl ?_
  obtain ⟨z10, σ8, h9, hE, hA⟩ := bx_s hf
  refine V_callVX (av := []) (st := []) (q := 9) (mc := 2) (ms := 12) C 0 (by decide) (eX_0 G ad _) rfl rfl (conX6_requireNoAuction _ _ _  _ _ _ h9) q_505 q_107 q_502 q_504 q_5 nmX6_requireNoAuction (by decide) rfl rfl (Nat.le_of_ble_eq_true rfl) dX6_setAvailable_6 rfl (by decide) (by decide) (fun E hz => by
    obtain rfl := rU_l hz
    obtain ⟨e1, e2⟩ := pr_s (hE _ rfl)
    subst e1; subst e2
    exact Fx _ rfl) (fun w11 h12 => ?_)
  obtain ⟨r7, rfl, rfl⟩ := rU_r h12
  replace hf := hA _ rfl
  refine V_eq (L' := [(0, .ref (ad 0)), (1, .int a)]) (st' := []) rfl rfl rfl ?_
  refine V_wide (k2 := 2) (n2 := 12) (by decide) (by decide) ?_
  refine V_aload_n (q := 10) C dX6_setAvailable_9 rfl rfl 0 rfl ?_
  refine GX_0_2 (q := 13) C q_355 dX6_setAvailable_10 rfl ?_
  refine GNX_3_8 (q := 16) C q_189 dX6_setAvailable_13 rfl ?_
  refine V_let (cv := Value.int) hf (fun x13 hf => ?_)
  refine V_istore_n (L' := [(2, .int x13), (0, .ref (ad 0)), (1, .int a)]) (q := 17) C dX6_setAvailable_16 rfl rfl (by decide) rfl ?_
  refine V_aload_n (q := 18) C dX6_setAvailable_17 rfl rfl 1 rfl ?_
  refine GX_0_2 (q := 21) C q_355 dX6_setAvailable_18 rfl ?_
  refine V_iload_n (q := 22) C dX6_setAvailable_21 rfl rfl 2 rfl ?_
  refine PNX_3_8 (q := 25) C q_189 dX6_setAvailable_22 rfl ?_
  refine V_lets hf (fun σ14 hf => ?_)
  refine V_aload_n (q := 26) C dX6_setAvailable_25 rfl rfl 1 rfl ?_
  refine GX_0_1 (q := 29) C q_354 dX6_setAvailable_26 rfl ?_
  obtain ⟨_u, σ15, h16, hf⟩ := bd_s hf
  refine V_callVN (av := []) (st := []) (st1 := []) (q := 32) C 2 (by decide) (eX_2 G ad _) rfl rfl (conX4_forget _ _ _  _ _ h16) q_545 q_109 q_542 q_544 q_7 nmX4_forget (by decide) rfl rfl (Nat.le_of_ble_eq_true rfl) dX6_setAvailable_29 rfl rfl ?_
  refine V_iload_n (q := 33) C dX6_setAvailable_32 rfl rfl 0 rfl ?_
  obtain ⟨e1, e2⟩ := pr_s hf
  subst e1; subst e2
  exact V_iret C (Fr _ rfl) (by decide) (by decide) dX6_setAvailable_33
def rmX5_at : Room := { frames := 0, cells := 0, slots := 0, locals := 0 }
def fX5_at (a : Int32) (σ : Sg) : Option (Int32 × Sg) := jp (fun (σ1 : Sg) => gd (nch (0 : Int32)) (some ((0 : Int32), σ1))) (fun (J21 : Sg → Option (Int32 × Sg)) => if a < 0 then (J21  σ) else (if (σ 5 1) ≤ a then (J21  σ) else (gd (inb a 420) (gd (nch (σ 25 a.toNatClampNeg)) (some ((σ 25 a.toNatClampNeg), σ))))))
set_option maxHeartbeats 4000000 in
theorem conX5_at (l : Launch) (G : Gx) (ad : Nat → Nat) (a : Int32) (σ : Sg) (r : Int32) (σf : Sg)  (hf : fX5_at a σ = some (r, σf)) : Con wX l G ad yX5_at (Cond.code yX5_at cX5_at 2 (some .char)) rmX5_at 0 0 [.ref (ad 5), .int a] σ (some (.int r)) σf := by
  refine Con.start (by decide) (Nat.le_of_ble_eq_true rfl) (fun X Q _ C F => ?_)
  refine V_eq (L' := [(0, .ref (ad 5)), (1, .int a)]) (st' := []) rfl rfl rfl ?_
  unfold fX5_at at hf
  refine V_iload_n (q := 1) C dX5_at_0 rfl rfl 1 rfl ?_
  obtain ⟨J21, eJ21, hf⟩ := jp_s hf
  have hJ21 : ∀ (σ1 : Sg), J21 σ1 = some (r, σf) → V wX X G ad 2 Q 0 0 σ1 21 [] [] := by
    intro σ1 hf
    subst eJ21
    refine V_iconst (v := 0) (q := 22) C dX5_at_21 rfl ic_0 ?_
    obtain ⟨g2, hf⟩ := gd_s hf
    obtain ⟨e1, e2⟩ := pr_s hf
    subst e1; subst e2
    exact V_cret C F (nch_s g2) (by decide) (by decide) dX5_at_22
  refine V_if_lt (t := 21) (q := 4) C dX5_at_1 (by decide) rfl (fun c3 => ?_) (fun c3 => ?_)
  · replace hf := (ite_s hf).1 c3
    refine V_sub (L' := []) [] rfl ?_
    exact hJ21 _ hf
  · replace hf := (ite_s hf).2 c3
    refine V_iload_n (q := 5) C dX5_at_4 rfl rfl 1 rfl ?_
    refine V_aload_n (q := 6) C dX5_at_5 rfl rfl 0 rfl ?_
    refine GX_5_1 (q := 9) C q_269 dX5_at_6 rfl ?_
    refine V_icmp_ge (t := 21) (q := 12) C dX5_at_9 (by decide) rfl (fun c4 => ?_) (fun c4 => ?_)
    · replace hf := (ite_s hf).1 c4
      refine V_sub (L' := []) [] rfl ?_
      exact hJ21 _ hf
    · replace hf := (ite_s hf).2 c4
      refine V_aload_n (q := 13) C dX5_at_12 rfl rfl 0 rfl ?_
      refine GX_5_0 (q := 16) C q_268 dX5_at_13 rfl ?_
      refine V_iload_n (q := 17) C dX5_at_16 rfl rfl 1 rfl ?_
      obtain ⟨g5, hf⟩ := gd_s hf
      refine RX_25 (z := a.toNatClampNeg) (q := 18) C rfl (inb_in g5) dX5_at_17 rfl ?_
      refine V_goto (t := 22) C dX5_at_18 (by decide) ?_
      obtain ⟨g6, hf⟩ := gd_s hf
      obtain ⟨e1, e2⟩ := pr_s hf
      subst e1; subst e2
      exact V_cret C F (nch_s g6) (by decide) (by decide) dX5_at_22
def rmX2_digitAt : Room := { frames := 1, cells := 0, slots := 0, locals := 21 }
def fX2_digitAt (a : Int32) (σ : Sg) : Option (Int32 × Sg) := bd (fX5_at a σ) (fun (r1 : Int32) (σ2 : Sg) => jp (fun (σ4 : Sg) => some ((-1 : Int32), σ4)) (fun (J28 : Sg → Option (Int32 × Sg)) => if r1 < (48 : Int32) then (J28  σ2) else (if (57 : Int32) < r1 then (J28  σ2) else (some ((r1 - (48 : Int32)), σ2)))))
set_option maxHeartbeats 4000000 in
theorem conX2_digitAt (l : Launch) (G : Gx) (ad : Nat → Nat) (a : Int32) (σ : Sg) (r : Int32) (σf : Sg)  (hf : fX2_digitAt a σ = some (r, σf)) : Con wX l G ad yX2_digitAt (Cond.code yX2_digitAt cX2_digitAt 3 (some .int)) rmX2_digitAt 0 0 [.ref (ad 4), .int a] σ (some (.int r)) σf := by
  refine Con.start (by decide) (Nat.le_of_ble_eq_true rfl) (fun X Q _ C F => ?_)
  refine V_eq (L' := [(0, .ref (ad 4)), (1, .int a)]) (st' := []) rfl rfl rfl ?_
  unfold fX2_digitAt at hf
  refine V_aload_n (q := 1) C dX2_digitAt_0 rfl rfl 0 rfl ?_
  refine GX_4_0 (q := 4) C q_278 dX2_digitAt_1 rfl ?_
  refine V_iload_n (q := 5) C dX2_digitAt_4 rfl rfl 1 rfl ?_
  obtain ⟨r1, σ2, h3, hf⟩ := bd_s hf
  refine V_callVN (av := [.int a]) (st := []) (st1 := [.int r1]) (q := 8) C 5 (by decide) (eX_5 G ad _) rfl rfl (conX5_at _ _ _ _ _ _ _ h3) q_667 q_112 q_664 q_666 q_16 nmX5_at (by decide) rfl rfl (Nat.le_of_ble_eq_true rfl) dX2_digitAt_5 rfl rfl ?_
  refine V_istore_n (L' := [(2, .int r1), (0, .ref (ad 4)), (1, .int a)]) (q := 9) C dX2_digitAt_8 rfl rfl (by decide) rfl ?_
  refine V_iload_n (q := 10) C dX2_digitAt_9 rfl rfl 0 rfl ?_
  refine V_bipush (v := 48) (q := 12) C dX2_digitAt_10 rfl bc_48 ?_
  obtain ⟨J28, eJ28, hf⟩ := jp_s hf
  have hJ28 : ∀ (σ4 : Sg), J28 σ4 = some (r, σf) → V wX X G ad 3 Q 0 0 σ4 28 [] [] := by
    intro σ4 hf
    subst eJ28
    refine V_iconst (v := (-1)) (q := 29) C dX2_digitAt_28 rfl ic_m1 ?_
    obtain ⟨e1, e2⟩ := pr_s hf
    subst e1; subst e2
    exact V_iret C F (by decide) (by decide) dX2_digitAt_29
  refine V_icmp_lt (t := 28) (q := 15) C dX2_digitAt_12 (by decide) rfl (fun c5 => ?_) (fun c5 => ?_)
  · replace hf := (ite_s hf).1 c5
    refine V_sub (L' := []) [] rfl ?_
    exact hJ28 _ hf
  · replace hf := (ite_s hf).2 c5
    refine V_iload_n (q := 16) C dX2_digitAt_15 rfl rfl 0 rfl ?_
    refine V_bipush (v := 57) (q := 18) C dX2_digitAt_16 rfl bc_57 ?_
    refine V_icmp_gt (t := 28) (q := 21) C dX2_digitAt_18 (by decide) rfl (fun c6 => ?_) (fun c6 => ?_)
    · replace hf := (ite_s hf).1 c6
      refine V_sub (L' := []) [] rfl ?_
      exact hJ28 _ hf
    · replace hf := (ite_s hf).2 c6
      refine V_iload_n (q := 22) C dX2_digitAt_21 rfl rfl 0 rfl ?_
      refine V_bipush (v := 48) (q := 24) C dX2_digitAt_22 rfl bc_48 ?_
      refine V_isub (q := 25) C dX2_digitAt_24 rfl ?_
      refine V_goto (t := 29) C dX2_digitAt_25 (by decide) ?_
      obtain ⟨e1, e2⟩ := pr_s hf
      subst e1; subst e2
      exact V_iret C F (by decide) (by decide) dX2_digitAt_29
def rmX2_readStation : Room := { frames := 2, cells := 0, slots := 0, locals := 43 }
def fX2_readStation (a : Int32) (σ : Sg) : Option (Int32 × Sg) := lt' ((σ 4 4)) (fun (x1 : Int32) => bd (fX2_digitAt (σ 4 4) σ) (fun (r2 : Int32) (σ3 : Sg) => if 0 ≤ r2 then (lt' (sup σ3 4 4 ((σ3 4 4) + (1 : Int32))) (fun (σ6 : Sg) => bd (fX2_digitAt (σ6 4 4) σ6) (fun (r7 : Int32) (σ8 : Sg) => jp (fun (y10 : Int32) (σ11 : Sg) => jp (fun (σ12 : Sg) => lt' (sup σ12 4 6 x1) (fun (σ13 : Sg) => some ((-1 : Int32), σ13))) (fun (J90 : Sg → Option (Int32 × Sg)) => if (σ11 4 3) ≤ y10 then (J90  σ11) else (if y10 = a then (J90  σ11) else (some (y10, σ11))))) (fun (J77 : Int32 → Sg → Option (Int32 × Sg)) => if r2 = (1 : Int32) then (jp (fun (σ17 : Sg) => lt' (((10 : Int32) + r7)) (fun (x18 : Int32) => lt' (sup σ17 4 4 ((σ17 4 4) + (1 : Int32))) (fun (σ19 : Sg) => J77 x18 σ19))) (fun (J61 : Sg → Option (Int32 × Sg)) => if r7 = 0 then (J61  σ8) else (if r7 = (1 : Int32) then (J61  σ8) else (J77 r2 σ8)))) else (J77 r2 σ8))))) else (lt' (sup σ3 4 6 x1) (fun (σ22 : Sg) => some ((-1 : Int32), σ22)))))
set_option maxHeartbeats 4000000 in
theorem conX2_readStation (l : Launch) (G : Gx) (ad : Nat → Nat) (a : Int32) (σ : Sg) (r : Int32) (σf : Sg)  (hf : fX2_readStation a σ = some (r, σf)) : Con wX l G ad yX2_readStation (Cond.code yX2_readStation cX2_readStation 5 (some .int)) rmX2_readStation 0 0 [.ref (ad 4), .int a] σ (some (.int r)) σf := by
  refine Con.start (by decide) (Nat.le_of_ble_eq_true rfl) (fun X Q _ C F => ?_)
  refine V_eq (L' := [(0, .ref (ad 4)), (1, .int a)]) (st' := []) rfl rfl rfl ?_
  unfold fX2_readStation at hf
  refine V_aload_n (q := 1) C dX2_readStation_0 rfl rfl 0 rfl ?_
  refine GX_4_4 (q := 4) C q_283 dX2_readStation_1 rfl ?_
  refine V_let (cv := Value.int) hf (fun x1 hf => ?_)
  refine V_istore_n (L' := [(2, .int x1), (0, .ref (ad 4)), (1, .int a)]) (q := 5) C dX2_readStation_4 rfl rfl (by decide) rfl ?_
  refine V_aload_n (q := 6) C dX2_readStation_5 rfl rfl 1 rfl ?_
  refine V_aload_n (q := 7) C dX2_readStation_6 rfl rfl 1 rfl ?_
  refine GX_4_4 (q := 10) C q_283 dX2_readStation_7 rfl ?_
  obtain ⟨r2, σ3, h4, hf⟩ := bd_s hf
  refine V_callV (av := [.int (σ 4 4)]) (st := []) (st1 := [.int r2]) (q := 13) C 4 (by decide) (eX_4 G ad _) rfl rfl (conX2_digitAt _ _ _ _ _ _ _ h4) q_663 q_111 q_660 q_662 q_15 nmX2_digitAt (by decide) rfl rfl (Nat.le_of_ble_eq_true rfl) dX2_readStation_10 rfl rfl ?_
  refine V_istore_n (L' := [(3, .int r2), (2, .int x1), (0, .ref (ad 4)), (1, .int a)]) (q := 14) C dX2_readStation_13 rfl rfl (by decide) rfl ?_
  refine V_iload_n (q := 15) C dX2_readStation_14 rfl rfl 0 rfl ?_
  refine V_if_ge (t := 25) (q := 18) C dX2_readStation_15 (by decide) rfl (fun c5 => ?_) (fun c5 => ?_)
  · replace hf := (ite_s hf).1 c5
    refine V_aload_n (q := 26) C dX2_readStation_25 rfl rfl 2 rfl ?_
    refine V_dup (q := 27) C dX2_readStation_26 rfl rfl ?_
    refine GX_4_4 (q := 30) C q_283 dX2_readStation_27 rfl ?_
    refine V_iconst (v := 1) (q := 31) C dX2_readStation_30 rfl ic_1 ?_
    refine V_iadd (q := 32) C dX2_readStation_31 rfl ?_
    refine PX_4_4 (q := 35) C q_283 dX2_readStation_32 rfl ?_
    refine V_lets hf (fun σ6 hf => ?_)
    refine V_aload_n (q := 36) C dX2_readStation_35 rfl rfl 2 rfl ?_
    refine V_aload_n (q := 37) C dX2_readStation_36 rfl rfl 2 rfl ?_
    refine GX_4_4 (q := 40) C q_283 dX2_readStation_37 rfl ?_
    obtain ⟨r7, σ8, h9, hf⟩ := bd_s hf
    refine V_callV (av := [.int (σ6 4 4)]) (st := []) (st1 := [.int r7]) (q := 43) C 4 (by decide) (eX_4 G ad _) rfl rfl (conX2_digitAt _ _ _ _ _ _ _ h9) q_663 q_111 q_660 q_662 q_15 nmX2_digitAt (by decide) rfl rfl (Nat.le_of_ble_eq_true rfl) dX2_readStation_40 rfl rfl ?_
    refine V_istore (L' := [(4, .int r7), (3, .int r2), (2, .int x1), (0, .ref (ad 4)), (1, .int a)]) (q := 45) C dX2_readStation_43 rfl (by decide) rfl ?_
    refine V_iload_n (q := 46) C dX2_readStation_45 rfl rfl 1 rfl ?_
    refine V_iconst (v := 1) (q := 47) C dX2_readStation_46 rfl ic_1 ?_
    obtain ⟨J77, eJ77, hf⟩ := jp_s hf
    have hJ77 : ∀ (y10 : Int32) (σ11 : Sg), J77 y10 σ11 = some (r, σf) → V wX X G ad 5 Q 0 0 σ11 77 [(0, .ref (ad 4)), (1, .int a), (2, .int x1), (3, .int y10)] [] := by
      intro y10 σ11 hf
      subst eJ77
      refine V_iload_n (q := 78) C dX2_readStation_77 rfl rfl 3 rfl ?_
      refine V_aload_n (q := 79) C dX2_readStation_78 rfl rfl 0 rfl ?_
      refine GX_4_3 (q := 82) C q_282 dX2_readStation_79 rfl ?_
      obtain ⟨J90, eJ90, hf⟩ := jp_s hf
      have hJ90 : ∀ (σ12 : Sg), J90 σ12 = some (r, σf) → V wX X G ad 5 Q 0 0 σ12 90 [(0, .ref (ad 4)), (2, .int x1)] [] := by
        intro σ12 hf
        subst eJ90
        refine V_aload_n (q := 91) C dX2_readStation_90 rfl rfl 0 rfl ?_
        refine V_iload_n (q := 92) C dX2_readStation_91 rfl rfl 1 rfl ?_
        refine PX_4_6 (q := 95) C q_286 dX2_readStation_92 rfl ?_
        refine V_lets hf (fun σ13 hf => ?_)
        refine V_iconst (v := (-1)) (q := 96) C dX2_readStation_95 rfl ic_m1 ?_
        obtain ⟨e1, e2⟩ := pr_s hf
        subst e1; subst e2
        exact V_iret C F (by decide) (by decide) dX2_readStation_96
      refine V_icmp_ge (t := 90) (q := 85) C dX2_readStation_82 (by decide) rfl (fun c14 => ?_) (fun c14 => ?_)
      · replace hf := (ite_s hf).1 c14
        refine V_sub (L' := [(0, .ref (ad 4)), (2, .int x1)]) [0, 2] rfl ?_
        exact hJ90 _ hf
      · replace hf := (ite_s hf).2 c14
        refine V_iload_n (q := 86) C dX2_readStation_85 rfl rfl 3 rfl ?_
        refine V_iload_n (q := 87) C dX2_readStation_86 rfl rfl 1 rfl ?_
        refine V_icmp_ne (t := 97) (q := 90) C dX2_readStation_87 (by decide) rfl (fun c15 => ?_) (fun c15 => ?_)
        · replace hf := (ite_s hf).2 c15
          refine V_iload_n (q := 98) C dX2_readStation_97 rfl rfl 3 rfl ?_
          obtain ⟨e1, e2⟩ := pr_s hf
          subst e1; subst e2
          exact V_iret C F (by decide) (by decide) dX2_readStation_98
        · replace hf := (ite_s hf).1 c15
          refine V_sub (L' := [(0, .ref (ad 4)), (2, .int x1)]) [0, 2] rfl ?_
          exact hJ90 _ hf
    refine V_icmp_ne (t := 77) (q := 50) C dX2_readStation_47 (by decide) rfl (fun c16 => ?_) (fun c16 => ?_)
    · replace hf := (ite_s hf).2 c16
      refine V_sub (L' := [(0, .ref (ad 4)), (1, .int a), (2, .int x1), (3, .int r2)]) [3, 4, 2, 1] rfl ?_
      exact hJ77 _ _ hf
    · replace hf := (ite_s hf).1 c16
      refine V_iload (q := 52) C dX2_readStation_50 rfl 0 rfl ?_
      obtain ⟨J61, eJ61, hf⟩ := jp_s hf
      have hJ61 : ∀ (σ17 : Sg), J61 σ17 = some (r, σf) → V wX X G ad 5 Q 0 0 σ17 61 [(0, .ref (ad 4)), (1, .int a), (2, .int x1), (4, .int r7)] [] := by
        intro σ17 hf
        subst eJ61
        refine V_bipush (v := 10) (q := 63) C dX2_readStation_61 rfl bc_10 ?_
        refine V_iload (q := 65) C dX2_readStation_63 rfl 3 rfl ?_
        refine V_iadd (q := 66) C dX2_readStation_65 rfl ?_
        refine V_let (cv := Value.int) hf (fun x18 hf => ?_)
        refine V_istore_n (L' := [(3, .int x18), (0, .ref (ad 4)), (1, .int a), (2, .int x1), (4, .int r7)]) (q := 67) C dX2_readStation_66 rfl rfl (by decide) rfl ?_
        refine V_aload_n (q := 68) C dX2_readStation_67 rfl rfl 1 rfl ?_
        refine V_dup (q := 69) C dX2_readStation_68 rfl rfl ?_
        refine GX_4_4 (q := 72) C q_283 dX2_readStation_69 rfl ?_
        refine V_iconst (v := 1) (q := 73) C dX2_readStation_72 rfl ic_1 ?_
        refine V_iadd (q := 74) C dX2_readStation_73 rfl ?_
        refine PX_4_4 (q := 77) C q_283 dX2_readStation_74 rfl ?_
        refine V_lets hf (fun σ19 hf => ?_)
        refine V_sub (L' := [(0, .ref (ad 4)), (1, .int a), (2, .int x1), (3, .int x18)]) [1, 2, 3, 0] rfl ?_
        exact hJ77 _ _ hf
      refine V_if_eq (t := 61) (q := 55) C dX2_readStation_52 (by decide) rfl (fun c20 => ?_) (fun c20 => ?_)
      · replace hf := (ite_s hf).1 c20
        refine V_sub (L' := [(0, .ref (ad 4)), (1, .int a), (2, .int x1), (4, .int r7)]) [3, 4, 2, 0] rfl ?_
        exact hJ61 _ hf
      · replace hf := (ite_s hf).2 c20
        refine V_iload (q := 57) C dX2_readStation_55 rfl 0 rfl ?_
        refine V_iconst (v := 1) (q := 58) C dX2_readStation_57 rfl ic_1 ?_
        refine V_icmp_ne (t := 77) (q := 61) C dX2_readStation_58 (by decide) rfl (fun c21 => ?_) (fun c21 => ?_)
        · replace hf := (ite_s hf).2 c21
          refine V_sub (L' := [(0, .ref (ad 4)), (1, .int a), (2, .int x1), (3, .int r2)]) [3, 4, 2, 1] rfl ?_
          exact hJ77 _ _ hf
        · replace hf := (ite_s hf).1 c21
          refine V_sub (L' := [(0, .ref (ad 4)), (1, .int a), (2, .int x1), (4, .int r7)]) [3, 4, 2, 0] rfl ?_
          exact hJ61 _ hf
  · replace hf := (ite_s hf).2 c5
    refine V_aload_n (q := 19) C dX2_readStation_18 rfl rfl 2 rfl ?_
    refine V_iload_n (q := 20) C dX2_readStation_19 rfl rfl 1 rfl ?_
    refine PX_4_6 (q := 23) C q_286 dX2_readStation_20 rfl ?_
    refine V_lets hf (fun σ22 hf => ?_)
    refine V_iconst (v := (-1)) (q := 24) C dX2_readStation_23 rfl ic_m1 ?_
    obtain ⟨e1, e2⟩ := pr_s hf
    subst e1; subst e2
    exact V_iret C F (by decide) (by decide) dX2_readStation_24
def rmX2_skip : Room := { frames := 1, cells := 0, slots := 0, locals := 21 }
def fX2_skip (a : Int32) (σ : Sg) : Option (Int32 × Sg) := bd (fX5_at (σ 4 4) σ) (fun (r1 : Int32) (σ2 : Sg) => if r1 = a then (lt' (sup σ2 4 4 ((σ2 4 4) + (1 : Int32))) (fun (σ5 : Sg) => some ((1 : Int32), σ5))) else (some ((0 : Int32), σ2)))
set_option maxHeartbeats 4000000 in
theorem conX2_skip (l : Launch) (G : Gx) (ad : Nat → Nat) (a : Int32) (σ : Sg) (r : Int32) (σf : Sg)  (hf : fX2_skip a σ = some (r, σf)) : Con wX l G ad yX2_skip (Cond.code yX2_skip cX2_skip 2 (some .boolean)) rmX2_skip 0 0 [.ref (ad 4), .int a] σ (some (.int r)) σf := by
  refine Con.start (by decide) (Nat.le_of_ble_eq_true rfl) (fun X Q _ C F => ?_)
  refine V_eq (L' := [(0, .ref (ad 4)), (1, .int a)]) (st' := []) rfl rfl rfl ?_
  unfold fX2_skip at hf
  refine V_aload_n (q := 1) C dX2_skip_0 rfl rfl 0 rfl ?_
  refine GX_4_0 (q := 4) C q_278 dX2_skip_1 rfl ?_
  refine V_aload_n (q := 5) C dX2_skip_4 rfl rfl 0 rfl ?_
  refine GX_4_4 (q := 8) C q_283 dX2_skip_5 rfl ?_
  obtain ⟨r1, σ2, h3, hf⟩ := bd_s hf
  refine V_callVN (av := [.int (σ 4 4)]) (st := []) (st1 := [.int r1]) (q := 11) C 5 (by decide) (eX_5 G ad _) rfl rfl (conX5_at _ _ _ _ _ _ _ h3) q_667 q_112 q_664 q_666 q_16 nmX5_at (by decide) rfl rfl (Nat.le_of_ble_eq_true rfl) dX2_skip_8 rfl rfl ?_
  refine V_iload_n (q := 12) C dX2_skip_11 rfl rfl 1 rfl ?_
  refine V_icmp_eq (t := 17) (q := 15) C dX2_skip_12 (by decide) rfl (fun c4 => ?_) (fun c4 => ?_)
  · replace hf := (ite_s hf).1 c4
    refine V_aload_n (q := 18) C dX2_skip_17 rfl rfl 0 rfl ?_
    refine V_dup (q := 19) C dX2_skip_18 rfl rfl ?_
    refine GX_4_4 (q := 22) C q_283 dX2_skip_19 rfl ?_
    refine V_iconst (v := 1) (q := 23) C dX2_skip_22 rfl ic_1 ?_
    refine V_iadd (q := 24) C dX2_skip_23 rfl ?_
    refine PX_4_4 (q := 27) C q_283 dX2_skip_24 rfl ?_
    refine V_lets hf (fun σ5 hf => ?_)
    refine V_iconst (v := 1) (q := 28) C dX2_skip_27 rfl ic_1 ?_
    obtain ⟨e1, e2⟩ := pr_s hf
    subst e1; subst e2
    exact V_zret C F (by decide) (by decide) (by decide) dX2_skip_28
  · replace hf := (ite_s hf).2 c4
    refine V_iconst (v := 0) (q := 16) C dX2_skip_15 rfl ic_0 ?_
    obtain ⟨e1, e2⟩ := pr_s hf
    subst e1; subst e2
    exact V_zret C F (by decide) (by decide) (by decide) dX2_skip_16
def rmX2_link_23 : Room := { frames := 0, cells := 0, slots := 0, locals := 0 }
def fX2_link_23 (a : Int32) (b : Int32) (c : Int32) (σ : Sg) : Option (Unit × Sg) := if c = 0 then (gd (inb a 12) (gd (inb a 12) (lt' (sup σ 23 a.toNatClampNeg ((σ 23 a.toNatClampNeg) &&& (((1 : Int32) <<< (b &&& 31)) ^^^ (-1 : Int32)))) (fun (σ4 : Sg) => gd (inb b 12) (gd (inb b 12) (lt' (sup σ4 23 b.toNatClampNeg ((σ4 23 b.toNatClampNeg) &&& (((1 : Int32) <<< (a &&& 31)) ^^^ (-1 : Int32)))) (fun (σ7 : Sg) => some ((), σ7)))))))) else (gd (inb a 12) (gd (inb a 12) (lt' (sup σ 23 a.toNatClampNeg ((σ 23 a.toNatClampNeg) ||| ((1 : Int32) <<< (b &&& 31)))) (fun (σ10 : Sg) => gd (inb b 12) (gd (inb b 12) (lt' (sup σ10 23 b.toNatClampNeg ((σ10 23 b.toNatClampNeg) ||| ((1 : Int32) <<< (a &&& 31)))) (fun (σ13 : Sg) => some ((), σ13))))))))
set_option maxHeartbeats 4000000 in
theorem conX2_link_23 (l : Launch) (G : Gx) (ad : Nat → Nat) (a : Int32) (b : Int32) (c : Int32) (σ : Sg) (σf : Sg)  (hf : fX2_link_23 a b c σ = some ((), σf)) : Con wX l G ad yX2_link (Cond.code yX2_link cX2_link 4 none) rmX2_link_23 0 0 [.ref (ad 23), .int a, .int b, .int c] σ none σf := by
  refine Con.start (by decide) (Nat.le_of_ble_eq_true rfl) (fun X Q _ C F => ?_)
  refine V_eq (L' := [(0, .ref (ad 23)), (1, .int a), (2, .int b), (3, .int c)]) (st' := []) rfl rfl rfl ?_
  unfold fX2_link_23 at hf
  refine V_iload_n (q := 1) C dX2_link_0 rfl rfl 3 rfl ?_
  refine V_if_eq (t := 25) (q := 4) C dX2_link_1 (by decide) rfl (fun c1 => ?_) (fun c1 => ?_)
  · replace hf := (ite_s hf).1 c1
    refine V_aload_n (q := 26) C dX2_link_25 rfl rfl 0 rfl ?_
    refine V_iload_n (q := 27) C dX2_link_26 rfl rfl 1 rfl ?_
    refine V_dup2 (q := 28) C dX2_link_27 rfl rfl rfl ?_
    obtain ⟨g2, hf⟩ := gd_s hf
    refine RX_23 (z := a.toNatClampNeg) (q := 29) C rfl (inb_in g2) dX2_link_28 rfl ?_
    refine V_iconst (v := 1) (q := 30) C dX2_link_29 rfl ic_1 ?_
    refine V_iload_n (q := 31) C dX2_link_30 rfl rfl 2 rfl ?_
    refine V_ishl (q := 32) C dX2_link_31 rfl ?_
    refine V_iconst (v := (-1)) (q := 33) C dX2_link_32 rfl ic_m1 ?_
    refine V_ixor (q := 34) C dX2_link_33 rfl ?_
    refine V_iand (q := 35) C dX2_link_34 rfl ?_
    obtain ⟨g3, hf⟩ := gd_s hf
    refine SX_23 (z := a.toNatClampNeg) (q := 36) C rfl (inb_in g3) dX2_link_35 rfl ?_
    refine V_lets hf (fun σ4 hf => ?_)
    refine V_aload_n (q := 37) C dX2_link_36 rfl rfl 0 rfl ?_
    refine V_iload_n (q := 38) C dX2_link_37 rfl rfl 2 rfl ?_
    refine V_dup2 (q := 39) C dX2_link_38 rfl rfl rfl ?_
    obtain ⟨g5, hf⟩ := gd_s hf
    refine RX_23 (z := b.toNatClampNeg) (q := 40) C rfl (inb_in g5) dX2_link_39 rfl ?_
    refine V_iconst (v := 1) (q := 41) C dX2_link_40 rfl ic_1 ?_
    refine V_iload_n (q := 42) C dX2_link_41 rfl rfl 1 rfl ?_
    refine V_ishl (q := 43) C dX2_link_42 rfl ?_
    refine V_iconst (v := (-1)) (q := 44) C dX2_link_43 rfl ic_m1 ?_
    refine V_ixor (q := 45) C dX2_link_44 rfl ?_
    refine V_iand (q := 46) C dX2_link_45 rfl ?_
    obtain ⟨g6, hf⟩ := gd_s hf
    refine SX_23 (z := b.toNatClampNeg) (q := 47) C rfl (inb_in g6) dX2_link_46 rfl ?_
    refine V_lets hf (fun σ7 hf => ?_)
    obtain ⟨-, e2⟩ := pr_s hf
    subst e2
    exact V_vret C F (by decide) (by decide) dX2_link_47
  · replace hf := (ite_s hf).2 c1
    refine V_aload_n (q := 5) C dX2_link_4 rfl rfl 0 rfl ?_
    refine V_iload_n (q := 6) C dX2_link_5 rfl rfl 1 rfl ?_
    refine V_dup2 (q := 7) C dX2_link_6 rfl rfl rfl ?_
    obtain ⟨g8, hf⟩ := gd_s hf
    refine RX_23 (z := a.toNatClampNeg) (q := 8) C rfl (inb_in g8) dX2_link_7 rfl ?_
    refine V_iconst (v := 1) (q := 9) C dX2_link_8 rfl ic_1 ?_
    refine V_iload_n (q := 10) C dX2_link_9 rfl rfl 2 rfl ?_
    refine V_ishl (q := 11) C dX2_link_10 rfl ?_
    refine V_ior (q := 12) C dX2_link_11 rfl ?_
    obtain ⟨g9, hf⟩ := gd_s hf
    refine SX_23 (z := a.toNatClampNeg) (q := 13) C rfl (inb_in g9) dX2_link_12 rfl ?_
    refine V_lets hf (fun σ10 hf => ?_)
    refine V_aload_n (q := 14) C dX2_link_13 rfl rfl 0 rfl ?_
    refine V_iload_n (q := 15) C dX2_link_14 rfl rfl 2 rfl ?_
    refine V_dup2 (q := 16) C dX2_link_15 rfl rfl rfl ?_
    obtain ⟨g11, hf⟩ := gd_s hf
    refine RX_23 (z := b.toNatClampNeg) (q := 17) C rfl (inb_in g11) dX2_link_16 rfl ?_
    refine V_iconst (v := 1) (q := 18) C dX2_link_17 rfl ic_1 ?_
    refine V_iload_n (q := 19) C dX2_link_18 rfl rfl 1 rfl ?_
    refine V_ishl (q := 20) C dX2_link_19 rfl ?_
    refine V_ior (q := 21) C dX2_link_20 rfl ?_
    obtain ⟨g12, hf⟩ := gd_s hf
    refine SX_23 (z := b.toNatClampNeg) (q := 22) C rfl (inb_in g12) dX2_link_21 rfl ?_
    refine V_lets hf (fun σ13 hf => ?_)
    refine V_goto (t := 47) C dX2_link_22 (by decide) ?_
    obtain ⟨-, e2⟩ := pr_s hf
    subst e2
    exact V_vret C F (by decide) (by decide) dX2_link_47
def rmX2_link_24 : Room := { frames := 0, cells := 0, slots := 0, locals := 0 }
def fX2_link_24 (a : Int32) (b : Int32) (c : Int32) (σ : Sg) : Option (Unit × Sg) := if c = 0 then (gd (inb a 12) (gd (inb a 12) (lt' (sup σ 24 a.toNatClampNeg ((σ 24 a.toNatClampNeg) &&& (((1 : Int32) <<< (b &&& 31)) ^^^ (-1 : Int32)))) (fun (σ4 : Sg) => gd (inb b 12) (gd (inb b 12) (lt' (sup σ4 24 b.toNatClampNeg ((σ4 24 b.toNatClampNeg) &&& (((1 : Int32) <<< (a &&& 31)) ^^^ (-1 : Int32)))) (fun (σ7 : Sg) => some ((), σ7)))))))) else (gd (inb a 12) (gd (inb a 12) (lt' (sup σ 24 a.toNatClampNeg ((σ 24 a.toNatClampNeg) ||| ((1 : Int32) <<< (b &&& 31)))) (fun (σ10 : Sg) => gd (inb b 12) (gd (inb b 12) (lt' (sup σ10 24 b.toNatClampNeg ((σ10 24 b.toNatClampNeg) ||| ((1 : Int32) <<< (a &&& 31)))) (fun (σ13 : Sg) => some ((), σ13))))))))
set_option maxHeartbeats 4000000 in
theorem conX2_link_24 (l : Launch) (G : Gx) (ad : Nat → Nat) (a : Int32) (b : Int32) (c : Int32) (σ : Sg) (σf : Sg)  (hf : fX2_link_24 a b c σ = some ((), σf)) : Con wX l G ad yX2_link (Cond.code yX2_link cX2_link 4 none) rmX2_link_24 0 0 [.ref (ad 24), .int a, .int b, .int c] σ none σf := by
  refine Con.start (by decide) (Nat.le_of_ble_eq_true rfl) (fun X Q _ C F => ?_)
  refine V_eq (L' := [(0, .ref (ad 24)), (1, .int a), (2, .int b), (3, .int c)]) (st' := []) rfl rfl rfl ?_
  unfold fX2_link_24 at hf
  refine V_iload_n (q := 1) C dX2_link_0 rfl rfl 3 rfl ?_
  refine V_if_eq (t := 25) (q := 4) C dX2_link_1 (by decide) rfl (fun c1 => ?_) (fun c1 => ?_)
  · replace hf := (ite_s hf).1 c1
    refine V_aload_n (q := 26) C dX2_link_25 rfl rfl 0 rfl ?_
    refine V_iload_n (q := 27) C dX2_link_26 rfl rfl 1 rfl ?_
    refine V_dup2 (q := 28) C dX2_link_27 rfl rfl rfl ?_
    obtain ⟨g2, hf⟩ := gd_s hf
    refine RX_24 (z := a.toNatClampNeg) (q := 29) C rfl (inb_in g2) dX2_link_28 rfl ?_
    refine V_iconst (v := 1) (q := 30) C dX2_link_29 rfl ic_1 ?_
    refine V_iload_n (q := 31) C dX2_link_30 rfl rfl 2 rfl ?_
    refine V_ishl (q := 32) C dX2_link_31 rfl ?_
    refine V_iconst (v := (-1)) (q := 33) C dX2_link_32 rfl ic_m1 ?_
    refine V_ixor (q := 34) C dX2_link_33 rfl ?_
    refine V_iand (q := 35) C dX2_link_34 rfl ?_
    obtain ⟨g3, hf⟩ := gd_s hf
    refine SX_24 (z := a.toNatClampNeg) (q := 36) C rfl (inb_in g3) dX2_link_35 rfl ?_
    refine V_lets hf (fun σ4 hf => ?_)
    refine V_aload_n (q := 37) C dX2_link_36 rfl rfl 0 rfl ?_
    refine V_iload_n (q := 38) C dX2_link_37 rfl rfl 2 rfl ?_
    refine V_dup2 (q := 39) C dX2_link_38 rfl rfl rfl ?_
    obtain ⟨g5, hf⟩ := gd_s hf
    refine RX_24 (z := b.toNatClampNeg) (q := 40) C rfl (inb_in g5) dX2_link_39 rfl ?_
    refine V_iconst (v := 1) (q := 41) C dX2_link_40 rfl ic_1 ?_
    refine V_iload_n (q := 42) C dX2_link_41 rfl rfl 1 rfl ?_
    refine V_ishl (q := 43) C dX2_link_42 rfl ?_
    refine V_iconst (v := (-1)) (q := 44) C dX2_link_43 rfl ic_m1 ?_
    refine V_ixor (q := 45) C dX2_link_44 rfl ?_
    refine V_iand (q := 46) C dX2_link_45 rfl ?_
    obtain ⟨g6, hf⟩ := gd_s hf
    refine SX_24 (z := b.toNatClampNeg) (q := 47) C rfl (inb_in g6) dX2_link_46 rfl ?_
    refine V_lets hf (fun σ7 hf => ?_)
    obtain ⟨-, e2⟩ := pr_s hf
    subst e2
    exact V_vret C F (by decide) (by decide) dX2_link_47
  · replace hf := (ite_s hf).2 c1
    refine V_aload_n (q := 5) C dX2_link_4 rfl rfl 0 rfl ?_
    refine V_iload_n (q := 6) C dX2_link_5 rfl rfl 1 rfl ?_
    refine V_dup2 (q := 7) C dX2_link_6 rfl rfl rfl ?_
    obtain ⟨g8, hf⟩ := gd_s hf
    refine RX_24 (z := a.toNatClampNeg) (q := 8) C rfl (inb_in g8) dX2_link_7 rfl ?_
    refine V_iconst (v := 1) (q := 9) C dX2_link_8 rfl ic_1 ?_
    refine V_iload_n (q := 10) C dX2_link_9 rfl rfl 2 rfl ?_
    refine V_ishl (q := 11) C dX2_link_10 rfl ?_
    refine V_ior (q := 12) C dX2_link_11 rfl ?_
    obtain ⟨g9, hf⟩ := gd_s hf
    refine SX_24 (z := a.toNatClampNeg) (q := 13) C rfl (inb_in g9) dX2_link_12 rfl ?_
    refine V_lets hf (fun σ10 hf => ?_)
    refine V_aload_n (q := 14) C dX2_link_13 rfl rfl 0 rfl ?_
    refine V_iload_n (q := 15) C dX2_link_14 rfl rfl 2 rfl ?_
    refine V_dup2 (q := 16) C dX2_link_15 rfl rfl rfl ?_
    obtain ⟨g11, hf⟩ := gd_s hf
    refine RX_24 (z := b.toNatClampNeg) (q := 17) C rfl (inb_in g11) dX2_link_16 rfl ?_
    refine V_iconst (v := 1) (q := 18) C dX2_link_17 rfl ic_1 ?_
    refine V_iload_n (q := 19) C dX2_link_18 rfl rfl 1 rfl ?_
    refine V_ishl (q := 20) C dX2_link_19 rfl ?_
    refine V_ior (q := 21) C dX2_link_20 rfl ?_
    obtain ⟨g12, hf⟩ := gd_s hf
    refine SX_24 (z := b.toNatClampNeg) (q := 22) C rfl (inb_in g12) dX2_link_21 rfl ?_
    refine V_lets hf (fun σ13 hf => ?_)
    refine V_goto (t := 47) C dX2_link_22 (by decide) ?_
    obtain ⟨-, e2⟩ := pr_s hf
    subst e2
    exact V_vret C F (by decide) (by decide) dX2_link_47
def rmX2_readPair : Room := { frames := 3, cells := 0, slots := 0, locals := 67 }
def fX2_readPair  (σ : Sg) : Option (Int32 × Sg) := bd (fX2_readStation (-1 : Int32) σ) (fun (r1 : Int32) (σ2 : Sg) => if 0 ≤ r1 then (bd (fX2_skip (45 : Int32) σ2) (fun (r5 : Int32) (σ6 : Sg) => if r5 = 0 then (lt' (sup σ6 4 6 (σ6 4 4)) (fun (σ24 : Sg) => some ((0 : Int32), σ24))) else (bd (fX2_readStation r1 σ6) (fun (r9 : Int32) (σ10 : Sg) => if 0 ≤ r9 then (bd (fX2_skip (99 : Int32) σ10) (fun (r13 : Int32) (σ14 : Sg) => bd (fX2_link_23 r1 r9 r13 σ14) (fun (_ : Unit) (σ16 : Sg) => bd (fX2_skip (97 : Int32) σ16) (fun (r18 : Int32) (σ19 : Sg) => bd (fX2_link_24 r1 r9 r18 σ19) (fun (_ : Unit) (σ21 : Sg) => lt' (sup σ21 4 5 ((σ21 4 5) + (1 : Int32))) (fun (σ23 : Sg) => some ((1 : Int32), σ23))))))) else (some ((0 : Int32), σ10)))))) else (some ((0 : Int32), σ2)))
set_option maxHeartbeats 4000000 in
theorem conX2_readPair (l : Launch) (G : Gx) (ad : Nat → Nat)  (σ : Sg) (r : Int32) (σf : Sg)  (hf : fX2_readPair  σ = some (r, σf)) : Con wX l G ad yX2_readPair (Cond.code yX2_readPair cX2_readPair 3 (some .boolean)) rmX2_readPair 0 0 [.ref (ad 4)] σ (some (.int r)) σf := by
  refine Con.start (by decide) (Nat.le_of_ble_eq_true rfl) (fun X Q _ C F => ?_)
  refine V_eq (L' := [(0, .ref (ad 4))]) (st' := []) rfl rfl rfl ?_
  unfold fX2_readPair at hf
  refine V_aload_n (q := 1) C dX2_readPair_0 rfl rfl 0 rfl ?_
  refine V_iconst (v := (-1)) (q := 2) C dX2_readPair_1 rfl ic_m1 ?_
  obtain ⟨r1, σ2, h3, hf⟩ := bd_s hf
  refine V_callV (av := [.int (-1 : Int32)]) (st := []) (st1 := [.int r1]) (q := 5) C 4 (by decide) (eX_4 G ad _) rfl rfl (conX2_readStation _ _ _ _ _ _ _ h3) q_659 q_111 q_656 q_658 q_14 nmX2_readStation (by decide) rfl rfl (Nat.le_of_ble_eq_true rfl) dX2_readPair_2 rfl rfl ?_
  refine V_istore_n (L' := [(1, .int r1), (0, .ref (ad 4))]) (q := 6) C dX2_readPair_5 rfl rfl (by decide) rfl ?_
  refine V_iload_n (q := 7) C dX2_readPair_6 rfl rfl 0 rfl ?_
  refine V_if_ge (t := 12) (q := 10) C dX2_readPair_7 (by decide) rfl (fun c4 => ?_) (fun c4 => ?_)
  · replace hf := (ite_s hf).1 c4
    refine V_aload_n (q := 13) C dX2_readPair_12 rfl rfl 1 rfl ?_
    refine V_bipush (v := 45) (q := 15) C dX2_readPair_13 rfl bc_45 ?_
    obtain ⟨r5, σ6, h7, hf⟩ := bd_s hf
    refine V_callV (av := [.int (45 : Int32)]) (st := []) (st1 := [.int r5]) (q := 18) C 4 (by decide) (eX_4 G ad _) rfl rfl (conX2_skip _ _ _ _ _ _ _ h7) q_671 q_111 q_668 q_670 q_17 nmX2_skip (by decide) rfl rfl (Nat.le_of_ble_eq_true rfl) dX2_readPair_15 rfl rfl ?_
    refine V_if_ne (t := 31) (q := 21) C dX2_readPair_18 (by decide) rfl (fun c8 => ?_) (fun c8 => ?_)
    · replace hf := (ite_s hf).2 c8
      refine V_aload_n (q := 32) C dX2_readPair_31 rfl rfl 1 rfl ?_
      refine V_iload_n (q := 33) C dX2_readPair_32 rfl rfl 0 rfl ?_
      obtain ⟨r9, σ10, h11, hf⟩ := bd_s hf
      refine V_callV (av := [.int r1]) (st := []) (st1 := [.int r9]) (q := 36) C 4 (by decide) (eX_4 G ad _) rfl rfl (conX2_readStation _ _ _ _ _ _ _ h11) q_659 q_111 q_656 q_658 q_14 nmX2_readStation (by decide) rfl rfl (Nat.le_of_ble_eq_true rfl) dX2_readPair_33 rfl rfl ?_
      refine V_istore_n (L' := [(2, .int r9), (1, .int r1), (0, .ref (ad 4))]) (q := 37) C dX2_readPair_36 rfl rfl (by decide) rfl ?_
      refine V_iload_n (q := 38) C dX2_readPair_37 rfl rfl 0 rfl ?_
      refine V_if_ge (t := 43) (q := 41) C dX2_readPair_38 (by decide) rfl (fun c12 => ?_) (fun c12 => ?_)
      · replace hf := (ite_s hf).1 c12
        refine V_aload_n (q := 44) C dX2_readPair_43 rfl rfl 2 rfl ?_
        refine GX_4_1 (q := 47) C q_280 dX2_readPair_44 rfl ?_
        refine V_iload_n (q := 48) C dX2_readPair_47 rfl rfl 1 rfl ?_
        refine V_iload_n (q := 49) C dX2_readPair_48 rfl rfl 0 rfl ?_
        refine V_aload_n (q := 50) C dX2_readPair_49 rfl rfl 2 rfl ?_
        refine V_bipush (v := 99) (q := 52) C dX2_readPair_50 rfl bc_99 ?_
        obtain ⟨r13, σ14, h15, hf⟩ := bd_s hf
        refine V_callV (av := [.int (99 : Int32)]) (st := [.int r9, .int r1, .ref (ad 23)]) (st1 := [.int r13, .int r9, .int r1, .ref (ad 23)]) (q := 55) C 4 (by decide) (eX_4 G ad _) rfl rfl (conX2_skip _ _ _ _ _ _ _ h15) q_671 q_111 q_668 q_670 q_17 nmX2_skip (by decide) rfl rfl (Nat.le_of_ble_eq_true rfl) dX2_readPair_52 rfl rfl ?_
        obtain ⟨_u, σ16, h17, hf⟩ := bd_s hf
        refine V_callS (av := [.ref (ad 23), .int r1, .int r9, .int r13]) (st := []) (st1 := []) (q := 58) C (conX2_link_23 _ _ _ _ _ _ _ _ h17) q_674 q_111 q_672 q_673 nmX2_link (by decide) rfl rfl (Nat.le_of_ble_eq_true rfl) dX2_readPair_55 rfl rfl ?_
        refine V_aload_n (q := 59) C dX2_readPair_58 rfl rfl 2 rfl ?_
        refine GX_4_2 (q := 62) C q_281 dX2_readPair_59 rfl ?_
        refine V_iload_n (q := 63) C dX2_readPair_62 rfl rfl 1 rfl ?_
        refine V_iload_n (q := 64) C dX2_readPair_63 rfl rfl 0 rfl ?_
        refine V_aload_n (q := 65) C dX2_readPair_64 rfl rfl 2 rfl ?_
        refine V_bipush (v := 97) (q := 67) C dX2_readPair_65 rfl bc_97 ?_
        obtain ⟨r18, σ19, h20, hf⟩ := bd_s hf
        refine V_callV (av := [.int (97 : Int32)]) (st := [.int r9, .int r1, .ref (ad 24)]) (st1 := [.int r18, .int r9, .int r1, .ref (ad 24)]) (q := 70) C 4 (by decide) (eX_4 G ad _) rfl rfl (conX2_skip _ _ _ _ _ _ _ h20) q_671 q_111 q_668 q_670 q_17 nmX2_skip (by decide) rfl rfl (Nat.le_of_ble_eq_true rfl) dX2_readPair_67 rfl rfl ?_
        obtain ⟨_u, σ21, h22, hf⟩ := bd_s hf
        refine V_callS (av := [.ref (ad 24), .int r1, .int r9, .int r18]) (st := []) (st1 := []) (q := 73) C (conX2_link_24 _ _ _ _ _ _ _ _ h22) q_674 q_111 q_672 q_673 nmX2_link (by decide) rfl rfl (Nat.le_of_ble_eq_true rfl) dX2_readPair_70 rfl rfl ?_
        refine V_aload_n (q := 74) C dX2_readPair_73 rfl rfl 2 rfl ?_
        refine V_dup (q := 75) C dX2_readPair_74 rfl rfl ?_
        refine GX_4_5 (q := 78) C q_284 dX2_readPair_75 rfl ?_
        refine V_iconst (v := 1) (q := 79) C dX2_readPair_78 rfl ic_1 ?_
        refine V_iadd (q := 80) C dX2_readPair_79 rfl ?_
        refine PX_4_5 (q := 83) C q_284 dX2_readPair_80 rfl ?_
        refine V_lets hf (fun σ23 hf => ?_)
        refine V_iconst (v := 1) (q := 84) C dX2_readPair_83 rfl ic_1 ?_
        obtain ⟨e1, e2⟩ := pr_s hf
        subst e1; subst e2
        exact V_zret C F (by decide) (by decide) (by decide) dX2_readPair_84
      · replace hf := (ite_s hf).2 c12
        refine V_iconst (v := 0) (q := 42) C dX2_readPair_41 rfl ic_0 ?_
        obtain ⟨e1, e2⟩ := pr_s hf
        subst e1; subst e2
        exact V_zret C F (by decide) (by decide) (by decide) dX2_readPair_42
    · replace hf := (ite_s hf).1 c8
      refine V_aload_n (q := 22) C dX2_readPair_21 rfl rfl 1 rfl ?_
      refine V_aload_n (q := 23) C dX2_readPair_22 rfl rfl 1 rfl ?_
      refine GX_4_4 (q := 26) C q_283 dX2_readPair_23 rfl ?_
      refine PX_4_6 (q := 29) C q_286 dX2_readPair_26 rfl ?_
      refine V_lets hf (fun σ24 hf => ?_)
      refine V_iconst (v := 0) (q := 30) C dX2_readPair_29 rfl ic_0 ?_
      obtain ⟨e1, e2⟩ := pr_s hf
      subst e1; subst e2
      exact V_zret C F (by decide) (by decide) (by decide) dX2_readPair_30
  · replace hf := (ite_s hf).2 c4
    refine V_iconst (v := 0) (q := 11) C dX2_readPair_10 rfl ic_0 ?_
    obtain ⟨e1, e2⟩ := pr_s hf
    subst e1; subst e2
    exact V_zret C F (by decide) (by decide) (by decide) dX2_readPair_11
def rmX2_readSeparator : Room := { frames := 2, cells := 0, slots := 0, locals := 42 }
def fX2_readSeparator  (σ : Sg) : Option (Int32 × Sg) := if (σ 4 4) < (σ 5 1) then (bd (fX2_skip (59 : Int32) σ) (fun (r2 : Int32) (σ3 : Sg) => if r2 = 0 then (lt' (sup σ3 4 6 (σ3 4 4)) (fun (σ6 : Sg) => some ((0 : Int32), σ6))) else (some ((1 : Int32), σ3)))) else (some ((0 : Int32), σ))
set_option maxHeartbeats 4000000 in
theorem conX2_readSeparator (l : Launch) (G : Gx) (ad : Nat → Nat)  (σ : Sg) (r : Int32) (σf : Sg)  (hf : fX2_readSeparator  σ = some (r, σf)) : Con wX l G ad yX2_readSeparator (Cond.code yX2_readSeparator cX2_readSeparator 1 (some .boolean)) rmX2_readSeparator 0 0 [.ref (ad 4)] σ (some (.int r)) σf := by
  refine Con.start (by decide) (Nat.le_of_ble_eq_true rfl) (fun X Q _ C F => ?_)
  refine V_eq (L' := [(0, .ref (ad 4))]) (st' := []) rfl rfl rfl ?_
  unfold fX2_readSeparator at hf
  refine V_aload_n (q := 1) C dX2_readSeparator_0 rfl rfl 0 rfl ?_
  refine GX_4_4 (q := 4) C q_283 dX2_readSeparator_1 rfl ?_
  refine V_aload_n (q := 5) C dX2_readSeparator_4 rfl rfl 0 rfl ?_
  refine GX_4_0 (q := 8) C q_278 dX2_readSeparator_5 rfl ?_
  refine GNX_5_1 (q := 11) C q_270 dX2_readSeparator_8 rfl ?_
  refine V_icmp_lt (t := 16) (q := 14) C dX2_readSeparator_11 (by decide) rfl (fun c1 => ?_) (fun c1 => ?_)
  · replace hf := (ite_s hf).1 c1
    refine V_aload_n (q := 17) C dX2_readSeparator_16 rfl rfl 0 rfl ?_
    refine V_bipush (v := 59) (q := 19) C dX2_readSeparator_17 rfl bc_59 ?_
    obtain ⟨r2, σ3, h4, hf⟩ := bd_s hf
    refine V_callV (av := [.int (59 : Int32)]) (st := []) (st1 := [.int r2]) (q := 22) C 4 (by decide) (eX_4 G ad _) rfl rfl (conX2_skip _ _ _ _ _ _ _ h4) q_671 q_111 q_668 q_670 q_17 nmX2_skip (by decide) rfl rfl (Nat.le_of_ble_eq_true rfl) dX2_readSeparator_19 rfl rfl ?_
    refine V_if_ne (t := 35) (q := 25) C dX2_readSeparator_22 (by decide) rfl (fun c5 => ?_) (fun c5 => ?_)
    · replace hf := (ite_s hf).2 c5
      refine V_iconst (v := 1) (q := 36) C dX2_readSeparator_35 rfl ic_1 ?_
      obtain ⟨e1, e2⟩ := pr_s hf
      subst e1; subst e2
      exact V_zret C F (by decide) (by decide) (by decide) dX2_readSeparator_36
    · replace hf := (ite_s hf).1 c5
      refine V_aload_n (q := 26) C dX2_readSeparator_25 rfl rfl 0 rfl ?_
      refine V_aload_n (q := 27) C dX2_readSeparator_26 rfl rfl 0 rfl ?_
      refine GX_4_4 (q := 30) C q_283 dX2_readSeparator_27 rfl ?_
      refine PX_4_6 (q := 33) C q_286 dX2_readSeparator_30 rfl ?_
      refine V_lets hf (fun σ6 hf => ?_)
      refine V_iconst (v := 0) (q := 34) C dX2_readSeparator_33 rfl ic_0 ?_
      obtain ⟨e1, e2⟩ := pr_s hf
      subst e1; subst e2
      exact V_zret C F (by decide) (by decide) (by decide) dX2_readSeparator_34
  · replace hf := (ite_s hf).2 c1
    refine V_iconst (v := 0) (q := 15) C dX2_readSeparator_14 rfl ic_0 ?_
    obtain ⟨e1, e2⟩ := pr_s hf
    subst e1; subst e2
    exact V_zret C F (by decide) (by decide) (by decide) dX2_readSeparator_15
def rmX2_read : Room := { frames := 4, cells := 0, slots := 0, locals := 89 }
def fX2_read_57 (K : Sg → Option (Int32 × Sg)) : Nat → Int32 → Int32 → Sg → Option (Int32 × Sg)
  | 0, _, _, _ => none
  | n + 1, x7, x8, σ9 => if (40 : Int32) ≤ x8 then (K σ9) else (if x7 = 0 then (K σ9) else (bd (fX2_readPair  σ9) (fun (r12 : Int32) (σ13 : Sg) => jp (fun (v15 : Int32) (σ16 : Sg) => fX2_read_57 K n v15 (x8 + (1 : Int32)) σ16) (fun (J86 : Int32 → Sg → Option (Int32 × Sg)) => jp (fun (σ17 : Sg) => J86 (0 : Int32) σ17) (fun (J85 : Sg → Option (Int32 × Sg)) => if r12 = 0 then (J85  σ13) else (bd (fX2_readSeparator  σ13) (fun (r19 : Int32) (σ20 : Sg) => if r19 = 0 then (J85  σ20) else (J86 (1 : Int32) σ20))))))))
def fX2_read  (σ : Sg) : Option (Int32 × Sg) := lt' (sst σ 23 (va_cpy (σ 15) (σ 23) 0 0 12)) (fun (σ1 : Sg) => lt' (sst σ1 24 (va_cpy (σ1 16) (σ1 24) 0 0 12)) (fun (σ2 : Sg) => lt' (sup σ2 4 3 (σ2 3 6)) (fun (σ3 : Sg) => lt' (sup σ3 4 4 (0 : Int32)) (fun (σ4 : Sg) => lt' (sup σ4 4 5 (0 : Int32)) (fun (σ5 : Sg) => lt' (sup σ5 4 6 (-1 : Int32)) (fun (σ6 : Sg) => fX2_read_57 (fun (σ23 : Sg) => some ((σ23 4 6), σ23)) FU (1 : Int32) (0 : Int32) σ6))))))
set_option maxHeartbeats 4000000 in
theorem wlX2_read_57 {X : Cx} {G : Gx} {ad : Nat → Nat} {Q : State → Prop} {r : Int32} {σf : Sg} (C : OK wX X G ad RX2 cX2_read 4 rmX2_read) (F : FinR wX X G ad Q 0 0 (some .int) (some (.int r)) σf) (K : Sg → Option (Int32 × Sg)) (hK : ∀ (σk : Sg), K σk = some (r, σf) → V wX X G ad 4 Q 0 0 σk 93 [(0, .ref (ad 4))] []) : ∀ (n : Nat) (x7 : Int32) (x8 : Int32) (σ9 : Sg), fX2_read_57 K n x7 x8 σ9 = some (r, σf) → V wX X G ad 4 Q 0 0 σ9 57 [(0, .ref (ad 4)), (2, .int x7), (3, .int x8)] [] := by
  intro n
  induction n with
  | zero =>
    intro _ _ _ hf
    exact absurd hf (by simp [fX2_read_57])
  | succ n ih =>
    intro x7 x8 σ9 hf
    rw [fX2_read_57] at hf
    refine V_iload_n (q := 58) C dX2_read_57 rfl rfl 2 rfl ?_
    refine V_bipush (v := 40) (q := 60) C dX2_read_58 rfl bc_40 ?_
    refine V_icmp_ge (t := 93) (q := 63) C dX2_read_60 (by decide) rfl (fun c10 => ?_) (fun c10 => ?_)
    · replace hf := (ite_s hf).1 c10
      refine V_sub (L' := [(0, .ref (ad 4))]) [0] rfl ?_
      exact hK _ hf
    · replace hf := (ite_s hf).2 c10
      refine V_iload_n (q := 64) C dX2_read_63 rfl rfl 1 rfl ?_
      refine V_if_eq (t := 93) (q := 67) C dX2_read_64 (by decide) rfl (fun c11 => ?_) (fun c11 => ?_)
      · replace hf := (ite_s hf).1 c11
        refine V_sub (L' := [(0, .ref (ad 4))]) [0] rfl ?_
        exact hK _ hf
      · replace hf := (ite_s hf).2 c11
        refine V_aload_n (q := 68) C dX2_read_67 rfl rfl 0 rfl ?_
        obtain ⟨r12, σ13, h14, hf⟩ := bd_s hf
        refine V_callV (av := []) (st := []) (st1 := [.int r12]) (q := 71) C 4 (by decide) (eX_4 G ad _) rfl rfl (conX2_readPair _ _ _  _ _ _ h14) q_655 q_111 q_652 q_654 q_13 nmX2_readPair (by decide) rfl rfl (Nat.le_of_ble_eq_true rfl) dX2_read_68 rfl rfl ?_
        obtain ⟨J86, eJ86, hf⟩ := jp_s hf
        have hJ86 : ∀ (v15 : Int32) (σ16 : Sg), J86 v15 σ16 = some (r, σf) → V wX X G ad 4 Q 0 0 σ16 86 [(0, .ref (ad 4)), (3, .int x8)] [.int v15] := by
          intro v15 σ16 hf
          subst eJ86
          refine V_istore_n (L' := [(2, .int v15), (0, .ref (ad 4)), (3, .int x8)]) (q := 87) C dX2_read_86 rfl rfl (by decide) rfl ?_
          refine V_iinc (L' := [(3, .int (x8 + (1 : Int32))), (2, .int v15), (0, .ref (ad 4))]) (q := 90) C dX2_read_87 rfl 2 rfl (congrArg (fun y => x8 + y) ic_1) (by decide) rfl ?_
          refine V_goto (t := 57) C dX2_read_90 (by decide) ?_
          refine V_sub (L' := [(0, .ref (ad 4)), (2, .int v15), (3, .int (x8 + (1 : Int32)))]) [2, 1, 0] rfl ?_
          exact ih _ _ _ hf
        obtain ⟨J85, eJ85, hf⟩ := jp_s hf
        have hJ85 : ∀ (σ17 : Sg), J85 σ17 = some (r, σf) → V wX X G ad 4 Q 0 0 σ17 85 [(0, .ref (ad 4)), (3, .int x8)] [] := by
          intro σ17 hf
          subst eJ85
          refine V_iconst (v := 0) (q := 86) C dX2_read_85 rfl ic_0 ?_
          exact hJ86 _ _ hf
        refine V_if_eq (t := 85) (q := 74) C dX2_read_71 (by decide) rfl (fun c18 => ?_) (fun c18 => ?_)
        · replace hf := (ite_s hf).1 c18
          refine V_sub (L' := [(0, .ref (ad 4)), (3, .int x8)]) [0, 2] rfl ?_
          exact hJ85 _ hf
        · replace hf := (ite_s hf).2 c18
          refine V_aload_n (q := 75) C dX2_read_74 rfl rfl 0 rfl ?_
          obtain ⟨r19, σ20, h21, hf⟩ := bd_s hf
          refine V_callV (av := []) (st := []) (st1 := [.int r19]) (q := 78) C 4 (by decide) (eX_4 G ad _) rfl rfl (conX2_readSeparator _ _ _  _ _ _ h21) q_678 q_111 q_675 q_677 q_18 nmX2_readSeparator (by decide) rfl rfl (Nat.le_of_ble_eq_true rfl) dX2_read_75 rfl rfl ?_
          refine V_if_eq (t := 85) (q := 81) C dX2_read_78 (by decide) rfl (fun c22 => ?_) (fun c22 => ?_)
          · replace hf := (ite_s hf).1 c22
            refine V_sub (L' := [(0, .ref (ad 4)), (3, .int x8)]) [0, 2] rfl ?_
            exact hJ85 _ hf
          · replace hf := (ite_s hf).2 c22
            refine V_iconst (v := 1) (q := 82) C dX2_read_81 rfl ic_1 ?_
            refine V_goto (t := 86) C dX2_read_82 (by decide) ?_
            refine V_sub (L' := [(0, .ref (ad 4)), (3, .int x8)]) [0, 2] rfl ?_
            exact hJ86 _ _ hf
set_option maxHeartbeats 4000000 in
theorem conX2_read (l : Launch) (G : Gx) (ad : Nat → Nat)  (σ : Sg) (r : Int32) (σf : Sg)  (hf : fX2_read  σ = some (r, σf)) : Con wX l G ad yX2_read (Cond.code yX2_read cX2_read 4 (some .int)) rmX2_read 0 0 [.ref (ad 4), .ref (ad 3)] σ (some (.int r)) σf := by
  refine Con.start (by decide) (Nat.le_of_ble_eq_true rfl) (fun X Q _ C F => ?_)
  refine V_eq (L' := [(0, .ref (ad 4)), (1, .ref (ad 3))]) (st' := []) rfl rfl rfl ?_
  unfold fX2_read at hf
  refine V_aload_n (q := 1) C dX2_read_0 rfl rfl 1 rfl ?_
  refine GNX_3_4 (q := 4) C q_171 dX2_read_1 rfl ?_
  refine V_iconst (v := 0) (q := 5) C dX2_read_4 rfl ic_0 ?_
  refine V_aload_n (q := 6) C dX2_read_5 rfl rfl 0 rfl ?_
  refine GX_4_1 (q := 9) C q_280 dX2_read_6 rfl ?_
  refine V_iconst (v := 0) (q := 10) C dX2_read_9 rfl ic_0 ?_
  refine V_bipush (v := 12) (q := 12) C dX2_read_10 rfl bc_12 ?_
  refine V_copy0 (z := 12) (q := 15) C 15 23 (by decide) (by decide) (eX_15 G ad _) (eX_23 G ad _) tn_12 (by decide) (by decide) (by decide) (hsX (g := va_cpy (σ 15) (σ 23) 0 0 12) (eX_23 G ad _)) hoX q_651 q_404 q_403 q_124 (by decide) (Nat.le_of_ble_eq_true rfl) dX2_read_12 rfl ?_
  refine V_lets hf (fun σ1 hf => ?_)
  refine V_aload_n (q := 16) C dX2_read_15 rfl rfl 1 rfl ?_
  refine GNX_3_5 (q := 19) C q_175 dX2_read_16 rfl ?_
  refine V_iconst (v := 0) (q := 20) C dX2_read_19 rfl ic_0 ?_
  refine V_aload_n (q := 21) C dX2_read_20 rfl rfl 0 rfl ?_
  refine GX_4_2 (q := 24) C q_281 dX2_read_21 rfl ?_
  refine V_iconst (v := 0) (q := 25) C dX2_read_24 rfl ic_0 ?_
  refine V_bipush (v := 12) (q := 27) C dX2_read_25 rfl bc_12 ?_
  refine V_copy0 (z := 12) (q := 30) C 16 24 (by decide) (by decide) (eX_16 G ad _) (eX_24 G ad _) tn_12 (by decide) (by decide) (by decide) (hsX (g := va_cpy (σ1 16) (σ1 24) 0 0 12) (eX_24 G ad _)) hoX q_651 q_404 q_403 q_124 (by decide) (Nat.le_of_ble_eq_true rfl) dX2_read_27 rfl ?_
  refine V_lets hf (fun σ2 hf => ?_)
  refine V_aload_n (q := 31) C dX2_read_30 rfl rfl 0 rfl ?_
  refine V_aload_n (q := 32) C dX2_read_31 rfl rfl 1 rfl ?_
  refine GNX_3_6 (q := 35) C q_180 dX2_read_32 rfl ?_
  refine PX_4_3 (q := 38) C q_282 dX2_read_35 rfl ?_
  refine V_lets hf (fun σ3 hf => ?_)
  refine V_aload_n (q := 39) C dX2_read_38 rfl rfl 0 rfl ?_
  refine V_iconst (v := 0) (q := 40) C dX2_read_39 rfl ic_0 ?_
  refine PX_4_4 (q := 43) C q_283 dX2_read_40 rfl ?_
  refine V_lets hf (fun σ4 hf => ?_)
  refine V_aload_n (q := 44) C dX2_read_43 rfl rfl 0 rfl ?_
  refine V_iconst (v := 0) (q := 45) C dX2_read_44 rfl ic_0 ?_
  refine PX_4_5 (q := 48) C q_284 dX2_read_45 rfl ?_
  refine V_lets hf (fun σ5 hf => ?_)
  refine V_aload_n (q := 49) C dX2_read_48 rfl rfl 0 rfl ?_
  refine V_iconst (v := (-1)) (q := 50) C dX2_read_49 rfl ic_m1 ?_
  refine PX_4_6 (q := 53) C q_286 dX2_read_50 rfl ?_
  refine V_lets hf (fun σ6 hf => ?_)
  refine V_iconst (v := 1) (q := 54) C dX2_read_53 rfl ic_1 ?_
  refine V_istore_n (L' := [(2, .int (1 : Int32)), (0, .ref (ad 4)), (1, .ref (ad 3))]) (q := 55) C dX2_read_54 rfl rfl (by decide) rfl ?_
  refine V_iconst (v := 0) (q := 56) C dX2_read_55 rfl ic_0 ?_
  refine V_istore_n (L' := [(3, .int (0 : Int32)), (2, .int (1 : Int32)), (0, .ref (ad 4)), (1, .ref (ad 3))]) (q := 57) C dX2_read_56 rfl rfl (by decide) rfl ?_
  refine V_sub (L' := [(0, .ref (ad 4)), (2, .int (1 : Int32)), (3, .int (0 : Int32))]) [2, 1, 0] rfl ?_
  refine wlX2_read_57 C F _ (fun σ23 hf => ?_) FU _ _ _ hf
  refine V_aload_n (q := 94) C dX2_read_93 rfl rfl 0 rfl ?_
  refine GX_4_6 (q := 97) C q_286 dX2_read_94 rfl ?_
  obtain ⟨e1, e2⟩ := pr_s hf
  subst e1; subst e2
  exact V_iret C F (by decide) (by decide) dX2_read_97
def rmX2_applyTo : Room := { frames := 1, cells := 0, slots := 0, locals := 60 }
def fX2_applyTo  (σ : Sg) : Option (Unit × Sg) := lt' (sst σ 15 (va_cpy (σ 23) (σ 15) 0 0 12)) (fun (σ1 : Sg) => lt' (sst σ1 16 (va_cpy (σ1 24) (σ1 16) 0 0 12)) (fun (σ2 : Sg) => some ((), σ2)))
set_option maxHeartbeats 4000000 in
theorem conX2_applyTo (l : Launch) (G : Gx) (ad : Nat → Nat)  (σ : Sg) (σf : Sg)  (hf : fX2_applyTo  σ = some ((), σf)) : Con wX l G ad yX2_applyTo (Cond.code yX2_applyTo cX2_applyTo 2 none) rmX2_applyTo 0 0 [.ref (ad 4), .ref (ad 3)] σ none σf := by
  refine Con.start (by decide) (Nat.le_of_ble_eq_true rfl) (fun X Q _ C F => ?_)
  refine V_eq (L' := [(0, .ref (ad 4)), (1, .ref (ad 3))]) (st' := []) rfl rfl rfl ?_
  unfold fX2_applyTo at hf
  refine V_aload_n (q := 1) C dX2_applyTo_0 rfl rfl 0 rfl ?_
  refine GX_4_1 (q := 4) C q_280 dX2_applyTo_1 rfl ?_
  refine V_iconst (v := 0) (q := 5) C dX2_applyTo_4 rfl ic_0 ?_
  refine V_aload_n (q := 6) C dX2_applyTo_5 rfl rfl 1 rfl ?_
  refine GNX_3_4 (q := 9) C q_171 dX2_applyTo_6 rfl ?_
  refine V_iconst (v := 0) (q := 10) C dX2_applyTo_9 rfl ic_0 ?_
  refine V_bipush (v := 12) (q := 12) C dX2_applyTo_10 rfl bc_12 ?_
  refine V_copy0 (z := 12) (q := 15) C 23 15 (by decide) (by decide) (eX_23 G ad _) (eX_15 G ad _) tn_12 (by decide) (by decide) (by decide) (hsX (g := va_cpy (σ 23) (σ 15) 0 0 12) (eX_15 G ad _)) hoX q_651 q_404 q_403 q_124 (by decide) (Nat.le_of_ble_eq_true rfl) dX2_applyTo_12 rfl ?_
  refine V_lets hf (fun σ1 hf => ?_)
  refine V_aload_n (q := 16) C dX2_applyTo_15 rfl rfl 0 rfl ?_
  refine GX_4_2 (q := 19) C q_281 dX2_applyTo_16 rfl ?_
  refine V_iconst (v := 0) (q := 20) C dX2_applyTo_19 rfl ic_0 ?_
  refine V_aload_n (q := 21) C dX2_applyTo_20 rfl rfl 1 rfl ?_
  refine GNX_3_5 (q := 24) C q_175 dX2_applyTo_21 rfl ?_
  refine V_iconst (v := 0) (q := 25) C dX2_applyTo_24 rfl ic_0 ?_
  refine V_bipush (v := 12) (q := 27) C dX2_applyTo_25 rfl bc_12 ?_
  refine V_copy0 (z := 12) (q := 30) C 24 16 (by decide) (by decide) (eX_24 G ad _) (eX_16 G ad _) tn_12 (by decide) (by decide) (by decide) (hsX (g := va_cpy (σ1 24) (σ1 16) 0 0 12) (eX_16 G ad _)) hoX q_651 q_404 q_403 q_124 (by decide) (Nat.le_of_ble_eq_true rfl) dX2_applyTo_27 rfl ?_
  refine V_lets hf (fun σ2 hf => ?_)
  obtain ⟨-, e2⟩ := pr_s hf
  subst e2
  exact V_vret C F (by decide) (by decide) dX2_applyTo_30
def rmX6_setConflicts : Room := { frames := 7, cells := 2, slots := 12, locals := 112 }
def fX6_setConflicts  (σ : Sg) : Option ((String ⊕ Int32) × Sg) := bx (fX6_requireNoAuction  σ) (fun E σE => some (.inl E, σE)) (fun (_ : Unit) (σ2 : Sg) => bd (fX2_read  σ2) (fun (r7 : Int32) (σ8 : Sg) => lt' (sup σ8 0 11 r7) (fun (σ10 : Sg) => lt' (sup σ10 5 1 (0 : Int32)) (fun (σ11 : Sg) => if (σ11 0 11) = (-1 : Int32) then (bd (fX2_applyTo  σ11) (fun (_ : Unit) (σ13 : Sg) => bd (fX4_forget  σ13) (fun (_ : Unit) (σ15 : Sg) => some (.inr (σ15 4 5), σ15)))) else (some (.inl "java/lang/IllegalArgumentException", σ11))))))
set_option maxHeartbeats 4000000 in
theorem conX6_setConflicts (l : Launch) (G : Gx) (ad : Nat → Nat)  (σ : Sg) (r : String ⊕ Int32) (σf : Sg) (hf : fX6_setConflicts  σ = some (r, σf)) : ConX wX l G ad yX6_setConflicts (Cond.code yX6_setConflicts cX6_setConflicts 1 (some .int)) rmX6_setConflicts 2 12 [.ref (ad 0)] σ (rI r) σf := by
  refine ConX.start (by decide) (Nat.le_of_ble_eq_true rfl) (fun X Q _ C Fr Fx => ?_)
  refine V_eq (L' := [(0, .ref (ad 0))]) (st' := []) rfl rfl rfl ?_
  unfold fX6_setConflicts at hf
  refine V_aload_n (q := 1) C dX6_setConflicts_0 rfl rfl 0 rfl ?_
  obtain ⟨z4, σ2, h3, hE, hA⟩ := bx_s hf
  refine V_callVX (av := []) (st := []) (q := 4) (mc := 2) (ms := 12) C 0 (by decide) (eX_0 G ad _) rfl rfl (conX6_requireNoAuction _ _ _  _ _ _ h3) q_505 q_107 q_502 q_504 q_5 nmX6_requireNoAuction (by decide) rfl rfl (Nat.le_of_ble_eq_true rfl) dX6_setConflicts_1 rfl (by decide) (by decide) (fun E hz => by
    obtain rfl := rU_l hz
    obtain ⟨e1, e2⟩ := pr_s (hE _ rfl)
    subst e1; subst e2
    exact Fx _ rfl) (fun w5 h6 => ?_)
  obtain ⟨r1, rfl, rfl⟩ := rU_r h6
  replace hf := hA _ rfl
  refine V_eq (L' := [(0, .ref (ad 0))]) (st' := []) rfl rfl rfl ?_
  refine V_wide (k2 := 1) (n2 := 6) (by decide) (by decide) ?_
  refine V_aload_n (q := 5) C dX6_setConflicts_4 rfl rfl 0 rfl ?_
  refine V_aload_n (q := 6) C dX6_setConflicts_5 rfl rfl 0 rfl ?_
  refine GX_0_3 (q := 9) C q_356 dX6_setConflicts_6 rfl ?_
  refine V_aload_n (q := 10) C dX6_setConflicts_9 rfl rfl 0 rfl ?_
  refine GX_0_2 (q := 13) C q_355 dX6_setConflicts_10 rfl ?_
  obtain ⟨r7, σ8, h9, hf⟩ := bd_s hf
  refine V_callVN (av := [.ref (ad 3)]) (st := [.ref (ad 0)]) (st1 := [.int r7, .ref (ad 0)]) (q := 16) C 4 (by decide) (eX_4 G ad _) rfl rfl (conX2_read _ _ _  _ _ _ h9) q_650 q_111 q_647 q_649 q_12 nmX2_read (by decide) rfl rfl (Nat.le_of_ble_eq_true rfl) dX6_setConflicts_13 rfl rfl ?_
  refine PX_0_11 (q := 19) C q_364 dX6_setConflicts_16 rfl ?_
  refine V_lets hf (fun σ10 hf => ?_)
  refine V_aload_n (q := 20) C dX6_setConflicts_19 rfl rfl 0 rfl ?_
  refine GX_0_4 (q := 23) C q_357 dX6_setConflicts_20 rfl ?_
  refine V_iconst (v := 0) (q := 24) C dX6_setConflicts_23 rfl ic_0 ?_
  refine PNX_5_1 (q := 27) C q_271 dX6_setConflicts_24 rfl ?_
  refine V_lets hf (fun σ11 hf => ?_)
  refine V_aload_n (q := 28) C dX6_setConflicts_27 rfl rfl 0 rfl ?_
  refine GX_0_11 (q := 31) C q_364 dX6_setConflicts_28 rfl ?_
  refine V_iconst (v := (-1)) (q := 32) C dX6_setConflicts_31 rfl ic_m1 ?_
  refine V_icmp_eq (t := 45) (q := 35) C dX6_setConflicts_32 (by decide) rfl (fun c12 => ?_) (fun c12 => ?_)
  · replace hf := (ite_s hf).1 c12
    refine V_aload_n (q := 46) C dX6_setConflicts_45 rfl rfl 0 rfl ?_
    refine GX_0_3 (q := 49) C q_356 dX6_setConflicts_46 rfl ?_
    refine V_aload_n (q := 50) C dX6_setConflicts_49 rfl rfl 0 rfl ?_
    refine GX_0_2 (q := 53) C q_355 dX6_setConflicts_50 rfl ?_
    obtain ⟨_u, σ13, h14, hf⟩ := bd_s hf
    refine V_callVN (av := [.ref (ad 3)]) (st := []) (st1 := []) (q := 56) C 4 (by decide) (eX_4 G ad _) rfl rfl (conX2_applyTo _ _ _  _ _ h14) q_683 q_111 q_680 q_682 q_19 nmX2_applyTo (by decide) rfl rfl (Nat.le_of_ble_eq_true rfl) dX6_setConflicts_53 rfl rfl ?_
    refine V_aload_n (q := 57) C dX6_setConflicts_56 rfl rfl 0 rfl ?_
    refine GX_0_1 (q := 60) C q_354 dX6_setConflicts_57 rfl ?_
    obtain ⟨_u, σ15, h16, hf⟩ := bd_s hf
    refine V_callVN (av := []) (st := []) (st1 := []) (q := 63) C 2 (by decide) (eX_2 G ad _) rfl rfl (conX4_forget _ _ _  _ _ h16) q_545 q_109 q_542 q_544 q_7 nmX4_forget (by decide) rfl rfl (Nat.le_of_ble_eq_true rfl) dX6_setConflicts_60 rfl rfl ?_
    refine V_aload_n (q := 64) C dX6_setConflicts_63 rfl rfl 0 rfl ?_
    refine GX_0_3 (q := 67) C q_356 dX6_setConflicts_64 rfl ?_
    refine GNX_4_5 (q := 70) C q_285 dX6_setConflicts_67 rfl ?_
    obtain ⟨e1, e2⟩ := pr_s hf
    subst e1; subst e2
    exact V_iret C (Fr _ rfl) (by decide) (by decide) dX6_setConflicts_70
  · replace hf := (ite_s hf).2 c12
    obtain ⟨e1, e2⟩ := pr_s hf
    subst e1; subst e2
    exact V_throwS (text := "error in the text") C rfl (Fx _ rfl) rfl q_424 q_118 (by decide) xa_87 xg_87 dX6_setConflicts_35 dX6_setConflicts_38 dX6_setConflicts_39 dX6_setConflicts_41 dX6_setConflicts_44 (by decide) (Nat.le_of_ble_eq_true rfl) (by decide) (by decide) (by decide) (by decide)
def rmX6_setParticipates : Room := { frames := 7, cells := 2, slots := 12, locals := 111 }
def fX6_setParticipates (a : Int32) (b : Int32) (σ : Sg) : Option ((String ⊕ Int32) × Sg) := bx (fX6_requireStation a σ) (fun E σE => some (.inl E, σE)) (fun (_ : Unit) (σ2 : Sg) => bx (fX6_requireNoAuction  σ2) (fun E σE => some (.inl E, σE)) (fun (_ : Unit) (σ8 : Sg) => lt' ((pX6_contains (σ8 3 7) a)) (fun (x13 : Int32) => if b = 0 then (lt' (sup σ8 3 7 ((σ8 3 7) &&& (((1 : Int32) <<< (a &&& 31)) ^^^ (-1 : Int32)))) (fun (σ15 : Sg) => gd (b01 x13) (some (.inr x13, σ15)))) else (lt' (sup σ8 3 7 ((σ8 3 7) ||| ((1 : Int32) <<< (a &&& 31)))) (fun (σ17 : Sg) => gd (b01 x13) (some (.inr x13, σ17)))))))
set_option maxHeartbeats 4000000 in
theorem conX6_setParticipates (l : Launch) (G : Gx) (ad : Nat → Nat) (a : Int32) (b : Int32) (σ : Sg) (r : String ⊕ Int32) (σf : Sg) (hf : fX6_setParticipates a b σ = some (r, σf)) : ConX wX l G ad yX6_setParticipates (Cond.code yX6_setParticipates cX6_setParticipates 4 (some .boolean)) rmX6_setParticipates 2 12 [.ref (ad 0), .int a, .int b] σ (rI r) σf := by
  refine ConX.start (by decide) (Nat.le_of_ble_eq_true rfl) (fun X Q _ C Fr Fx => ?_)
  refine V_eq (L' := [(0, .ref (ad 0)), (1, .int a), (2, .int b)]) (st' := []) rfl rfl rfl ?_
  unfold fX6_setParticipates at hf
  refine V_aload_n (q := 1) C dX6_setParticipates_0 rfl rfl 0 rfl ?_
  refine V_iload_n (q := 2) C dX6_setParticipates_1 rfl rfl 1 rfl ?_
  obtain ⟨z4, σ2, h3, hE, hA⟩ := bx_s hf
  refine V_callVX (av := [.int a]) (st := []) (q := 5) (mc := 2) (ms := 12) C 0 (by decide) (eX_0 G ad _) rfl rfl (conX6_requireStation _ _ _ _ _ _ _ h3) q_596 q_107 q_593 q_595 q_10 nmX6_requireStation (by decide) rfl rfl (Nat.le_of_ble_eq_true rfl) dX6_setParticipates_2 rfl (by decide) (by decide) (fun E hz => by
    obtain rfl := rU_l hz
    obtain ⟨e1, e2⟩ := pr_s (hE _ rfl)
    subst e1; subst e2
    exact Fx _ rfl) (fun w5 h6 => ?_)
  obtain ⟨r1, rfl, rfl⟩ := rU_r h6
  replace hf := hA _ rfl
  refine V_eq (L' := [(0, .ref (ad 0)), (1, .int a), (2, .int b)]) (st' := []) rfl rfl rfl ?_
  refine V_wide (k2 := 1) (n2 := 6) (by decide) (by decide) ?_
  refine V_aload_n (q := 6) C dX6_setParticipates_5 rfl rfl 0 rfl ?_
  obtain ⟨z10, σ8, h9, hE, hA⟩ := bx_s hf
  refine V_callVX (av := []) (st := []) (q := 9) (mc := 2) (ms := 12) C 0 (by decide) (eX_0 G ad _) rfl rfl (conX6_requireNoAuction _ _ _  _ _ _ h9) q_505 q_107 q_502 q_504 q_5 nmX6_requireNoAuction (by decide) rfl rfl (Nat.le_of_ble_eq_true rfl) dX6_setParticipates_6 rfl (by decide) (by decide) (fun E hz => by
    obtain rfl := rU_l hz
    obtain ⟨e1, e2⟩ := pr_s (hE _ rfl)
    subst e1; subst e2
    exact Fx _ rfl) (fun w11 h12 => ?_)
  obtain ⟨r7, rfl, rfl⟩ := rU_r h12
  replace hf := hA _ rfl
  refine V_eq (L' := [(0, .ref (ad 0)), (1, .int a), (2, .int b)]) (st' := []) rfl rfl rfl ?_
  refine V_wide (k2 := 2) (n2 := 12) (by decide) (by decide) ?_
  refine V_aload_n (q := 10) C dX6_setParticipates_9 rfl rfl 0 rfl ?_
  refine GX_0_2 (q := 13) C q_355 dX6_setParticipates_10 rfl ?_
  refine GNX_3_7 (q := 16) C q_186 dX6_setParticipates_13 rfl ?_
  refine V_iload_n (q := 17) C dX6_setParticipates_16 rfl rfl 1 rfl ?_
  refine V_callS (av := [.int (σ8 3 7), .int a]) (st := []) (st1 := [.int (pX6_contains (σ8 3 7) a)]) (q := 20) C (conX6_contains _ _ _ _ _ _ _ rfl) q_612 q_107 q_610 q_611 nmX6_contains (by decide) rfl rfl (Nat.le_of_ble_eq_true rfl) dX6_setParticipates_17 rfl rfl ?_
  refine V_let (cv := Value.int) hf (fun x13 hf => ?_)
  refine V_istore_n (L' := [(3, .int x13), (0, .ref (ad 0)), (1, .int a), (2, .int b)]) (q := 21) C dX6_setParticipates_20 rfl rfl (by decide) rfl ?_
  refine V_iload_n (q := 22) C dX6_setParticipates_21 rfl rfl 3 rfl ?_
  refine V_if_eq (t := 43) (q := 25) C dX6_setParticipates_22 (by decide) rfl (fun c14 => ?_) (fun c14 => ?_)
  · replace hf := (ite_s hf).1 c14
    refine V_aload_n (q := 44) C dX6_setParticipates_43 rfl rfl 1 rfl ?_
    refine GX_0_2 (q := 47) C q_355 dX6_setParticipates_44 rfl ?_
    refine V_dup (q := 48) C dX6_setParticipates_47 rfl rfl ?_
    refine GNX_3_7 (q := 51) C q_186 dX6_setParticipates_48 rfl ?_
    refine V_iconst (v := 1) (q := 52) C dX6_setParticipates_51 rfl ic_1 ?_
    refine V_iload_n (q := 53) C dX6_setParticipates_52 rfl rfl 2 rfl ?_
    refine V_ishl (q := 54) C dX6_setParticipates_53 rfl ?_
    refine V_iconst (v := (-1)) (q := 55) C dX6_setParticipates_54 rfl ic_m1 ?_
    refine V_ixor (q := 56) C dX6_setParticipates_55 rfl ?_
    refine V_iand (q := 57) C dX6_setParticipates_56 rfl ?_
    refine PNX_3_7 (q := 60) C q_186 dX6_setParticipates_57 rfl ?_
    refine V_lets hf (fun σ15 hf => ?_)
    refine V_iload_n (q := 61) C dX6_setParticipates_60 rfl rfl 0 rfl ?_
    obtain ⟨g16, hf⟩ := gd_s hf
    obtain ⟨e1, e2⟩ := pr_s hf
    subst e1; subst e2
    exact V_zret C (Fr _ rfl) (b01_s g16) (by decide) (by decide) dX6_setParticipates_61
  · replace hf := (ite_s hf).2 c14
    refine V_aload_n (q := 26) C dX6_setParticipates_25 rfl rfl 1 rfl ?_
    refine GX_0_2 (q := 29) C q_355 dX6_setParticipates_26 rfl ?_
    refine V_dup (q := 30) C dX6_setParticipates_29 rfl rfl ?_
    refine GNX_3_7 (q := 33) C q_186 dX6_setParticipates_30 rfl ?_
    refine V_iconst (v := 1) (q := 34) C dX6_setParticipates_33 rfl ic_1 ?_
    refine V_iload_n (q := 35) C dX6_setParticipates_34 rfl rfl 2 rfl ?_
    refine V_ishl (q := 36) C dX6_setParticipates_35 rfl ?_
    refine V_ior (q := 37) C dX6_setParticipates_36 rfl ?_
    refine PNX_3_7 (q := 40) C q_186 dX6_setParticipates_37 rfl ?_
    refine V_lets hf (fun σ17 hf => ?_)
    refine V_goto (t := 60) C dX6_setParticipates_40 (by decide) ?_
    refine V_iload_n (q := 61) C dX6_setParticipates_60 rfl rfl 0 rfl ?_
    obtain ⟨g18, hf⟩ := gd_s hf
    obtain ⟨e1, e2⟩ := pr_s hf
    subst e1; subst e2
    exact V_zret C (Fr _ rfl) (b01_s g18) (by decide) (by decide) dX6_setParticipates_61
def rmX6_setValue : Room := { frames := 7, cells := 3, slots := 18, locals := 111 }
def fX6_setValue (a : Int32) (b : Int32) (σ : Sg) : Option ((String ⊕ Int32) × Sg) := bx (fX6_requireStation a σ) (fun E σE => some (.inl E, σE)) (fun (_ : Unit) (σ2 : Sg) => bx (fX6_requireValue b σ2) (fun E σE => some (.inl E, σE)) (fun (_ : Unit) (σ8 : Sg) => bx (fX6_requireNoAuction  σ8) (fun E σE => some (.inl E, σE)) (fun (_ : Unit) (σ14 : Sg) => gd (inb a 12) (lt' ((σ14 12 a.toNatClampNeg)) (fun (x20 : Int32) => gd (inb a 12) (lt' (sup σ14 12 a.toNatClampNeg b) (fun (σ22 : Sg) => some (.inr x20, σ22))))))))
set_option maxHeartbeats 4000000 in
theorem conX6_setValue (l : Launch) (G : Gx) (ad : Nat → Nat) (a : Int32) (b : Int32) (σ : Sg) (r : String ⊕ Int32) (σf : Sg) (hf : fX6_setValue a b σ = some (r, σf)) : ConX wX l G ad yX6_setValue (Cond.code yX6_setValue cX6_setValue 4 (some .int)) rmX6_setValue 3 18 [.ref (ad 0), .int a, .int b] σ (rI r) σf := by
  refine ConX.start (by decide) (Nat.le_of_ble_eq_true rfl) (fun X Q _ C Fr Fx => ?_)
  refine V_eq (L' := [(0, .ref (ad 0)), (1, .int a), (2, .int b)]) (st' := []) rfl rfl rfl ?_
  unfold fX6_setValue at hf
  refine V_aload_n (q := 1) C dX6_setValue_0 rfl rfl 0 rfl ?_
  refine V_iload_n (q := 2) C dX6_setValue_1 rfl rfl 1 rfl ?_
  obtain ⟨z4, σ2, h3, hE, hA⟩ := bx_s hf
  refine V_callVX (av := [.int a]) (st := []) (q := 5) (mc := 3) (ms := 18) C 0 (by decide) (eX_0 G ad _) rfl rfl (conX6_requireStation _ _ _ _ _ _ _ h3) q_596 q_107 q_593 q_595 q_10 nmX6_requireStation (by decide) rfl rfl (Nat.le_of_ble_eq_true rfl) dX6_setValue_2 rfl (by decide) (by decide) (fun E hz => by
    obtain rfl := rU_l hz
    obtain ⟨e1, e2⟩ := pr_s (hE _ rfl)
    subst e1; subst e2
    exact Fx _ rfl) (fun w5 h6 => ?_)
  obtain ⟨r1, rfl, rfl⟩ := rU_r h6
  replace hf := hA _ rfl
  refine V_eq (L' := [(0, .ref (ad 0)), (1, .int a), (2, .int b)]) (st' := []) rfl rfl rfl ?_
  refine V_wide (k2 := 1) (n2 := 6) (by decide) (by decide) ?_
  refine V_aload_n (q := 6) C dX6_setValue_5 rfl rfl 0 rfl ?_
  refine V_iload_n (q := 7) C dX6_setValue_6 rfl rfl 2 rfl ?_
  obtain ⟨z10, σ8, h9, hE, hA⟩ := bx_s hf
  refine V_callVX (av := [.int b]) (st := []) (q := 10) (mc := 3) (ms := 18) C 0 (by decide) (eX_0 G ad _) rfl rfl (conX6_requireValue _ _ _ _ _ _ _ h9) q_499 q_107 q_496 q_498 q_4 nmX6_requireValue (by decide) rfl rfl (Nat.le_of_ble_eq_true rfl) dX6_setValue_7 rfl (by decide) (by decide) (fun E hz => by
    obtain rfl := rU_l hz
    obtain ⟨e1, e2⟩ := pr_s (hE _ rfl)
    subst e1; subst e2
    exact Fx _ rfl) (fun w11 h12 => ?_)
  obtain ⟨r7, rfl, rfl⟩ := rU_r h12
  replace hf := hA _ rfl
  refine V_eq (L' := [(0, .ref (ad 0)), (1, .int a), (2, .int b)]) (st' := []) rfl rfl rfl ?_
  refine V_wide (k2 := 2) (n2 := 12) (by decide) (by decide) ?_
  refine V_aload_n (q := 11) C dX6_setValue_10 rfl rfl 0 rfl ?_
  obtain ⟨z16, σ14, h15, hE, hA⟩ := bx_s hf
  refine V_callVX (av := []) (st := []) (q := 14) (mc := 3) (ms := 18) C 0 (by decide) (eX_0 G ad _) rfl rfl (conX6_requireNoAuction _ _ _  _ _ _ h15) q_505 q_107 q_502 q_504 q_5 nmX6_requireNoAuction (by decide) rfl rfl (Nat.le_of_ble_eq_true rfl) dX6_setValue_11 rfl (by decide) (by decide) (fun E hz => by
    obtain rfl := rU_l hz
    obtain ⟨e1, e2⟩ := pr_s (hE _ rfl)
    subst e1; subst e2
    exact Fx _ rfl) (fun w17 h18 => ?_)
  obtain ⟨r13, rfl, rfl⟩ := rU_r h18
  replace hf := hA _ rfl
  refine V_eq (L' := [(0, .ref (ad 0)), (1, .int a), (2, .int b)]) (st' := []) rfl rfl rfl ?_
  refine V_wide (k2 := 3) (n2 := 18) (by decide) (by decide) ?_
  refine V_aload_n (q := 15) C dX6_setValue_14 rfl rfl 0 rfl ?_
  refine GX_0_2 (q := 18) C q_355 dX6_setValue_15 rfl ?_
  refine GNX_3_1 (q := 21) C q_164 dX6_setValue_18 rfl ?_
  refine V_iload_n (q := 22) C dX6_setValue_21 rfl rfl 1 rfl ?_
  obtain ⟨g19, hf⟩ := gd_s hf
  refine RX_12 (z := a.toNatClampNeg) (q := 23) C rfl (inb_in g19) dX6_setValue_22 rfl ?_
  refine V_let (cv := Value.int) hf (fun x20 hf => ?_)
  refine V_istore_n (L' := [(3, .int x20), (0, .ref (ad 0)), (1, .int a), (2, .int b)]) (q := 24) C dX6_setValue_23 rfl rfl (by decide) rfl ?_
  refine V_aload_n (q := 25) C dX6_setValue_24 rfl rfl 1 rfl ?_
  refine GX_0_2 (q := 28) C q_355 dX6_setValue_25 rfl ?_
  refine GNX_3_1 (q := 31) C q_164 dX6_setValue_28 rfl ?_
  refine V_iload_n (q := 32) C dX6_setValue_31 rfl rfl 2 rfl ?_
  refine V_iload_n (q := 33) C dX6_setValue_32 rfl rfl 3 rfl ?_
  obtain ⟨g21, hf⟩ := gd_s hf
  refine SX_12 (z := a.toNatClampNeg) (q := 34) C rfl (inb_in g21) dX6_setValue_33 rfl ?_
  refine V_lets hf (fun σ22 hf => ?_)
  refine V_iload_n (q := 35) C dX6_setValue_34 rfl rfl 0 rfl ?_
  obtain ⟨e1, e2⟩ := pr_s hf
  subst e1; subst e2
  exact V_iret C (Fr _ rfl) (by decide) (by decide) dX6_setValue_35
def rmX6_state : Room := { frames := 7, cells := 2, slots := 12, locals := 111 }
def fX6_state (a : Int32) (σ : Sg) : Option ((String ⊕ Int32) × Sg) := bx (fX6_requireStation a σ) (fun E σE => some (.inl E, σE)) (fun (_ : Unit) (σ2 : Sg) => bx (fX6_requireAuction  σ2) (fun E σE => some (.inl E, σE)) (fun (_ : Unit) (σ8 : Sg) => if (pX6_contains (σ8 7 7) a) = 0 then (if (pX6_contains (σ8 7 8) a) = 0 then (some (.inr (0 : Int32), σ8)) else (some (.inr (2 : Int32), σ8))) else (some (.inr (1 : Int32), σ8))))
set_option maxHeartbeats 4000000 in
theorem conX6_state (l : Launch) (G : Gx) (ad : Nat → Nat) (a : Int32) (σ : Sg) (r : String ⊕ Int32) (σf : Sg) (hf : fX6_state a σ = some (r, σf)) : ConX wX l G ad yX6_state (Cond.code yX6_state cX6_state 2 (some .int)) rmX6_state 2 12 [.ref (ad 0), .int a] σ (rI r) σf := by
  refine ConX.start (by decide) (Nat.le_of_ble_eq_true rfl) (fun X Q _ C Fr Fx => ?_)
  refine V_eq (L' := [(0, .ref (ad 0)), (1, .int a)]) (st' := []) rfl rfl rfl ?_
  unfold fX6_state at hf
  refine V_aload_n (q := 1) C dX6_state_0 rfl rfl 0 rfl ?_
  refine V_iload_n (q := 2) C dX6_state_1 rfl rfl 1 rfl ?_
  obtain ⟨z4, σ2, h3, hE, hA⟩ := bx_s hf
  refine V_callVX (av := [.int a]) (st := []) (q := 5) (mc := 2) (ms := 12) C 0 (by decide) (eX_0 G ad _) rfl rfl (conX6_requireStation _ _ _ _ _ _ _ h3) q_596 q_107 q_593 q_595 q_10 nmX6_requireStation (by decide) rfl rfl (Nat.le_of_ble_eq_true rfl) dX6_state_2 rfl (by decide) (by decide) (fun E hz => by
    obtain rfl := rU_l hz
    obtain ⟨e1, e2⟩ := pr_s (hE _ rfl)
    subst e1; subst e2
    exact Fx _ rfl) (fun w5 h6 => ?_)
  obtain ⟨r1, rfl, rfl⟩ := rU_r h6
  replace hf := hA _ rfl
  refine V_eq (L' := [(0, .ref (ad 0)), (1, .int a)]) (st' := []) rfl rfl rfl ?_
  refine V_wide (k2 := 1) (n2 := 6) (by decide) (by decide) ?_
  refine V_aload_n (q := 6) C dX6_state_5 rfl rfl 0 rfl ?_
  obtain ⟨z10, σ8, h9, hE, hA⟩ := bx_s hf
  refine V_callVX (av := []) (st := []) (q := 9) (mc := 2) (ms := 12) C 0 (by decide) (eX_0 G ad _) rfl rfl (conX6_requireAuction _ _ _  _ _ _ h9) q_989 q_107 q_986 q_988 q_56 nmX6_requireAuction (by decide) rfl rfl (Nat.le_of_ble_eq_true rfl) dX6_state_6 rfl (by decide) (by decide) (fun E hz => by
    obtain rfl := rU_l hz
    obtain ⟨e1, e2⟩ := pr_s (hE _ rfl)
    subst e1; subst e2
    exact Fx _ rfl) (fun w11 h12 => ?_)
  obtain ⟨r7, rfl, rfl⟩ := rU_r h12
  replace hf := hA _ rfl
  refine V_eq (L' := [(0, .ref (ad 0)), (1, .int a)]) (st' := []) rfl rfl rfl ?_
  refine V_wide (k2 := 2) (n2 := 12) (by decide) (by decide) ?_
  refine V_aload_n (q := 10) C dX6_state_9 rfl rfl 0 rfl ?_
  refine GX_0_6 (q := 13) C q_359 dX6_state_10 rfl ?_
  refine GNX_7_7 (q := 16) C q_325 dX6_state_13 rfl ?_
  refine V_iload_n (q := 17) C dX6_state_16 rfl rfl 1 rfl ?_
  refine V_callS (av := [.int (σ8 7 7), .int a]) (st := []) (st1 := [.int (pX6_contains (σ8 7 7) a)]) (q := 20) C (conX6_contains _ _ _ _ _ _ _ rfl) q_612 q_107 q_610 q_611 nmX6_contains (by decide) rfl rfl (Nat.le_of_ble_eq_true rfl) dX6_state_17 rfl rfl ?_
  refine V_if_eq (t := 25) (q := 23) C dX6_state_20 (by decide) rfl (fun c13 => ?_) (fun c13 => ?_)
  · replace hf := (ite_s hf).1 c13
    refine V_aload_n (q := 26) C dX6_state_25 rfl rfl 0 rfl ?_
    refine GX_0_6 (q := 29) C q_359 dX6_state_26 rfl ?_
    refine GNX_7_8 (q := 32) C q_327 dX6_state_29 rfl ?_
    refine V_iload_n (q := 33) C dX6_state_32 rfl rfl 1 rfl ?_
    refine V_callS (av := [.int (σ8 7 8), .int a]) (st := []) (st1 := [.int (pX6_contains (σ8 7 8) a)]) (q := 36) C (conX6_contains _ _ _ _ _ _ _ rfl) q_612 q_107 q_610 q_611 nmX6_contains (by decide) rfl rfl (Nat.le_of_ble_eq_true rfl) dX6_state_33 rfl rfl ?_
    refine V_if_eq (t := 43) (q := 39) C dX6_state_36 (by decide) rfl (fun c14 => ?_) (fun c14 => ?_)
    · replace hf := (ite_s hf).1 c14
      refine V_iconst (v := 0) (q := 44) C dX6_state_43 rfl ic_0 ?_
      obtain ⟨e1, e2⟩ := pr_s hf
      subst e1; subst e2
      exact V_iret C (Fr _ rfl) (by decide) (by decide) dX6_state_44
    · replace hf := (ite_s hf).2 c14
      refine V_iconst (v := 2) (q := 40) C dX6_state_39 rfl ic_2 ?_
      refine V_goto (t := 44) C dX6_state_40 (by decide) ?_
      obtain ⟨e1, e2⟩ := pr_s hf
      subst e1; subst e2
      exact V_iret C (Fr _ rfl) (by decide) (by decide) dX6_state_44
  · replace hf := (ite_s hf).2 c13
    refine V_iconst (v := 1) (q := 24) C dX6_state_23 rfl ic_1 ?_
    obtain ⟨e1, e2⟩ := pr_s hf
    subst e1; subst e2
    exact V_iret C (Fr _ rfl) (by decide) (by decide) dX6_state_24
def rmX6_station : Room := { frames := 7, cells := 2, slots := 12, locals := 111 }
def fX6_station (a : Int32) (b : Int32) (σ : Sg) : Option ((String ⊕ Int32) × Sg) := bx (fX6_requireStation a σ) (fun E σE => some (.inl E, σE)) (fun (_ : Unit) (σ2 : Sg) => if b = (0 : Int32) then (gd (inb a 12) (some (.inr (σ2 11 a.toNatClampNeg), σ2))) else if b = (1 : Int32) then (gd (inb a 12) (some (.inr (σ2 12 a.toNatClampNeg), σ2))) else if b = (2 : Int32) then (gd (inb a 12) (some (.inr (σ2 13 a.toNatClampNeg), σ2))) else if b = (3 : Int32) then (if (pX6_contains (σ2 3 7) a) = 0 then (some (.inr (0 : Int32), σ2)) else (some (.inr (1 : Int32), σ2))) else if b = (4 : Int32) then (bd (fX3_degree a σ2) (fun (r16 : Int32) (σ17 : Sg) => some (.inr r16, σ17))) else if b = (5 : Int32) then (gd (inb a 12) (some (.inr (σ2 14 a.toNatClampNeg), σ2))) else (some (.inl "java/lang/IllegalArgumentException", σ2)))
set_option maxHeartbeats 4000000 in
theorem conX6_station (l : Launch) (G : Gx) (ad : Nat → Nat) (a : Int32) (b : Int32) (σ : Sg) (r : String ⊕ Int32) (σf : Sg) (hf : fX6_station a b σ = some (r, σf)) : ConX wX l G ad yX6_station (Cond.code yX6_station cX6_station 3 (some .int)) rmX6_station 2 12 [.ref (ad 0), .int a, .int b] σ (rI r) σf := by
  refine ConX.start (by decide) (Nat.le_of_ble_eq_true rfl) (fun X Q _ C Fr Fx => ?_)
  refine V_eq (L' := [(0, .ref (ad 0)), (1, .int a), (2, .int b)]) (st' := []) rfl rfl rfl ?_
  unfold fX6_station at hf
  refine V_aload_n (q := 1) C dX6_station_0 rfl rfl 0 rfl ?_
  refine V_iload_n (q := 2) C dX6_station_1 rfl rfl 1 rfl ?_
  obtain ⟨z4, σ2, h3, hE, hA⟩ := bx_s hf
  refine V_callVX (av := [.int a]) (st := []) (q := 5) (mc := 2) (ms := 12) C 0 (by decide) (eX_0 G ad _) rfl rfl (conX6_requireStation _ _ _ _ _ _ _ h3) q_596 q_107 q_593 q_595 q_10 nmX6_requireStation (by decide) rfl rfl (Nat.le_of_ble_eq_true rfl) dX6_station_2 rfl (by decide) (by decide) (fun E hz => by
    obtain rfl := rU_l hz
    obtain ⟨e1, e2⟩ := pr_s (hE _ rfl)
    subst e1; subst e2
    exact Fx _ rfl) (fun w5 h6 => ?_)
  obtain ⟨r1, rfl, rfl⟩ := rU_r h6
  replace hf := hA _ rfl
  refine V_eq (L' := [(0, .ref (ad 0)), (1, .int a), (2, .int b)]) (st' := []) rfl rfl rfl ?_
  refine V_wide (k2 := 1) (n2 := 6) (by decide) (by decide) ?_
  refine V_iload_n (q := 6) C dX6_station_5 rfl rfl 2 rfl ?_
  by_cases c7 : b = (0 : Int32)
  · replace hf := (ite_s hf).1 c7
    refine V_tabIn (t := 44) C dX6_station_6 (by rw [c7]; decide) (by rw [c7]; decide) (off := 38) (by rw [c7]; decide) (by decide) ?_
    refine V_aload_n (q := 45) C dX6_station_44 rfl rfl 0 rfl ?_
    refine GX_0_2 (q := 48) C q_355 dX6_station_45 rfl ?_
    refine GNX_3_0 (q := 51) C q_161 dX6_station_48 rfl ?_
    refine V_iload_n (q := 52) C dX6_station_51 rfl rfl 1 rfl ?_
    obtain ⟨g8, hf⟩ := gd_s hf
    refine RX_11 (z := a.toNatClampNeg) (q := 53) C rfl (inb_in g8) dX6_station_52 rfl ?_
    obtain ⟨e1, e2⟩ := pr_s hf
    subst e1; subst e2
    exact V_iret C (Fr _ rfl) (by decide) (by decide) dX6_station_53
  · replace hf := (ite_s hf).2 c7
    by_cases c9 : b = (1 : Int32)
    · replace hf := (ite_s hf).1 c9
      refine V_tabIn (t := 54) C dX6_station_6 (by rw [c9]; decide) (by rw [c9]; decide) (off := 48) (by rw [c9]; decide) (by decide) ?_
      refine V_aload_n (q := 55) C dX6_station_54 rfl rfl 0 rfl ?_
      refine GX_0_2 (q := 58) C q_355 dX6_station_55 rfl ?_
      refine GNX_3_1 (q := 61) C q_164 dX6_station_58 rfl ?_
      refine V_iload_n (q := 62) C dX6_station_61 rfl rfl 1 rfl ?_
      obtain ⟨g10, hf⟩ := gd_s hf
      refine RX_12 (z := a.toNatClampNeg) (q := 63) C rfl (inb_in g10) dX6_station_62 rfl ?_
      obtain ⟨e1, e2⟩ := pr_s hf
      subst e1; subst e2
      exact V_iret C (Fr _ rfl) (by decide) (by decide) dX6_station_63
    · replace hf := (ite_s hf).2 c9
      by_cases c11 : b = (2 : Int32)
      · replace hf := (ite_s hf).1 c11
        refine V_tabIn (t := 64) C dX6_station_6 (by rw [c11]; decide) (by rw [c11]; decide) (off := 58) (by rw [c11]; decide) (by decide) ?_
        refine V_aload_n (q := 65) C dX6_station_64 rfl rfl 0 rfl ?_
        refine GX_0_2 (q := 68) C q_355 dX6_station_65 rfl ?_
        refine GNX_3_2 (q := 71) C q_166 dX6_station_68 rfl ?_
        refine V_iload_n (q := 72) C dX6_station_71 rfl rfl 1 rfl ?_
        obtain ⟨g12, hf⟩ := gd_s hf
        refine RX_13 (z := a.toNatClampNeg) (q := 73) C rfl (inb_in g12) dX6_station_72 rfl ?_
        obtain ⟨e1, e2⟩ := pr_s hf
        subst e1; subst e2
        exact V_iret C (Fr _ rfl) (by decide) (by decide) dX6_station_73
      · replace hf := (ite_s hf).2 c11
        by_cases c13 : b = (3 : Int32)
        · replace hf := (ite_s hf).1 c13
          refine V_tabIn (t := 74) C dX6_station_6 (by rw [c13]; decide) (by rw [c13]; decide) (off := 68) (by rw [c13]; decide) (by decide) ?_
          refine V_aload_n (q := 75) C dX6_station_74 rfl rfl 0 rfl ?_
          refine GX_0_2 (q := 78) C q_355 dX6_station_75 rfl ?_
          refine GNX_3_7 (q := 81) C q_186 dX6_station_78 rfl ?_
          refine V_iload_n (q := 82) C dX6_station_81 rfl rfl 1 rfl ?_
          refine V_callS (av := [.int (σ2 3 7), .int a]) (st := []) (st1 := [.int (pX6_contains (σ2 3 7) a)]) (q := 85) C (conX6_contains _ _ _ _ _ _ _ rfl) q_612 q_107 q_610 q_611 nmX6_contains (by decide) rfl rfl (Nat.le_of_ble_eq_true rfl) dX6_station_82 rfl rfl ?_
          refine V_if_eq (t := 92) (q := 88) C dX6_station_85 (by decide) rfl (fun c14 => ?_) (fun c14 => ?_)
          · replace hf := (ite_s hf).1 c14
            refine V_iconst (v := 0) (q := 93) C dX6_station_92 rfl ic_0 ?_
            obtain ⟨e1, e2⟩ := pr_s hf
            subst e1; subst e2
            exact V_iret C (Fr _ rfl) (by decide) (by decide) dX6_station_93
          · replace hf := (ite_s hf).2 c14
            refine V_iconst (v := 1) (q := 89) C dX6_station_88 rfl ic_1 ?_
            refine V_goto (t := 93) C dX6_station_89 (by decide) ?_
            obtain ⟨e1, e2⟩ := pr_s hf
            subst e1; subst e2
            exact V_iret C (Fr _ rfl) (by decide) (by decide) dX6_station_93
        · replace hf := (ite_s hf).2 c13
          by_cases c15 : b = (4 : Int32)
          · replace hf := (ite_s hf).1 c15
            refine V_tabIn (t := 94) C dX6_station_6 (by rw [c15]; decide) (by rw [c15]; decide) (off := 88) (by rw [c15]; decide) (by decide) ?_
            refine V_aload_n (q := 95) C dX6_station_94 rfl rfl 0 rfl ?_
            refine GX_0_2 (q := 98) C q_355 dX6_station_95 rfl ?_
            refine V_iload_n (q := 99) C dX6_station_98 rfl rfl 1 rfl ?_
            obtain ⟨r16, σ17, h18, hf⟩ := bd_s hf
            refine V_callVN (av := [.int a]) (st := []) (st1 := [.int r16]) (q := 102) C 3 (by decide) (eX_3 G ad _) rfl rfl (conX3_degree _ _ _ _ _ _ _ h18) q_724 q_110 q_721 q_723 q_23 nmX3_degree (by decide) rfl rfl (Nat.le_of_ble_eq_true rfl) dX6_station_99 rfl rfl ?_
            obtain ⟨e1, e2⟩ := pr_s hf
            subst e1; subst e2
            exact V_iret C (Fr _ rfl) (by decide) (by decide) dX6_station_102
          · replace hf := (ite_s hf).2 c15
            by_cases c19 : b = (5 : Int32)
            · replace hf := (ite_s hf).1 c19
              refine V_tabIn (t := 103) C dX6_station_6 (by rw [c19]; decide) (by rw [c19]; decide) (off := 97) (by rw [c19]; decide) (by decide) ?_
              refine V_aload_n (q := 104) C dX6_station_103 rfl rfl 0 rfl ?_
              refine GX_0_2 (q := 107) C q_355 dX6_station_104 rfl ?_
              refine GNX_3_3 (q := 110) C q_169 dX6_station_107 rfl ?_
              refine V_iload_n (q := 111) C dX6_station_110 rfl rfl 1 rfl ?_
              obtain ⟨g20, hf⟩ := gd_s hf
              refine RX_14 (z := a.toNatClampNeg) (q := 112) C rfl (inb_in g20) dX6_station_111 rfl ?_
              obtain ⟨e1, e2⟩ := pr_s hf
              subst e1; subst e2
              exact V_iret C (Fr _ rfl) (by decide) (by decide) dX6_station_112
            · replace hf := (ite_s hf).2 c19
              refine V_tabOut (t := 113) C dX6_station_6 (sw_out (h := 5) (by decide) (fun i hi => ?_)) (by decide) ?_
              · match i, hi with
                | 0, _ => exact c7
                | 1, _ => exact c9
                | 2, _ => exact c11
                | 3, _ => exact c13
                | 4, _ => exact c15
                | 5, _ => exact c19
                | i + 6, h => exact absurd h (by omega)
              · obtain ⟨e1, e2⟩ := pr_s hf
                subst e1; subst e2
                exact V_throwS (text := "no such property") C rfl (Fx _ rfl) rfl q_424 q_118 (by decide) xa_87 xg_87 dX6_station_113 dX6_station_116 dX6_station_117 dX6_station_119 dX6_station_122 (by decide) (Nat.le_of_ble_eq_true rfl) (by decide) (by decide) (by decide) (by decide)
def rmX6_volumeBits : Room := { frames := 7, cells := 1, slots := 6, locals := 111 }
def fX6_volumeBits (a : Int32) (σ : Sg) : Option ((String ⊕ Int32) × Sg) := bx (fX6_requireStation a σ) (fun E σE => some (.inl E, σE)) (fun (_ : Unit) (σ2 : Sg) => bd (fX3_volume a σ2) (fun (r7 : UInt32) (σ8 : Sg) => bd (fX6_floatBits r7 σ8) (fun (r10 : Int32) (σ11 : Sg) => some (.inr r10, σ11))))
set_option maxHeartbeats 4000000 in
theorem conX6_volumeBits (l : Launch) (G : Gx) (ad : Nat → Nat) (a : Int32) (σ : Sg) (r : String ⊕ Int32) (σf : Sg) (hf : fX6_volumeBits a σ = some (r, σf)) : ConX wX l G ad yX6_volumeBits (Cond.code yX6_volumeBits cX6_volumeBits 2 (some .int)) rmX6_volumeBits 1 6 [.ref (ad 0), .int a] σ (rI r) σf := by
  refine ConX.start (by decide) (Nat.le_of_ble_eq_true rfl) (fun X Q _ C Fr Fx => ?_)
  refine V_eq (L' := [(0, .ref (ad 0)), (1, .int a)]) (st' := []) rfl rfl rfl ?_
  unfold fX6_volumeBits at hf
  refine V_aload_n (q := 1) C dX6_volumeBits_0 rfl rfl 0 rfl ?_
  refine V_iload_n (q := 2) C dX6_volumeBits_1 rfl rfl 1 rfl ?_
  obtain ⟨z4, σ2, h3, hE, hA⟩ := bx_s hf
  refine V_callVX (av := [.int a]) (st := []) (q := 5) (mc := 1) (ms := 6) C 0 (by decide) (eX_0 G ad _) rfl rfl (conX6_requireStation _ _ _ _ _ _ _ h3) q_596 q_107 q_593 q_595 q_10 nmX6_requireStation (by decide) rfl rfl (Nat.le_of_ble_eq_true rfl) dX6_volumeBits_2 rfl (by decide) (by decide) (fun E hz => by
    obtain rfl := rU_l hz
    obtain ⟨e1, e2⟩ := pr_s (hE _ rfl)
    subst e1; subst e2
    exact Fx _ rfl) (fun w5 h6 => ?_)
  obtain ⟨r1, rfl, rfl⟩ := rU_r h6
  replace hf := hA _ rfl
  refine V_eq (L' := [(0, .ref (ad 0)), (1, .int a)]) (st' := []) rfl rfl rfl ?_
  refine V_wide (k2 := 1) (n2 := 6) (by decide) (by decide) ?_
  refine V_aload_n (q := 6) C dX6_volumeBits_5 rfl rfl 0 rfl ?_
  refine GX_0_2 (q := 9) C q_355 dX6_volumeBits_6 rfl ?_
  refine V_iload_n (q := 10) C dX6_volumeBits_9 rfl rfl 1 rfl ?_
  obtain ⟨r7, σ8, h9, hf⟩ := bd_s hf
  refine V_callVN (av := [.int a]) (st := []) (st1 := [.float r7]) (q := 13) C 3 (by decide) (eX_3 G ad _) rfl rfl (conX3_volume _ _ _ _ _ _ _ h9) q_742 q_110 q_739 q_741 q_24 nmX3_volume (by decide) rfl rfl (Nat.le_of_ble_eq_true rfl) dX6_volumeBits_10 rfl rfl ?_
  obtain ⟨r10, σ11, h12, hf⟩ := bd_s hf
  refine V_callS (av := [.float r7]) (st := []) (st1 := [.int r10]) (q := 16) C (conX6_floatBits _ _ _ _ _ _ _ h12) q_747 q_107 q_745 q_746 nmX6_floatBits (by decide) rfl rfl (Nat.le_of_ble_eq_true rfl) dX6_volumeBits_13 rfl rfl ?_
  obtain ⟨e1, e2⟩ := pr_s hf
  subst e1; subst e2
  exact V_iret C (Fr _ rfl) (by decide) (by decide) dX6_volumeBits_16
def rmX7_isBetween : Room := { frames := 0, cells := 0, slots := 0, locals := 0 }
def pX7_isBetween (a : Int32) (b : Int32) (c : Int32) : Int32 := jp (fun (_ : Unit) => (0 : Int32)) (fun (J14 : Unit → Int32) => if a < b then (J14 ()) else (if c < a then (J14 ()) else ((1 : Int32))))
set_option maxHeartbeats 4000000 in
theorem conX7_isBetween {T : Type} {w : Wd T} (l : Launch) (G : Gx) (ad : Nat → Nat) (a : Int32) (b : Int32) (c : Int32) (τ : T) (r : Int32) (hf : pX7_isBetween a b c = r) : Con w l G ad yX7_isBetween (Cond.code yX7_isBetween cX7_isBetween 3 (some .boolean)) rmX7_isBetween 0 0 [.int a, .int b, .int c] τ (some (.int r)) τ := by
  refine Con.start (by decide) (Nat.le_of_ble_eq_true rfl) (fun X Q _ C F => ?_)
  refine V_eq (L' := [(0, .int a), (1, .int b), (2, .int c)]) (st' := []) rfl rfl rfl ?_
  unfold pX7_isBetween at hf
  refine V_iload_n (q := 1) C dX7_isBetween_0 rfl rfl 0 rfl ?_
  refine V_iload_n (q := 2) C dX7_isBetween_1 rfl rfl 1 rfl ?_
  obtain ⟨J14, eJ14, hf⟩ := jp_s hf
  have hJ14 : ∀ (_ : Unit), J14 () = r → V w X G ad 3 Q 0 0 τ 14 [] [] := by
    intro _ hf
    subst eJ14
    refine V_iconst (v := 0) (q := 15) C dX7_isBetween_14 rfl ic_0 ?_
    subst hf
    exact V_zret C F (by decide) (Nat.le_refl 0) (Nat.le_refl 0) dX7_isBetween_15
  refine V_icmp_lt (t := 14) (q := 5) C dX7_isBetween_2 (by decide) rfl (fun c1 => ?_) (fun c1 => ?_)
  · replace hf := (ite_s hf).1 c1
    refine V_sub (L' := []) [] rfl ?_
    exact hJ14 () hf
  · replace hf := (ite_s hf).2 c1
    refine V_iload_n (q := 6) C dX7_isBetween_5 rfl rfl 0 rfl ?_
    refine V_iload_n (q := 7) C dX7_isBetween_6 rfl rfl 2 rfl ?_
    refine V_icmp_gt (t := 14) (q := 10) C dX7_isBetween_7 (by decide) rfl (fun c2 => ?_) (fun c2 => ?_)
    · replace hf := (ite_s hf).1 c2
      refine V_sub (L' := []) [] rfl ?_
      exact hJ14 () hf
    · replace hf := (ite_s hf).2 c2
      refine V_iconst (v := 1) (q := 11) C dX7_isBetween_10 rfl ic_1 ?_
      refine V_goto (t := 15) C dX7_isBetween_11 (by decide) ?_
      subst hf
      exact V_zret C F (by decide) (Nat.le_refl 0) (Nat.le_refl 0) dX7_isBetween_15
theorem pX7_isBetween_b (a : Int32) (b : Int32) (c : Int32) : pX7_isBetween a b c = 0 ∨ pX7_isBetween a b c = 1 := by
  unfold pX7_isBetween
  try simp only [jp]
  repeat' split
  all_goals first | exact Or.inl rfl | exact Or.inr rfl | exact pX6_contains_b _ _
def rmX7_isChannels : Room := { frames := 1, cells := 0, slots := 0, locals := 22 }
def pX7_isChannels (a : Int32) : Int32 := (pX7_isBetween a (0 : Int32) (255 : Int32))
set_option maxHeartbeats 4000000 in
theorem conX7_isChannels {T : Type} {w : Wd T} (l : Launch) (G : Gx) (ad : Nat → Nat) (a : Int32) (τ : T) (r : Int32) (hf : pX7_isChannels a = r) : Con w l G ad yX7_isChannels (Cond.code yX7_isChannels cX7_isChannels 1 (some .boolean)) rmX7_isChannels 0 0 [.int a] τ (some (.int r)) τ := by
  refine Con.start (by decide) (Nat.le_of_ble_eq_true rfl) (fun X Q _ C F => ?_)
  refine V_eq (L' := [(0, .int a)]) (st' := []) rfl rfl rfl ?_
  unfold pX7_isChannels at hf
  refine V_iload_n (q := 1) C dX7_isChannels_0 rfl rfl 0 rfl ?_
  refine V_iconst (v := 0) (q := 2) C dX7_isChannels_1 rfl ic_0 ?_
  refine V_sipush (v := 255) (q := 5) C dX7_isChannels_2 rfl sc_255 ?_
  refine V_callS (av := [.int a, .int (0 : Int32), .int (255 : Int32)]) (st := []) (st1 := [.int (pX7_isBetween a (0 : Int32) (255 : Int32))]) (q := 8) C (conX7_isBetween _ _ _ _ _ _ _ _ rfl) q_1247 q_114 q_1245 q_1246 nmX7_isBetween (by decide) rfl rfl (Nat.le_of_ble_eq_true rfl) dX7_isChannels_5 rfl rfl ?_
  subst hf
  exact V_zret C F (pX7_isBetween_b _ _ _) (Nat.le_refl 0) (Nat.le_refl 0) dX7_isChannels_8
theorem pX7_isChannels_b (a : Int32) : pX7_isChannels a = 0 ∨ pX7_isChannels a = 1 := by
  unfold pX7_isChannels
  try simp only [jp]
  repeat' split
  all_goals first | exact Or.inl rfl | exact Or.inr rfl | exact pX6_contains_b _ _ | exact pX7_isBetween_b _ _ _
def rmX7_fails : Room := { frames := 0, cells := 0, slots := 0, locals := 0 }
def fX7_fails (a : Int32) (b : Int32) (σ : Sg) : Option (Int32 × Sg) := if b = 0 then (lt' (sup σ 0 0 (0 : Int32)) (fun (σ2 : Sg) => gd (b01 b) (some (b, σ2)))) else (lt' (sup σ 0 0 a) (fun (σ4 : Sg) => gd (b01 b) (some (b, σ4))))
set_option maxHeartbeats 4000000 in
theorem conX7_fails (l : Launch) (G : Gx) (ad : Nat → Nat) (a : Int32) (b : Int32) (σ : Sg) (r : Int32) (σf : Sg)  (hf : fX7_fails a b σ = some (r, σf)) : Con wM l G ad yX7_fails (Cond.code yX7_fails cX7_fails 3 (some .boolean)) rmX7_fails 0 0 [.ref (ad 0), .int a, .int b] σ (some (.int r)) σf := by
  refine Con.start (by decide) (Nat.le_of_ble_eq_true rfl) (fun X Q _ C F => ?_)
  refine V_eq (L' := [(0, .ref (ad 0)), (1, .int a), (2, .int b)]) (st' := []) rfl rfl rfl ?_
  unfold fX7_fails at hf
  refine V_aload_n (q := 1) C dX7_fails_0 rfl rfl 0 rfl ?_
  refine V_iload_n (q := 2) C dX7_fails_1 rfl rfl 2 rfl ?_
  refine V_if_eq (t := 9) (q := 5) C dX7_fails_2 (by decide) rfl (fun c1 => ?_) (fun c1 => ?_)
  · replace hf := (ite_s hf).1 c1
    refine V_iconst (v := 0) (q := 10) C dX7_fails_9 rfl ic_0 ?_
    refine PM_0_0 (q := 13) C q_1182 dX7_fails_10 rfl ?_
    refine V_lets hf (fun σ2 hf => ?_)
    refine V_iload_n (q := 14) C dX7_fails_13 rfl rfl 2 rfl ?_
    obtain ⟨g3, hf⟩ := gd_s hf
    obtain ⟨e1, e2⟩ := pr_s hf
    subst e1; subst e2
    exact V_zret C F (b01_s g3) (by decide) (by decide) dX7_fails_14
  · replace hf := (ite_s hf).2 c1
    refine V_iload_n (q := 6) C dX7_fails_5 rfl rfl 1 rfl ?_
    refine V_goto (t := 10) C dX7_fails_6 (by decide) ?_
    refine PM_0_0 (q := 13) C q_1182 dX7_fails_10 rfl ?_
    refine V_lets hf (fun σ4 hf => ?_)
    refine V_iload_n (q := 14) C dX7_fails_13 rfl rfl 2 rfl ?_
    obtain ⟨g5, hf⟩ := gd_s hf
    obtain ⟨e1, e2⟩ := pr_s hf
    subst e1; subst e2
    exact V_zret C F (b01_s g5) (by decide) (by decide) dX7_fails_14
def rmX7_isKnown : Room := { frames := 0, cells := 0, slots := 0, locals := 0 }
def fX7_isKnown  (σ : Sg) : Option (Int32 × Sg) := if (σ 1 2) = (1 : Int32) then (some ((1 : Int32), σ)) else (some ((0 : Int32), σ))
set_option maxHeartbeats 4000000 in
theorem conX7_isKnown (l : Launch) (G : Gx) (ad : Nat → Nat)  (σ : Sg) (r : Int32) (σf : Sg)  (hf : fX7_isKnown  σ = some (r, σf)) : Con wM l G ad yX7_isKnown (Cond.code yX7_isKnown cX7_isKnown 1 (some .boolean)) rmX7_isKnown 0 0 [.ref (ad 0)] σ (some (.int r)) σf := by
  refine Con.start (by decide) (Nat.le_of_ble_eq_true rfl) (fun X Q _ C F => ?_)
  refine V_eq (L' := [(0, .ref (ad 0))]) (st' := []) rfl rfl rfl ?_
  unfold fX7_isKnown at hf
  refine V_aload_n (q := 1) C dX7_isKnown_0 rfl rfl 0 rfl ?_
  refine GM_0_1 (q := 4) C q_1183 dX7_isKnown_1 rfl ?_
  refine V_iconst (v := 2) (q := 5) C dX7_isKnown_4 rfl ic_2 ?_
  refine RM_1 (z := 2) (q := 6) C tn_2 (inb_in (by decide)) dX7_isKnown_5 rfl ?_
  refine V_iconst (v := 1) (q := 7) C dX7_isKnown_6 rfl ic_1 ?_
  refine V_icmp_ne (t := 14) (q := 10) C dX7_isKnown_7 (by decide) rfl (fun c1 => ?_) (fun c1 => ?_)
  · replace hf := (ite_s hf).2 c1
    refine V_iconst (v := 0) (q := 15) C dX7_isKnown_14 rfl ic_0 ?_
    obtain ⟨e1, e2⟩ := pr_s hf
    subst e1; subst e2
    exact V_zret C F (by decide) (by decide) (by decide) dX7_isKnown_15
  · replace hf := (ite_s hf).1 c1
    refine V_iconst (v := 1) (q := 11) C dX7_isKnown_10 rfl ic_1 ?_
    refine V_goto (t := 15) C dX7_isKnown_11 (by decide) ?_
    obtain ⟨e1, e2⟩ := pr_s hf
    subst e1; subst e2
    exact V_zret C F (by decide) (by decide) (by decide) dX7_isKnown_15
def rmX7_addStation : Room := { frames := 2, cells := 0, slots := 0, locals := 42 }
def fX7_addStation (a : Int32) (b : Int32) (c : Int32) (σ : Sg) : Option (Int32 × Sg) := jp (fun (v1 : Int32) (σ2 : Sg) => bd (fX7_fails (1 : Int32) v1 σ2) (fun (r3 : Int32) (σ4 : Sg) => if r3 = 0 then (bd (fX7_isKnown  σ4) (fun (r7 : Int32) (σ8 : Sg) => bd (fX7_fails (2 : Int32) r7 σ8) (fun (r10 : Int32) (σ11 : Sg) => if r10 = 0 then (jp (fun (v14 : Int32) (σ15 : Sg) => bd (fX7_fails (3 : Int32) v14 σ15) (fun (r16 : Int32) (σ17 : Sg) => if r16 = 0 then (lt' ((σ17 1 0)) (fun (x20 : Int32) => gd (inb ((4 : Int32) + x20) 2764) (lt' (sup σ17 1 (((4 : Int32) + x20).toNatClampNeg) a) (fun (σ22 : Sg) => gd (inb ((16 : Int32) + x20) 2764) (lt' (sup σ22 1 (((16 : Int32) + x20).toNatClampNeg) b) (fun (σ24 : Sg) => gd (inb ((28 : Int32) + x20) 2764) (lt' (sup σ24 1 (((28 : Int32) + x20).toNatClampNeg) c) (fun (σ26 : Sg) => gd (inb ((40 : Int32) + x20) 2764) (lt' (sup σ26 1 (((40 : Int32) + x20).toNatClampNeg) (1 : Int32)) (fun (σ28 : Sg) => gd (inb ((52 : Int32) + x20) 2764) (lt' (sup σ28 1 (((52 : Int32) + x20).toNatClampNeg) (-1 : Int32)) (fun (σ30 : Sg) => gd (inb ((64 : Int32) + x20) 2764) (lt' (sup σ30 1 (((64 : Int32) + x20).toNatClampNeg) (0 : Int32)) (fun (σ32 : Sg) => gd (inb ((76 : Int32) + x20) 2764) (lt' (sup σ32 1 (((76 : Int32) + x20).toNatClampNeg) (0 : Int32)) (fun (σ34 : Sg) => lt' (sup σ34 1 0 ((σ34 1 0) + (1 : Int32))) (fun (σ35 : Sg) => some (x20, σ35)))))))))))))))))) else (some ((0 : Int32), σ17)))) (fun (J71 : Int32 → Sg → Option (Int32 × Sg)) => if (σ11 1 0) = (12 : Int32) then (J71 (1 : Int32) σ11) else (J71 (0 : Int32) σ11))) else (some ((0 : Int32), σ11))))) else (some ((0 : Int32), σ4)))) (fun (J35 : Int32 → Sg → Option (Int32 × Sg)) => jp (fun (σ37 : Sg) => J35 (1 : Int32) σ37) (fun (J30 : Sg → Option (Int32 × Sg)) => if (pX7_isChannels a) = 0 then (J30  σ) else (if (pX7_isBetween b (0 : Int32) (9999 : Int32)) = 0 then (J30  σ) else (if (pX7_isBetween c (1 : Int32) (99 : Int32)) = 0 then (J30  σ) else (J35 (0 : Int32) σ)))))
set_option maxHeartbeats 4000000 in
theorem conX7_addStation (l : Launch) (G : Gx) (ad : Nat → Nat) (a : Int32) (b : Int32) (c : Int32) (σ : Sg) (r : Int32) (σf : Sg)  (hf : fX7_addStation a b c σ = some (r, σf)) : Con wM l G ad yX7_addStation (Cond.code yX7_addStation cX7_addStation 5 (some .int)) rmX7_addStation 0 0 [.ref (ad 0), .int a, .int b, .int c] σ (some (.int r)) σf := by
  refine Con.start (by decide) (Nat.le_of_ble_eq_true rfl) (fun X Q _ C F => ?_)
  refine V_eq (L' := [(0, .ref (ad 0)), (1, .int a), (2, .int b), (3, .int c)]) (st' := []) rfl rfl rfl ?_
  unfold fX7_addStation at hf
  refine V_aload_n (q := 1) C dX7_addStation_0 rfl rfl 0 rfl ?_
  refine V_iconst (v := 1) (q := 2) C dX7_addStation_1 rfl ic_1 ?_
  refine V_iload_n (q := 3) C dX7_addStation_2 rfl rfl 1 rfl ?_
  refine V_callS (av := [.int a]) (st := [.int (1 : Int32), .ref (ad 0)]) (st1 := [.int (pX7_isChannels a), .int (1 : Int32), .ref (ad 0)]) (q := 6) C (conX7_isChannels _ _ _ _ _ _ rfl) q_1244 q_114 q_1242 q_1243 nmX7_isChannels (by decide) rfl rfl (Nat.le_of_ble_eq_true rfl) dX7_addStation_3 rfl rfl ?_
  obtain ⟨J35, eJ35, hf⟩ := jp_s hf
  have hJ35 : ∀ (v1 : Int32) (σ2 : Sg), J35 v1 σ2 = some (r, σf) → V wM X G ad 5 Q 0 0 σ2 35 [(0, .ref (ad 0)), (1, .int a), (2, .int b), (3, .int c)] [.int v1, .int (1 : Int32), .ref (ad 0)] := by
    intro v1 σ2 hf
    subst eJ35
    obtain ⟨r3, σ4, h5, hf⟩ := bd_s hf
    refine V_callV (av := [.int (1 : Int32), .int v1]) (st := []) (st1 := [.int r3]) (q := 38) C 0 (by decide) (eM_0 G ad _) rfl rfl (conX7_fails _ _ _ _ _ _ _ _ h5) q_1251 q_114 q_1248 q_1250 q_64 nmX7_fails (by decide) rfl rfl (Nat.le_of_ble_eq_true rfl) dX7_addStation_35 rfl rfl ?_
    refine V_if_ne (t := 77) (q := 41) C dX7_addStation_38 (by decide) rfl (fun c6 => ?_) (fun c6 => ?_)
    · replace hf := (ite_s hf).2 c6
      refine V_iconst (v := 0) (q := 78) C dX7_addStation_77 rfl ic_0 ?_
      obtain ⟨e1, e2⟩ := pr_s hf
      subst e1; subst e2
      exact V_iret C F (by decide) (by decide) dX7_addStation_78
    · replace hf := (ite_s hf).1 c6
      refine V_aload_n (q := 42) C dX7_addStation_41 rfl rfl 0 rfl ?_
      refine V_iconst (v := 2) (q := 43) C dX7_addStation_42 rfl ic_2 ?_
      refine V_aload_n (q := 44) C dX7_addStation_43 rfl rfl 0 rfl ?_
      obtain ⟨r7, σ8, h9, hf⟩ := bd_s hf
      refine V_callV (av := []) (st := [.int (2 : Int32), .ref (ad 0)]) (st1 := [.int r7, .int (2 : Int32), .ref (ad 0)]) (q := 47) C 0 (by decide) (eM_0 G ad _) rfl rfl (conX7_isKnown _ _ _  _ _ _ h9) q_1255 q_114 q_1252 q_1254 q_65 nmX7_isKnown (by decide) rfl rfl (Nat.le_of_ble_eq_true rfl) dX7_addStation_44 rfl rfl ?_
      obtain ⟨r10, σ11, h12, hf⟩ := bd_s hf
      refine V_callV (av := [.int (2 : Int32), .int r7]) (st := []) (st1 := [.int r10]) (q := 50) C 0 (by decide) (eM_0 G ad _) rfl rfl (conX7_fails _ _ _ _ _ _ _ _ h12) q_1251 q_114 q_1248 q_1250 q_64 nmX7_fails (by decide) rfl rfl (Nat.le_of_ble_eq_true rfl) dX7_addStation_47 rfl rfl ?_
      refine V_if_ne (t := 77) (q := 53) C dX7_addStation_50 (by decide) rfl (fun c13 => ?_) (fun c13 => ?_)
      · replace hf := (ite_s hf).2 c13
        refine V_iconst (v := 0) (q := 78) C dX7_addStation_77 rfl ic_0 ?_
        obtain ⟨e1, e2⟩ := pr_s hf
        subst e1; subst e2
        exact V_iret C F (by decide) (by decide) dX7_addStation_78
      · replace hf := (ite_s hf).1 c13
        refine V_aload_n (q := 54) C dX7_addStation_53 rfl rfl 0 rfl ?_
        refine V_iconst (v := 3) (q := 55) C dX7_addStation_54 rfl ic_3 ?_
        refine V_aload_n (q := 56) C dX7_addStation_55 rfl rfl 0 rfl ?_
        refine GM_0_1 (q := 59) C q_1183 dX7_addStation_56 rfl ?_
        refine V_iconst (v := 0) (q := 60) C dX7_addStation_59 rfl ic_0 ?_
        refine RM_1 (z := 0) (q := 61) C tn_0 (inb_in (by decide)) dX7_addStation_60 rfl ?_
        refine V_bipush (v := 12) (q := 63) C dX7_addStation_61 rfl bc_12 ?_
        obtain ⟨J71, eJ71, hf⟩ := jp_s hf
        have hJ71 : ∀ (v14 : Int32) (σ15 : Sg), J71 v14 σ15 = some (r, σf) → V wM X G ad 5 Q 0 0 σ15 71 [(0, .ref (ad 0)), (1, .int a), (2, .int b), (3, .int c)] [.int v14, .int (3 : Int32), .ref (ad 0)] := by
          intro v14 σ15 hf
          subst eJ71
          obtain ⟨r16, σ17, h18, hf⟩ := bd_s hf
          refine V_callV (av := [.int (3 : Int32), .int v14]) (st := []) (st1 := [.int r16]) (q := 74) C 0 (by decide) (eM_0 G ad _) rfl rfl (conX7_fails _ _ _ _ _ _ _ _ h18) q_1251 q_114 q_1248 q_1250 q_64 nmX7_fails (by decide) rfl rfl (Nat.le_of_ble_eq_true rfl) dX7_addStation_71 rfl rfl ?_
          refine V_if_eq (t := 79) (q := 77) C dX7_addStation_74 (by decide) rfl (fun c19 => ?_) (fun c19 => ?_)
          · replace hf := (ite_s hf).1 c19
            refine V_aload_n (q := 80) C dX7_addStation_79 rfl rfl 0 rfl ?_
            refine GM_0_1 (q := 83) C q_1183 dX7_addStation_80 rfl ?_
            refine V_iconst (v := 0) (q := 84) C dX7_addStation_83 rfl ic_0 ?_
            refine RM_1 (z := 0) (q := 85) C tn_0 (inb_in (by decide)) dX7_addStation_84 rfl ?_
            refine V_let (cv := Value.int) hf (fun x20 hf => ?_)
            refine V_istore (L' := [(4, .int x20), (0, .ref (ad 0)), (1, .int a), (2, .int b), (3, .int c)]) (q := 87) C dX7_addStation_85 rfl (by decide) rfl ?_
            refine V_aload_n (q := 88) C dX7_addStation_87 rfl rfl 1 rfl ?_
            refine GM_0_1 (q := 91) C q_1183 dX7_addStation_88 rfl ?_
            refine V_iconst (v := 4) (q := 92) C dX7_addStation_91 rfl ic_4 ?_
            refine V_iload (q := 94) C dX7_addStation_92 rfl 0 rfl ?_
            refine V_iadd (q := 95) C dX7_addStation_94 rfl ?_
            refine V_iload_n (q := 96) C dX7_addStation_95 rfl rfl 2 rfl ?_
            obtain ⟨g21, hf⟩ := gd_s hf
            refine SM_1 (z := ((4 : Int32) + x20).toNatClampNeg) (q := 97) C rfl (inb_in g21) dX7_addStation_96 rfl ?_
            refine V_lets hf (fun σ22 hf => ?_)
            refine V_aload_n (q := 98) C dX7_addStation_97 rfl rfl 1 rfl ?_
            refine GM_0_1 (q := 101) C q_1183 dX7_addStation_98 rfl ?_
            refine V_bipush (v := 16) (q := 103) C dX7_addStation_101 rfl bc_16 ?_
            refine V_iload (q := 105) C dX7_addStation_103 rfl 0 rfl ?_
            refine V_iadd (q := 106) C dX7_addStation_105 rfl ?_
            refine V_iload_n (q := 107) C dX7_addStation_106 rfl rfl 3 rfl ?_
            obtain ⟨g23, hf⟩ := gd_s hf
            refine SM_1 (z := ((16 : Int32) + x20).toNatClampNeg) (q := 108) C rfl (inb_in g23) dX7_addStation_107 rfl ?_
            refine V_lets hf (fun σ24 hf => ?_)
            refine V_aload_n (q := 109) C dX7_addStation_108 rfl rfl 1 rfl ?_
            refine GM_0_1 (q := 112) C q_1183 dX7_addStation_109 rfl ?_
            refine V_bipush (v := 28) (q := 114) C dX7_addStation_112 rfl bc_28 ?_
            refine V_iload (q := 116) C dX7_addStation_114 rfl 0 rfl ?_
            refine V_iadd (q := 117) C dX7_addStation_116 rfl ?_
            refine V_iload_n (q := 118) C dX7_addStation_117 rfl rfl 4 rfl ?_
            obtain ⟨g25, hf⟩ := gd_s hf
            refine SM_1 (z := ((28 : Int32) + x20).toNatClampNeg) (q := 119) C rfl (inb_in g25) dX7_addStation_118 rfl ?_
            refine V_lets hf (fun σ26 hf => ?_)
            refine V_aload_n (q := 120) C dX7_addStation_119 rfl rfl 1 rfl ?_
            refine GM_0_1 (q := 123) C q_1183 dX7_addStation_120 rfl ?_
            refine V_bipush (v := 40) (q := 125) C dX7_addStation_123 rfl bc_40 ?_
            refine V_iload (q := 127) C dX7_addStation_125 rfl 0 rfl ?_
            refine V_iadd (q := 128) C dX7_addStation_127 rfl ?_
            refine V_iconst (v := 1) (q := 129) C dX7_addStation_128 rfl ic_1 ?_
            obtain ⟨g27, hf⟩ := gd_s hf
            refine SM_1 (z := ((40 : Int32) + x20).toNatClampNeg) (q := 130) C rfl (inb_in g27) dX7_addStation_129 rfl ?_
            refine V_lets hf (fun σ28 hf => ?_)
            refine V_aload_n (q := 131) C dX7_addStation_130 rfl rfl 1 rfl ?_
            refine GM_0_1 (q := 134) C q_1183 dX7_addStation_131 rfl ?_
            refine V_bipush (v := 52) (q := 136) C dX7_addStation_134 rfl bc_52 ?_
            refine V_iload (q := 138) C dX7_addStation_136 rfl 0 rfl ?_
            refine V_iadd (q := 139) C dX7_addStation_138 rfl ?_
            refine V_iconst (v := (-1)) (q := 140) C dX7_addStation_139 rfl ic_m1 ?_
            obtain ⟨g29, hf⟩ := gd_s hf
            refine SM_1 (z := ((52 : Int32) + x20).toNatClampNeg) (q := 141) C rfl (inb_in g29) dX7_addStation_140 rfl ?_
            refine V_lets hf (fun σ30 hf => ?_)
            refine V_aload_n (q := 142) C dX7_addStation_141 rfl rfl 1 rfl ?_
            refine GM_0_1 (q := 145) C q_1183 dX7_addStation_142 rfl ?_
            refine V_bipush (v := 64) (q := 147) C dX7_addStation_145 rfl bc_64 ?_
            refine V_iload (q := 149) C dX7_addStation_147 rfl 0 rfl ?_
            refine V_iadd (q := 150) C dX7_addStation_149 rfl ?_
            refine V_iconst (v := 0) (q := 151) C dX7_addStation_150 rfl ic_0 ?_
            obtain ⟨g31, hf⟩ := gd_s hf
            refine SM_1 (z := ((64 : Int32) + x20).toNatClampNeg) (q := 152) C rfl (inb_in g31) dX7_addStation_151 rfl ?_
            refine V_lets hf (fun σ32 hf => ?_)
            refine V_aload_n (q := 153) C dX7_addStation_152 rfl rfl 1 rfl ?_
            refine GM_0_1 (q := 156) C q_1183 dX7_addStation_153 rfl ?_
            refine V_bipush (v := 76) (q := 158) C dX7_addStation_156 rfl bc_76 ?_
            refine V_iload (q := 160) C dX7_addStation_158 rfl 0 rfl ?_
            refine V_iadd (q := 161) C dX7_addStation_160 rfl ?_
            refine V_iconst (v := 0) (q := 162) C dX7_addStation_161 rfl ic_0 ?_
            obtain ⟨g33, hf⟩ := gd_s hf
            refine SM_1 (z := ((76 : Int32) + x20).toNatClampNeg) (q := 163) C rfl (inb_in g33) dX7_addStation_162 rfl ?_
            refine V_lets hf (fun σ34 hf => ?_)
            refine V_aload_n (q := 164) C dX7_addStation_163 rfl rfl 1 rfl ?_
            refine GM_0_1 (q := 167) C q_1183 dX7_addStation_164 rfl ?_
            refine V_iconst (v := 0) (q := 168) C dX7_addStation_167 rfl ic_0 ?_
            refine V_dup2 (q := 169) C dX7_addStation_168 rfl rfl rfl ?_
            refine RM_1 (z := 0) (q := 170) C tn_0 (inb_in (by decide)) dX7_addStation_169 rfl ?_
            refine V_iconst (v := 1) (q := 171) C dX7_addStation_170 rfl ic_1 ?_
            refine V_iadd (q := 172) C dX7_addStation_171 rfl ?_
            refine SM_1 (z := 0) (q := 173) C tn_0 (inb_in (by decide)) dX7_addStation_172 rfl ?_
            refine V_lets hf (fun σ35 hf => ?_)
            refine V_iload (q := 175) C dX7_addStation_173 rfl 0 rfl ?_
            obtain ⟨e1, e2⟩ := pr_s hf
            subst e1; subst e2
            exact V_iret C F (by decide) (by decide) dX7_addStation_175
          · replace hf := (ite_s hf).2 c19
            refine V_iconst (v := 0) (q := 78) C dX7_addStation_77 rfl ic_0 ?_
            obtain ⟨e1, e2⟩ := pr_s hf
            subst e1; subst e2
            exact V_iret C F (by decide) (by decide) dX7_addStation_78
        refine V_icmp_ne (t := 70) (q := 66) C dX7_addStation_63 (by decide) rfl (fun c36 => ?_) (fun c36 => ?_)
        · replace hf := (ite_s hf).2 c36
          refine V_iconst (v := 0) (q := 71) C dX7_addStation_70 rfl ic_0 ?_
          exact hJ71 _ _ hf
        · replace hf := (ite_s hf).1 c36
          refine V_iconst (v := 1) (q := 67) C dX7_addStation_66 rfl ic_1 ?_
          refine V_goto (t := 71) C dX7_addStation_67 (by decide) ?_
          exact hJ71 _ _ hf
  obtain ⟨J30, eJ30, hf⟩ := jp_s hf
  have hJ30 : ∀ (σ37 : Sg), J30 σ37 = some (r, σf) → V wM X G ad 5 Q 0 0 σ37 30 [(0, .ref (ad 0)), (1, .int a), (2, .int b), (3, .int c)] [.int (1 : Int32), .ref (ad 0)] := by
    intro σ37 hf
    subst eJ30
    refine V_iconst (v := 1) (q := 31) C dX7_addStation_30 rfl ic_1 ?_
    refine V_goto (t := 35) C dX7_addStation_31 (by decide) ?_
    exact hJ35 _ _ hf
  refine V_if_eq (t := 30) (q := 9) C dX7_addStation_6 (by decide) rfl (fun c38 => ?_) (fun c38 => ?_)
  · replace hf := (ite_s hf).1 c38
    exact hJ30 _ hf
  · replace hf := (ite_s hf).2 c38
    refine V_iload_n (q := 10) C dX7_addStation_9 rfl rfl 2 rfl ?_
    refine V_iconst (v := 0) (q := 11) C dX7_addStation_10 rfl ic_0 ?_
    refine V_sipush (v := 9999) (q := 14) C dX7_addStation_11 rfl sc_9999 ?_
    refine V_callS (av := [.int b, .int (0 : Int32), .int (9999 : Int32)]) (st := [.int (1 : Int32), .ref (ad 0)]) (st1 := [.int (pX7_isBetween b (0 : Int32) (9999 : Int32)), .int (1 : Int32), .ref (ad 0)]) (q := 17) C (conX7_isBetween _ _ _ _ _ _ _ _ rfl) q_1247 q_114 q_1245 q_1246 nmX7_isBetween (by decide) rfl rfl (Nat.le_of_ble_eq_true rfl) dX7_addStation_14 rfl rfl ?_
    refine V_if_eq (t := 30) (q := 20) C dX7_addStation_17 (by decide) rfl (fun c39 => ?_) (fun c39 => ?_)
    · replace hf := (ite_s hf).1 c39
      exact hJ30 _ hf
    · replace hf := (ite_s hf).2 c39
      refine V_iload_n (q := 21) C dX7_addStation_20 rfl rfl 3 rfl ?_
      refine V_iconst (v := 1) (q := 22) C dX7_addStation_21 rfl ic_1 ?_
      refine V_bipush (v := 99) (q := 24) C dX7_addStation_22 rfl bc_99 ?_
      refine V_callS (av := [.int c, .int (1 : Int32), .int (99 : Int32)]) (st := [.int (1 : Int32), .ref (ad 0)]) (st1 := [.int (pX7_isBetween c (1 : Int32) (99 : Int32)), .int (1 : Int32), .ref (ad 0)]) (q := 27) C (conX7_isBetween _ _ _ _ _ _ _ _ rfl) q_1247 q_114 q_1245 q_1246 nmX7_isBetween (by decide) rfl rfl (Nat.le_of_ble_eq_true rfl) dX7_addStation_24 rfl rfl ?_
      refine V_if_ne (t := 34) (q := 30) C dX7_addStation_27 (by decide) rfl (fun c40 => ?_) (fun c40 => ?_)
      · replace hf := (ite_s hf).2 c40
        refine V_iconst (v := 0) (q := 35) C dX7_addStation_34 rfl ic_0 ?_
        exact hJ35 _ _ hf
      · replace hf := (ite_s hf).1 c40
        exact hJ30 _ hf
def rmX7_append : Room := { frames := 1, cells := 0, slots := 0, locals := 22 }
def fX7_append_8 (a : Int32) (K : Int32 → Int32 → Sg → Option (Int32 × Sg)) : Nat → Int32 → Int32 → Int32 → Sg → Option (Int32 × Sg)
  | 0, _, _, _, _ => none
  | n + 1, x1, x2, x3, σ4 => if x3 < 0 then (K x1 x2 σ4) else (lt' (((a >>> (x3 &&& 31)) &&& (255 : Int32))) (fun (x8 : Int32) => jp (fun (v9 : Int32) (σ10 : Sg) => lt' ((x2 ||| v9)) (fun (x11 : Int32) => jp (fun (v12 : Int32) (σ13 : Sg) => lt' ((x1 + v12)) (fun (x14 : Int32) => fX7_append_8 a K n x14 x11 (x3 + (-8 : Int32)) σ13)) (fun (J59 : Int32 → Sg → Option (Int32 × Sg)) => if x8 = 0 then (J59 (0 : Int32) σ10) else (J59 (1 : Int32) σ10)))) (fun (J46 : Int32 → Sg → Option (Int32 × Sg)) => jp (fun (σ16 : Sg) => J46 (0 : Int32) σ16) (fun (J45 : Sg → Option (Int32 × Sg)) => if x8 = 0 then (J45  σ4) else (if (pX7_isBetween x8 (33 : Int32) (126 : Int32)) = 0 then (J46 (1 : Int32) σ4) else (J45  σ4))))))
def fX7_append_106 (a : Int32) : Nat → Int32 → Sg → Option (Int32 × Sg)
  | 0, _, _ => none
  | n + 1, x30, σ31 => if x30 < 0 then (some ((σ31 0 7), σ31)) else (lt' (((a >>> (x30 &&& 31)) &&& (255 : Int32))) (fun (x33 : Int32) => jp (fun (σ34 : Sg) => fX7_append_106 a n (x30 + (-8 : Int32)) σ34) (fun (J147 : Sg → Option (Int32 × Sg)) => if x33 = 0 then (J147  σ31) else (gd (inb (σ31 0 7) 40) (lt' (sup σ31 3 ((σ31 0 7).toNatClampNeg) x33) (fun (σ37 : Sg) => lt' (sup σ37 0 7 ((σ37 0 7) + (1 : Int32))) (fun (σ38 : Sg) => J147  σ38)))))))
def fX7_append (a : Int32) (σ : Sg) : Option (Int32 × Sg) := fX7_append_8 a (fun (y5 : Int32) (y6 : Int32) (σ19 : Sg) => bd (fX7_fails (1 : Int32) y6 σ19) (fun (r20 : Int32) (σ21 : Sg) => if r20 = 0 then (jp (fun (v24 : Int32) (σ25 : Sg) => bd (fX7_fails (2 : Int32) v24 σ25) (fun (r26 : Int32) (σ27 : Sg) => if r26 = 0 then (fX7_append_106 a FU (24 : Int32) σ27) else (some ((0 : Int32), σ27)))) (fun (J94 : Int32 → Sg → Option (Int32 × Sg)) => if ((σ21 0 7) + y5) ≤ (40 : Int32) then (J94 (0 : Int32) σ21) else (J94 (1 : Int32) σ21))) else (some ((0 : Int32), σ21)))) FU (0 : Int32) (0 : Int32) (24 : Int32) σ
set_option maxHeartbeats 4000000 in
theorem wlX7_append_8 {X : Cx} {G : Gx} {ad : Nat → Nat} {Q : State → Prop} {r : Int32} {σf : Sg} (C : OK wM X G ad RX7 cX7_append 6 rmX7_append) (F : FinR wM X G ad Q 0 0 (some .int) (some (.int r)) σf) (a : Int32) (K : Int32 → Int32 → Sg → Option (Int32 × Sg)) (hK : ∀ (y5 : Int32) (y6 : Int32) (σk : Sg), K y5 y6 σk = some (r, σf) → V wM X G ad 6 Q 0 0 σk 67 [(0, .ref (ad 0)), (1, .int a), (2, .int y5), (3, .int y6)] []) : ∀ (n : Nat) (x1 : Int32) (x2 : Int32) (x3 : Int32) (σ4 : Sg), fX7_append_8 a K n x1 x2 x3 σ4 = some (r, σf) → V wM X G ad 6 Q 0 0 σ4 8 [(0, .ref (ad 0)), (1, .int a), (2, .int x1), (3, .int x2), (4, .int x3)] [] := by
  intro n
  induction n with
  | zero =>
    intro _ _ _ _ hf
    exact absurd hf (by simp [fX7_append_8])
  | succ n ih =>
    intro x1 x2 x3 σ4 hf
    rw [fX7_append_8] at hf
    refine V_iload (q := 10) C dX7_append_8 rfl 4 rfl ?_
    refine V_if_lt (t := 67) (q := 13) C dX7_append_10 (by decide) rfl (fun c7 => ?_) (fun c7 => ?_)
    · replace hf := (ite_s hf).1 c7
      refine V_sub (L' := [(0, .ref (ad 0)), (1, .int a), (2, .int x1), (3, .int x2)]) [0, 1, 2, 3] rfl ?_
      exact hK _ _ _ hf
    · replace hf := (ite_s hf).2 c7
      refine V_iload_n (q := 14) C dX7_append_13 rfl rfl 1 rfl ?_
      refine V_iload (q := 16) C dX7_append_14 rfl 4 rfl ?_
      refine V_ishr (q := 17) C dX7_append_16 rfl ?_
      refine V_sipush (v := 255) (q := 20) C dX7_append_17 rfl sc_255 ?_
      refine V_iand (q := 21) C dX7_append_20 rfl ?_
      refine V_let (cv := Value.int) hf (fun x8 hf => ?_)
      refine V_istore (L' := [(5, .int x8), (0, .ref (ad 0)), (1, .int a), (2, .int x1), (3, .int x2), (4, .int x3)]) (q := 23) C dX7_append_21 rfl (by decide) rfl ?_
      refine V_iload_n (q := 24) C dX7_append_23 rfl rfl 4 rfl ?_
      refine V_iload (q := 26) C dX7_append_24 rfl 0 rfl ?_
      obtain ⟨J46, eJ46, hf⟩ := jp_s hf
      have hJ46 : ∀ (v9 : Int32) (σ10 : Sg), J46 v9 σ10 = some (r, σf) → V wM X G ad 6 Q 0 0 σ10 46 [(0, .ref (ad 0)), (1, .int a), (2, .int x1), (4, .int x3), (5, .int x8)] [.int v9, .int x2] := by
        intro v9 σ10 hf
        subst eJ46
        refine V_ior (q := 47) C dX7_append_46 rfl ?_
        refine V_let (cv := Value.int) hf (fun x11 hf => ?_)
        refine V_istore_n (L' := [(3, .int x11), (0, .ref (ad 0)), (1, .int a), (2, .int x1), (4, .int x3), (5, .int x8)]) (q := 48) C dX7_append_47 rfl rfl (by decide) rfl ?_
        refine V_iload_n (q := 49) C dX7_append_48 rfl rfl 3 rfl ?_
        refine V_iload (q := 51) C dX7_append_49 rfl 5 rfl ?_
        obtain ⟨J59, eJ59, hf⟩ := jp_s hf
        have hJ59 : ∀ (v12 : Int32) (σ13 : Sg), J59 v12 σ13 = some (r, σf) → V wM X G ad 6 Q 0 0 σ13 59 [(0, .ref (ad 0)), (1, .int a), (3, .int x11), (4, .int x3)] [.int v12, .int x1] := by
          intro v12 σ13 hf
          subst eJ59
          refine V_iadd (q := 60) C dX7_append_59 rfl ?_
          refine V_let (cv := Value.int) hf (fun x14 hf => ?_)
          refine V_istore_n (L' := [(2, .int x14), (0, .ref (ad 0)), (1, .int a), (3, .int x11), (4, .int x3)]) (q := 61) C dX7_append_60 rfl rfl (by decide) rfl ?_
          refine V_iinc (L' := [(4, .int (x3 + (-8 : Int32))), (2, .int x14), (0, .ref (ad 0)), (1, .int a), (3, .int x11)]) (q := 64) C dX7_append_61 rfl 4 rfl (congrArg (fun y => x3 + y) ic_m8) (by decide) rfl ?_
          refine V_goto (t := 8) C dX7_append_64 (by decide) ?_
          refine V_sub (L' := [(0, .ref (ad 0)), (1, .int a), (2, .int x14), (3, .int x11), (4, .int (x3 + (-8 : Int32)))]) [2, 3, 1, 4, 0] rfl ?_
          exact ih _ _ _ _ hf
        refine V_if_eq (t := 58) (q := 54) C dX7_append_51 (by decide) rfl (fun c15 => ?_) (fun c15 => ?_)
        · replace hf := (ite_s hf).1 c15
          refine V_iconst (v := 0) (q := 59) C dX7_append_58 rfl ic_0 ?_
          refine V_sub (L' := [(0, .ref (ad 0)), (1, .int a), (3, .int x11), (4, .int x3)]) [1, 2, 0, 4] rfl ?_
          exact hJ59 _ _ hf
        · replace hf := (ite_s hf).2 c15
          refine V_iconst (v := 1) (q := 55) C dX7_append_54 rfl ic_1 ?_
          refine V_goto (t := 59) C dX7_append_55 (by decide) ?_
          refine V_sub (L' := [(0, .ref (ad 0)), (1, .int a), (3, .int x11), (4, .int x3)]) [1, 2, 0, 4] rfl ?_
          exact hJ59 _ _ hf
      obtain ⟨J45, eJ45, hf⟩ := jp_s hf
      have hJ45 : ∀ (σ16 : Sg), J45 σ16 = some (r, σf) → V wM X G ad 6 Q 0 0 σ16 45 [(0, .ref (ad 0)), (1, .int a), (2, .int x1), (4, .int x3), (5, .int x8)] [.int x2] := by
        intro σ16 hf
        subst eJ45
        refine V_iconst (v := 0) (q := 46) C dX7_append_45 rfl ic_0 ?_
        exact hJ46 _ _ hf
      refine V_if_eq (t := 45) (q := 29) C dX7_append_26 (by decide) rfl (fun c17 => ?_) (fun c17 => ?_)
      · replace hf := (ite_s hf).1 c17
        refine V_sub (L' := [(0, .ref (ad 0)), (1, .int a), (2, .int x1), (4, .int x3), (5, .int x8)]) [1, 2, 3, 5, 0] rfl ?_
        exact hJ45 _ hf
      · replace hf := (ite_s hf).2 c17
        refine V_iload (q := 31) C dX7_append_29 rfl 0 rfl ?_
        refine V_bipush (v := 33) (q := 33) C dX7_append_31 rfl bc_33 ?_
        refine V_bipush (v := 126) (q := 35) C dX7_append_33 rfl bc_126 ?_
        refine V_callS (av := [.int x8, .int (33 : Int32), .int (126 : Int32)]) (st := [.int x2]) (st1 := [.int (pX7_isBetween x8 (33 : Int32) (126 : Int32)), .int x2]) (q := 38) C (conX7_isBetween _ _ _ _ _ _ _ _ rfl) q_1247 q_114 q_1245 q_1246 nmX7_isBetween (by decide) rfl rfl (Nat.le_of_ble_eq_true rfl) dX7_append_35 rfl rfl ?_
        refine V_if_ne (t := 45) (q := 41) C dX7_append_38 (by decide) rfl (fun c18 => ?_) (fun c18 => ?_)
        · replace hf := (ite_s hf).2 c18
          refine V_sub (L' := [(0, .ref (ad 0)), (1, .int a), (2, .int x1), (4, .int x3), (5, .int x8)]) [1, 2, 3, 5, 0] rfl ?_
          exact hJ45 _ hf
        · replace hf := (ite_s hf).1 c18
          refine V_iconst (v := 1) (q := 42) C dX7_append_41 rfl ic_1 ?_
          refine V_goto (t := 46) C dX7_append_42 (by decide) ?_
          refine V_sub (L' := [(0, .ref (ad 0)), (1, .int a), (2, .int x1), (4, .int x3), (5, .int x8)]) [1, 2, 3, 5, 0] rfl ?_
          exact hJ46 _ _ hf
set_option maxHeartbeats 4000000 in
theorem wlX7_append_106 {X : Cx} {G : Gx} {ad : Nat → Nat} {Q : State → Prop} {r : Int32} {σf : Sg} (C : OK wM X G ad RX7 cX7_append 6 rmX7_append) (F : FinR wM X G ad Q 0 0 (some .int) (some (.int r)) σf) (a : Int32) : ∀ (n : Nat) (x30 : Int32) (σ31 : Sg), fX7_append_106 a n x30 σ31 = some (r, σf) → V wM X G ad 6 Q 0 0 σ31 106 [(0, .ref (ad 0)), (1, .int a), (4, .int x30)] [] := by
  intro n
  induction n with
  | zero =>
    intro _ _ hf
    exact absurd hf (by simp [fX7_append_106])
  | succ n ih =>
    intro x30 σ31 hf
    rw [fX7_append_106] at hf
    refine V_iload (q := 108) C dX7_append_106 rfl 2 rfl ?_
    refine V_if_lt (t := 153) (q := 111) C dX7_append_108 (by decide) rfl (fun c32 => ?_) (fun c32 => ?_)
    · replace hf := (ite_s hf).1 c32
      refine V_aload_n (q := 154) C dX7_append_153 rfl rfl 0 rfl ?_
      refine GM_0_7 (q := 157) C q_1189 dX7_append_154 rfl ?_
      obtain ⟨e1, e2⟩ := pr_s hf
      subst e1; subst e2
      exact V_iret C F (by decide) (by decide) dX7_append_157
    · replace hf := (ite_s hf).2 c32
      refine V_iload_n (q := 112) C dX7_append_111 rfl rfl 1 rfl ?_
      refine V_iload (q := 114) C dX7_append_112 rfl 2 rfl ?_
      refine V_ishr (q := 115) C dX7_append_114 rfl ?_
      refine V_sipush (v := 255) (q := 118) C dX7_append_115 rfl sc_255 ?_
      refine V_iand (q := 119) C dX7_append_118 rfl ?_
      refine V_let (cv := Value.int) hf (fun x33 hf => ?_)
      refine V_istore (L' := [(5, .int x33), (0, .ref (ad 0)), (1, .int a), (4, .int x30)]) (q := 121) C dX7_append_119 rfl (by decide) rfl ?_
      refine V_iload (q := 123) C dX7_append_121 rfl 0 rfl ?_
      obtain ⟨J147, eJ147, hf⟩ := jp_s hf
      have hJ147 : ∀ (σ34 : Sg), J147 σ34 = some (r, σf) → V wM X G ad 6 Q 0 0 σ34 147 [(0, .ref (ad 0)), (1, .int a), (4, .int x30)] [] := by
        intro σ34 hf
        subst eJ147
        refine V_iinc (L' := [(4, .int (x30 + (-8 : Int32))), (0, .ref (ad 0)), (1, .int a)]) (q := 150) C dX7_append_147 rfl 2 rfl (congrArg (fun y => x30 + y) ic_m8) (by decide) rfl ?_
        refine V_goto (t := 106) C dX7_append_150 (by decide) ?_
        refine V_sub (L' := [(0, .ref (ad 0)), (1, .int a), (4, .int (x30 + (-8 : Int32)))]) [1, 2, 0] rfl ?_
        exact ih _ _ hf
      refine V_if_eq (t := 147) (q := 126) C dX7_append_123 (by decide) rfl (fun c35 => ?_) (fun c35 => ?_)
      · replace hf := (ite_s hf).1 c35
        refine V_sub (L' := [(0, .ref (ad 0)), (1, .int a), (4, .int x30)]) [1, 2, 3] rfl ?_
        exact hJ147 _ hf
      · replace hf := (ite_s hf).2 c35
        refine V_aload_n (q := 127) C dX7_append_126 rfl rfl 1 rfl ?_
        refine GM_0_4 (q := 130) C q_1186 dX7_append_127 rfl ?_
        refine V_aload_n (q := 131) C dX7_append_130 rfl rfl 1 rfl ?_
        refine GM_0_7 (q := 134) C q_1189 dX7_append_131 rfl ?_
        refine V_iload (q := 136) C dX7_append_134 rfl 0 rfl ?_
        obtain ⟨g36, hf⟩ := gd_s hf
        refine SM_3 (z := (σ31 0 7).toNatClampNeg) (q := 137) C rfl (inb_in g36) dX7_append_136 rfl ?_
        refine V_lets hf (fun σ37 hf => ?_)
        refine V_aload_n (q := 138) C dX7_append_137 rfl rfl 1 rfl ?_
        refine V_dup (q := 139) C dX7_append_138 rfl rfl ?_
        refine GM_0_7 (q := 142) C q_1189 dX7_append_139 rfl ?_
        refine V_iconst (v := 1) (q := 143) C dX7_append_142 rfl ic_1 ?_
        refine V_iadd (q := 144) C dX7_append_143 rfl ?_
        refine PM_0_7 (q := 147) C q_1189 dX7_append_144 rfl ?_
        refine V_lets hf (fun σ38 hf => ?_)
        refine V_sub (L' := [(0, .ref (ad 0)), (1, .int a), (4, .int x30)]) [1, 2, 3] rfl ?_
        exact hJ147 _ hf
set_option maxHeartbeats 4000000 in
theorem conX7_append (l : Launch) (G : Gx) (ad : Nat → Nat) (a : Int32) (σ : Sg) (r : Int32) (σf : Sg)  (hf : fX7_append a σ = some (r, σf)) : Con wM l G ad yX7_append (Cond.code yX7_append cX7_append 6 (some .int)) rmX7_append 0 0 [.ref (ad 0), .int a] σ (some (.int r)) σf := by
  refine Con.start (by decide) (Nat.le_of_ble_eq_true rfl) (fun X Q _ C F => ?_)
  refine V_eq (L' := [(0, .ref (ad 0)), (1, .int a)]) (st' := []) rfl rfl rfl ?_
  unfold fX7_append at hf
  refine V_iconst (v := 0) (q := 1) C dX7_append_0 rfl ic_0 ?_
  refine V_istore_n (L' := [(2, .int (0 : Int32)), (0, .ref (ad 0)), (1, .int a)]) (q := 2) C dX7_append_1 rfl rfl (by decide) rfl ?_
  refine V_iconst (v := 0) (q := 3) C dX7_append_2 rfl ic_0 ?_
  refine V_istore_n (L' := [(3, .int (0 : Int32)), (2, .int (0 : Int32)), (0, .ref (ad 0)), (1, .int a)]) (q := 4) C dX7_append_3 rfl rfl (by decide) rfl ?_
  refine V_bipush (v := 24) (q := 6) C dX7_append_4 rfl bc_24 ?_
  refine V_istore (L' := [(4, .int (24 : Int32)), (3, .int (0 : Int32)), (2, .int (0 : Int32)), (0, .ref (ad 0)), (1, .int a)]) (q := 8) C dX7_append_6 rfl (by decide) rfl ?_
  refine V_sub (L' := [(0, .ref (ad 0)), (1, .int a), (2, .int (0 : Int32)), (3, .int (0 : Int32)), (4, .int (24 : Int32))]) [3, 4, 2, 1, 0] rfl ?_
  refine wlX7_append_8 C F a _ (fun y5 y6 σ19 hf => ?_) FU _ _ _ _ hf
  refine V_aload_n (q := 68) C dX7_append_67 rfl rfl 0 rfl ?_
  refine V_iconst (v := 1) (q := 69) C dX7_append_68 rfl ic_1 ?_
  refine V_iload_n (q := 70) C dX7_append_69 rfl rfl 3 rfl ?_
  obtain ⟨r20, σ21, h22, hf⟩ := bd_s hf
  refine V_callV (av := [.int (1 : Int32), .int y6]) (st := []) (st1 := [.int r20]) (q := 73) C 0 (by decide) (eM_0 G ad _) rfl rfl (conX7_fails _ _ _ _ _ _ _ _ h22) q_1251 q_114 q_1248 q_1250 q_64 nmX7_fails (by decide) rfl rfl (Nat.le_of_ble_eq_true rfl) dX7_append_70 rfl rfl ?_
  refine V_if_ne (t := 100) (q := 76) C dX7_append_73 (by decide) rfl (fun c23 => ?_) (fun c23 => ?_)
  · replace hf := (ite_s hf).2 c23
    refine V_iconst (v := 0) (q := 101) C dX7_append_100 rfl ic_0 ?_
    obtain ⟨e1, e2⟩ := pr_s hf
    subst e1; subst e2
    exact V_iret C F (by decide) (by decide) dX7_append_101
  · replace hf := (ite_s hf).1 c23
    refine V_aload_n (q := 77) C dX7_append_76 rfl rfl 0 rfl ?_
    refine V_iconst (v := 2) (q := 78) C dX7_append_77 rfl ic_2 ?_
    refine V_aload_n (q := 79) C dX7_append_78 rfl rfl 0 rfl ?_
    refine GM_0_7 (q := 82) C q_1189 dX7_append_79 rfl ?_
    refine V_iload_n (q := 83) C dX7_append_82 rfl rfl 2 rfl ?_
    refine V_iadd (q := 84) C dX7_append_83 rfl ?_
    refine V_bipush (v := 40) (q := 86) C dX7_append_84 rfl bc_40 ?_
    obtain ⟨J94, eJ94, hf⟩ := jp_s hf
    have hJ94 : ∀ (v24 : Int32) (σ25 : Sg), J94 v24 σ25 = some (r, σf) → V wM X G ad 6 Q 0 0 σ25 94 [(0, .ref (ad 0)), (1, .int a)] [.int v24, .int (2 : Int32), .ref (ad 0)] := by
      intro v24 σ25 hf
      subst eJ94
      obtain ⟨r26, σ27, h28, hf⟩ := bd_s hf
      refine V_callV (av := [.int (2 : Int32), .int v24]) (st := []) (st1 := [.int r26]) (q := 97) C 0 (by decide) (eM_0 G ad _) rfl rfl (conX7_fails _ _ _ _ _ _ _ _ h28) q_1251 q_114 q_1248 q_1250 q_64 nmX7_fails (by decide) rfl rfl (Nat.le_of_ble_eq_true rfl) dX7_append_94 rfl rfl ?_
      refine V_if_eq (t := 102) (q := 100) C dX7_append_97 (by decide) rfl (fun c29 => ?_) (fun c29 => ?_)
      · replace hf := (ite_s hf).1 c29
        refine V_bipush (v := 24) (q := 104) C dX7_append_102 rfl bc_24 ?_
        refine V_istore (L' := [(4, .int (24 : Int32)), (0, .ref (ad 0)), (1, .int a)]) (q := 106) C dX7_append_104 rfl (by decide) rfl ?_
        refine V_sub (L' := [(0, .ref (ad 0)), (1, .int a), (4, .int (24 : Int32))]) [1, 2, 0] rfl ?_
        refine wlX7_append_106 C F a FU _ _ hf
      · replace hf := (ite_s hf).2 c29
        refine V_iconst (v := 0) (q := 101) C dX7_append_100 rfl ic_0 ?_
        obtain ⟨e1, e2⟩ := pr_s hf
        subst e1; subst e2
        exact V_iret C F (by decide) (by decide) dX7_append_101
    refine V_icmp_le (t := 93) (q := 89) C dX7_append_86 (by decide) rfl (fun c39 => ?_) (fun c39 => ?_)
    · replace hf := (ite_s hf).1 c39
      refine V_iconst (v := 0) (q := 94) C dX7_append_93 rfl ic_0 ?_
      refine V_sub (L' := [(0, .ref (ad 0)), (1, .int a)]) [0, 1] rfl ?_
      exact hJ94 _ _ hf
    · replace hf := (ite_s hf).2 c39
      refine V_iconst (v := 1) (q := 90) C dX7_append_89 rfl ic_1 ?_
      refine V_goto (t := 94) C dX7_append_90 (by decide) ?_
      refine V_sub (L' := [(0, .ref (ad 0)), (1, .int a)]) [0, 1] rfl ?_
      exact hJ94 _ _ hf
