def rmX7_setParticipates : Room := { frames := 2, cells := 0, slots := 0, locals := 43 }
def fX7_setParticipates (a : Int32) (b : Int32) (σ : Sg) : Option (Int32 × Sg) := bd (fX7_isStation a σ) (fun (r1 : Int32) (σ2 : Sg) => jp (fun (v4 : Int32) (σ5 : Sg) => bd (fX7_fails (1 : Int32) v4 σ5) (fun (r6 : Int32) (σ7 : Sg) => if r6 = 0 then (bd (fX7_isKnown  σ7) (fun (r10 : Int32) (σ11 : Sg) => bd (fX7_fails (2 : Int32) r10 σ11) (fun (r13 : Int32) (σ14 : Sg) => if r13 = 0 then (gd (inb ((40 : Int32) + a) 2764) (jp (fun (v18 : Int32) (σ19 : Sg) => if b = 0 then (gd (inb ((40 : Int32) + a) 2764) (lt' (sup σ19 1 (((40 : Int32) + a).toNatClampNeg) (0 : Int32)) (fun (σ22 : Sg) => gd (b01 v18) (some (v18, σ22))))) else (gd (inb ((40 : Int32) + a) 2764) (lt' (sup σ19 1 (((40 : Int32) + a).toNatClampNeg) (1 : Int32)) (fun (σ25 : Sg) => gd (b01 v18) (some (v18, σ25)))))) (fun (J53 : Int32 → Sg → Option (Int32 × Sg)) => if (σ14 1 (((40 : Int32) + a).toNatClampNeg)) = (1 : Int32) then (J53 (1 : Int32) σ14) else (J53 (0 : Int32) σ14)))) else (some ((0 : Int32), σ14))))) else (some ((0 : Int32), σ7)))) (fun (J15 : Int32 → Sg → Option (Int32 × Sg)) => if r1 = 0 then (J15 (1 : Int32) σ2) else (J15 (0 : Int32) σ2)))
set_option maxHeartbeats 4000000 in
theorem conX7_setParticipates (l : Launch) (G : Gx) (ad : Nat → Nat) (a : Int32) (b : Int32) (σ : Sg) (r : Int32) (σf : Sg)  (hf : fX7_setParticipates a b σ = some (r, σf)) : Con wM l G ad yX7_setParticipates (Cond.code yX7_setParticipates cX7_setParticipates 4 (some .boolean)) rmX7_setParticipates 0 0 [.ref (ad 0), .int a, .int b] σ (some (.int r)) σf := by
  refine Con.start (by decide) (Nat.le_of_ble_eq_true rfl) (fun X Q _ C F => ?_)
  refine V_eq (L' := [(0, .ref (ad 0)), (1, .int a), (2, .int b)]) (st' := []) rfl rfl rfl ?_
  unfold fX7_setParticipates at hf
  refine V_aload_n (q := 1) C dX7_setParticipates_0 rfl rfl 0 rfl ?_
  refine V_iconst (v := 1) (q := 2) C dX7_setParticipates_1 rfl ic_1 ?_
  refine V_aload_n (q := 3) C dX7_setParticipates_2 rfl rfl 0 rfl ?_
  refine V_iload_n (q := 4) C dX7_setParticipates_3 rfl rfl 1 rfl ?_
  obtain ⟨r1, σ2, h3, hf⟩ := bd_s hf
  refine V_callV (av := [.int a]) (st := [.int (1 : Int32), .ref (ad 0)]) (st1 := [.int r1, .int (1 : Int32), .ref (ad 0)]) (q := 7) C 0 (by decide) (eM_0 G ad _) rfl rfl (conX7_isStation _ _ _ _ _ _ _ h3) q_1267 q_114 q_1264 q_1266 q_66 nmX7_isStation (by decide) rfl rfl (Nat.le_of_ble_eq_true rfl) dX7_setParticipates_4 rfl rfl ?_
  obtain ⟨J15, eJ15, hf⟩ := jp_s hf
  have hJ15 : ∀ (v4 : Int32) (σ5 : Sg), J15 v4 σ5 = some (r, σf) → V wM X G ad 4 Q 0 0 σ5 15 [(0, .ref (ad 0)), (1, .int a), (2, .int b)] [.int v4, .int (1 : Int32), .ref (ad 0)] := by
    intro v4 σ5 hf
    subst eJ15
    obtain ⟨r6, σ7, h8, hf⟩ := bd_s hf
    refine V_callV (av := [.int (1 : Int32), .int v4]) (st := []) (st1 := [.int r6]) (q := 18) C 0 (by decide) (eM_0 G ad _) rfl rfl (conX7_fails _ _ _ _ _ _ _ _ h8) q_1251 q_114 q_1248 q_1250 q_64 nmX7_fails (by decide) rfl rfl (Nat.le_of_ble_eq_true rfl) dX7_setParticipates_15 rfl rfl ?_
    refine V_if_ne (t := 33) (q := 21) C dX7_setParticipates_18 (by decide) rfl (fun c9 => ?_) (fun c9 => ?_)
    · replace hf := (ite_s hf).2 c9
      refine V_iconst (v := 0) (q := 34) C dX7_setParticipates_33 rfl ic_0 ?_
      obtain ⟨e1, e2⟩ := pr_s hf
      subst e1; subst e2
      exact V_zret C F (by decide) (by decide) (by decide) dX7_setParticipates_34
    · replace hf := (ite_s hf).1 c9
      refine V_aload_n (q := 22) C dX7_setParticipates_21 rfl rfl 0 rfl ?_
      refine V_iconst (v := 2) (q := 23) C dX7_setParticipates_22 rfl ic_2 ?_
      refine V_aload_n (q := 24) C dX7_setParticipates_23 rfl rfl 0 rfl ?_
      obtain ⟨r10, σ11, h12, hf⟩ := bd_s hf
      refine V_callV (av := []) (st := [.int (2 : Int32), .ref (ad 0)]) (st1 := [.int r10, .int (2 : Int32), .ref (ad 0)]) (q := 27) C 0 (by decide) (eM_0 G ad _) rfl rfl (conX7_isKnown _ _ _  _ _ _ h12) q_1255 q_114 q_1252 q_1254 q_65 nmX7_isKnown (by decide) rfl rfl (Nat.le_of_ble_eq_true rfl) dX7_setParticipates_24 rfl rfl ?_
      obtain ⟨r13, σ14, h15, hf⟩ := bd_s hf
      refine V_callV (av := [.int (2 : Int32), .int r10]) (st := []) (st1 := [.int r13]) (q := 30) C 0 (by decide) (eM_0 G ad _) rfl rfl (conX7_fails _ _ _ _ _ _ _ _ h15) q_1251 q_114 q_1248 q_1250 q_64 nmX7_fails (by decide) rfl rfl (Nat.le_of_ble_eq_true rfl) dX7_setParticipates_27 rfl rfl ?_
      refine V_if_eq (t := 35) (q := 33) C dX7_setParticipates_30 (by decide) rfl (fun c16 => ?_) (fun c16 => ?_)
      · replace hf := (ite_s hf).1 c16
        refine V_aload_n (q := 36) C dX7_setParticipates_35 rfl rfl 0 rfl ?_
        refine GM_0_1 (q := 39) C q_1183 dX7_setParticipates_36 rfl ?_
        refine V_bipush (v := 40) (q := 41) C dX7_setParticipates_39 rfl bc_40 ?_
        refine V_iload_n (q := 42) C dX7_setParticipates_41 rfl rfl 1 rfl ?_
        refine V_iadd (q := 43) C dX7_setParticipates_42 rfl ?_
        obtain ⟨g17, hf⟩ := gd_s hf
        refine RM_1 (z := ((40 : Int32) + a).toNatClampNeg) (q := 44) C rfl (inb_in g17) dX7_setParticipates_43 rfl ?_
        refine V_iconst (v := 1) (q := 45) C dX7_setParticipates_44 rfl ic_1 ?_
        obtain ⟨J53, eJ53, hf⟩ := jp_s hf
        have hJ53 : ∀ (v18 : Int32) (σ19 : Sg), J53 v18 σ19 = some (r, σf) → V wM X G ad 4 Q 0 0 σ19 53 [(0, .ref (ad 0)), (1, .int a), (2, .int b)] [.int v18] := by
          intro v18 σ19 hf
          subst eJ53
          refine V_istore_n (L' := [(3, .int v18), (0, .ref (ad 0)), (1, .int a), (2, .int b)]) (q := 54) C dX7_setParticipates_53 rfl rfl (by decide) rfl ?_
          refine V_aload_n (q := 55) C dX7_setParticipates_54 rfl rfl 1 rfl ?_
          refine GM_0_1 (q := 58) C q_1183 dX7_setParticipates_55 rfl ?_
          refine V_bipush (v := 40) (q := 60) C dX7_setParticipates_58 rfl bc_40 ?_
          refine V_iload_n (q := 61) C dX7_setParticipates_60 rfl rfl 2 rfl ?_
          refine V_iadd (q := 62) C dX7_setParticipates_61 rfl ?_
          refine V_iload_n (q := 63) C dX7_setParticipates_62 rfl rfl 3 rfl ?_
          refine V_if_eq (t := 70) (q := 66) C dX7_setParticipates_63 (by decide) rfl (fun c20 => ?_) (fun c20 => ?_)
          · replace hf := (ite_s hf).1 c20
            refine V_iconst (v := 0) (q := 71) C dX7_setParticipates_70 rfl ic_0 ?_
            obtain ⟨g21, hf⟩ := gd_s hf
            refine SM_1 (z := ((40 : Int32) + a).toNatClampNeg) (q := 72) C rfl (inb_in g21) dX7_setParticipates_71 rfl ?_
            refine V_lets hf (fun σ22 hf => ?_)
            refine V_iload_n (q := 73) C dX7_setParticipates_72 rfl rfl 0 rfl ?_
            obtain ⟨g23, hf⟩ := gd_s hf
            obtain ⟨e1, e2⟩ := pr_s hf
            subst e1; subst e2
            exact V_zret C F (b01_s g23) (by decide) (by decide) dX7_setParticipates_73
          · replace hf := (ite_s hf).2 c20
            refine V_iconst (v := 1) (q := 67) C dX7_setParticipates_66 rfl ic_1 ?_
            refine V_goto (t := 71) C dX7_setParticipates_67 (by decide) ?_
            obtain ⟨g24, hf⟩ := gd_s hf
            refine SM_1 (z := ((40 : Int32) + a).toNatClampNeg) (q := 72) C rfl (inb_in g24) dX7_setParticipates_71 rfl ?_
            refine V_lets hf (fun σ25 hf => ?_)
            refine V_iload_n (q := 73) C dX7_setParticipates_72 rfl rfl 0 rfl ?_
            obtain ⟨g26, hf⟩ := gd_s hf
            obtain ⟨e1, e2⟩ := pr_s hf
            subst e1; subst e2
            exact V_zret C F (b01_s g26) (by decide) (by decide) dX7_setParticipates_73
        refine V_icmp_ne (t := 52) (q := 48) C dX7_setParticipates_45 (by decide) rfl (fun c27 => ?_) (fun c27 => ?_)
        · replace hf := (ite_s hf).2 c27
          refine V_iconst (v := 0) (q := 53) C dX7_setParticipates_52 rfl ic_0 ?_
          exact hJ53 _ _ hf
        · replace hf := (ite_s hf).1 c27
          refine V_iconst (v := 1) (q := 49) C dX7_setParticipates_48 rfl ic_1 ?_
          refine V_goto (t := 53) C dX7_setParticipates_49 (by decide) ?_
          exact hJ53 _ _ hf
      · replace hf := (ite_s hf).2 c16
        refine V_iconst (v := 0) (q := 34) C dX7_setParticipates_33 rfl ic_0 ?_
        obtain ⟨e1, e2⟩ := pr_s hf
        subst e1; subst e2
        exact V_zret C F (by decide) (by decide) (by decide) dX7_setParticipates_34
  refine V_if_ne (t := 14) (q := 10) C dX7_setParticipates_7 (by decide) rfl (fun c28 => ?_) (fun c28 => ?_)
  · replace hf := (ite_s hf).2 c28
    refine V_iconst (v := 0) (q := 15) C dX7_setParticipates_14 rfl ic_0 ?_
    exact hJ15 _ _ hf
  · replace hf := (ite_s hf).1 c28
    refine V_iconst (v := 1) (q := 11) C dX7_setParticipates_10 rfl ic_1 ?_
    refine V_goto (t := 15) C dX7_setParticipates_11 (by decide) ?_
    exact hJ15 _ _ hf
def rmX7_setValue : Room := { frames := 2, cells := 0, slots := 0, locals := 43 }
def fX7_setValue (a : Int32) (b : Int32) (σ : Sg) : Option (Int32 × Sg) := bd (fX7_isStation a σ) (fun (r1 : Int32) (σ2 : Sg) => jp (fun (v4 : Int32) (σ5 : Sg) => bd (fX7_fails (1 : Int32) v4 σ5) (fun (r6 : Int32) (σ7 : Sg) => if r6 = 0 then (jp (fun (v10 : Int32) (σ11 : Sg) => bd (fX7_fails (2 : Int32) v10 σ11) (fun (r12 : Int32) (σ13 : Sg) => if r12 = 0 then (bd (fX7_isKnown  σ13) (fun (r16 : Int32) (σ17 : Sg) => bd (fX7_fails (3 : Int32) r16 σ17) (fun (r19 : Int32) (σ20 : Sg) => if r19 = 0 then (gd (inb ((16 : Int32) + a) 2764) (lt' ((σ20 1 (((16 : Int32) + a).toNatClampNeg))) (fun (x24 : Int32) => gd (inb ((16 : Int32) + a) 2764) (lt' (sup σ20 1 (((16 : Int32) + a).toNatClampNeg) b) (fun (σ26 : Sg) => some (x24, σ26)))))) else (some ((0 : Int32), σ20))))) else (some ((0 : Int32), σ13)))) (fun (J39 : Int32 → Sg → Option (Int32 × Sg)) => if (pX7_isBetween b (0 : Int32) (9999 : Int32)) = 0 then (J39 (1 : Int32) σ7) else (J39 (0 : Int32) σ7))) else (some ((0 : Int32), σ7)))) (fun (J15 : Int32 → Sg → Option (Int32 × Sg)) => if r1 = 0 then (J15 (1 : Int32) σ2) else (J15 (0 : Int32) σ2)))
set_option maxHeartbeats 4000000 in
theorem conX7_setValue (l : Launch) (G : Gx) (ad : Nat → Nat) (a : Int32) (b : Int32) (σ : Sg) (r : Int32) (σf : Sg)  (hf : fX7_setValue a b σ = some (r, σf)) : Con wM l G ad yX7_setValue (Cond.code yX7_setValue cX7_setValue 4 (some .int)) rmX7_setValue 0 0 [.ref (ad 0), .int a, .int b] σ (some (.int r)) σf := by
  refine Con.start (by decide) (Nat.le_of_ble_eq_true rfl) (fun X Q _ C F => ?_)
  refine V_eq (L' := [(0, .ref (ad 0)), (1, .int a), (2, .int b)]) (st' := []) rfl rfl rfl ?_
  unfold fX7_setValue at hf
  refine V_aload_n (q := 1) C dX7_setValue_0 rfl rfl 0 rfl ?_
  refine V_iconst (v := 1) (q := 2) C dX7_setValue_1 rfl ic_1 ?_
  refine V_aload_n (q := 3) C dX7_setValue_2 rfl rfl 0 rfl ?_
  refine V_iload_n (q := 4) C dX7_setValue_3 rfl rfl 1 rfl ?_
  obtain ⟨r1, σ2, h3, hf⟩ := bd_s hf
  refine V_callV (av := [.int a]) (st := [.int (1 : Int32), .ref (ad 0)]) (st1 := [.int r1, .int (1 : Int32), .ref (ad 0)]) (q := 7) C 0 (by decide) (eM_0 G ad _) rfl rfl (conX7_isStation _ _ _ _ _ _ _ h3) q_1267 q_114 q_1264 q_1266 q_66 nmX7_isStation (by decide) rfl rfl (Nat.le_of_ble_eq_true rfl) dX7_setValue_4 rfl rfl ?_
  obtain ⟨J15, eJ15, hf⟩ := jp_s hf
  have hJ15 : ∀ (v4 : Int32) (σ5 : Sg), J15 v4 σ5 = some (r, σf) → V wM X G ad 4 Q 0 0 σ5 15 [(0, .ref (ad 0)), (1, .int a), (2, .int b)] [.int v4, .int (1 : Int32), .ref (ad 0)] := by
    intro v4 σ5 hf
    subst eJ15
    obtain ⟨r6, σ7, h8, hf⟩ := bd_s hf
    refine V_callV (av := [.int (1 : Int32), .int v4]) (st := []) (st1 := [.int r6]) (q := 18) C 0 (by decide) (eM_0 G ad _) rfl rfl (conX7_fails _ _ _ _ _ _ _ _ h8) q_1251 q_114 q_1248 q_1250 q_64 nmX7_fails (by decide) rfl rfl (Nat.le_of_ble_eq_true rfl) dX7_setValue_15 rfl rfl ?_
    refine V_if_ne (t := 57) (q := 21) C dX7_setValue_18 (by decide) rfl (fun c9 => ?_) (fun c9 => ?_)
    · replace hf := (ite_s hf).2 c9
      refine V_iconst (v := 0) (q := 58) C dX7_setValue_57 rfl ic_0 ?_
      obtain ⟨e1, e2⟩ := pr_s hf
      subst e1; subst e2
      exact V_iret C F (by decide) (by decide) dX7_setValue_58
    · replace hf := (ite_s hf).1 c9
      refine V_aload_n (q := 22) C dX7_setValue_21 rfl rfl 0 rfl ?_
      refine V_iconst (v := 2) (q := 23) C dX7_setValue_22 rfl ic_2 ?_
      refine V_iload_n (q := 24) C dX7_setValue_23 rfl rfl 2 rfl ?_
      refine V_iconst (v := 0) (q := 25) C dX7_setValue_24 rfl ic_0 ?_
      refine V_sipush (v := 9999) (q := 28) C dX7_setValue_25 rfl sc_9999 ?_
      refine V_callS (av := [.int b, .int (0 : Int32), .int (9999 : Int32)]) (st := [.int (2 : Int32), .ref (ad 0)]) (st1 := [.int (pX7_isBetween b (0 : Int32) (9999 : Int32)), .int (2 : Int32), .ref (ad 0)]) (q := 31) C (conX7_isBetween _ _ _ _ _ _ _ _ rfl) q_1247 q_114 q_1245 q_1246 nmX7_isBetween (by decide) rfl rfl (Nat.le_of_ble_eq_true rfl) dX7_setValue_28 rfl rfl ?_
      obtain ⟨J39, eJ39, hf⟩ := jp_s hf
      have hJ39 : ∀ (v10 : Int32) (σ11 : Sg), J39 v10 σ11 = some (r, σf) → V wM X G ad 4 Q 0 0 σ11 39 [(0, .ref (ad 0)), (1, .int a), (2, .int b)] [.int v10, .int (2 : Int32), .ref (ad 0)] := by
        intro v10 σ11 hf
        subst eJ39
        obtain ⟨r12, σ13, h14, hf⟩ := bd_s hf
        refine V_callV (av := [.int (2 : Int32), .int v10]) (st := []) (st1 := [.int r12]) (q := 42) C 0 (by decide) (eM_0 G ad _) rfl rfl (conX7_fails _ _ _ _ _ _ _ _ h14) q_1251 q_114 q_1248 q_1250 q_64 nmX7_fails (by decide) rfl rfl (Nat.le_of_ble_eq_true rfl) dX7_setValue_39 rfl rfl ?_
        refine V_if_ne (t := 57) (q := 45) C dX7_setValue_42 (by decide) rfl (fun c15 => ?_) (fun c15 => ?_)
        · replace hf := (ite_s hf).2 c15
          refine V_iconst (v := 0) (q := 58) C dX7_setValue_57 rfl ic_0 ?_
          obtain ⟨e1, e2⟩ := pr_s hf
          subst e1; subst e2
          exact V_iret C F (by decide) (by decide) dX7_setValue_58
        · replace hf := (ite_s hf).1 c15
          refine V_aload_n (q := 46) C dX7_setValue_45 rfl rfl 0 rfl ?_
          refine V_iconst (v := 3) (q := 47) C dX7_setValue_46 rfl ic_3 ?_
          refine V_aload_n (q := 48) C dX7_setValue_47 rfl rfl 0 rfl ?_
          obtain ⟨r16, σ17, h18, hf⟩ := bd_s hf
          refine V_callV (av := []) (st := [.int (3 : Int32), .ref (ad 0)]) (st1 := [.int r16, .int (3 : Int32), .ref (ad 0)]) (q := 51) C 0 (by decide) (eM_0 G ad _) rfl rfl (conX7_isKnown _ _ _  _ _ _ h18) q_1255 q_114 q_1252 q_1254 q_65 nmX7_isKnown (by decide) rfl rfl (Nat.le_of_ble_eq_true rfl) dX7_setValue_48 rfl rfl ?_
          obtain ⟨r19, σ20, h21, hf⟩ := bd_s hf
          refine V_callV (av := [.int (3 : Int32), .int r16]) (st := []) (st1 := [.int r19]) (q := 54) C 0 (by decide) (eM_0 G ad _) rfl rfl (conX7_fails _ _ _ _ _ _ _ _ h21) q_1251 q_114 q_1248 q_1250 q_64 nmX7_fails (by decide) rfl rfl (Nat.le_of_ble_eq_true rfl) dX7_setValue_51 rfl rfl ?_
          refine V_if_eq (t := 59) (q := 57) C dX7_setValue_54 (by decide) rfl (fun c22 => ?_) (fun c22 => ?_)
          · replace hf := (ite_s hf).1 c22
            refine V_aload_n (q := 60) C dX7_setValue_59 rfl rfl 0 rfl ?_
            refine GM_0_1 (q := 63) C q_1183 dX7_setValue_60 rfl ?_
            refine V_bipush (v := 16) (q := 65) C dX7_setValue_63 rfl bc_16 ?_
            refine V_iload_n (q := 66) C dX7_setValue_65 rfl rfl 1 rfl ?_
            refine V_iadd (q := 67) C dX7_setValue_66 rfl ?_
            obtain ⟨g23, hf⟩ := gd_s hf
            refine RM_1 (z := ((16 : Int32) + a).toNatClampNeg) (q := 68) C rfl (inb_in g23) dX7_setValue_67 rfl ?_
            refine V_let (cv := Value.int) hf (fun x24 hf => ?_)
            refine V_istore_n (L' := [(3, .int x24), (0, .ref (ad 0)), (1, .int a), (2, .int b)]) (q := 69) C dX7_setValue_68 rfl rfl (by decide) rfl ?_
            refine V_aload_n (q := 70) C dX7_setValue_69 rfl rfl 1 rfl ?_
            refine GM_0_1 (q := 73) C q_1183 dX7_setValue_70 rfl ?_
            refine V_bipush (v := 16) (q := 75) C dX7_setValue_73 rfl bc_16 ?_
            refine V_iload_n (q := 76) C dX7_setValue_75 rfl rfl 2 rfl ?_
            refine V_iadd (q := 77) C dX7_setValue_76 rfl ?_
            refine V_iload_n (q := 78) C dX7_setValue_77 rfl rfl 3 rfl ?_
            obtain ⟨g25, hf⟩ := gd_s hf
            refine SM_1 (z := ((16 : Int32) + a).toNatClampNeg) (q := 79) C rfl (inb_in g25) dX7_setValue_78 rfl ?_
            refine V_lets hf (fun σ26 hf => ?_)
            refine V_iload_n (q := 80) C dX7_setValue_79 rfl rfl 0 rfl ?_
            obtain ⟨e1, e2⟩ := pr_s hf
            subst e1; subst e2
            exact V_iret C F (by decide) (by decide) dX7_setValue_80
          · replace hf := (ite_s hf).2 c22
            refine V_iconst (v := 0) (q := 58) C dX7_setValue_57 rfl ic_0 ?_
            obtain ⟨e1, e2⟩ := pr_s hf
            subst e1; subst e2
            exact V_iret C F (by decide) (by decide) dX7_setValue_58
      refine V_if_ne (t := 38) (q := 34) C dX7_setValue_31 (by decide) rfl (fun c27 => ?_) (fun c27 => ?_)
      · replace hf := (ite_s hf).2 c27
        refine V_iconst (v := 0) (q := 39) C dX7_setValue_38 rfl ic_0 ?_
        exact hJ39 _ _ hf
      · replace hf := (ite_s hf).1 c27
        refine V_iconst (v := 1) (q := 35) C dX7_setValue_34 rfl ic_1 ?_
        refine V_goto (t := 39) C dX7_setValue_35 (by decide) ?_
        exact hJ39 _ _ hf
  refine V_if_ne (t := 14) (q := 10) C dX7_setValue_7 (by decide) rfl (fun c28 => ?_) (fun c28 => ?_)
  · replace hf := (ite_s hf).2 c28
    refine V_iconst (v := 0) (q := 15) C dX7_setValue_14 rfl ic_0 ?_
    exact hJ15 _ _ hf
  · replace hf := (ite_s hf).1 c28
    refine V_iconst (v := 1) (q := 11) C dX7_setValue_10 rfl ic_1 ?_
    refine V_goto (t := 15) C dX7_setValue_11 (by decide) ?_
    exact hJ15 _ _ hf
def rmX7_state : Room := { frames := 2, cells := 0, slots := 0, locals := 43 }
def fX7_state (a : Int32) (σ : Sg) : Option (Int32 × Sg) := bd (fX7_isStation a σ) (fun (r1 : Int32) (σ2 : Sg) => jp (fun (v4 : Int32) (σ5 : Sg) => bd (fX7_fails (1 : Int32) v4 σ5) (fun (r6 : Int32) (σ7 : Sg) => jp (fun (σ9 : Sg) => some ((0 : Int32), σ9)) (fun (J41 : Sg → Option (Int32 × Sg)) => if r6 = 0 then (bd (fX7_isKnown  σ7) (fun (r11 : Int32) (σ12 : Sg) => jp (fun (v14 : Int32) (σ15 : Sg) => bd (fX7_fails (2 : Int32) v14 σ15) (fun (r16 : Int32) (σ17 : Sg) => if r16 = 0 then (bd (fX7_stateOf a σ17) (fun (r20 : Int32) (σ21 : Sg) => some (r20, σ21))) else (J41  σ17))) (fun (J35 : Int32 → Sg → Option (Int32 × Sg)) => if r11 = 0 then (J35 (1 : Int32) σ12) else (J35 (0 : Int32) σ12)))) else (J41  σ7)))) (fun (J15 : Int32 → Sg → Option (Int32 × Sg)) => if r1 = 0 then (J15 (1 : Int32) σ2) else (J15 (0 : Int32) σ2)))
set_option maxHeartbeats 4000000 in
theorem conX7_state (l : Launch) (G : Gx) (ad : Nat → Nat) (a : Int32) (σ : Sg) (r : Int32) (σf : Sg)  (hf : fX7_state a σ = some (r, σf)) : Con wM l G ad yX7_state (Cond.code yX7_state cX7_state 2 (some .int)) rmX7_state 0 0 [.ref (ad 0), .int a] σ (some (.int r)) σf := by
  refine Con.start (by decide) (Nat.le_of_ble_eq_true rfl) (fun X Q _ C F => ?_)
  refine V_eq (L' := [(0, .ref (ad 0)), (1, .int a)]) (st' := []) rfl rfl rfl ?_
  unfold fX7_state at hf
  refine V_aload_n (q := 1) C dX7_state_0 rfl rfl 0 rfl ?_
  refine V_iconst (v := 1) (q := 2) C dX7_state_1 rfl ic_1 ?_
  refine V_aload_n (q := 3) C dX7_state_2 rfl rfl 0 rfl ?_
  refine V_iload_n (q := 4) C dX7_state_3 rfl rfl 1 rfl ?_
  obtain ⟨r1, σ2, h3, hf⟩ := bd_s hf
  refine V_callV (av := [.int a]) (st := [.int (1 : Int32), .ref (ad 0)]) (st1 := [.int r1, .int (1 : Int32), .ref (ad 0)]) (q := 7) C 0 (by decide) (eM_0 G ad _) rfl rfl (conX7_isStation _ _ _ _ _ _ _ h3) q_1267 q_114 q_1264 q_1266 q_66 nmX7_isStation (by decide) rfl rfl (Nat.le_of_ble_eq_true rfl) dX7_state_4 rfl rfl ?_
  obtain ⟨J15, eJ15, hf⟩ := jp_s hf
  have hJ15 : ∀ (v4 : Int32) (σ5 : Sg), J15 v4 σ5 = some (r, σf) → V wM X G ad 2 Q 0 0 σ5 15 [(0, .ref (ad 0)), (1, .int a)] [.int v4, .int (1 : Int32), .ref (ad 0)] := by
    intro v4 σ5 hf
    subst eJ15
    obtain ⟨r6, σ7, h8, hf⟩ := bd_s hf
    refine V_callV (av := [.int (1 : Int32), .int v4]) (st := []) (st1 := [.int r6]) (q := 18) C 0 (by decide) (eM_0 G ad _) rfl rfl (conX7_fails _ _ _ _ _ _ _ _ h8) q_1251 q_114 q_1248 q_1250 q_64 nmX7_fails (by decide) rfl rfl (Nat.le_of_ble_eq_true rfl) dX7_state_15 rfl rfl ?_
    obtain ⟨J41, eJ41, hf⟩ := jp_s hf
    have hJ41 : ∀ (σ9 : Sg), J41 σ9 = some (r, σf) → V wM X G ad 2 Q 0 0 σ9 41 [] [] := by
      intro σ9 hf
      subst eJ41
      refine V_iconst (v := 0) (q := 42) C dX7_state_41 rfl ic_0 ?_
      refine V_goto (t := 50) C dX7_state_42 (by decide) ?_
      obtain ⟨e1, e2⟩ := pr_s hf
      subst e1; subst e2
      exact V_iret C F (by decide) (by decide) dX7_state_50
    refine V_if_ne (t := 41) (q := 21) C dX7_state_18 (by decide) rfl (fun c10 => ?_) (fun c10 => ?_)
    · replace hf := (ite_s hf).2 c10
      refine V_sub (L' := []) [] rfl ?_
      exact hJ41 _ hf
    · replace hf := (ite_s hf).1 c10
      refine V_aload_n (q := 22) C dX7_state_21 rfl rfl 0 rfl ?_
      refine V_iconst (v := 2) (q := 23) C dX7_state_22 rfl ic_2 ?_
      refine V_aload_n (q := 24) C dX7_state_23 rfl rfl 0 rfl ?_
      obtain ⟨r11, σ12, h13, hf⟩ := bd_s hf
      refine V_callV (av := []) (st := [.int (2 : Int32), .ref (ad 0)]) (st1 := [.int r11, .int (2 : Int32), .ref (ad 0)]) (q := 27) C 0 (by decide) (eM_0 G ad _) rfl rfl (conX7_isKnown _ _ _  _ _ _ h13) q_1255 q_114 q_1252 q_1254 q_65 nmX7_isKnown (by decide) rfl rfl (Nat.le_of_ble_eq_true rfl) dX7_state_24 rfl rfl ?_
      obtain ⟨J35, eJ35, hf⟩ := jp_s hf
      have hJ35 : ∀ (v14 : Int32) (σ15 : Sg), J35 v14 σ15 = some (r, σf) → V wM X G ad 2 Q 0 0 σ15 35 [(0, .ref (ad 0)), (1, .int a)] [.int v14, .int (2 : Int32), .ref (ad 0)] := by
        intro v14 σ15 hf
        subst eJ35
        obtain ⟨r16, σ17, h18, hf⟩ := bd_s hf
        refine V_callV (av := [.int (2 : Int32), .int v14]) (st := []) (st1 := [.int r16]) (q := 38) C 0 (by decide) (eM_0 G ad _) rfl rfl (conX7_fails _ _ _ _ _ _ _ _ h18) q_1251 q_114 q_1248 q_1250 q_64 nmX7_fails (by decide) rfl rfl (Nat.le_of_ble_eq_true rfl) dX7_state_35 rfl rfl ?_
        refine V_if_eq (t := 45) (q := 41) C dX7_state_38 (by decide) rfl (fun c19 => ?_) (fun c19 => ?_)
        · replace hf := (ite_s hf).1 c19
          refine V_aload_n (q := 46) C dX7_state_45 rfl rfl 0 rfl ?_
          refine V_iload_n (q := 47) C dX7_state_46 rfl rfl 1 rfl ?_
          obtain ⟨r20, σ21, h22, hf⟩ := bd_s hf
          refine V_callV (av := [.int a]) (st := []) (st1 := [.int r20]) (q := 50) C 0 (by decide) (eM_0 G ad _) rfl rfl (conX7_stateOf _ _ _ _ _ _ _ h22) q_1460 q_114 q_1457 q_1459 q_93 nmX7_stateOf (by decide) rfl rfl (Nat.le_of_ble_eq_true rfl) dX7_state_47 rfl rfl ?_
          obtain ⟨e1, e2⟩ := pr_s hf
          subst e1; subst e2
          exact V_iret C F (by decide) (by decide) dX7_state_50
        · replace hf := (ite_s hf).2 c19
          refine V_sub (L' := []) [] rfl ?_
          exact hJ41 _ hf
      refine V_if_ne (t := 34) (q := 30) C dX7_state_27 (by decide) rfl (fun c23 => ?_) (fun c23 => ?_)
      · replace hf := (ite_s hf).2 c23
        refine V_iconst (v := 0) (q := 35) C dX7_state_34 rfl ic_0 ?_
        exact hJ35 _ _ hf
      · replace hf := (ite_s hf).1 c23
        refine V_iconst (v := 1) (q := 31) C dX7_state_30 rfl ic_1 ?_
        refine V_goto (t := 35) C dX7_state_31 (by decide) ?_
        exact hJ35 _ _ hf
  refine V_if_ne (t := 14) (q := 10) C dX7_state_7 (by decide) rfl (fun c24 => ?_) (fun c24 => ?_)
  · replace hf := (ite_s hf).2 c24
    refine V_iconst (v := 0) (q := 15) C dX7_state_14 rfl ic_0 ?_
    exact hJ15 _ _ hf
  · replace hf := (ite_s hf).1 c24
    refine V_iconst (v := 1) (q := 11) C dX7_state_10 rfl ic_1 ?_
    refine V_goto (t := 15) C dX7_state_11 (by decide) ?_
    exact hJ15 _ _ hf
def rmX7_station : Room := { frames := 2, cells := 0, slots := 0, locals := 43 }
def fX7_station (a : Int32) (b : Int32) (σ : Sg) : Option (Int32 × Sg) := bd (fX7_isStation a σ) (fun (r1 : Int32) (σ2 : Sg) => jp (fun (v4 : Int32) (σ5 : Sg) => bd (fX7_fails (1 : Int32) v4 σ5) (fun (r6 : Int32) (σ7 : Sg) => if r6 = 0 then (jp (fun (v10 : Int32) (σ11 : Sg) => bd (fX7_fails (2 : Int32) v10 σ11) (fun (r12 : Int32) (σ13 : Sg) => if r12 = 0 then (if b = (0 : Int32) then (gd (inb ((4 : Int32) + a) 2764) (some ((σ13 1 (((4 : Int32) + a).toNatClampNeg)), σ13))) else if b = (1 : Int32) then (gd (inb ((16 : Int32) + a) 2764) (some ((σ13 1 (((16 : Int32) + a).toNatClampNeg)), σ13))) else if b = (2 : Int32) then (gd (inb ((28 : Int32) + a) 2764) (some ((σ13 1 (((28 : Int32) + a).toNatClampNeg)), σ13))) else if b = (3 : Int32) then (gd (inb ((40 : Int32) + a) 2764) (some ((σ13 1 (((40 : Int32) + a).toNatClampNeg)), σ13))) else if b = (4 : Int32) then (bd (fX7_degree a σ13) (fun (r25 : Int32) (σ26 : Sg) => some (r25, σ26))) else (gd (inb ((52 : Int32) + a) 2764) (some ((σ13 1 (((52 : Int32) + a).toNatClampNeg)), σ13)))) else (some ((0 : Int32), σ13)))) (fun (J37 : Int32 → Sg → Option (Int32 × Sg)) => if (pX7_isBetween b (0 : Int32) (5 : Int32)) = 0 then (J37 (1 : Int32) σ7) else (J37 (0 : Int32) σ7))) else (some ((0 : Int32), σ7)))) (fun (J15 : Int32 → Sg → Option (Int32 × Sg)) => if r1 = 0 then (J15 (1 : Int32) σ2) else (J15 (0 : Int32) σ2)))
set_option maxHeartbeats 4000000 in
theorem conX7_station (l : Launch) (G : Gx) (ad : Nat → Nat) (a : Int32) (b : Int32) (σ : Sg) (r : Int32) (σf : Sg)  (hf : fX7_station a b σ = some (r, σf)) : Con wM l G ad yX7_station (Cond.code yX7_station cX7_station 3 (some .int)) rmX7_station 0 0 [.ref (ad 0), .int a, .int b] σ (some (.int r)) σf := by
  refine Con.start (by decide) (Nat.le_of_ble_eq_true rfl) (fun X Q _ C F => ?_)
  refine V_eq (L' := [(0, .ref (ad 0)), (1, .int a), (2, .int b)]) (st' := []) rfl rfl rfl ?_
  unfold fX7_station at hf
  refine V_aload_n (q := 1) C dX7_station_0 rfl rfl 0 rfl ?_
  refine V_iconst (v := 1) (q := 2) C dX7_station_1 rfl ic_1 ?_
  refine V_aload_n (q := 3) C dX7_station_2 rfl rfl 0 rfl ?_
  refine V_iload_n (q := 4) C dX7_station_3 rfl rfl 1 rfl ?_
  obtain ⟨r1, σ2, h3, hf⟩ := bd_s hf
  refine V_callV (av := [.int a]) (st := [.int (1 : Int32), .ref (ad 0)]) (st1 := [.int r1, .int (1 : Int32), .ref (ad 0)]) (q := 7) C 0 (by decide) (eM_0 G ad _) rfl rfl (conX7_isStation _ _ _ _ _ _ _ h3) q_1267 q_114 q_1264 q_1266 q_66 nmX7_isStation (by decide) rfl rfl (Nat.le_of_ble_eq_true rfl) dX7_station_4 rfl rfl ?_
  obtain ⟨J15, eJ15, hf⟩ := jp_s hf
  have hJ15 : ∀ (v4 : Int32) (σ5 : Sg), J15 v4 σ5 = some (r, σf) → V wM X G ad 3 Q 0 0 σ5 15 [(0, .ref (ad 0)), (1, .int a), (2, .int b)] [.int v4, .int (1 : Int32), .ref (ad 0)] := by
    intro v4 σ5 hf
    subst eJ15
    obtain ⟨r6, σ7, h8, hf⟩ := bd_s hf
    refine V_callV (av := [.int (1 : Int32), .int v4]) (st := []) (st1 := [.int r6]) (q := 18) C 0 (by decide) (eM_0 G ad _) rfl rfl (conX7_fails _ _ _ _ _ _ _ _ h8) q_1251 q_114 q_1248 q_1250 q_64 nmX7_fails (by decide) rfl rfl (Nat.le_of_ble_eq_true rfl) dX7_station_15 rfl rfl ?_
    refine V_if_ne (t := 43) (q := 21) C dX7_station_18 (by decide) rfl (fun c9 => ?_) (fun c9 => ?_)
    · replace hf := (ite_s hf).2 c9
      refine V_iconst (v := 0) (q := 44) C dX7_station_43 rfl ic_0 ?_
      obtain ⟨e1, e2⟩ := pr_s hf
      subst e1; subst e2
      exact V_iret C F (by decide) (by decide) dX7_station_44
    · replace hf := (ite_s hf).1 c9
      refine V_aload_n (q := 22) C dX7_station_21 rfl rfl 0 rfl ?_
      refine V_iconst (v := 2) (q := 23) C dX7_station_22 rfl ic_2 ?_
      refine V_iload_n (q := 24) C dX7_station_23 rfl rfl 2 rfl ?_
      refine V_iconst (v := 0) (q := 25) C dX7_station_24 rfl ic_0 ?_
      refine V_iconst (v := 5) (q := 26) C dX7_station_25 rfl ic_5 ?_
      refine V_callS (av := [.int b, .int (0 : Int32), .int (5 : Int32)]) (st := [.int (2 : Int32), .ref (ad 0)]) (st1 := [.int (pX7_isBetween b (0 : Int32) (5 : Int32)), .int (2 : Int32), .ref (ad 0)]) (q := 29) C (conX7_isBetween _ _ _ _ _ _ _ _ rfl) q_1247 q_114 q_1245 q_1246 nmX7_isBetween (by decide) rfl rfl (Nat.le_of_ble_eq_true rfl) dX7_station_26 rfl rfl ?_
      obtain ⟨J37, eJ37, hf⟩ := jp_s hf
      have hJ37 : ∀ (v10 : Int32) (σ11 : Sg), J37 v10 σ11 = some (r, σf) → V wM X G ad 3 Q 0 0 σ11 37 [(0, .ref (ad 0)), (1, .int a), (2, .int b)] [.int v10, .int (2 : Int32), .ref (ad 0)] := by
        intro v10 σ11 hf
        subst eJ37
        obtain ⟨r12, σ13, h14, hf⟩ := bd_s hf
        refine V_callV (av := [.int (2 : Int32), .int v10]) (st := []) (st1 := [.int r12]) (q := 40) C 0 (by decide) (eM_0 G ad _) rfl rfl (conX7_fails _ _ _ _ _ _ _ _ h14) q_1251 q_114 q_1248 q_1250 q_64 nmX7_fails (by decide) rfl rfl (Nat.le_of_ble_eq_true rfl) dX7_station_37 rfl rfl ?_
        refine V_if_eq (t := 45) (q := 43) C dX7_station_40 (by decide) rfl (fun c15 => ?_) (fun c15 => ?_)
        · replace hf := (ite_s hf).1 c15
          refine V_iload_n (q := 46) C dX7_station_45 rfl rfl 2 rfl ?_
          by_cases c16 : b = (0 : Int32)
          · replace hf := (ite_s hf).1 c16
            refine V_tabIn (t := 80) C dX7_station_46 (by rw [c16]; decide) (by rw [c16]; decide) (off := 34) (by rw [c16]; decide) (by decide) ?_
            refine V_aload_n (q := 81) C dX7_station_80 rfl rfl 0 rfl ?_
            refine GM_0_1 (q := 84) C q_1183 dX7_station_81 rfl ?_
            refine V_iconst (v := 4) (q := 85) C dX7_station_84 rfl ic_4 ?_
            refine V_iload_n (q := 86) C dX7_station_85 rfl rfl 1 rfl ?_
            refine V_iadd (q := 87) C dX7_station_86 rfl ?_
            obtain ⟨g17, hf⟩ := gd_s hf
            refine RM_1 (z := ((4 : Int32) + a).toNatClampNeg) (q := 88) C rfl (inb_in g17) dX7_station_87 rfl ?_
            obtain ⟨e1, e2⟩ := pr_s hf
            subst e1; subst e2
            exact V_iret C F (by decide) (by decide) dX7_station_88
          · replace hf := (ite_s hf).2 c16
            by_cases c18 : b = (1 : Int32)
            · replace hf := (ite_s hf).1 c18
              refine V_tabIn (t := 89) C dX7_station_46 (by rw [c18]; decide) (by rw [c18]; decide) (off := 43) (by rw [c18]; decide) (by decide) ?_
              refine V_aload_n (q := 90) C dX7_station_89 rfl rfl 0 rfl ?_
              refine GM_0_1 (q := 93) C q_1183 dX7_station_90 rfl ?_
              refine V_bipush (v := 16) (q := 95) C dX7_station_93 rfl bc_16 ?_
              refine V_iload_n (q := 96) C dX7_station_95 rfl rfl 1 rfl ?_
              refine V_iadd (q := 97) C dX7_station_96 rfl ?_
              obtain ⟨g19, hf⟩ := gd_s hf
              refine RM_1 (z := ((16 : Int32) + a).toNatClampNeg) (q := 98) C rfl (inb_in g19) dX7_station_97 rfl ?_
              obtain ⟨e1, e2⟩ := pr_s hf
              subst e1; subst e2
              exact V_iret C F (by decide) (by decide) dX7_station_98
            · replace hf := (ite_s hf).2 c18
              by_cases c20 : b = (2 : Int32)
              · replace hf := (ite_s hf).1 c20
                refine V_tabIn (t := 99) C dX7_station_46 (by rw [c20]; decide) (by rw [c20]; decide) (off := 53) (by rw [c20]; decide) (by decide) ?_
                refine V_aload_n (q := 100) C dX7_station_99 rfl rfl 0 rfl ?_
                refine GM_0_1 (q := 103) C q_1183 dX7_station_100 rfl ?_
                refine V_bipush (v := 28) (q := 105) C dX7_station_103 rfl bc_28 ?_
                refine V_iload_n (q := 106) C dX7_station_105 rfl rfl 1 rfl ?_
                refine V_iadd (q := 107) C dX7_station_106 rfl ?_
                obtain ⟨g21, hf⟩ := gd_s hf
                refine RM_1 (z := ((28 : Int32) + a).toNatClampNeg) (q := 108) C rfl (inb_in g21) dX7_station_107 rfl ?_
                obtain ⟨e1, e2⟩ := pr_s hf
                subst e1; subst e2
                exact V_iret C F (by decide) (by decide) dX7_station_108
              · replace hf := (ite_s hf).2 c20
                by_cases c22 : b = (3 : Int32)
                · replace hf := (ite_s hf).1 c22
                  refine V_tabIn (t := 109) C dX7_station_46 (by rw [c22]; decide) (by rw [c22]; decide) (off := 63) (by rw [c22]; decide) (by decide) ?_
                  refine V_aload_n (q := 110) C dX7_station_109 rfl rfl 0 rfl ?_
                  refine GM_0_1 (q := 113) C q_1183 dX7_station_110 rfl ?_
                  refine V_bipush (v := 40) (q := 115) C dX7_station_113 rfl bc_40 ?_
                  refine V_iload_n (q := 116) C dX7_station_115 rfl rfl 1 rfl ?_
                  refine V_iadd (q := 117) C dX7_station_116 rfl ?_
                  obtain ⟨g23, hf⟩ := gd_s hf
                  refine RM_1 (z := ((40 : Int32) + a).toNatClampNeg) (q := 118) C rfl (inb_in g23) dX7_station_117 rfl ?_
                  obtain ⟨e1, e2⟩ := pr_s hf
                  subst e1; subst e2
                  exact V_iret C F (by decide) (by decide) dX7_station_118
                · replace hf := (ite_s hf).2 c22
                  by_cases c24 : b = (4 : Int32)
                  · replace hf := (ite_s hf).1 c24
                    refine V_tabIn (t := 119) C dX7_station_46 (by rw [c24]; decide) (by rw [c24]; decide) (off := 73) (by rw [c24]; decide) (by decide) ?_
                    refine V_aload_n (q := 120) C dX7_station_119 rfl rfl 0 rfl ?_
                    refine V_iload_n (q := 121) C dX7_station_120 rfl rfl 1 rfl ?_
                    obtain ⟨r25, σ26, h27, hf⟩ := bd_s hf
                    refine V_callV (av := [.int a]) (st := []) (st1 := [.int r25]) (q := 124) C 0 (by decide) (eM_0 G ad _) rfl rfl (conX7_degree _ _ _ _ _ _ _ h27) q_1338 q_114 q_1335 q_1337 q_75 nmX7_degree (by decide) rfl rfl (Nat.le_of_ble_eq_true rfl) dX7_station_121 rfl rfl ?_
                    obtain ⟨e1, e2⟩ := pr_s hf
                    subst e1; subst e2
                    exact V_iret C F (by decide) (by decide) dX7_station_124
                  · replace hf := (ite_s hf).2 c24
                    refine V_tabOut (t := 125) C dX7_station_46 (sw_out (h := 4) (by decide) (fun i hi => ?_)) (by decide) ?_
                    · match i, hi with
                      | 0, _ => exact c16
                      | 1, _ => exact c18
                      | 2, _ => exact c20
                      | 3, _ => exact c22
                      | 4, _ => exact c24
                      | i + 5, h => exact absurd h (by omega)
                    · refine V_aload_n (q := 126) C dX7_station_125 rfl rfl 0 rfl ?_
                      refine GM_0_1 (q := 129) C q_1183 dX7_station_126 rfl ?_
                      refine V_bipush (v := 52) (q := 131) C dX7_station_129 rfl bc_52 ?_
                      refine V_iload_n (q := 132) C dX7_station_131 rfl rfl 1 rfl ?_
                      refine V_iadd (q := 133) C dX7_station_132 rfl ?_
                      obtain ⟨g28, hf⟩ := gd_s hf
                      refine RM_1 (z := ((52 : Int32) + a).toNatClampNeg) (q := 134) C rfl (inb_in g28) dX7_station_133 rfl ?_
                      obtain ⟨e1, e2⟩ := pr_s hf
                      subst e1; subst e2
                      exact V_iret C F (by decide) (by decide) dX7_station_134
        · replace hf := (ite_s hf).2 c15
          refine V_iconst (v := 0) (q := 44) C dX7_station_43 rfl ic_0 ?_
          obtain ⟨e1, e2⟩ := pr_s hf
          subst e1; subst e2
          exact V_iret C F (by decide) (by decide) dX7_station_44
      refine V_if_ne (t := 36) (q := 32) C dX7_station_29 (by decide) rfl (fun c29 => ?_) (fun c29 => ?_)
      · replace hf := (ite_s hf).2 c29
        refine V_iconst (v := 0) (q := 37) C dX7_station_36 rfl ic_0 ?_
        exact hJ37 _ _ hf
      · replace hf := (ite_s hf).1 c29
        refine V_iconst (v := 1) (q := 33) C dX7_station_32 rfl ic_1 ?_
        refine V_goto (t := 37) C dX7_station_33 (by decide) ?_
        exact hJ37 _ _ hf
  refine V_if_ne (t := 14) (q := 10) C dX7_station_7 (by decide) rfl (fun c30 => ?_) (fun c30 => ?_)
  · replace hf := (ite_s hf).2 c30
    refine V_iconst (v := 0) (q := 15) C dX7_station_14 rfl ic_0 ?_
    exact hJ15 _ _ hf
  · replace hf := (ite_s hf).1 c30
    refine V_iconst (v := 1) (q := 11) C dX7_station_10 rfl ic_1 ?_
    refine V_goto (t := 15) C dX7_station_11 (by decide) ?_
    exact hJ15 _ _ hf
def rmX7_thrown : Room := { frames := 0, cells := 0, slots := 0, locals := 0 }
def fX7_thrown  (σ : Sg) : Option (Int32 × Sg) := some ((σ 0 0), σ)
set_option maxHeartbeats 4000000 in
theorem conX7_thrown (l : Launch) (G : Gx) (ad : Nat → Nat)  (σ : Sg) (r : Int32) (σf : Sg)  (hf : fX7_thrown  σ = some (r, σf)) : Con wM l G ad yX7_thrown (Cond.code yX7_thrown cX7_thrown 1 (some .int)) rmX7_thrown 0 0 [.ref (ad 0)] σ (some (.int r)) σf := by
  refine Con.start (by decide) (Nat.le_of_ble_eq_true rfl) (fun X Q _ C F => ?_)
  refine V_eq (L' := [(0, .ref (ad 0))]) (st' := []) rfl rfl rfl ?_
  unfold fX7_thrown at hf
  refine V_aload_n (q := 1) C dX7_thrown_0 rfl rfl 0 rfl ?_
  refine GM_0_0 (q := 4) C q_1182 dX7_thrown_1 rfl ?_
  obtain ⟨e1, e2⟩ := pr_s hf
  subst e1; subst e2
  exact V_iret C F (by decide) (by decide) dX7_thrown_4
def rmX7_volumeBits : Room := { frames := 3, cells := 0, slots := 0, locals := 68 }
def fX7_volumeBits (a : Int32) (σ : Sg) : Option (Int32 × Sg) := bd (fX7_isStation a σ) (fun (r1 : Int32) (σ2 : Sg) => jp (fun (v4 : Int32) (σ5 : Sg) => bd (fX7_fails (1 : Int32) v4 σ5) (fun (r6 : Int32) (σ7 : Sg) => if r6 = 0 then (bd (fX7_volume a σ7) (fun (r10 : UInt32) (σ11 : Sg) => some ((pJxf58ca_floatToIntBits_5c35a r10), σ11))) else (some ((0 : Int32), σ7)))) (fun (J15 : Int32 → Sg → Option (Int32 × Sg)) => if r1 = 0 then (J15 (1 : Int32) σ2) else (J15 (0 : Int32) σ2)))
set_option maxHeartbeats 4000000 in
theorem conX7_volumeBits (l : Launch) (G : Gx) (ad : Nat → Nat) (a : Int32) (σ : Sg) (r : Int32) (σf : Sg)  (hf : fX7_volumeBits a σ = some (r, σf)) : Con wM l G ad yX7_volumeBits (Cond.code yX7_volumeBits cX7_volumeBits 2 (some .int)) rmX7_volumeBits 0 0 [.ref (ad 0), .int a] σ (some (.int r)) σf := by
  refine Con.start (by decide) (Nat.le_of_ble_eq_true rfl) (fun X Q _ C F => ?_)
  refine V_eq (L' := [(0, .ref (ad 0)), (1, .int a)]) (st' := []) rfl rfl rfl ?_
  unfold fX7_volumeBits at hf
  refine V_aload_n (q := 1) C dX7_volumeBits_0 rfl rfl 0 rfl ?_
  refine V_iconst (v := 1) (q := 2) C dX7_volumeBits_1 rfl ic_1 ?_
  refine V_aload_n (q := 3) C dX7_volumeBits_2 rfl rfl 0 rfl ?_
  refine V_iload_n (q := 4) C dX7_volumeBits_3 rfl rfl 1 rfl ?_
  obtain ⟨r1, σ2, h3, hf⟩ := bd_s hf
  refine V_callV (av := [.int a]) (st := [.int (1 : Int32), .ref (ad 0)]) (st1 := [.int r1, .int (1 : Int32), .ref (ad 0)]) (q := 7) C 0 (by decide) (eM_0 G ad _) rfl rfl (conX7_isStation _ _ _ _ _ _ _ h3) q_1267 q_114 q_1264 q_1266 q_66 nmX7_isStation (by decide) rfl rfl (Nat.le_of_ble_eq_true rfl) dX7_volumeBits_4 rfl rfl ?_
  obtain ⟨J15, eJ15, hf⟩ := jp_s hf
  have hJ15 : ∀ (v4 : Int32) (σ5 : Sg), J15 v4 σ5 = some (r, σf) → V wM X G ad 2 Q 0 0 σ5 15 [(0, .ref (ad 0)), (1, .int a)] [.int v4, .int (1 : Int32), .ref (ad 0)] := by
    intro v4 σ5 hf
    subst eJ15
    obtain ⟨r6, σ7, h8, hf⟩ := bd_s hf
    refine V_callV (av := [.int (1 : Int32), .int v4]) (st := []) (st1 := [.int r6]) (q := 18) C 0 (by decide) (eM_0 G ad _) rfl rfl (conX7_fails _ _ _ _ _ _ _ _ h8) q_1251 q_114 q_1248 q_1250 q_64 nmX7_fails (by decide) rfl rfl (Nat.le_of_ble_eq_true rfl) dX7_volumeBits_15 rfl rfl ?_
    refine V_if_eq (t := 25) (q := 21) C dX7_volumeBits_18 (by decide) rfl (fun c9 => ?_) (fun c9 => ?_)
    · replace hf := (ite_s hf).1 c9
      refine V_aload_n (q := 26) C dX7_volumeBits_25 rfl rfl 0 rfl ?_
      refine V_iload_n (q := 27) C dX7_volumeBits_26 rfl rfl 1 rfl ?_
      obtain ⟨r10, σ11, h12, hf⟩ := bd_s hf
      refine V_callV (av := [.int a]) (st := []) (st1 := [.float r10]) (q := 30) C 0 (by decide) (eM_0 G ad _) rfl rfl (conX7_volume _ _ _ _ _ _ _ h12) q_1349 q_114 q_1346 q_1348 q_76 nmX7_volume (by decide) rfl rfl (Nat.le_of_ble_eq_true rfl) dX7_volumeBits_27 rfl rfl ?_
      refine V_callS (av := [.float r10]) (st := []) (st1 := [.int (pJxf58ca_floatToIntBits_5c35a r10)]) (q := 33) C (conJxf58ca_floatToIntBits_5c35a _ _ _ _ _ _ rfl) q_1353 q_127 q_1351 q_1352 nmJxf58ca_floatToIntBits_5c35a (by decide) rfl rfl (Nat.le_of_ble_eq_true rfl) dX7_volumeBits_30 rfl rfl ?_
      obtain ⟨e1, e2⟩ := pr_s hf
      subst e1; subst e2
      exact V_iret C F (by decide) (by decide) dX7_volumeBits_33
    · replace hf := (ite_s hf).2 c9
      refine V_iconst (v := 0) (q := 22) C dX7_volumeBits_21 rfl ic_0 ?_
      refine V_goto (t := 33) C dX7_volumeBits_22 (by decide) ?_
      obtain ⟨e1, e2⟩ := pr_s hf
      subst e1; subst e2
      exact V_iret C F (by decide) (by decide) dX7_volumeBits_33
  refine V_if_ne (t := 14) (q := 10) C dX7_volumeBits_7 (by decide) rfl (fun c13 => ?_) (fun c13 => ?_)
  · replace hf := (ite_s hf).2 c13
    refine V_iconst (v := 0) (q := 15) C dX7_volumeBits_14 rfl ic_0 ?_
    exact hJ15 _ _ hf
  · replace hf := (ite_s hf).1 c13
    refine V_iconst (v := 1) (q := 11) C dX7_volumeBits_10 rfl ic_1 ?_
    refine V_goto (t := 15) C dX7_volumeBits_11 (by decide) ?_
    exact hJ15 _ _ hf
