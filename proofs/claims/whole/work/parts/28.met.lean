def rmX7_order : Room := { frames := 4, cells := 0, slots := 0, locals := 89 }
def fX7_order (a : Int32) (σ : Sg) : Option (Int32 × Sg) := bd (fX7_ranked a σ) (fun (r1 : Int32) (σ2 : Sg) => jp (fun (v4 : Int32) (σ5 : Sg) => bd (fX7_fails (1 : Int32) v4 σ5) (fun (r6 : Int32) (σ7 : Sg) => if r6 = 0 then (some (r1, σ7)) else (some ((0 : Int32), σ7)))) (fun (J17 : Int32 → Sg → Option (Int32 × Sg)) => if 0 ≤ r1 then (J17 (0 : Int32) σ2) else (J17 (1 : Int32) σ2)))
set_option maxHeartbeats 4000000 in
theorem conX7_order (l : Launch) (G : Gx) (ad : Nat → Nat) (a : Int32) (σ : Sg) (r : Int32) (σf : Sg)  (hf : fX7_order a σ = some (r, σf)) : Con wM l G ad yX7_order (Cond.code yX7_order cX7_order 3 (some .int)) rmX7_order 0 0 [.ref (ad 0), .int a] σ (some (.int r)) σf := by
  refine Con.start (by decide) (Nat.le_of_ble_eq_true rfl) (fun X Q _ C F => ?_)
  refine V_eq (L' := [(0, .ref (ad 0)), (1, .int a)]) (st' := []) rfl rfl rfl ?_
  unfold fX7_order at hf
  refine V_aload_n (q := 1) C dX7_order_0 rfl rfl 0 rfl ?_
  refine V_iload_n (q := 2) C dX7_order_1 rfl rfl 1 rfl ?_
  obtain ⟨r1, σ2, h3, hf⟩ := bd_s hf
  refine V_callV (av := [.int a]) (st := []) (st1 := [.int r1]) (q := 5) C 0 (by decide) (eM_0 G ad _) rfl rfl (conX7_ranked _ _ _ _ _ _ _ h3) q_1456 q_114 q_1453 q_1455 q_92 nmX7_ranked (by decide) rfl rfl (Nat.le_of_ble_eq_true rfl) dX7_order_2 rfl rfl ?_
  refine V_istore_n (L' := [(2, .int r1), (0, .ref (ad 0)), (1, .int a)]) (q := 6) C dX7_order_5 rfl rfl (by decide) rfl ?_
  refine V_aload_n (q := 7) C dX7_order_6 rfl rfl 1 rfl ?_
  refine V_iconst (v := 1) (q := 8) C dX7_order_7 rfl ic_1 ?_
  refine V_iload_n (q := 9) C dX7_order_8 rfl rfl 0 rfl ?_
  obtain ⟨J17, eJ17, hf⟩ := jp_s hf
  have hJ17 : ∀ (v4 : Int32) (σ5 : Sg), J17 v4 σ5 = some (r, σf) → V wM X G ad 3 Q 0 0 σ5 17 [(2, .int r1)] [.int v4, .int (1 : Int32), .ref (ad 0)] := by
    intro v4 σ5 hf
    subst eJ17
    obtain ⟨r6, σ7, h8, hf⟩ := bd_s hf
    refine V_callV (av := [.int (1 : Int32), .int v4]) (st := []) (st1 := [.int r6]) (q := 20) C 0 (by decide) (eM_0 G ad _) rfl rfl (conX7_fails _ _ _ _ _ _ _ _ h8) q_1251 q_114 q_1248 q_1250 q_64 nmX7_fails (by decide) rfl rfl (Nat.le_of_ble_eq_true rfl) dX7_order_17 rfl rfl ?_
    refine V_if_eq (t := 27) (q := 23) C dX7_order_20 (by decide) rfl (fun c9 => ?_) (fun c9 => ?_)
    · replace hf := (ite_s hf).1 c9
      refine V_iload_n (q := 28) C dX7_order_27 rfl rfl 0 rfl ?_
      obtain ⟨e1, e2⟩ := pr_s hf
      subst e1; subst e2
      exact V_iret C F (by decide) (by decide) dX7_order_28
    · replace hf := (ite_s hf).2 c9
      refine V_iconst (v := 0) (q := 24) C dX7_order_23 rfl ic_0 ?_
      refine V_goto (t := 28) C dX7_order_24 (by decide) ?_
      obtain ⟨e1, e2⟩ := pr_s hf
      subst e1; subst e2
      exact V_iret C F (by decide) (by decide) dX7_order_28
  refine V_if_ge (t := 16) (q := 12) C dX7_order_9 (by decide) rfl (fun c10 => ?_) (fun c10 => ?_)
  · replace hf := (ite_s hf).1 c10
    refine V_iconst (v := 0) (q := 17) C dX7_order_16 rfl ic_0 ?_
    refine V_sub (L' := [(2, .int r1)]) [0] rfl ?_
    exact hJ17 _ _ hf
  · replace hf := (ite_s hf).2 c10
    refine V_iconst (v := 1) (q := 13) C dX7_order_12 rfl ic_1 ?_
    refine V_goto (t := 17) C dX7_order_13 (by decide) ?_
    refine V_sub (L' := [(2, .int r1)]) [0] rfl ?_
    exact hJ17 _ _ hf
def rmX7_sees : Room := { frames := 1, cells := 0, slots := 0, locals := 22 }
def fX7_sees (a : Int32) (b : Int32) (σ : Sg) : Option (Int32 × Sg) := jp (fun (σ1 : Sg) => some ((0 : Int32), σ1)) (fun (J39 : Sg → Option (Int32 × Sg)) => if (σ 0 10) = 0 then (if (σ 0 7) ≤ (σ 0 8) then (J39  σ) else (gd (inb (σ 0 8) 40) (if (pX7_isBetween (σ 3 ((σ 0 8).toNatClampNeg)) a b) = 0 then (J39  σ) else (some ((1 : Int32), σ))))) else (J39  σ))
set_option maxHeartbeats 4000000 in
theorem conX7_sees (l : Launch) (G : Gx) (ad : Nat → Nat) (a : Int32) (b : Int32) (σ : Sg) (r : Int32) (σf : Sg)  (hf : fX7_sees a b σ = some (r, σf)) : Con wM l G ad yX7_sees (Cond.code yX7_sees cX7_sees 3 (some .boolean)) rmX7_sees 0 0 [.ref (ad 0), .int a, .int b] σ (some (.int r)) σf := by
  refine Con.start (by decide) (Nat.le_of_ble_eq_true rfl) (fun X Q _ C F => ?_)
  refine V_eq (L' := [(0, .ref (ad 0)), (1, .int a), (2, .int b)]) (st' := []) rfl rfl rfl ?_
  unfold fX7_sees at hf
  refine V_aload_n (q := 1) C dX7_sees_0 rfl rfl 0 rfl ?_
  refine GM_0_10 (q := 4) C q_1192 dX7_sees_1 rfl ?_
  obtain ⟨J39, eJ39, hf⟩ := jp_s hf
  have hJ39 : ∀ (σ1 : Sg), J39 σ1 = some (r, σf) → V wM X G ad 3 Q 0 0 σ1 39 [] [] := by
    intro σ1 hf
    subst eJ39
    refine V_iconst (v := 0) (q := 40) C dX7_sees_39 rfl ic_0 ?_
    obtain ⟨e1, e2⟩ := pr_s hf
    subst e1; subst e2
    exact V_zret C F (by decide) (by decide) (by decide) dX7_sees_40
  refine V_if_ne (t := 39) (q := 7) C dX7_sees_4 (by decide) rfl (fun c2 => ?_) (fun c2 => ?_)
  · replace hf := (ite_s hf).2 c2
    refine V_sub (L' := []) [] rfl ?_
    exact hJ39 _ hf
  · replace hf := (ite_s hf).1 c2
    refine V_aload_n (q := 8) C dX7_sees_7 rfl rfl 0 rfl ?_
    refine GM_0_8 (q := 11) C q_1190 dX7_sees_8 rfl ?_
    refine V_aload_n (q := 12) C dX7_sees_11 rfl rfl 0 rfl ?_
    refine GM_0_7 (q := 15) C q_1189 dX7_sees_12 rfl ?_
    refine V_icmp_ge (t := 39) (q := 18) C dX7_sees_15 (by decide) rfl (fun c3 => ?_) (fun c3 => ?_)
    · replace hf := (ite_s hf).1 c3
      refine V_sub (L' := []) [] rfl ?_
      exact hJ39 _ hf
    · replace hf := (ite_s hf).2 c3
      refine V_aload_n (q := 19) C dX7_sees_18 rfl rfl 0 rfl ?_
      refine GM_0_4 (q := 22) C q_1186 dX7_sees_19 rfl ?_
      refine V_aload_n (q := 23) C dX7_sees_22 rfl rfl 0 rfl ?_
      refine GM_0_8 (q := 26) C q_1190 dX7_sees_23 rfl ?_
      obtain ⟨g4, hf⟩ := gd_s hf
      refine RM_3 (z := (σ 0 8).toNatClampNeg) (q := 27) C rfl (inb_in g4) dX7_sees_26 rfl ?_
      refine V_iload_n (q := 28) C dX7_sees_27 rfl rfl 1 rfl ?_
      refine V_iload_n (q := 29) C dX7_sees_28 rfl rfl 2 rfl ?_
      refine V_callS (av := [.int (σ 3 ((σ 0 8).toNatClampNeg)), .int a, .int b]) (st := []) (st1 := [.int (pX7_isBetween (σ 3 ((σ 0 8).toNatClampNeg)) a b)]) (q := 32) C (conX7_isBetween _ _ _ _ _ _ _ _ rfl) q_1247 q_114 q_1245 q_1246 nmX7_isBetween (by decide) rfl rfl (Nat.le_of_ble_eq_true rfl) dX7_sees_29 rfl rfl ?_
      refine V_if_eq (t := 39) (q := 35) C dX7_sees_32 (by decide) rfl (fun c5 => ?_) (fun c5 => ?_)
      · replace hf := (ite_s hf).1 c5
        refine V_sub (L' := []) [] rfl ?_
        exact hJ39 _ hf
      · replace hf := (ite_s hf).2 c5
        refine V_iconst (v := 1) (q := 36) C dX7_sees_35 rfl ic_1 ?_
        refine V_goto (t := 40) C dX7_sees_36 (by decide) ?_
        obtain ⟨e1, e2⟩ := pr_s hf
        subst e1; subst e2
        exact V_zret C F (by decide) (by decide) (by decide) dX7_sees_40
def rmX7_passStation : Room := { frames := 2, cells := 0, slots := 0, locals := 44 }
def fX7_passStation (a : Int32) (σ : Sg) : Option (Int32 × Sg) := bd (fX7_sees (48 : Int32) (57 : Int32) σ) (fun (r1 : Int32) (σ2 : Sg) => jp (fun (v4 : Int32) (σ5 : Sg) => gd (b01 ((σ 0 10) ||| v4)) (lt' (sup σ5 0 10 ((σ 0 10) ||| v4)) (fun (σ7 : Sg) => if (σ7 0 10) = 0 then (lt' ((σ7 0 8)) (fun (x9 : Int32) => gd (inb (σ7 0 8) 40) (lt' (((σ7 3 ((σ7 0 8).toNatClampNeg)) - (48 : Int32))) (fun (x11 : Int32) => lt' (sup σ7 0 8 ((σ7 0 8) + (1 : Int32))) (fun (σ12 : Sg) => jp (fun (y13 : Int32) (σ14 : Sg) => bd (fX7_isStation y13 σ14) (fun (r15 : Int32) (σ16 : Sg) => jp (fun (σ18 : Sg) => lt' (sup σ18 0 10 (1 : Int32)) (fun (σ19 : Sg) => lt' (sup σ19 0 8 x9) (fun (σ20 : Sg) => some ((0 : Int32), σ20)))) (fun (J117 : Sg → Option (Int32 × Sg)) => if r15 = 0 then (J117  σ16) else (if y13 = a then (J117  σ16) else (some (y13, σ16)))))) (fun (J104 : Int32 → Sg → Option (Int32 × Sg)) => if x11 = (1 : Int32) then (bd (fX7_sees (48 : Int32) (49 : Int32) σ12) (fun (r24 : Int32) (σ25 : Sg) => if r24 = 0 then (J104 x11 σ25) else (gd (inb (σ25 0 8) 40) (lt' ((((10 : Int32) + (σ25 3 ((σ25 0 8).toNatClampNeg))) - (48 : Int32))) (fun (x29 : Int32) => lt' (sup σ25 0 8 ((σ25 0 8) + (1 : Int32))) (fun (σ30 : Sg) => J104 x29 σ30)))))) else (J104 x11 σ12))))))) else (some ((0 : Int32), σ7))))) (fun (J21 : Int32 → Sg → Option (Int32 × Sg)) => if r1 = 0 then (J21 (1 : Int32) σ2) else (J21 (0 : Int32) σ2)))
set_option maxHeartbeats 4000000 in
theorem conX7_passStation (l : Launch) (G : Gx) (ad : Nat → Nat) (a : Int32) (σ : Sg) (r : Int32) (σf : Sg)  (hf : fX7_passStation a σ = some (r, σf)) : Con wM l G ad yX7_passStation (Cond.code yX7_passStation cX7_passStation 4 (some .int)) rmX7_passStation 0 0 [.ref (ad 0), .int a] σ (some (.int r)) σf := by
  refine Con.start (by decide) (Nat.le_of_ble_eq_true rfl) (fun X Q _ C F => ?_)
  refine V_eq (L' := [(0, .ref (ad 0)), (1, .int a)]) (st' := []) rfl rfl rfl ?_
  unfold fX7_passStation at hf
  refine V_aload_n (q := 1) C dX7_passStation_0 rfl rfl 0 rfl ?_
  refine V_dup (q := 2) C dX7_passStation_1 rfl rfl ?_
  refine GM_0_10 (q := 5) C q_1192 dX7_passStation_2 rfl ?_
  refine V_aload_n (q := 6) C dX7_passStation_5 rfl rfl 0 rfl ?_
  refine V_bipush (v := 48) (q := 8) C dX7_passStation_6 rfl bc_48 ?_
  refine V_bipush (v := 57) (q := 10) C dX7_passStation_8 rfl bc_57 ?_
  obtain ⟨r1, σ2, h3, hf⟩ := bd_s hf
  refine V_callV (av := [.int (48 : Int32), .int (57 : Int32)]) (st := [.int (σ 0 10), .ref (ad 0)]) (st1 := [.int r1, .int (σ 0 10), .ref (ad 0)]) (q := 13) C 0 (by decide) (eM_0 G ad _) rfl rfl (conX7_sees _ _ _ _ _ _ _ _ h3) q_1295 q_114 q_1292 q_1294 q_69 nmX7_sees (by decide) rfl rfl (Nat.le_of_ble_eq_true rfl) dX7_passStation_10 rfl rfl ?_
  obtain ⟨J21, eJ21, hf⟩ := jp_s hf
  have hJ21 : ∀ (v4 : Int32) (σ5 : Sg), J21 v4 σ5 = some (r, σf) → V wM X G ad 4 Q 0 0 σ5 21 [(0, .ref (ad 0)), (1, .int a)] [.int v4, .int (σ 0 10), .ref (ad 0)] := by
    intro v4 σ5 hf
    subst eJ21
    refine V_ior (q := 22) C dX7_passStation_21 rfl ?_
    obtain ⟨g6, hf⟩ := gd_s hf
    refine PM_0_10 (q := 25) C (b01_s g6) q_1192 dX7_passStation_22 rfl ?_
    refine V_lets hf (fun σ7 hf => ?_)
    refine V_aload_n (q := 26) C dX7_passStation_25 rfl rfl 0 rfl ?_
    refine GM_0_10 (q := 29) C q_1192 dX7_passStation_26 rfl ?_
    refine V_if_eq (t := 34) (q := 32) C dX7_passStation_29 (by decide) rfl (fun c8 => ?_) (fun c8 => ?_)
    · replace hf := (ite_s hf).1 c8
      refine V_aload_n (q := 35) C dX7_passStation_34 rfl rfl 0 rfl ?_
      refine GM_0_8 (q := 38) C q_1190 dX7_passStation_35 rfl ?_
      refine V_let (cv := Value.int) hf (fun x9 hf => ?_)
      refine V_istore_n (L' := [(2, .int x9), (0, .ref (ad 0)), (1, .int a)]) (q := 39) C dX7_passStation_38 rfl rfl (by decide) rfl ?_
      refine V_aload_n (q := 40) C dX7_passStation_39 rfl rfl 1 rfl ?_
      refine GM_0_4 (q := 43) C q_1186 dX7_passStation_40 rfl ?_
      refine V_aload_n (q := 44) C dX7_passStation_43 rfl rfl 1 rfl ?_
      refine GM_0_8 (q := 47) C q_1190 dX7_passStation_44 rfl ?_
      obtain ⟨g10, hf⟩ := gd_s hf
      refine RM_3 (z := (σ7 0 8).toNatClampNeg) (q := 48) C rfl (inb_in g10) dX7_passStation_47 rfl ?_
      refine V_bipush (v := 48) (q := 50) C dX7_passStation_48 rfl bc_48 ?_
      refine V_isub (q := 51) C dX7_passStation_50 rfl ?_
      refine V_let (cv := Value.int) hf (fun x11 hf => ?_)
      refine V_istore_n (L' := [(3, .int x11), (2, .int x9), (0, .ref (ad 0)), (1, .int a)]) (q := 52) C dX7_passStation_51 rfl rfl (by decide) rfl ?_
      refine V_aload_n (q := 53) C dX7_passStation_52 rfl rfl 2 rfl ?_
      refine V_dup (q := 54) C dX7_passStation_53 rfl rfl ?_
      refine GM_0_8 (q := 57) C q_1190 dX7_passStation_54 rfl ?_
      refine V_iconst (v := 1) (q := 58) C dX7_passStation_57 rfl ic_1 ?_
      refine V_iadd (q := 59) C dX7_passStation_58 rfl ?_
      refine PM_0_8 (q := 62) C q_1190 dX7_passStation_59 rfl ?_
      refine V_lets hf (fun σ12 hf => ?_)
      refine V_iload_n (q := 63) C dX7_passStation_62 rfl rfl 0 rfl ?_
      refine V_iconst (v := 1) (q := 64) C dX7_passStation_63 rfl ic_1 ?_
      obtain ⟨J104, eJ104, hf⟩ := jp_s hf
      have hJ104 : ∀ (y13 : Int32) (σ14 : Sg), J104 y13 σ14 = some (r, σf) → V wM X G ad 4 Q 0 0 σ14 104 [(0, .ref (ad 0)), (1, .int a), (2, .int x9), (3, .int y13)] [] := by
        intro y13 σ14 hf
        subst eJ104
        refine V_aload_n (q := 105) C dX7_passStation_104 rfl rfl 0 rfl ?_
        refine V_iload_n (q := 106) C dX7_passStation_105 rfl rfl 3 rfl ?_
        obtain ⟨r15, σ16, h17, hf⟩ := bd_s hf
        refine V_callV (av := [.int y13]) (st := []) (st1 := [.int r15]) (q := 109) C 0 (by decide) (eM_0 G ad _) rfl rfl (conX7_isStation _ _ _ _ _ _ _ h17) q_1267 q_114 q_1264 q_1266 q_66 nmX7_isStation (by decide) rfl rfl (Nat.le_of_ble_eq_true rfl) dX7_passStation_106 rfl rfl ?_
        obtain ⟨J117, eJ117, hf⟩ := jp_s hf
        have hJ117 : ∀ (σ18 : Sg), J117 σ18 = some (r, σf) → V wM X G ad 4 Q 0 0 σ18 117 [(0, .ref (ad 0)), (2, .int x9)] [] := by
          intro σ18 hf
          subst eJ117
          refine V_aload_n (q := 118) C dX7_passStation_117 rfl rfl 0 rfl ?_
          refine V_iconst (v := 1) (q := 119) C dX7_passStation_118 rfl ic_1 ?_
          refine PM_0_10 (q := 122) C (by decide) q_1192 dX7_passStation_119 rfl ?_
          refine V_lets hf (fun σ19 hf => ?_)
          refine V_aload_n (q := 123) C dX7_passStation_122 rfl rfl 0 rfl ?_
          refine V_iload_n (q := 124) C dX7_passStation_123 rfl rfl 1 rfl ?_
          refine PM_0_8 (q := 127) C q_1190 dX7_passStation_124 rfl ?_
          refine V_lets hf (fun σ20 hf => ?_)
          refine V_iconst (v := 0) (q := 128) C dX7_passStation_127 rfl ic_0 ?_
          obtain ⟨e1, e2⟩ := pr_s hf
          subst e1; subst e2
          exact V_iret C F (by decide) (by decide) dX7_passStation_128
        refine V_if_eq (t := 117) (q := 112) C dX7_passStation_109 (by decide) rfl (fun c21 => ?_) (fun c21 => ?_)
        · replace hf := (ite_s hf).1 c21
          refine V_sub (L' := [(0, .ref (ad 0)), (2, .int x9)]) [0, 2] rfl ?_
          exact hJ117 _ hf
        · replace hf := (ite_s hf).2 c21
          refine V_iload_n (q := 113) C dX7_passStation_112 rfl rfl 3 rfl ?_
          refine V_iload_n (q := 114) C dX7_passStation_113 rfl rfl 1 rfl ?_
          refine V_icmp_ne (t := 129) (q := 117) C dX7_passStation_114 (by decide) rfl (fun c22 => ?_) (fun c22 => ?_)
          · replace hf := (ite_s hf).2 c22
            refine V_iload_n (q := 130) C dX7_passStation_129 rfl rfl 3 rfl ?_
            obtain ⟨e1, e2⟩ := pr_s hf
            subst e1; subst e2
            exact V_iret C F (by decide) (by decide) dX7_passStation_130
          · replace hf := (ite_s hf).1 c22
            refine V_sub (L' := [(0, .ref (ad 0)), (2, .int x9)]) [0, 2] rfl ?_
            exact hJ117 _ hf
      refine V_icmp_ne (t := 104) (q := 67) C dX7_passStation_64 (by decide) rfl (fun c23 => ?_) (fun c23 => ?_)
      · replace hf := (ite_s hf).2 c23
        refine V_sub (L' := [(0, .ref (ad 0)), (1, .int a), (2, .int x9), (3, .int x11)]) [2, 3, 1, 0] rfl ?_
        exact hJ104 _ _ hf
      · replace hf := (ite_s hf).1 c23
        refine V_aload_n (q := 68) C dX7_passStation_67 rfl rfl 2 rfl ?_
        refine V_bipush (v := 48) (q := 70) C dX7_passStation_68 rfl bc_48 ?_
        refine V_bipush (v := 49) (q := 72) C dX7_passStation_70 rfl bc_49 ?_
        obtain ⟨r24, σ25, h26, hf⟩ := bd_s hf
        refine V_callV (av := [.int (48 : Int32), .int (49 : Int32)]) (st := []) (st1 := [.int r24]) (q := 75) C 0 (by decide) (eM_0 G ad _) rfl rfl (conX7_sees _ _ _ _ _ _ _ _ h26) q_1295 q_114 q_1292 q_1294 q_69 nmX7_sees (by decide) rfl rfl (Nat.le_of_ble_eq_true rfl) dX7_passStation_72 rfl rfl ?_
        refine V_if_eq (t := 104) (q := 78) C dX7_passStation_75 (by decide) rfl (fun c27 => ?_) (fun c27 => ?_)
        · replace hf := (ite_s hf).1 c27
          refine V_sub (L' := [(0, .ref (ad 0)), (1, .int a), (2, .int x9), (3, .int x11)]) [2, 3, 1, 0] rfl ?_
          exact hJ104 _ _ hf
        · replace hf := (ite_s hf).2 c27
          refine V_bipush (v := 10) (q := 80) C dX7_passStation_78 rfl bc_10 ?_
          refine V_aload_n (q := 81) C dX7_passStation_80 rfl rfl 2 rfl ?_
          refine GM_0_4 (q := 84) C q_1186 dX7_passStation_81 rfl ?_
          refine V_aload_n (q := 85) C dX7_passStation_84 rfl rfl 2 rfl ?_
          refine GM_0_8 (q := 88) C q_1190 dX7_passStation_85 rfl ?_
          obtain ⟨g28, hf⟩ := gd_s hf
          refine RM_3 (z := (σ25 0 8).toNatClampNeg) (q := 89) C rfl (inb_in g28) dX7_passStation_88 rfl ?_
          refine V_iadd (q := 90) C dX7_passStation_89 rfl ?_
          refine V_bipush (v := 48) (q := 92) C dX7_passStation_90 rfl bc_48 ?_
          refine V_isub (q := 93) C dX7_passStation_92 rfl ?_
          refine V_let (cv := Value.int) hf (fun x29 hf => ?_)
          refine V_istore_n (L' := [(3, .int x29), (2, .int x9), (0, .ref (ad 0)), (1, .int a)]) (q := 94) C dX7_passStation_93 rfl rfl (by decide) rfl ?_
          refine V_aload_n (q := 95) C dX7_passStation_94 rfl rfl 2 rfl ?_
          refine V_dup (q := 96) C dX7_passStation_95 rfl rfl ?_
          refine GM_0_8 (q := 99) C q_1190 dX7_passStation_96 rfl ?_
          refine V_iconst (v := 1) (q := 100) C dX7_passStation_99 rfl ic_1 ?_
          refine V_iadd (q := 101) C dX7_passStation_100 rfl ?_
          refine PM_0_8 (q := 104) C q_1190 dX7_passStation_101 rfl ?_
          refine V_lets hf (fun σ30 hf => ?_)
          refine V_sub (L' := [(0, .ref (ad 0)), (1, .int a), (2, .int x9), (3, .int x29)]) [2, 3, 1, 0] rfl ?_
          exact hJ104 _ _ hf
    · replace hf := (ite_s hf).2 c8
      refine V_iconst (v := 0) (q := 33) C dX7_passStation_32 rfl ic_0 ?_
      obtain ⟨e1, e2⟩ := pr_s hf
      subst e1; subst e2
      exact V_iret C F (by decide) (by decide) dX7_passStation_33
  refine V_if_ne (t := 20) (q := 16) C dX7_passStation_13 (by decide) rfl (fun c31 => ?_) (fun c31 => ?_)
  · replace hf := (ite_s hf).2 c31
    refine V_iconst (v := 0) (q := 21) C dX7_passStation_20 rfl ic_0 ?_
    exact hJ21 _ _ hf
  · replace hf := (ite_s hf).1 c31
    refine V_iconst (v := 1) (q := 17) C dX7_passStation_16 rfl ic_1 ?_
    refine V_goto (t := 21) C dX7_passStation_17 (by decide) ?_
    exact hJ21 _ _ hf
def rmX7_passes : Room := { frames := 2, cells := 0, slots := 0, locals := 44 }
def fX7_passes (a : Int32) (σ : Sg) : Option (Int32 × Sg) := bd (fX7_sees a a σ) (fun (r1 : Int32) (σ2 : Sg) => jp (fun (v4 : Int32) (σ5 : Sg) => lt' (sup σ5 0 8 ((σ2 0 8) + v4)) (fun (σ6 : Sg) => gd (b01 r1) (some (r1, σ6)))) (fun (J21 : Int32 → Sg → Option (Int32 × Sg)) => if r1 = 0 then (J21 (0 : Int32) σ2) else (J21 (1 : Int32) σ2)))
set_option maxHeartbeats 4000000 in
theorem conX7_passes (l : Launch) (G : Gx) (ad : Nat → Nat) (a : Int32) (σ : Sg) (r : Int32) (σf : Sg)  (hf : fX7_passes a σ = some (r, σf)) : Con wM l G ad yX7_passes (Cond.code yX7_passes cX7_passes 3 (some .boolean)) rmX7_passes 0 0 [.ref (ad 0), .int a] σ (some (.int r)) σf := by
  refine Con.start (by decide) (Nat.le_of_ble_eq_true rfl) (fun X Q _ C F => ?_)
  refine V_eq (L' := [(0, .ref (ad 0)), (1, .int a)]) (st' := []) rfl rfl rfl ?_
  unfold fX7_passes at hf
  refine V_aload_n (q := 1) C dX7_passes_0 rfl rfl 0 rfl ?_
  refine V_iload_n (q := 2) C dX7_passes_1 rfl rfl 1 rfl ?_
  refine V_iload_n (q := 3) C dX7_passes_2 rfl rfl 1 rfl ?_
  obtain ⟨r1, σ2, h3, hf⟩ := bd_s hf
  refine V_callV (av := [.int a, .int a]) (st := []) (st1 := [.int r1]) (q := 6) C 0 (by decide) (eM_0 G ad _) rfl rfl (conX7_sees _ _ _ _ _ _ _ _ h3) q_1295 q_114 q_1292 q_1294 q_69 nmX7_sees (by decide) rfl rfl (Nat.le_of_ble_eq_true rfl) dX7_passes_3 rfl rfl ?_
  refine V_istore_n (L' := [(2, .int r1), (0, .ref (ad 0)), (1, .int a)]) (q := 7) C dX7_passes_6 rfl rfl (by decide) rfl ?_
  refine V_aload_n (q := 8) C dX7_passes_7 rfl rfl 1 rfl ?_
  refine V_dup (q := 9) C dX7_passes_8 rfl rfl ?_
  refine GM_0_8 (q := 12) C q_1190 dX7_passes_9 rfl ?_
  refine V_iload_n (q := 13) C dX7_passes_12 rfl rfl 0 rfl ?_
  obtain ⟨J21, eJ21, hf⟩ := jp_s hf
  have hJ21 : ∀ (v4 : Int32) (σ5 : Sg), J21 v4 σ5 = some (r, σf) → V wM X G ad 3 Q 0 0 σ5 21 [(2, .int r1)] [.int v4, .int (σ2 0 8), .ref (ad 0)] := by
    intro v4 σ5 hf
    subst eJ21
    refine V_iadd (q := 22) C dX7_passes_21 rfl ?_
    refine PM_0_8 (q := 25) C q_1190 dX7_passes_22 rfl ?_
    refine V_lets hf (fun σ6 hf => ?_)
    refine V_iload_n (q := 26) C dX7_passes_25 rfl rfl 0 rfl ?_
    obtain ⟨g7, hf⟩ := gd_s hf
    obtain ⟨e1, e2⟩ := pr_s hf
    subst e1; subst e2
    exact V_zret C F (b01_s g7) (by decide) (by decide) dX7_passes_26
  refine V_if_eq (t := 20) (q := 16) C dX7_passes_13 (by decide) rfl (fun c8 => ?_) (fun c8 => ?_)
  · replace hf := (ite_s hf).1 c8
    refine V_iconst (v := 0) (q := 21) C dX7_passes_20 rfl ic_0 ?_
    refine V_sub (L' := [(2, .int r1)]) [0] rfl ?_
    exact hJ21 _ _ hf
  · replace hf := (ite_s hf).2 c8
    refine V_iconst (v := 1) (q := 17) C dX7_passes_16 rfl ic_1 ?_
    refine V_goto (t := 21) C dX7_passes_17 (by decide) ?_
    refine V_sub (L' := [(2, .int r1)]) [0] rfl ?_
    exact hJ21 _ _ hf
def rmX7_price : Room := { frames := 2, cells := 0, slots := 0, locals := 43 }
def fX7_price (a : Int32) (σ : Sg) : Option (Int32 × Sg) := bd (fX7_isStation a σ) (fun (r1 : Int32) (σ2 : Sg) => jp (fun (v4 : Int32) (σ5 : Sg) => bd (fX7_fails (1 : Int32) v4 σ5) (fun (r6 : Int32) (σ7 : Sg) => jp (fun (σ9 : Sg) => some ((0 : Int32), σ9)) (fun (J66 : Sg → Option (Int32 × Sg)) => if r6 = 0 then (bd (fX7_isKnown  σ7) (fun (r11 : Int32) (σ12 : Sg) => jp (fun (v14 : Int32) (σ15 : Sg) => bd (fX7_fails (2 : Int32) v14 σ15) (fun (r16 : Int32) (σ17 : Sg) => if r16 = 0 then (gd (inb ((40 : Int32) + a) 2764) (jp (fun (v21 : Int32) (σ22 : Sg) => bd (fX7_fails (3 : Int32) v21 σ22) (fun (r23 : Int32) (σ24 : Sg) => if r23 = 0 then (bd (fX7_priceNow a σ24) (fun (r27 : Int32) (σ28 : Sg) => some (r27, σ28))) else (J66  σ24))) (fun (J60 : Int32 → Sg → Option (Int32 × Sg)) => if (σ17 1 (((40 : Int32) + a).toNatClampNeg)) = 0 then (J60 (1 : Int32) σ17) else (J60 (0 : Int32) σ17)))) else (J66  σ17))) (fun (J35 : Int32 → Sg → Option (Int32 × Sg)) => if r11 = 0 then (J35 (1 : Int32) σ12) else (J35 (0 : Int32) σ12)))) else (J66  σ7)))) (fun (J15 : Int32 → Sg → Option (Int32 × Sg)) => if r1 = 0 then (J15 (1 : Int32) σ2) else (J15 (0 : Int32) σ2)))
set_option maxHeartbeats 4000000 in
theorem conX7_price (l : Launch) (G : Gx) (ad : Nat → Nat) (a : Int32) (σ : Sg) (r : Int32) (σf : Sg)  (hf : fX7_price a σ = some (r, σf)) : Con wM l G ad yX7_price (Cond.code yX7_price cX7_price 2 (some .int)) rmX7_price 0 0 [.ref (ad 0), .int a] σ (some (.int r)) σf := by
  refine Con.start (by decide) (Nat.le_of_ble_eq_true rfl) (fun X Q _ C F => ?_)
  refine V_eq (L' := [(0, .ref (ad 0)), (1, .int a)]) (st' := []) rfl rfl rfl ?_
  unfold fX7_price at hf
  refine V_aload_n (q := 1) C dX7_price_0 rfl rfl 0 rfl ?_
  refine V_iconst (v := 1) (q := 2) C dX7_price_1 rfl ic_1 ?_
  refine V_aload_n (q := 3) C dX7_price_2 rfl rfl 0 rfl ?_
  refine V_iload_n (q := 4) C dX7_price_3 rfl rfl 1 rfl ?_
  obtain ⟨r1, σ2, h3, hf⟩ := bd_s hf
  refine V_callV (av := [.int a]) (st := [.int (1 : Int32), .ref (ad 0)]) (st1 := [.int r1, .int (1 : Int32), .ref (ad 0)]) (q := 7) C 0 (by decide) (eM_0 G ad _) rfl rfl (conX7_isStation _ _ _ _ _ _ _ h3) q_1267 q_114 q_1264 q_1266 q_66 nmX7_isStation (by decide) rfl rfl (Nat.le_of_ble_eq_true rfl) dX7_price_4 rfl rfl ?_
  obtain ⟨J15, eJ15, hf⟩ := jp_s hf
  have hJ15 : ∀ (v4 : Int32) (σ5 : Sg), J15 v4 σ5 = some (r, σf) → V wM X G ad 2 Q 0 0 σ5 15 [(0, .ref (ad 0)), (1, .int a)] [.int v4, .int (1 : Int32), .ref (ad 0)] := by
    intro v4 σ5 hf
    subst eJ15
    obtain ⟨r6, σ7, h8, hf⟩ := bd_s hf
    refine V_callV (av := [.int (1 : Int32), .int v4]) (st := []) (st1 := [.int r6]) (q := 18) C 0 (by decide) (eM_0 G ad _) rfl rfl (conX7_fails _ _ _ _ _ _ _ _ h8) q_1251 q_114 q_1248 q_1250 q_64 nmX7_fails (by decide) rfl rfl (Nat.le_of_ble_eq_true rfl) dX7_price_15 rfl rfl ?_
    obtain ⟨J66, eJ66, hf⟩ := jp_s hf
    have hJ66 : ∀ (σ9 : Sg), J66 σ9 = some (r, σf) → V wM X G ad 2 Q 0 0 σ9 66 [] [] := by
      intro σ9 hf
      subst eJ66
      refine V_iconst (v := 0) (q := 67) C dX7_price_66 rfl ic_0 ?_
      refine V_goto (t := 75) C dX7_price_67 (by decide) ?_
      obtain ⟨e1, e2⟩ := pr_s hf
      subst e1; subst e2
      exact V_iret C F (by decide) (by decide) dX7_price_75
    refine V_if_ne (t := 66) (q := 21) C dX7_price_18 (by decide) rfl (fun c10 => ?_) (fun c10 => ?_)
    · replace hf := (ite_s hf).2 c10
      refine V_sub (L' := []) [] rfl ?_
      exact hJ66 _ hf
    · replace hf := (ite_s hf).1 c10
      refine V_aload_n (q := 22) C dX7_price_21 rfl rfl 0 rfl ?_
      refine V_iconst (v := 2) (q := 23) C dX7_price_22 rfl ic_2 ?_
      refine V_aload_n (q := 24) C dX7_price_23 rfl rfl 0 rfl ?_
      obtain ⟨r11, σ12, h13, hf⟩ := bd_s hf
      refine V_callV (av := []) (st := [.int (2 : Int32), .ref (ad 0)]) (st1 := [.int r11, .int (2 : Int32), .ref (ad 0)]) (q := 27) C 0 (by decide) (eM_0 G ad _) rfl rfl (conX7_isKnown _ _ _  _ _ _ h13) q_1255 q_114 q_1252 q_1254 q_65 nmX7_isKnown (by decide) rfl rfl (Nat.le_of_ble_eq_true rfl) dX7_price_24 rfl rfl ?_
      obtain ⟨J35, eJ35, hf⟩ := jp_s hf
      have hJ35 : ∀ (v14 : Int32) (σ15 : Sg), J35 v14 σ15 = some (r, σf) → V wM X G ad 2 Q 0 0 σ15 35 [(0, .ref (ad 0)), (1, .int a)] [.int v14, .int (2 : Int32), .ref (ad 0)] := by
        intro v14 σ15 hf
        subst eJ35
        obtain ⟨r16, σ17, h18, hf⟩ := bd_s hf
        refine V_callV (av := [.int (2 : Int32), .int v14]) (st := []) (st1 := [.int r16]) (q := 38) C 0 (by decide) (eM_0 G ad _) rfl rfl (conX7_fails _ _ _ _ _ _ _ _ h18) q_1251 q_114 q_1248 q_1250 q_64 nmX7_fails (by decide) rfl rfl (Nat.le_of_ble_eq_true rfl) dX7_price_35 rfl rfl ?_
        refine V_if_ne (t := 66) (q := 41) C dX7_price_38 (by decide) rfl (fun c19 => ?_) (fun c19 => ?_)
        · replace hf := (ite_s hf).2 c19
          refine V_sub (L' := []) [] rfl ?_
          exact hJ66 _ hf
        · replace hf := (ite_s hf).1 c19
          refine V_aload_n (q := 42) C dX7_price_41 rfl rfl 0 rfl ?_
          refine V_iconst (v := 3) (q := 43) C dX7_price_42 rfl ic_3 ?_
          refine V_aload_n (q := 44) C dX7_price_43 rfl rfl 0 rfl ?_
          refine GM_0_1 (q := 47) C q_1183 dX7_price_44 rfl ?_
          refine V_bipush (v := 40) (q := 49) C dX7_price_47 rfl bc_40 ?_
          refine V_iload_n (q := 50) C dX7_price_49 rfl rfl 1 rfl ?_
          refine V_iadd (q := 51) C dX7_price_50 rfl ?_
          obtain ⟨g20, hf⟩ := gd_s hf
          refine RM_1 (z := ((40 : Int32) + a).toNatClampNeg) (q := 52) C rfl (inb_in g20) dX7_price_51 rfl ?_
          obtain ⟨J60, eJ60, hf⟩ := jp_s hf
          have hJ60 : ∀ (v21 : Int32) (σ22 : Sg), J60 v21 σ22 = some (r, σf) → V wM X G ad 2 Q 0 0 σ22 60 [(0, .ref (ad 0)), (1, .int a)] [.int v21, .int (3 : Int32), .ref (ad 0)] := by
            intro v21 σ22 hf
            subst eJ60
            obtain ⟨r23, σ24, h25, hf⟩ := bd_s hf
            refine V_callV (av := [.int (3 : Int32), .int v21]) (st := []) (st1 := [.int r23]) (q := 63) C 0 (by decide) (eM_0 G ad _) rfl rfl (conX7_fails _ _ _ _ _ _ _ _ h25) q_1251 q_114 q_1248 q_1250 q_64 nmX7_fails (by decide) rfl rfl (Nat.le_of_ble_eq_true rfl) dX7_price_60 rfl rfl ?_
            refine V_if_eq (t := 70) (q := 66) C dX7_price_63 (by decide) rfl (fun c26 => ?_) (fun c26 => ?_)
            · replace hf := (ite_s hf).1 c26
              refine V_aload_n (q := 71) C dX7_price_70 rfl rfl 0 rfl ?_
              refine V_iload_n (q := 72) C dX7_price_71 rfl rfl 1 rfl ?_
              obtain ⟨r27, σ28, h29, hf⟩ := bd_s hf
              refine V_callV (av := [.int a]) (st := []) (st1 := [.int r27]) (q := 75) C 0 (by decide) (eM_0 G ad _) rfl rfl (conX7_priceNow _ _ _ _ _ _ _ h29) q_1515 q_114 q_1512 q_1514 q_99 nmX7_priceNow (by decide) rfl rfl (Nat.le_of_ble_eq_true rfl) dX7_price_72 rfl rfl ?_
              obtain ⟨e1, e2⟩ := pr_s hf
              subst e1; subst e2
              exact V_iret C F (by decide) (by decide) dX7_price_75
            · replace hf := (ite_s hf).2 c26
              refine V_sub (L' := []) [] rfl ?_
              exact hJ66 _ hf
          refine V_if_ne (t := 59) (q := 55) C dX7_price_52 (by decide) rfl (fun c30 => ?_) (fun c30 => ?_)
          · replace hf := (ite_s hf).2 c30
            refine V_iconst (v := 0) (q := 60) C dX7_price_59 rfl ic_0 ?_
            exact hJ60 _ _ hf
          · replace hf := (ite_s hf).1 c30
            refine V_iconst (v := 1) (q := 56) C dX7_price_55 rfl ic_1 ?_
            refine V_goto (t := 60) C dX7_price_56 (by decide) ?_
            exact hJ60 _ _ hf
      refine V_if_ne (t := 34) (q := 30) C dX7_price_27 (by decide) rfl (fun c31 => ?_) (fun c31 => ?_)
      · replace hf := (ite_s hf).2 c31
        refine V_iconst (v := 0) (q := 35) C dX7_price_34 rfl ic_0 ?_
        exact hJ35 _ _ hf
      · replace hf := (ite_s hf).1 c31
        refine V_iconst (v := 1) (q := 31) C dX7_price_30 rfl ic_1 ?_
        refine V_goto (t := 35) C dX7_price_31 (by decide) ?_
        exact hJ35 _ _ hf
  refine V_if_ne (t := 14) (q := 10) C dX7_price_7 (by decide) rfl (fun c32 => ?_) (fun c32 => ?_)
  · replace hf := (ite_s hf).2 c32
    refine V_iconst (v := 0) (q := 15) C dX7_price_14 rfl ic_0 ?_
    exact hJ15 _ _ hf
  · replace hf := (ite_s hf).1 c32
    refine V_iconst (v := 1) (q := 11) C dX7_price_10 rfl ic_1 ?_
    refine V_goto (t := 15) C dX7_price_11 (by decide) ?_
    exact hJ15 _ _ hf
def rmX7_priceAt : Room := { frames := 4, cells := 0, slots := 0, locals := 86 }
def fX7_priceAt (a : Int32) (b : Int32) (σ : Sg) : Option (Int32 × Sg) := bd (fX7_isStation a σ) (fun (r1 : Int32) (σ2 : Sg) => jp (fun (v4 : Int32) (σ5 : Sg) => bd (fX7_fails (1 : Int32) v4 σ5) (fun (r6 : Int32) (σ7 : Sg) => jp (fun (σ9 : Sg) => some ((0 : Int32), σ9)) (fun (J45 : Sg → Option (Int32 × Sg)) => if r6 = 0 then (jp (fun (v11 : Int32) (σ12 : Sg) => bd (fX7_fails (2 : Int32) v11 σ12) (fun (r13 : Int32) (σ14 : Sg) => if r13 = 0 then (bd (fX7_priceOf a b σ14) (fun (r17 : Int32) (σ18 : Sg) => some (r17, σ18))) else (J45  σ14))) (fun (J39 : Int32 → Sg → Option (Int32 × Sg)) => if (pX7_isBetween b (0 : Int32) (1000 : Int32)) = 0 then (J39 (1 : Int32) σ7) else (J39 (0 : Int32) σ7))) else (J45  σ7)))) (fun (J15 : Int32 → Sg → Option (Int32 × Sg)) => if r1 = 0 then (J15 (1 : Int32) σ2) else (J15 (0 : Int32) σ2)))
set_option maxHeartbeats 4000000 in
theorem conX7_priceAt (l : Launch) (G : Gx) (ad : Nat → Nat) (a : Int32) (b : Int32) (σ : Sg) (r : Int32) (σf : Sg)  (hf : fX7_priceAt a b σ = some (r, σf)) : Con wM l G ad yX7_priceAt (Cond.code yX7_priceAt cX7_priceAt 3 (some .int)) rmX7_priceAt 0 0 [.ref (ad 0), .int a, .int b] σ (some (.int r)) σf := by
  refine Con.start (by decide) (Nat.le_of_ble_eq_true rfl) (fun X Q _ C F => ?_)
  refine V_eq (L' := [(0, .ref (ad 0)), (1, .int a), (2, .int b)]) (st' := []) rfl rfl rfl ?_
  unfold fX7_priceAt at hf
  refine V_aload_n (q := 1) C dX7_priceAt_0 rfl rfl 0 rfl ?_
  refine V_iconst (v := 1) (q := 2) C dX7_priceAt_1 rfl ic_1 ?_
  refine V_aload_n (q := 3) C dX7_priceAt_2 rfl rfl 0 rfl ?_
  refine V_iload_n (q := 4) C dX7_priceAt_3 rfl rfl 1 rfl ?_
  obtain ⟨r1, σ2, h3, hf⟩ := bd_s hf
  refine V_callV (av := [.int a]) (st := [.int (1 : Int32), .ref (ad 0)]) (st1 := [.int r1, .int (1 : Int32), .ref (ad 0)]) (q := 7) C 0 (by decide) (eM_0 G ad _) rfl rfl (conX7_isStation _ _ _ _ _ _ _ h3) q_1267 q_114 q_1264 q_1266 q_66 nmX7_isStation (by decide) rfl rfl (Nat.le_of_ble_eq_true rfl) dX7_priceAt_4 rfl rfl ?_
  obtain ⟨J15, eJ15, hf⟩ := jp_s hf
  have hJ15 : ∀ (v4 : Int32) (σ5 : Sg), J15 v4 σ5 = some (r, σf) → V wM X G ad 3 Q 0 0 σ5 15 [(0, .ref (ad 0)), (1, .int a), (2, .int b)] [.int v4, .int (1 : Int32), .ref (ad 0)] := by
    intro v4 σ5 hf
    subst eJ15
    obtain ⟨r6, σ7, h8, hf⟩ := bd_s hf
    refine V_callV (av := [.int (1 : Int32), .int v4]) (st := []) (st1 := [.int r6]) (q := 18) C 0 (by decide) (eM_0 G ad _) rfl rfl (conX7_fails _ _ _ _ _ _ _ _ h8) q_1251 q_114 q_1248 q_1250 q_64 nmX7_fails (by decide) rfl rfl (Nat.le_of_ble_eq_true rfl) dX7_priceAt_15 rfl rfl ?_
    obtain ⟨J45, eJ45, hf⟩ := jp_s hf
    have hJ45 : ∀ (σ9 : Sg), J45 σ9 = some (r, σf) → V wM X G ad 3 Q 0 0 σ9 45 [] [] := by
      intro σ9 hf
      subst eJ45
      refine V_iconst (v := 0) (q := 46) C dX7_priceAt_45 rfl ic_0 ?_
      refine V_goto (t := 55) C dX7_priceAt_46 (by decide) ?_
      obtain ⟨e1, e2⟩ := pr_s hf
      subst e1; subst e2
      exact V_iret C F (by decide) (by decide) dX7_priceAt_55
    refine V_if_ne (t := 45) (q := 21) C dX7_priceAt_18 (by decide) rfl (fun c10 => ?_) (fun c10 => ?_)
    · replace hf := (ite_s hf).2 c10
      refine V_sub (L' := []) [] rfl ?_
      exact hJ45 _ hf
    · replace hf := (ite_s hf).1 c10
      refine V_aload_n (q := 22) C dX7_priceAt_21 rfl rfl 0 rfl ?_
      refine V_iconst (v := 2) (q := 23) C dX7_priceAt_22 rfl ic_2 ?_
      refine V_iload_n (q := 24) C dX7_priceAt_23 rfl rfl 2 rfl ?_
      refine V_iconst (v := 0) (q := 25) C dX7_priceAt_24 rfl ic_0 ?_
      refine V_sipush (v := 1000) (q := 28) C dX7_priceAt_25 rfl sc_1000 ?_
      refine V_callS (av := [.int b, .int (0 : Int32), .int (1000 : Int32)]) (st := [.int (2 : Int32), .ref (ad 0)]) (st1 := [.int (pX7_isBetween b (0 : Int32) (1000 : Int32)), .int (2 : Int32), .ref (ad 0)]) (q := 31) C (conX7_isBetween _ _ _ _ _ _ _ _ rfl) q_1247 q_114 q_1245 q_1246 nmX7_isBetween (by decide) rfl rfl (Nat.le_of_ble_eq_true rfl) dX7_priceAt_28 rfl rfl ?_
      obtain ⟨J39, eJ39, hf⟩ := jp_s hf
      have hJ39 : ∀ (v11 : Int32) (σ12 : Sg), J39 v11 σ12 = some (r, σf) → V wM X G ad 3 Q 0 0 σ12 39 [(0, .ref (ad 0)), (1, .int a), (2, .int b)] [.int v11, .int (2 : Int32), .ref (ad 0)] := by
        intro v11 σ12 hf
        subst eJ39
        obtain ⟨r13, σ14, h15, hf⟩ := bd_s hf
        refine V_callV (av := [.int (2 : Int32), .int v11]) (st := []) (st1 := [.int r13]) (q := 42) C 0 (by decide) (eM_0 G ad _) rfl rfl (conX7_fails _ _ _ _ _ _ _ _ h15) q_1251 q_114 q_1248 q_1250 q_64 nmX7_fails (by decide) rfl rfl (Nat.le_of_ble_eq_true rfl) dX7_priceAt_39 rfl rfl ?_
        refine V_if_eq (t := 49) (q := 45) C dX7_priceAt_42 (by decide) rfl (fun c16 => ?_) (fun c16 => ?_)
        · replace hf := (ite_s hf).1 c16
          refine V_aload_n (q := 50) C dX7_priceAt_49 rfl rfl 0 rfl ?_
          refine V_iload_n (q := 51) C dX7_priceAt_50 rfl rfl 1 rfl ?_
          refine V_iload_n (q := 52) C dX7_priceAt_51 rfl rfl 2 rfl ?_
          obtain ⟨r17, σ18, h19, hf⟩ := bd_s hf
          refine V_callV (av := [.int a, .int b]) (st := []) (st1 := [.int r17]) (q := 55) C 0 (by decide) (eM_0 G ad _) rfl rfl (conX7_priceOf _ _ _ _ _ _ _ _ h19) q_1368 q_114 q_1365 q_1367 q_77 nmX7_priceOf (by decide) rfl rfl (Nat.le_of_ble_eq_true rfl) dX7_priceAt_52 rfl rfl ?_
          obtain ⟨e1, e2⟩ := pr_s hf
          subst e1; subst e2
          exact V_iret C F (by decide) (by decide) dX7_priceAt_55
        · replace hf := (ite_s hf).2 c16
          refine V_sub (L' := []) [] rfl ?_
          exact hJ45 _ hf
      refine V_if_ne (t := 38) (q := 34) C dX7_priceAt_31 (by decide) rfl (fun c20 => ?_) (fun c20 => ?_)
      · replace hf := (ite_s hf).2 c20
        refine V_iconst (v := 0) (q := 39) C dX7_priceAt_38 rfl ic_0 ?_
        exact hJ39 _ _ hf
      · replace hf := (ite_s hf).1 c20
        refine V_iconst (v := 1) (q := 35) C dX7_priceAt_34 rfl ic_1 ?_
        refine V_goto (t := 39) C dX7_priceAt_35 (by decide) ?_
        exact hJ39 _ _ hf
  refine V_if_ne (t := 14) (q := 10) C dX7_priceAt_7 (by decide) rfl (fun c21 => ?_) (fun c21 => ?_)
  · replace hf := (ite_s hf).2 c21
    refine V_iconst (v := 0) (q := 15) C dX7_priceAt_14 rfl ic_0 ?_
    exact hJ15 _ _ hf
  · replace hf := (ite_s hf).1 c21
    refine V_iconst (v := 1) (q := 11) C dX7_priceAt_10 rfl ic_1 ?_
    refine V_goto (t := 15) C dX7_priceAt_11 (by decide) ?_
    exact hJ15 _ _ hf
def rmX7_set_0_4 : Room := { frames := 0, cells := 0, slots := 0, locals := 0 }
def fX7_set_0_4 (a : Int32) (b : Int32) (c : Int32) (σ : Sg) : Option (Unit × Sg) := jp (fun (v1 : Int32) (σ2 : Sg) => gd (inb a 12) (lt' (sup σ2 4 a.toNatClampNeg v1) (fun (σ4 : Sg) => if c = 0 then (gd (inb b 12) (gd (inb b 12) (lt' (sup σ4 4 b.toNatClampNeg ((σ4 4 b.toNatClampNeg) &&& (((1 : Int32) <<< (a &&& 31)) ^^^ (-1 : Int32)))) (fun (σ8 : Sg) => some ((), σ8))))) else (gd (inb b 12) (gd (inb b 12) (lt' (sup σ4 4 b.toNatClampNeg ((σ4 4 b.toNatClampNeg) ||| ((1 : Int32) <<< (a &&& 31)))) (fun (σ11 : Sg) => some ((), σ11)))))))) (fun (J26 : Int32 → Sg → Option (Unit × Sg)) => if c = 0 then (gd (inb a 12) (J26 ((σ 4 a.toNatClampNeg) &&& (((1 : Int32) <<< (b &&& 31)) ^^^ (-1 : Int32))) σ)) else (gd (inb a 12) (J26 ((σ 4 a.toNatClampNeg) ||| ((1 : Int32) <<< (b &&& 31))) σ)))
set_option maxHeartbeats 4000000 in
theorem conX7_set_0_4 (l : Launch) (G : Gx) (ad : Nat → Nat) (a : Int32) (b : Int32) (c : Int32) (σ : Sg) (σf : Sg)  (hf : fX7_set_0_4 a b c σ = some ((), σf)) : Con wM l G ad yX7_set (Cond.code yX7_set cX7_set 5 none) rmX7_set_0_4 0 0 [.ref (ad 0), .ref (ad 4), .int a, .int b, .int c] σ none σf := by
  refine Con.start (by decide) (Nat.le_of_ble_eq_true rfl) (fun X Q _ C F => ?_)
  refine V_eq (L' := [(0, .ref (ad 0)), (1, .ref (ad 4)), (2, .int a), (3, .int b), (4, .int c)]) (st' := []) rfl rfl rfl ?_
  unfold fX7_set_0_4 at hf
  refine V_aload_n (q := 1) C dX7_set_0 rfl rfl 1 rfl ?_
  refine V_iload_n (q := 2) C dX7_set_1 rfl rfl 2 rfl ?_
  refine V_iload (q := 4) C dX7_set_2 rfl 4 rfl ?_
  obtain ⟨J26, eJ26, hf⟩ := jp_s hf
  have hJ26 : ∀ (v1 : Int32) (σ2 : Sg), J26 v1 σ2 = some ((), σf) → V wM X G ad 5 Q 0 0 σ2 26 [(1, .ref (ad 4)), (2, .int a), (3, .int b), (4, .int c)] [.int v1, .int a, .ref (ad 4)] := by
    intro v1 σ2 hf
    subst eJ26
    obtain ⟨g3, hf⟩ := gd_s hf
    refine SM_4 (z := a.toNatClampNeg) (q := 27) C rfl (inb_in g3) dX7_set_26 rfl ?_
    refine V_lets hf (fun σ4 hf => ?_)
    refine V_aload_n (q := 28) C dX7_set_27 rfl rfl 0 rfl ?_
    refine V_iload_n (q := 29) C dX7_set_28 rfl rfl 2 rfl ?_
    refine V_iload (q := 31) C dX7_set_29 rfl 3 rfl ?_
    refine V_if_eq (t := 44) (q := 34) C dX7_set_31 (by decide) rfl (fun c5 => ?_) (fun c5 => ?_)
    · replace hf := (ite_s hf).1 c5
      refine V_aload_n (q := 45) C dX7_set_44 rfl rfl 0 rfl ?_
      refine V_iload_n (q := 46) C dX7_set_45 rfl rfl 2 rfl ?_
      obtain ⟨g6, hf⟩ := gd_s hf
      refine RM_4 (z := b.toNatClampNeg) (q := 47) C rfl (inb_in g6) dX7_set_46 rfl ?_
      refine V_iconst (v := 1) (q := 48) C dX7_set_47 rfl ic_1 ?_
      refine V_iload_n (q := 49) C dX7_set_48 rfl rfl 1 rfl ?_
      refine V_ishl (q := 50) C dX7_set_49 rfl ?_
      refine V_iconst (v := (-1)) (q := 51) C dX7_set_50 rfl ic_m1 ?_
      refine V_ixor (q := 52) C dX7_set_51 rfl ?_
      refine V_iand (q := 53) C dX7_set_52 rfl ?_
      obtain ⟨g7, hf⟩ := gd_s hf
      refine SM_4 (z := b.toNatClampNeg) (q := 54) C rfl (inb_in g7) dX7_set_53 rfl ?_
      refine V_lets hf (fun σ8 hf => ?_)
      obtain ⟨-, e2⟩ := pr_s hf
      subst e2
      exact V_vret C F (by decide) (by decide) dX7_set_54
    · replace hf := (ite_s hf).2 c5
      refine V_aload_n (q := 35) C dX7_set_34 rfl rfl 0 rfl ?_
      refine V_iload_n (q := 36) C dX7_set_35 rfl rfl 2 rfl ?_
      obtain ⟨g9, hf⟩ := gd_s hf
      refine RM_4 (z := b.toNatClampNeg) (q := 37) C rfl (inb_in g9) dX7_set_36 rfl ?_
      refine V_iconst (v := 1) (q := 38) C dX7_set_37 rfl ic_1 ?_
      refine V_iload_n (q := 39) C dX7_set_38 rfl rfl 1 rfl ?_
      refine V_ishl (q := 40) C dX7_set_39 rfl ?_
      refine V_ior (q := 41) C dX7_set_40 rfl ?_
      refine V_goto (t := 53) C dX7_set_41 (by decide) ?_
      obtain ⟨g10, hf⟩ := gd_s hf
      refine SM_4 (z := b.toNatClampNeg) (q := 54) C rfl (inb_in g10) dX7_set_53 rfl ?_
      refine V_lets hf (fun σ11 hf => ?_)
      obtain ⟨-, e2⟩ := pr_s hf
      subst e2
      exact V_vret C F (by decide) (by decide) dX7_set_54
  refine V_if_eq (t := 17) (q := 7) C dX7_set_4 (by decide) rfl (fun c12 => ?_) (fun c12 => ?_)
  · replace hf := (ite_s hf).1 c12
    refine V_aload_n (q := 18) C dX7_set_17 rfl rfl 1 rfl ?_
    refine V_iload_n (q := 19) C dX7_set_18 rfl rfl 2 rfl ?_
    obtain ⟨g13, hf⟩ := gd_s hf
    refine RM_4 (z := a.toNatClampNeg) (q := 20) C rfl (inb_in g13) dX7_set_19 rfl ?_
    refine V_iconst (v := 1) (q := 21) C dX7_set_20 rfl ic_1 ?_
    refine V_iload_n (q := 22) C dX7_set_21 rfl rfl 3 rfl ?_
    refine V_ishl (q := 23) C dX7_set_22 rfl ?_
    refine V_iconst (v := (-1)) (q := 24) C dX7_set_23 rfl ic_m1 ?_
    refine V_ixor (q := 25) C dX7_set_24 rfl ?_
    refine V_iand (q := 26) C dX7_set_25 rfl ?_
    refine V_sub (L' := [(1, .ref (ad 4)), (2, .int a), (3, .int b), (4, .int c)]) [1, 2, 3, 4] rfl ?_
    exact hJ26 _ _ hf
  · replace hf := (ite_s hf).2 c12
    refine V_aload_n (q := 8) C dX7_set_7 rfl rfl 1 rfl ?_
    refine V_iload_n (q := 9) C dX7_set_8 rfl rfl 2 rfl ?_
    obtain ⟨g14, hf⟩ := gd_s hf
    refine RM_4 (z := a.toNatClampNeg) (q := 10) C rfl (inb_in g14) dX7_set_9 rfl ?_
    refine V_iconst (v := 1) (q := 11) C dX7_set_10 rfl ic_1 ?_
    refine V_iload_n (q := 12) C dX7_set_11 rfl rfl 3 rfl ?_
    refine V_ishl (q := 13) C dX7_set_12 rfl ?_
    refine V_ior (q := 14) C dX7_set_13 rfl ?_
    refine V_goto (t := 26) C dX7_set_14 (by decide) ?_
    refine V_sub (L' := [(1, .ref (ad 4)), (2, .int a), (3, .int b), (4, .int c)]) [1, 2, 3, 4] rfl ?_
    exact hJ26 _ _ hf
def rmX7_set_0_5 : Room := { frames := 0, cells := 0, slots := 0, locals := 0 }
def fX7_set_0_5 (a : Int32) (b : Int32) (c : Int32) (σ : Sg) : Option (Unit × Sg) := jp (fun (v1 : Int32) (σ2 : Sg) => gd (inb a 12) (lt' (sup σ2 5 a.toNatClampNeg v1) (fun (σ4 : Sg) => if c = 0 then (gd (inb b 12) (gd (inb b 12) (lt' (sup σ4 5 b.toNatClampNeg ((σ4 5 b.toNatClampNeg) &&& (((1 : Int32) <<< (a &&& 31)) ^^^ (-1 : Int32)))) (fun (σ8 : Sg) => some ((), σ8))))) else (gd (inb b 12) (gd (inb b 12) (lt' (sup σ4 5 b.toNatClampNeg ((σ4 5 b.toNatClampNeg) ||| ((1 : Int32) <<< (a &&& 31)))) (fun (σ11 : Sg) => some ((), σ11)))))))) (fun (J26 : Int32 → Sg → Option (Unit × Sg)) => if c = 0 then (gd (inb a 12) (J26 ((σ 5 a.toNatClampNeg) &&& (((1 : Int32) <<< (b &&& 31)) ^^^ (-1 : Int32))) σ)) else (gd (inb a 12) (J26 ((σ 5 a.toNatClampNeg) ||| ((1 : Int32) <<< (b &&& 31))) σ)))
set_option maxHeartbeats 4000000 in
theorem conX7_set_0_5 (l : Launch) (G : Gx) (ad : Nat → Nat) (a : Int32) (b : Int32) (c : Int32) (σ : Sg) (σf : Sg)  (hf : fX7_set_0_5 a b c σ = some ((), σf)) : Con wM l G ad yX7_set (Cond.code yX7_set cX7_set 5 none) rmX7_set_0_5 0 0 [.ref (ad 0), .ref (ad 5), .int a, .int b, .int c] σ none σf := by
  refine Con.start (by decide) (Nat.le_of_ble_eq_true rfl) (fun X Q _ C F => ?_)
  refine V_eq (L' := [(0, .ref (ad 0)), (1, .ref (ad 5)), (2, .int a), (3, .int b), (4, .int c)]) (st' := []) rfl rfl rfl ?_
  unfold fX7_set_0_5 at hf
  refine V_aload_n (q := 1) C dX7_set_0 rfl rfl 1 rfl ?_
  refine V_iload_n (q := 2) C dX7_set_1 rfl rfl 2 rfl ?_
  refine V_iload (q := 4) C dX7_set_2 rfl 4 rfl ?_
  obtain ⟨J26, eJ26, hf⟩ := jp_s hf
  have hJ26 : ∀ (v1 : Int32) (σ2 : Sg), J26 v1 σ2 = some ((), σf) → V wM X G ad 5 Q 0 0 σ2 26 [(1, .ref (ad 5)), (2, .int a), (3, .int b), (4, .int c)] [.int v1, .int a, .ref (ad 5)] := by
    intro v1 σ2 hf
    subst eJ26
    obtain ⟨g3, hf⟩ := gd_s hf
    refine SM_5 (z := a.toNatClampNeg) (q := 27) C rfl (inb_in g3) dX7_set_26 rfl ?_
    refine V_lets hf (fun σ4 hf => ?_)
    refine V_aload_n (q := 28) C dX7_set_27 rfl rfl 0 rfl ?_
    refine V_iload_n (q := 29) C dX7_set_28 rfl rfl 2 rfl ?_
    refine V_iload (q := 31) C dX7_set_29 rfl 3 rfl ?_
    refine V_if_eq (t := 44) (q := 34) C dX7_set_31 (by decide) rfl (fun c5 => ?_) (fun c5 => ?_)
    · replace hf := (ite_s hf).1 c5
      refine V_aload_n (q := 45) C dX7_set_44 rfl rfl 0 rfl ?_
      refine V_iload_n (q := 46) C dX7_set_45 rfl rfl 2 rfl ?_
      obtain ⟨g6, hf⟩ := gd_s hf
      refine RM_5 (z := b.toNatClampNeg) (q := 47) C rfl (inb_in g6) dX7_set_46 rfl ?_
      refine V_iconst (v := 1) (q := 48) C dX7_set_47 rfl ic_1 ?_
      refine V_iload_n (q := 49) C dX7_set_48 rfl rfl 1 rfl ?_
      refine V_ishl (q := 50) C dX7_set_49 rfl ?_
      refine V_iconst (v := (-1)) (q := 51) C dX7_set_50 rfl ic_m1 ?_
      refine V_ixor (q := 52) C dX7_set_51 rfl ?_
      refine V_iand (q := 53) C dX7_set_52 rfl ?_
      obtain ⟨g7, hf⟩ := gd_s hf
      refine SM_5 (z := b.toNatClampNeg) (q := 54) C rfl (inb_in g7) dX7_set_53 rfl ?_
      refine V_lets hf (fun σ8 hf => ?_)
      obtain ⟨-, e2⟩ := pr_s hf
      subst e2
      exact V_vret C F (by decide) (by decide) dX7_set_54
    · replace hf := (ite_s hf).2 c5
      refine V_aload_n (q := 35) C dX7_set_34 rfl rfl 0 rfl ?_
      refine V_iload_n (q := 36) C dX7_set_35 rfl rfl 2 rfl ?_
      obtain ⟨g9, hf⟩ := gd_s hf
      refine RM_5 (z := b.toNatClampNeg) (q := 37) C rfl (inb_in g9) dX7_set_36 rfl ?_
      refine V_iconst (v := 1) (q := 38) C dX7_set_37 rfl ic_1 ?_
      refine V_iload_n (q := 39) C dX7_set_38 rfl rfl 1 rfl ?_
      refine V_ishl (q := 40) C dX7_set_39 rfl ?_
      refine V_ior (q := 41) C dX7_set_40 rfl ?_
      refine V_goto (t := 53) C dX7_set_41 (by decide) ?_
      obtain ⟨g10, hf⟩ := gd_s hf
      refine SM_5 (z := b.toNatClampNeg) (q := 54) C rfl (inb_in g10) dX7_set_53 rfl ?_
      refine V_lets hf (fun σ11 hf => ?_)
      obtain ⟨-, e2⟩ := pr_s hf
      subst e2
      exact V_vret C F (by decide) (by decide) dX7_set_54
  refine V_if_eq (t := 17) (q := 7) C dX7_set_4 (by decide) rfl (fun c12 => ?_) (fun c12 => ?_)
  · replace hf := (ite_s hf).1 c12
    refine V_aload_n (q := 18) C dX7_set_17 rfl rfl 1 rfl ?_
    refine V_iload_n (q := 19) C dX7_set_18 rfl rfl 2 rfl ?_
    obtain ⟨g13, hf⟩ := gd_s hf
    refine RM_5 (z := a.toNatClampNeg) (q := 20) C rfl (inb_in g13) dX7_set_19 rfl ?_
    refine V_iconst (v := 1) (q := 21) C dX7_set_20 rfl ic_1 ?_
    refine V_iload_n (q := 22) C dX7_set_21 rfl rfl 3 rfl ?_
    refine V_ishl (q := 23) C dX7_set_22 rfl ?_
    refine V_iconst (v := (-1)) (q := 24) C dX7_set_23 rfl ic_m1 ?_
    refine V_ixor (q := 25) C dX7_set_24 rfl ?_
    refine V_iand (q := 26) C dX7_set_25 rfl ?_
    refine V_sub (L' := [(1, .ref (ad 5)), (2, .int a), (3, .int b), (4, .int c)]) [1, 2, 3, 4] rfl ?_
    exact hJ26 _ _ hf
  · replace hf := (ite_s hf).2 c12
    refine V_aload_n (q := 8) C dX7_set_7 rfl rfl 1 rfl ?_
    refine V_iload_n (q := 9) C dX7_set_8 rfl rfl 2 rfl ?_
    obtain ⟨g14, hf⟩ := gd_s hf
    refine RM_5 (z := a.toNatClampNeg) (q := 10) C rfl (inb_in g14) dX7_set_9 rfl ?_
    refine V_iconst (v := 1) (q := 11) C dX7_set_10 rfl ic_1 ?_
    refine V_iload_n (q := 12) C dX7_set_11 rfl rfl 3 rfl ?_
    refine V_ishl (q := 13) C dX7_set_12 rfl ?_
    refine V_ior (q := 14) C dX7_set_13 rfl ?_
    refine V_goto (t := 26) C dX7_set_14 (by decide) ?_
    refine V_sub (L' := [(1, .ref (ad 5)), (2, .int a), (3, .int b), (4, .int c)]) [1, 2, 3, 4] rfl ?_
    exact hJ26 _ _ hf
def rmX7_readPair : Room := { frames := 3, cells := 0, slots := 0, locals := 67 }
def fX7_readPair  (σ : Sg) : Option (Unit × Sg) := bd (fX7_passStation (-1 : Int32) σ) (fun (r1 : Int32) (σ2 : Sg) => bd (fX7_passes (45 : Int32) σ2) (fun (r4 : Int32) (σ5 : Sg) => jp (fun (v7 : Int32) (σ8 : Sg) => gd (b01 ((σ2 0 10) ||| v7)) (lt' (sup σ8 0 10 ((σ2 0 10) ||| v7)) (fun (σ10 : Sg) => jp (fun (v11 : Int32) (σ12 : Sg) => bd (fX7_passes (99 : Int32) σ12) (fun (r13 : Int32) (σ14 : Sg) => bd (fX7_passes (97 : Int32) σ14) (fun (r16 : Int32) (σ17 : Sg) => if (σ17 0 10) = 0 then (bd (fX7_set_0_4 r1 v11 r13 σ17) (fun (_ : Unit) (σ20 : Sg) => bd (fX7_set_0_5 r1 v11 r16 σ20) (fun (_ : Unit) (σ22 : Sg) => some ((), σ22)))) else (some ((), σ17))))) (fun (J45 : Int32 → Sg → Option (Unit × Sg)) => if (σ10 0 10) = 0 then (bd (fX7_passStation r1 σ10) (fun (r25 : Int32) (σ26 : Sg) => J45 r25 σ26)) else (J45 (0 : Int32) σ10))))) (fun (J25 : Int32 → Sg → Option (Unit × Sg)) => if r4 = 0 then (J25 (1 : Int32) σ5) else (J25 (0 : Int32) σ5))))
set_option maxHeartbeats 4000000 in
theorem conX7_readPair (l : Launch) (G : Gx) (ad : Nat → Nat)  (σ : Sg) (σf : Sg)  (hf : fX7_readPair  σ = some ((), σf)) : Con wM l G ad yX7_readPair (Cond.code yX7_readPair cX7_readPair 5 none) rmX7_readPair 0 0 [.ref (ad 0)] σ none σf := by
  refine Con.start (by decide) (Nat.le_of_ble_eq_true rfl) (fun X Q _ C F => ?_)
  refine V_eq (L' := [(0, .ref (ad 0))]) (st' := []) rfl rfl rfl ?_
  unfold fX7_readPair at hf
  refine V_aload_n (q := 1) C dX7_readPair_0 rfl rfl 0 rfl ?_
  refine V_iconst (v := (-1)) (q := 2) C dX7_readPair_1 rfl ic_m1 ?_
  obtain ⟨r1, σ2, h3, hf⟩ := bd_s hf
  refine V_callV (av := [.int (-1 : Int32)]) (st := []) (st1 := [.int r1]) (q := 5) C 0 (by decide) (eM_0 G ad _) rfl rfl (conX7_passStation _ _ _ _ _ _ _ h3) q_1291 q_114 q_1288 q_1290 q_68 nmX7_passStation (by decide) rfl rfl (Nat.le_of_ble_eq_true rfl) dX7_readPair_2 rfl rfl ?_
  refine V_istore_n (L' := [(1, .int r1), (0, .ref (ad 0))]) (q := 6) C dX7_readPair_5 rfl rfl (by decide) rfl ?_
  refine V_aload_n (q := 7) C dX7_readPair_6 rfl rfl 1 rfl ?_
  refine V_dup (q := 8) C dX7_readPair_7 rfl rfl ?_
  refine GM_0_10 (q := 11) C q_1192 dX7_readPair_8 rfl ?_
  refine V_aload_n (q := 12) C dX7_readPair_11 rfl rfl 1 rfl ?_
  refine V_bipush (v := 45) (q := 14) C dX7_readPair_12 rfl bc_45 ?_
  obtain ⟨r4, σ5, h6, hf⟩ := bd_s hf
  refine V_callV (av := [.int (45 : Int32)]) (st := [.int (σ2 0 10), .ref (ad 0)]) (st1 := [.int r4, .int (σ2 0 10), .ref (ad 0)]) (q := 17) C 0 (by decide) (eM_0 G ad _) rfl rfl (conX7_passes _ _ _ _ _ _ _ h6) q_1299 q_114 q_1296 q_1298 q_70 nmX7_passes (by decide) rfl rfl (Nat.le_of_ble_eq_true rfl) dX7_readPair_14 rfl rfl ?_
  obtain ⟨J25, eJ25, hf⟩ := jp_s hf
  have hJ25 : ∀ (v7 : Int32) (σ8 : Sg), J25 v7 σ8 = some ((), σf) → V wM X G ad 5 Q 0 0 σ8 25 [(0, .ref (ad 0)), (1, .int r1)] [.int v7, .int (σ2 0 10), .ref (ad 0)] := by
    intro v7 σ8 hf
    subst eJ25
    refine V_ior (q := 26) C dX7_readPair_25 rfl ?_
    obtain ⟨g9, hf⟩ := gd_s hf
    refine PM_0_10 (q := 29) C (b01_s g9) q_1192 dX7_readPair_26 rfl ?_
    refine V_lets hf (fun σ10 hf => ?_)
    refine V_aload_n (q := 30) C dX7_readPair_29 rfl rfl 0 rfl ?_
    refine GM_0_10 (q := 33) C q_1192 dX7_readPair_30 rfl ?_
    obtain ⟨J45, eJ45, hf⟩ := jp_s hf
    have hJ45 : ∀ (v11 : Int32) (σ12 : Sg), J45 v11 σ12 = some ((), σf) → V wM X G ad 5 Q 0 0 σ12 45 [(0, .ref (ad 0)), (1, .int r1)] [.int v11] := by
      intro v11 σ12 hf
      subst eJ45
      refine V_istore_n (L' := [(2, .int v11), (0, .ref (ad 0)), (1, .int r1)]) (q := 46) C dX7_readPair_45 rfl rfl (by decide) rfl ?_
      refine V_aload_n (q := 47) C dX7_readPair_46 rfl rfl 1 rfl ?_
      refine V_bipush (v := 99) (q := 49) C dX7_readPair_47 rfl bc_99 ?_
      obtain ⟨r13, σ14, h15, hf⟩ := bd_s hf
      refine V_callV (av := [.int (99 : Int32)]) (st := []) (st1 := [.int r13]) (q := 52) C 0 (by decide) (eM_0 G ad _) rfl rfl (conX7_passes _ _ _ _ _ _ _ h15) q_1299 q_114 q_1296 q_1298 q_70 nmX7_passes (by decide) rfl rfl (Nat.le_of_ble_eq_true rfl) dX7_readPair_49 rfl rfl ?_
      refine V_istore_n (L' := [(3, .int r13), (2, .int v11), (0, .ref (ad 0)), (1, .int r1)]) (q := 53) C dX7_readPair_52 rfl rfl (by decide) rfl ?_
      refine V_aload_n (q := 54) C dX7_readPair_53 rfl rfl 2 rfl ?_
      refine V_bipush (v := 97) (q := 56) C dX7_readPair_54 rfl bc_97 ?_
      obtain ⟨r16, σ17, h18, hf⟩ := bd_s hf
      refine V_callV (av := [.int (97 : Int32)]) (st := []) (st1 := [.int r16]) (q := 59) C 0 (by decide) (eM_0 G ad _) rfl rfl (conX7_passes _ _ _ _ _ _ _ h18) q_1299 q_114 q_1296 q_1298 q_70 nmX7_passes (by decide) rfl rfl (Nat.le_of_ble_eq_true rfl) dX7_readPair_56 rfl rfl ?_
      refine V_istore (L' := [(4, .int r16), (3, .int r13), (2, .int v11), (0, .ref (ad 0)), (1, .int r1)]) (q := 61) C dX7_readPair_59 rfl (by decide) rfl ?_
      refine V_aload_n (q := 62) C dX7_readPair_61 rfl rfl 3 rfl ?_
      refine GM_0_10 (q := 65) C q_1192 dX7_readPair_62 rfl ?_
      refine V_if_ne (t := 91) (q := 68) C dX7_readPair_65 (by decide) rfl (fun c19 => ?_) (fun c19 => ?_)
      · replace hf := (ite_s hf).2 c19
        obtain ⟨-, e2⟩ := pr_s hf
        subst e2
        exact V_vret C F (by decide) (by decide) dX7_readPair_91
      · replace hf := (ite_s hf).1 c19
        refine V_aload_n (q := 69) C dX7_readPair_68 rfl rfl 3 rfl ?_
        refine V_aload_n (q := 70) C dX7_readPair_69 rfl rfl 3 rfl ?_
        refine GM_0_5 (q := 73) C q_1187 dX7_readPair_70 rfl ?_
        refine V_iload_n (q := 74) C dX7_readPair_73 rfl rfl 4 rfl ?_
        refine V_iload_n (q := 75) C dX7_readPair_74 rfl rfl 2 rfl ?_
        refine V_iload_n (q := 76) C dX7_readPair_75 rfl rfl 1 rfl ?_
        obtain ⟨_u, σ20, h21, hf⟩ := bd_s hf
        refine V_callV (av := [.ref (ad 4), .int r1, .int v11, .int r13]) (st := []) (st1 := []) (q := 79) C 0 (by decide) (eM_0 G ad _) rfl rfl (conX7_set_0_4 _ _ _ _ _ _ _ _ h21) q_1303 q_114 q_1300 q_1302 q_71 nmX7_set (by decide) rfl rfl (Nat.le_of_ble_eq_true rfl) dX7_readPair_76 rfl rfl ?_
        refine V_aload_n (q := 80) C dX7_readPair_79 rfl rfl 3 rfl ?_
        refine V_aload_n (q := 81) C dX7_readPair_80 rfl rfl 3 rfl ?_
        refine GM_0_6 (q := 84) C q_1188 dX7_readPair_81 rfl ?_
        refine V_iload_n (q := 85) C dX7_readPair_84 rfl rfl 4 rfl ?_
        refine V_iload_n (q := 86) C dX7_readPair_85 rfl rfl 2 rfl ?_
        refine V_iload (q := 88) C dX7_readPair_86 rfl 0 rfl ?_
        obtain ⟨_u, σ22, h23, hf⟩ := bd_s hf
        refine V_callV (av := [.ref (ad 5), .int r1, .int v11, .int r16]) (st := []) (st1 := []) (q := 91) C 0 (by decide) (eM_0 G ad _) rfl rfl (conX7_set_0_5 _ _ _ _ _ _ _ _ h23) q_1303 q_114 q_1300 q_1302 q_71 nmX7_set (by decide) rfl rfl (Nat.le_of_ble_eq_true rfl) dX7_readPair_88 rfl rfl ?_
        obtain ⟨-, e2⟩ := pr_s hf
        subst e2
        exact V_vret C F (by decide) (by decide) dX7_readPair_91
    refine V_if_eq (t := 40) (q := 36) C dX7_readPair_33 (by decide) rfl (fun c24 => ?_) (fun c24 => ?_)
    · replace hf := (ite_s hf).1 c24
      refine V_aload_n (q := 41) C dX7_readPair_40 rfl rfl 0 rfl ?_
      refine V_iload_n (q := 42) C dX7_readPair_41 rfl rfl 1 rfl ?_
      obtain ⟨r25, σ26, h27, hf⟩ := bd_s hf
      refine V_callV (av := [.int r1]) (st := []) (st1 := [.int r25]) (q := 45) C 0 (by decide) (eM_0 G ad _) rfl rfl (conX7_passStation _ _ _ _ _ _ _ h27) q_1291 q_114 q_1288 q_1290 q_68 nmX7_passStation (by decide) rfl rfl (Nat.le_of_ble_eq_true rfl) dX7_readPair_42 rfl rfl ?_
      exact hJ45 _ _ hf
    · replace hf := (ite_s hf).2 c24
      refine V_iconst (v := 0) (q := 37) C dX7_readPair_36 rfl ic_0 ?_
      refine V_goto (t := 45) C dX7_readPair_37 (by decide) ?_
      exact hJ45 _ _ hf
  refine V_if_ne (t := 24) (q := 20) C dX7_readPair_17 (by decide) rfl (fun c28 => ?_) (fun c28 => ?_)
  · replace hf := (ite_s hf).2 c28
    refine V_iconst (v := 0) (q := 25) C dX7_readPair_24 rfl ic_0 ?_
    refine V_sub (L' := [(0, .ref (ad 0)), (1, .int r1)]) [1, 0] rfl ?_
    exact hJ25 _ _ hf
  · replace hf := (ite_s hf).1 c28
    refine V_iconst (v := 1) (q := 21) C dX7_readPair_20 rfl ic_1 ?_
    refine V_goto (t := 25) C dX7_readPair_21 (by decide) ?_
    refine V_sub (L' := [(0, .ref (ad 0)), (1, .int r1)]) [1, 0] rfl ?_
    exact hJ25 _ _ hf
def rmX7_removeStation : Room := { frames := 1, cells := 0, slots := 0, locals := 22 }
def fX7_removeStation_48 (K : Sg → Option (Int32 × Sg)) : Nat → Int32 → Sg → Option (Int32 × Sg)
  | 0, _, _ => none
  | n + 1, x15, σ16 => if (σ16 1 0) ≤ x15 then (K σ16) else (gd (inb ((64 : Int32) + x15) 2764) (gd (inb ((64 : Int32) + x15) 2764) (lt' (sup σ16 1 (((64 : Int32) + x15).toNatClampNeg) ((σ16 1 (((64 : Int32) + x15).toNatClampNeg)) &&& (((1 : Int32) <<< ((σ16 1 0) &&& 31)) ^^^ (-1 : Int32)))) (fun (σ20 : Sg) => gd (inb ((76 : Int32) + x15) 2764) (gd (inb ((76 : Int32) + x15) 2764) (lt' (sup σ20 1 (((76 : Int32) + x15).toNatClampNeg) ((σ20 1 (((76 : Int32) + x15).toNatClampNeg)) &&& (((1 : Int32) <<< ((σ20 1 0) &&& 31)) ^^^ (-1 : Int32)))) (fun (σ23 : Sg) => fX7_removeStation_48 K n (x15 + (1 : Int32)) σ23)))))))
def fX7_removeStation  (σ : Sg) : Option (Int32 × Sg) := bd (fX7_isKnown  σ) (fun (r1 : Int32) (σ2 : Sg) => bd (fX7_fails (1 : Int32) r1 σ2) (fun (r4 : Int32) (σ5 : Sg) => if r4 = 0 then (jp (fun (v8 : Int32) (σ9 : Sg) => bd (fX7_fails (2 : Int32) v8 σ9) (fun (r10 : Int32) (σ11 : Sg) => if r10 = 0 then (lt' (sup σ11 1 0 ((σ11 1 0) - (1 : Int32))) (fun (σ14 : Sg) => fX7_removeStation_48 (fun (σ24 : Sg) => some ((σ24 1 0), σ24)) FU (0 : Int32) σ14)) else (some ((0 : Int32), σ11)))) (fun (J28 : Int32 → Sg → Option (Int32 × Sg)) => if (σ5 1 0) = 0 then (J28 (1 : Int32) σ5) else (J28 (0 : Int32) σ5))) else (some ((0 : Int32), σ5))))
set_option maxHeartbeats 4000000 in
theorem wlX7_removeStation_48 {X : Cx} {G : Gx} {ad : Nat → Nat} {Q : State → Prop} {r : Int32} {σf : Sg} (C : OK wM X G ad RX7 cX7_removeStation 2 rmX7_removeStation) (F : FinR wM X G ad Q 0 0 (some .int) (some (.int r)) σf) (K : Sg → Option (Int32 × Sg)) (hK : ∀ (σk : Sg), K σk = some (r, σf) → V wM X G ad 2 Q 0 0 σk 108 [(0, .ref (ad 0))] []) : ∀ (n : Nat) (x15 : Int32) (σ16 : Sg), fX7_removeStation_48 K n x15 σ16 = some (r, σf) → V wM X G ad 2 Q 0 0 σ16 48 [(0, .ref (ad 0)), (1, .int x15)] [] := by
  intro n
  induction n with
  | zero =>
    intro _ _ hf
    exact absurd hf (by simp [fX7_removeStation_48])
  | succ n ih =>
    intro x15 σ16 hf
    rw [fX7_removeStation_48] at hf
    refine V_iload_n (q := 49) C dX7_removeStation_48 rfl rfl 1 rfl ?_
    refine V_aload_n (q := 50) C dX7_removeStation_49 rfl rfl 0 rfl ?_
    refine GM_0_1 (q := 53) C q_1183 dX7_removeStation_50 rfl ?_
    refine V_iconst (v := 0) (q := 54) C dX7_removeStation_53 rfl ic_0 ?_
    refine RM_1 (z := 0) (q := 55) C tn_0 (inb_in (by decide)) dX7_removeStation_54 rfl ?_
    refine V_icmp_ge (t := 108) (q := 58) C dX7_removeStation_55 (by decide) rfl (fun c17 => ?_) (fun c17 => ?_)
    · replace hf := (ite_s hf).1 c17
      refine V_sub (L' := [(0, .ref (ad 0))]) [0] rfl ?_
      exact hK _ hf
    · replace hf := (ite_s hf).2 c17
      refine V_aload_n (q := 59) C dX7_removeStation_58 rfl rfl 0 rfl ?_
      refine GM_0_1 (q := 62) C q_1183 dX7_removeStation_59 rfl ?_
      refine V_bipush (v := 64) (q := 64) C dX7_removeStation_62 rfl bc_64 ?_
      refine V_iload_n (q := 65) C dX7_removeStation_64 rfl rfl 1 rfl ?_
      refine V_iadd (q := 66) C dX7_removeStation_65 rfl ?_
      refine V_dup2 (q := 67) C dX7_removeStation_66 rfl rfl rfl ?_
      obtain ⟨g18, hf⟩ := gd_s hf
      refine RM_1 (z := ((64 : Int32) + x15).toNatClampNeg) (q := 68) C rfl (inb_in g18) dX7_removeStation_67 rfl ?_
      refine V_iconst (v := 1) (q := 69) C dX7_removeStation_68 rfl ic_1 ?_
      refine V_aload_n (q := 70) C dX7_removeStation_69 rfl rfl 0 rfl ?_
      refine GM_0_1 (q := 73) C q_1183 dX7_removeStation_70 rfl ?_
      refine V_iconst (v := 0) (q := 74) C dX7_removeStation_73 rfl ic_0 ?_
      refine RM_1 (z := 0) (q := 75) C tn_0 (inb_in (by decide)) dX7_removeStation_74 rfl ?_
      refine V_ishl (q := 76) C dX7_removeStation_75 rfl ?_
      refine V_iconst (v := (-1)) (q := 77) C dX7_removeStation_76 rfl ic_m1 ?_
      refine V_ixor (q := 78) C dX7_removeStation_77 rfl ?_
      refine V_iand (q := 79) C dX7_removeStation_78 rfl ?_
      obtain ⟨g19, hf⟩ := gd_s hf
      refine SM_1 (z := ((64 : Int32) + x15).toNatClampNeg) (q := 80) C rfl (inb_in g19) dX7_removeStation_79 rfl ?_
      refine V_lets hf (fun σ20 hf => ?_)
      refine V_aload_n (q := 81) C dX7_removeStation_80 rfl rfl 0 rfl ?_
      refine GM_0_1 (q := 84) C q_1183 dX7_removeStation_81 rfl ?_
      refine V_bipush (v := 76) (q := 86) C dX7_removeStation_84 rfl bc_76 ?_
      refine V_iload_n (q := 87) C dX7_removeStation_86 rfl rfl 1 rfl ?_
      refine V_iadd (q := 88) C dX7_removeStation_87 rfl ?_
      refine V_dup2 (q := 89) C dX7_removeStation_88 rfl rfl rfl ?_
      obtain ⟨g21, hf⟩ := gd_s hf
      refine RM_1 (z := ((76 : Int32) + x15).toNatClampNeg) (q := 90) C rfl (inb_in g21) dX7_removeStation_89 rfl ?_
      refine V_iconst (v := 1) (q := 91) C dX7_removeStation_90 rfl ic_1 ?_
      refine V_aload_n (q := 92) C dX7_removeStation_91 rfl rfl 0 rfl ?_
      refine GM_0_1 (q := 95) C q_1183 dX7_removeStation_92 rfl ?_
      refine V_iconst (v := 0) (q := 96) C dX7_removeStation_95 rfl ic_0 ?_
      refine RM_1 (z := 0) (q := 97) C tn_0 (inb_in (by decide)) dX7_removeStation_96 rfl ?_
      refine V_ishl (q := 98) C dX7_removeStation_97 rfl ?_
      refine V_iconst (v := (-1)) (q := 99) C dX7_removeStation_98 rfl ic_m1 ?_
      refine V_ixor (q := 100) C dX7_removeStation_99 rfl ?_
      refine V_iand (q := 101) C dX7_removeStation_100 rfl ?_
      obtain ⟨g22, hf⟩ := gd_s hf
      refine SM_1 (z := ((76 : Int32) + x15).toNatClampNeg) (q := 102) C rfl (inb_in g22) dX7_removeStation_101 rfl ?_
      refine V_lets hf (fun σ23 hf => ?_)
      refine V_iinc (L' := [(1, .int (x15 + (1 : Int32))), (0, .ref (ad 0))]) (q := 105) C dX7_removeStation_102 rfl 1 rfl (congrArg (fun y => x15 + y) ic_1) (by decide) rfl ?_
      refine V_goto (t := 48) C dX7_removeStation_105 (by decide) ?_
      refine V_sub (L' := [(0, .ref (ad 0)), (1, .int (x15 + (1 : Int32)))]) [1, 0] rfl ?_
      exact ih _ _ hf
set_option maxHeartbeats 4000000 in
theorem conX7_removeStation (l : Launch) (G : Gx) (ad : Nat → Nat)  (σ : Sg) (r : Int32) (σf : Sg)  (hf : fX7_removeStation  σ = some (r, σf)) : Con wM l G ad yX7_removeStation (Cond.code yX7_removeStation cX7_removeStation 2 (some .int)) rmX7_removeStation 0 0 [.ref (ad 0)] σ (some (.int r)) σf := by
  refine Con.start (by decide) (Nat.le_of_ble_eq_true rfl) (fun X Q _ C F => ?_)
  refine V_eq (L' := [(0, .ref (ad 0))]) (st' := []) rfl rfl rfl ?_
  unfold fX7_removeStation at hf
  refine V_aload_n (q := 1) C dX7_removeStation_0 rfl rfl 0 rfl ?_
  refine V_iconst (v := 1) (q := 2) C dX7_removeStation_1 rfl ic_1 ?_
  refine V_aload_n (q := 3) C dX7_removeStation_2 rfl rfl 0 rfl ?_
  obtain ⟨r1, σ2, h3, hf⟩ := bd_s hf
  refine V_callV (av := []) (st := [.int (1 : Int32), .ref (ad 0)]) (st1 := [.int r1, .int (1 : Int32), .ref (ad 0)]) (q := 6) C 0 (by decide) (eM_0 G ad _) rfl rfl (conX7_isKnown _ _ _  _ _ _ h3) q_1255 q_114 q_1252 q_1254 q_65 nmX7_isKnown (by decide) rfl rfl (Nat.le_of_ble_eq_true rfl) dX7_removeStation_3 rfl rfl ?_
  obtain ⟨r4, σ5, h6, hf⟩ := bd_s hf
  refine V_callV (av := [.int (1 : Int32), .int r1]) (st := []) (st1 := [.int r4]) (q := 9) C 0 (by decide) (eM_0 G ad _) rfl rfl (conX7_fails _ _ _ _ _ _ _ _ h6) q_1251 q_114 q_1248 q_1250 q_64 nmX7_fails (by decide) rfl rfl (Nat.le_of_ble_eq_true rfl) dX7_removeStation_6 rfl rfl ?_
  refine V_if_ne (t := 34) (q := 12) C dX7_removeStation_9 (by decide) rfl (fun c7 => ?_) (fun c7 => ?_)
  · replace hf := (ite_s hf).2 c7
    refine V_iconst (v := 0) (q := 35) C dX7_removeStation_34 rfl ic_0 ?_
    obtain ⟨e1, e2⟩ := pr_s hf
    subst e1; subst e2
    exact V_iret C F (by decide) (by decide) dX7_removeStation_35
  · replace hf := (ite_s hf).1 c7
    refine V_aload_n (q := 13) C dX7_removeStation_12 rfl rfl 0 rfl ?_
    refine V_iconst (v := 2) (q := 14) C dX7_removeStation_13 rfl ic_2 ?_
    refine V_aload_n (q := 15) C dX7_removeStation_14 rfl rfl 0 rfl ?_
    refine GM_0_1 (q := 18) C q_1183 dX7_removeStation_15 rfl ?_
    refine V_iconst (v := 0) (q := 19) C dX7_removeStation_18 rfl ic_0 ?_
    refine RM_1 (z := 0) (q := 20) C tn_0 (inb_in (by decide)) dX7_removeStation_19 rfl ?_
    obtain ⟨J28, eJ28, hf⟩ := jp_s hf
    have hJ28 : ∀ (v8 : Int32) (σ9 : Sg), J28 v8 σ9 = some (r, σf) → V wM X G ad 2 Q 0 0 σ9 28 [(0, .ref (ad 0))] [.int v8, .int (2 : Int32), .ref (ad 0)] := by
      intro v8 σ9 hf
      subst eJ28
      obtain ⟨r10, σ11, h12, hf⟩ := bd_s hf
      refine V_callV (av := [.int (2 : Int32), .int v8]) (st := []) (st1 := [.int r10]) (q := 31) C 0 (by decide) (eM_0 G ad _) rfl rfl (conX7_fails _ _ _ _ _ _ _ _ h12) q_1251 q_114 q_1248 q_1250 q_64 nmX7_fails (by decide) rfl rfl (Nat.le_of_ble_eq_true rfl) dX7_removeStation_28 rfl rfl ?_
      refine V_if_eq (t := 36) (q := 34) C dX7_removeStation_31 (by decide) rfl (fun c13 => ?_) (fun c13 => ?_)
      · replace hf := (ite_s hf).1 c13
        refine V_aload_n (q := 37) C dX7_removeStation_36 rfl rfl 0 rfl ?_
        refine GM_0_1 (q := 40) C q_1183 dX7_removeStation_37 rfl ?_
        refine V_iconst (v := 0) (q := 41) C dX7_removeStation_40 rfl ic_0 ?_
        refine V_dup2 (q := 42) C dX7_removeStation_41 rfl rfl rfl ?_
        refine RM_1 (z := 0) (q := 43) C tn_0 (inb_in (by decide)) dX7_removeStation_42 rfl ?_
        refine V_iconst (v := 1) (q := 44) C dX7_removeStation_43 rfl ic_1 ?_
        refine V_isub (q := 45) C dX7_removeStation_44 rfl ?_
        refine SM_1 (z := 0) (q := 46) C tn_0 (inb_in (by decide)) dX7_removeStation_45 rfl ?_
        refine V_lets hf (fun σ14 hf => ?_)
        refine V_iconst (v := 0) (q := 47) C dX7_removeStation_46 rfl ic_0 ?_
        refine V_istore_n (L' := [(1, .int (0 : Int32)), (0, .ref (ad 0))]) (q := 48) C dX7_removeStation_47 rfl rfl (by decide) rfl ?_
        refine V_sub (L' := [(0, .ref (ad 0)), (1, .int (0 : Int32))]) [1, 0] rfl ?_
        refine wlX7_removeStation_48 C F _ (fun σ24 hf => ?_) FU _ _ hf
        refine V_aload_n (q := 109) C dX7_removeStation_108 rfl rfl 0 rfl ?_
        refine GM_0_1 (q := 112) C q_1183 dX7_removeStation_109 rfl ?_
        refine V_iconst (v := 0) (q := 113) C dX7_removeStation_112 rfl ic_0 ?_
        refine RM_1 (z := 0) (q := 114) C tn_0 (inb_in (by decide)) dX7_removeStation_113 rfl ?_
        obtain ⟨e1, e2⟩ := pr_s hf
        subst e1; subst e2
        exact V_iret C F (by decide) (by decide) dX7_removeStation_114
      · replace hf := (ite_s hf).2 c13
        refine V_iconst (v := 0) (q := 35) C dX7_removeStation_34 rfl ic_0 ?_
        obtain ⟨e1, e2⟩ := pr_s hf
        subst e1; subst e2
        exact V_iret C F (by decide) (by decide) dX7_removeStation_35
    refine V_if_ne (t := 27) (q := 23) C dX7_removeStation_20 (by decide) rfl (fun c25 => ?_) (fun c25 => ?_)
    · replace hf := (ite_s hf).2 c25
      refine V_iconst (v := 0) (q := 28) C dX7_removeStation_27 rfl ic_0 ?_
      exact hJ28 _ _ hf
    · replace hf := (ite_s hf).1 c25
      refine V_iconst (v := 1) (q := 24) C dX7_removeStation_23 rfl ic_1 ?_
      refine V_goto (t := 28) C dX7_removeStation_24 (by decide) ?_
      exact hJ28 _ _ hf
def rmX7_repack : Room := { frames := 20, cells := 0, slots := 0, locals := 532 }
def fX7_repack_50 (a : Int32) (K : Sg → Option (Int32 × Sg)) : Nat → Int32 → Sg → Option (Int32 × Sg)
  | 0, _, _ => none
  | n + 1, x21, σ22 => if (σ22 1 0) ≤ x21 then (K σ22) else (gd (inb ((52 : Int32) + x21) 2764) (gd (inb x21 12) (lt' (sup σ22 9 x21.toNatClampNeg (σ22 1 (((52 : Int32) + x21).toNatClampNeg))) (fun (σ26 : Sg) => jp (fun (v27 : Int32) (σ28 : Sg) => gd (inb x21 12) (lt' (sup σ28 8 x21.toNatClampNeg v27) (fun (σ30 : Sg) => gd (inb x21 12) (jp (fun (σ32 : Sg) => fX7_repack_50 a K n (x21 + (1 : Int32)) σ32) (fun (J126 : Sg → Option (Int32 × Sg)) => if (σ30 8 x21.toNatClampNeg) < 0 then (J126  σ30) else (bd (fX7_isPossibleFixed a σ30) (fun (r34 : Int32) (σ35 : Sg) => if r34 = 0 then (gd (inb x21 12) (lt' (sup σ35 8 x21.toNatClampNeg (-1 : Int32)) (fun (σ39 : Sg) => J126  σ39))) else (J126  σ35)))))))) (fun (J101 : Int32 → Sg → Option (Int32 × Sg)) => if (pX7_has a x21) = 0 then (J101 (-1 : Int32) σ26) else (gd (inb ((52 : Int32) + x21) 2764) (J101 (σ26 1 (((52 : Int32) + x21).toNatClampNeg)) σ26)))))))
def fX7_repack_141 (a : Int32) : Nat → Int32 → Int32 → Sg → Option (Int32 × Sg)
  | 0, _, _, _ => none
  | n + 1, x45, x46, σ47 => if (σ47 1 0) ≤ x46 then (some (x45, σ47)) else (jp (fun (v49 : Int32) (σ50 : Sg) => lt' ((x45 + v49)) (fun (x51 : Int32) => fX7_repack_141 a n x51 (x46 + (1 : Int32)) σ50)) (fun (J183 : Int32 → Sg → Option (Int32 × Sg)) => jp (fun (σ52 : Sg) => J183 (0 : Int32) σ52) (fun (J182 : Sg → Option (Int32 × Sg)) => if (pX7_has a x46) = 0 then (J182  σ47) else (gd (inb ((52 : Int32) + x46) 2764) (gd (inb x46 12) (if (σ47 1 (((52 : Int32) + x46).toNatClampNeg)) = (σ47 9 x46.toNatClampNeg) then (J182  σ47) else (J183 (1 : Int32) σ47)))))))
def fX7_repack (a : Int32) (σ : Sg) : Option (Int32 × Sg) := bd (fX7_areStations a σ) (fun (r1 : Int32) (σ2 : Sg) => jp (fun (v4 : Int32) (σ5 : Sg) => bd (fX7_fails (1 : Int32) v4 σ5) (fun (r6 : Int32) (σ7 : Sg) => if r6 = 0 then (bd (fX7_isPossible a σ7) (fun (r10 : Int32) (σ11 : Sg) => jp (fun (v13 : Int32) (σ14 : Sg) => bd (fX7_fails (2 : Int32) v13 σ14) (fun (r15 : Int32) (σ16 : Sg) => if r15 = 0 then (bd (fX7_fixNone  σ16) (fun (_ : Unit) (σ19 : Sg) => fX7_repack_50 a (fun (σ42 : Sg) => bd (fX7_keepFirst a σ42) (fun (_ : Unit) (σ43 : Sg) => fX7_repack_141 a FU (0 : Int32) (0 : Int32) σ43)) FU (0 : Int32) σ19)) else (some ((0 : Int32), σ16)))) (fun (J36 : Int32 → Sg → Option (Int32 × Sg)) => if r10 = 0 then (J36 (1 : Int32) σ11) else (J36 (0 : Int32) σ11)))) else (some ((0 : Int32), σ7)))) (fun (J15 : Int32 → Sg → Option (Int32 × Sg)) => if r1 = 0 then (J15 (1 : Int32) σ2) else (J15 (0 : Int32) σ2)))
set_option maxHeartbeats 4000000 in
theorem wlX7_repack_50 {X : Cx} {G : Gx} {ad : Nat → Nat} {Q : State → Prop} {r : Int32} {σf : Sg} (C : OK wM X G ad RX7 cX7_repack 4 rmX7_repack) (F : FinR wM X G ad Q 0 0 (some .int) (some (.int r)) σf) (a : Int32) (K : Sg → Option (Int32 × Sg)) (hK : ∀ (σk : Sg), K σk = some (r, σf) → V wM X G ad 4 Q 0 0 σk 132 [(0, .ref (ad 0)), (1, .int a)] []) : ∀ (n : Nat) (x21 : Int32) (σ22 : Sg), fX7_repack_50 a K n x21 σ22 = some (r, σf) → V wM X G ad 4 Q 0 0 σ22 50 [(0, .ref (ad 0)), (1, .int a), (2, .int x21)] [] := by
  intro n
  induction n with
  | zero =>
    intro _ _ hf
    exact absurd hf (by simp [fX7_repack_50])
  | succ n ih =>
    intro x21 σ22 hf
    rw [fX7_repack_50] at hf
    refine V_iload_n (q := 51) C dX7_repack_50 rfl rfl 2 rfl ?_
    refine V_aload_n (q := 52) C dX7_repack_51 rfl rfl 0 rfl ?_
    refine GM_0_1 (q := 55) C q_1183 dX7_repack_52 rfl ?_
    refine V_iconst (v := 0) (q := 56) C dX7_repack_55 rfl ic_0 ?_
    refine RM_1 (z := 0) (q := 57) C tn_0 (inb_in (by decide)) dX7_repack_56 rfl ?_
    refine V_icmp_ge (t := 132) (q := 60) C dX7_repack_57 (by decide) rfl (fun c23 => ?_) (fun c23 => ?_)
    · replace hf := (ite_s hf).1 c23
      refine V_sub (L' := [(0, .ref (ad 0)), (1, .int a)]) [0, 1] rfl ?_
      exact hK _ hf
    · replace hf := (ite_s hf).2 c23
      refine V_aload_n (q := 61) C dX7_repack_60 rfl rfl 0 rfl ?_
      refine GM_0_16 (q := 64) C q_1198 dX7_repack_61 rfl ?_
      refine V_iload_n (q := 65) C dX7_repack_64 rfl rfl 2 rfl ?_
      refine V_aload_n (q := 66) C dX7_repack_65 rfl rfl 0 rfl ?_
      refine GM_0_1 (q := 69) C q_1183 dX7_repack_66 rfl ?_
      refine V_bipush (v := 52) (q := 71) C dX7_repack_69 rfl bc_52 ?_
      refine V_iload_n (q := 72) C dX7_repack_71 rfl rfl 2 rfl ?_
      refine V_iadd (q := 73) C dX7_repack_72 rfl ?_
      obtain ⟨g24, hf⟩ := gd_s hf
      refine RM_1 (z := ((52 : Int32) + x21).toNatClampNeg) (q := 74) C rfl (inb_in g24) dX7_repack_73 rfl ?_
      obtain ⟨g25, hf⟩ := gd_s hf
      refine SM_9 (z := x21.toNatClampNeg) (q := 75) C rfl (inb_in g25) dX7_repack_74 rfl ?_
      refine V_lets hf (fun σ26 hf => ?_)
      refine V_aload_n (q := 76) C dX7_repack_75 rfl rfl 0 rfl ?_
      refine GM_0_15 (q := 79) C q_1197 dX7_repack_76 rfl ?_
      refine V_iload_n (q := 80) C dX7_repack_79 rfl rfl 2 rfl ?_
      refine V_iload_n (q := 81) C dX7_repack_80 rfl rfl 1 rfl ?_
      refine V_iload_n (q := 82) C dX7_repack_81 rfl rfl 2 rfl ?_
      refine V_callS (av := [.int a, .int x21]) (st := [.int x21, .ref (ad 8)]) (st1 := [.int (pX7_has a x21), .int x21, .ref (ad 8)]) (q := 85) C (conX7_has _ _ _ _ _ _ _ rfl) q_1314 q_114 q_1312 q_1313 nmX7_has (by decide) rfl rfl (Nat.le_of_ble_eq_true rfl) dX7_repack_82 rfl rfl ?_
      obtain ⟨J101, eJ101, hf⟩ := jp_s hf
      have hJ101 : ∀ (v27 : Int32) (σ28 : Sg), J101 v27 σ28 = some (r, σf) → V wM X G ad 4 Q 0 0 σ28 101 [(0, .ref (ad 0)), (1, .int a), (2, .int x21)] [.int v27, .int x21, .ref (ad 8)] := by
        intro v27 σ28 hf
        subst eJ101
        obtain ⟨g29, hf⟩ := gd_s hf
        refine SM_8 (z := x21.toNatClampNeg) (q := 102) C rfl (inb_in g29) dX7_repack_101 rfl ?_
        refine V_lets hf (fun σ30 hf => ?_)
        refine V_aload_n (q := 103) C dX7_repack_102 rfl rfl 0 rfl ?_
        refine GM_0_15 (q := 106) C q_1197 dX7_repack_103 rfl ?_
        refine V_iload_n (q := 107) C dX7_repack_106 rfl rfl 2 rfl ?_
        obtain ⟨g31, hf⟩ := gd_s hf
        refine RM_8 (z := x21.toNatClampNeg) (q := 108) C rfl (inb_in g31) dX7_repack_107 rfl ?_
        obtain ⟨J126, eJ126, hf⟩ := jp_s hf
        have hJ126 : ∀ (σ32 : Sg), J126 σ32 = some (r, σf) → V wM X G ad 4 Q 0 0 σ32 126 [(0, .ref (ad 0)), (1, .int a), (2, .int x21)] [] := by
          intro σ32 hf
          subst eJ126
          refine V_iinc (L' := [(2, .int (x21 + (1 : Int32))), (0, .ref (ad 0)), (1, .int a)]) (q := 129) C dX7_repack_126 rfl 2 rfl (congrArg (fun y => x21 + y) ic_1) (by decide) rfl ?_
          refine V_goto (t := 50) C dX7_repack_129 (by decide) ?_
          refine V_sub (L' := [(0, .ref (ad 0)), (1, .int a), (2, .int (x21 + (1 : Int32)))]) [1, 2, 0] rfl ?_
          exact ih _ _ hf
        refine V_if_lt (t := 126) (q := 111) C dX7_repack_108 (by decide) rfl (fun c33 => ?_) (fun c33 => ?_)
        · replace hf := (ite_s hf).1 c33
          exact hJ126 _ hf
        · replace hf := (ite_s hf).2 c33
          refine V_aload_n (q := 112) C dX7_repack_111 rfl rfl 0 rfl ?_
          refine V_iload_n (q := 113) C dX7_repack_112 rfl rfl 1 rfl ?_
          obtain ⟨r34, σ35, h36, hf⟩ := bd_s hf
          refine V_callV (av := [.int a]) (st := []) (st1 := [.int r34]) (q := 116) C 0 (by decide) (eM_0 G ad _) rfl rfl (conX7_isPossibleFixed _ _ _ _ _ _ _ h36) q_1416 q_114 q_1413 q_1415 q_87 nmX7_isPossibleFixed (by decide) rfl rfl (Nat.le_of_ble_eq_true rfl) dX7_repack_113 rfl rfl ?_
          refine V_if_ne (t := 126) (q := 119) C dX7_repack_116 (by decide) rfl (fun c37 => ?_) (fun c37 => ?_)
          · replace hf := (ite_s hf).2 c37
            exact hJ126 _ hf
          · replace hf := (ite_s hf).1 c37
            refine V_aload_n (q := 120) C dX7_repack_119 rfl rfl 0 rfl ?_
            refine GM_0_15 (q := 123) C q_1197 dX7_repack_120 rfl ?_
            refine V_iload_n (q := 124) C dX7_repack_123 rfl rfl 2 rfl ?_
            refine V_iconst (v := (-1)) (q := 125) C dX7_repack_124 rfl ic_m1 ?_
            obtain ⟨g38, hf⟩ := gd_s hf
            refine SM_8 (z := x21.toNatClampNeg) (q := 126) C rfl (inb_in g38) dX7_repack_125 rfl ?_
            refine V_lets hf (fun σ39 hf => ?_)
            exact hJ126 _ hf
      refine V_if_eq (t := 100) (q := 88) C dX7_repack_85 (by decide) rfl (fun c40 => ?_) (fun c40 => ?_)
      · replace hf := (ite_s hf).1 c40
        refine V_iconst (v := (-1)) (q := 101) C dX7_repack_100 rfl ic_m1 ?_
        exact hJ101 _ _ hf
      · replace hf := (ite_s hf).2 c40
        refine V_aload_n (q := 89) C dX7_repack_88 rfl rfl 0 rfl ?_
        refine GM_0_1 (q := 92) C q_1183 dX7_repack_89 rfl ?_
        refine V_bipush (v := 52) (q := 94) C dX7_repack_92 rfl bc_52 ?_
        refine V_iload_n (q := 95) C dX7_repack_94 rfl rfl 2 rfl ?_
        refine V_iadd (q := 96) C dX7_repack_95 rfl ?_
        obtain ⟨g41, hf⟩ := gd_s hf
        refine RM_1 (z := ((52 : Int32) + x21).toNatClampNeg) (q := 97) C rfl (inb_in g41) dX7_repack_96 rfl ?_
        refine V_goto (t := 101) C dX7_repack_97 (by decide) ?_
        exact hJ101 _ _ hf
set_option maxHeartbeats 4000000 in
theorem wlX7_repack_141 {X : Cx} {G : Gx} {ad : Nat → Nat} {Q : State → Prop} {r : Int32} {σf : Sg} (C : OK wM X G ad RX7 cX7_repack 4 rmX7_repack) (F : FinR wM X G ad Q 0 0 (some .int) (some (.int r)) σf) (a : Int32) : ∀ (n : Nat) (x45 : Int32) (x46 : Int32) (σ47 : Sg), fX7_repack_141 a n x45 x46 σ47 = some (r, σf) → V wM X G ad 4 Q 0 0 σ47 141 [(0, .ref (ad 0)), (1, .int a), (2, .int x45), (3, .int x46)] [] := by
  intro n
  induction n with
  | zero =>
    intro _ _ _ hf
    exact absurd hf (by simp [fX7_repack_141])
  | succ n ih =>
    intro x45 x46 σ47 hf
    rw [fX7_repack_141] at hf
    refine V_iload_n (q := 142) C dX7_repack_141 rfl rfl 3 rfl ?_
    refine V_aload_n (q := 143) C dX7_repack_142 rfl rfl 0 rfl ?_
    refine GM_0_1 (q := 146) C q_1183 dX7_repack_143 rfl ?_
    refine V_iconst (v := 0) (q := 147) C dX7_repack_146 rfl ic_0 ?_
    refine RM_1 (z := 0) (q := 148) C tn_0 (inb_in (by decide)) dX7_repack_147 rfl ?_
    refine V_icmp_ge (t := 191) (q := 151) C dX7_repack_148 (by decide) rfl (fun c48 => ?_) (fun c48 => ?_)
    · replace hf := (ite_s hf).1 c48
      refine V_iload_n (q := 192) C dX7_repack_191 rfl rfl 2 rfl ?_
      obtain ⟨e1, e2⟩ := pr_s hf
      subst e1; subst e2
      exact V_iret C F (by decide) (by decide) dX7_repack_192
    · replace hf := (ite_s hf).2 c48
      refine V_iload_n (q := 152) C dX7_repack_151 rfl rfl 2 rfl ?_
      refine V_iload_n (q := 153) C dX7_repack_152 rfl rfl 1 rfl ?_
      refine V_iload_n (q := 154) C dX7_repack_153 rfl rfl 3 rfl ?_
      refine V_callS (av := [.int a, .int x46]) (st := [.int x45]) (st1 := [.int (pX7_has a x46), .int x45]) (q := 157) C (conX7_has _ _ _ _ _ _ _ rfl) q_1314 q_114 q_1312 q_1313 nmX7_has (by decide) rfl rfl (Nat.le_of_ble_eq_true rfl) dX7_repack_154 rfl rfl ?_
      obtain ⟨J183, eJ183, hf⟩ := jp_s hf
      have hJ183 : ∀ (v49 : Int32) (σ50 : Sg), J183 v49 σ50 = some (r, σf) → V wM X G ad 4 Q 0 0 σ50 183 [(0, .ref (ad 0)), (1, .int a), (3, .int x46)] [.int v49, .int x45] := by
        intro v49 σ50 hf
        subst eJ183
        refine V_iadd (q := 184) C dX7_repack_183 rfl ?_
        refine V_let (cv := Value.int) hf (fun x51 hf => ?_)
        refine V_istore_n (L' := [(2, .int x51), (0, .ref (ad 0)), (1, .int a), (3, .int x46)]) (q := 185) C dX7_repack_184 rfl rfl (by decide) rfl ?_
        refine V_iinc (L' := [(3, .int (x46 + (1 : Int32))), (2, .int x51), (0, .ref (ad 0)), (1, .int a)]) (q := 188) C dX7_repack_185 rfl 3 rfl (congrArg (fun y => x46 + y) ic_1) (by decide) rfl ?_
        refine V_goto (t := 141) C dX7_repack_188 (by decide) ?_
        refine V_sub (L' := [(0, .ref (ad 0)), (1, .int a), (2, .int x51), (3, .int (x46 + (1 : Int32)))]) [2, 3, 1, 0] rfl ?_
        exact ih _ _ _ hf
      obtain ⟨J182, eJ182, hf⟩ := jp_s hf
      have hJ182 : ∀ (σ52 : Sg), J182 σ52 = some (r, σf) → V wM X G ad 4 Q 0 0 σ52 182 [(0, .ref (ad 0)), (1, .int a), (3, .int x46)] [.int x45] := by
        intro σ52 hf
        subst eJ182
        refine V_iconst (v := 0) (q := 183) C dX7_repack_182 rfl ic_0 ?_
        exact hJ183 _ _ hf
      refine V_if_eq (t := 182) (q := 160) C dX7_repack_157 (by decide) rfl (fun c53 => ?_) (fun c53 => ?_)
      · replace hf := (ite_s hf).1 c53
        refine V_sub (L' := [(0, .ref (ad 0)), (1, .int a), (3, .int x46)]) [0, 1, 3] rfl ?_
        exact hJ182 _ hf
      · replace hf := (ite_s hf).2 c53
        refine V_aload_n (q := 161) C dX7_repack_160 rfl rfl 0 rfl ?_
        refine GM_0_1 (q := 164) C q_1183 dX7_repack_161 rfl ?_
        refine V_bipush (v := 52) (q := 166) C dX7_repack_164 rfl bc_52 ?_
        refine V_iload_n (q := 167) C dX7_repack_166 rfl rfl 3 rfl ?_
        refine V_iadd (q := 168) C dX7_repack_167 rfl ?_
        obtain ⟨g54, hf⟩ := gd_s hf
        refine RM_1 (z := ((52 : Int32) + x46).toNatClampNeg) (q := 169) C rfl (inb_in g54) dX7_repack_168 rfl ?_
        refine V_aload_n (q := 170) C dX7_repack_169 rfl rfl 0 rfl ?_
        refine GM_0_16 (q := 173) C q_1198 dX7_repack_170 rfl ?_
        refine V_iload_n (q := 174) C dX7_repack_173 rfl rfl 3 rfl ?_
        obtain ⟨g55, hf⟩ := gd_s hf
        refine RM_9 (z := x46.toNatClampNeg) (q := 175) C rfl (inb_in g55) dX7_repack_174 rfl ?_
        refine V_icmp_eq (t := 182) (q := 178) C dX7_repack_175 (by decide) rfl (fun c56 => ?_) (fun c56 => ?_)
        · replace hf := (ite_s hf).1 c56
          refine V_sub (L' := [(0, .ref (ad 0)), (1, .int a), (3, .int x46)]) [0, 1, 3] rfl ?_
          exact hJ182 _ hf
        · replace hf := (ite_s hf).2 c56
          refine V_iconst (v := 1) (q := 179) C dX7_repack_178 rfl ic_1 ?_
          refine V_goto (t := 183) C dX7_repack_179 (by decide) ?_
          refine V_sub (L' := [(0, .ref (ad 0)), (1, .int a), (3, .int x46)]) [0, 1, 3] rfl ?_
          exact hJ183 _ _ hf
set_option maxHeartbeats 4000000 in
theorem conX7_repack (l : Launch) (G : Gx) (ad : Nat → Nat) (a : Int32) (σ : Sg) (r : Int32) (σf : Sg)  (hf : fX7_repack a σ = some (r, σf)) : Con wM l G ad yX7_repack (Cond.code yX7_repack cX7_repack 4 (some .int)) rmX7_repack 0 0 [.ref (ad 0), .int a] σ (some (.int r)) σf := by
  refine Con.start (by decide) (Nat.le_of_ble_eq_true rfl) (fun X Q _ C F => ?_)
  refine V_eq (L' := [(0, .ref (ad 0)), (1, .int a)]) (st' := []) rfl rfl rfl ?_
  unfold fX7_repack at hf
  refine V_aload_n (q := 1) C dX7_repack_0 rfl rfl 0 rfl ?_
  refine V_iconst (v := 1) (q := 2) C dX7_repack_1 rfl ic_1 ?_
  refine V_aload_n (q := 3) C dX7_repack_2 rfl rfl 0 rfl ?_
  refine V_iload_n (q := 4) C dX7_repack_3 rfl rfl 1 rfl ?_
  obtain ⟨r1, σ2, h3, hf⟩ := bd_s hf
  refine V_callV (av := [.int a]) (st := [.int (1 : Int32), .ref (ad 0)]) (st1 := [.int r1, .int (1 : Int32), .ref (ad 0)]) (q := 7) C 0 (by decide) (eM_0 G ad _) rfl rfl (conX7_areStations _ _ _ _ _ _ _ h3) q_1376 q_114 q_1373 q_1375 q_78 nmX7_areStations (by decide) rfl rfl (Nat.le_of_ble_eq_true rfl) dX7_repack_4 rfl rfl ?_
  obtain ⟨J15, eJ15, hf⟩ := jp_s hf
  have hJ15 : ∀ (v4 : Int32) (σ5 : Sg), J15 v4 σ5 = some (r, σf) → V wM X G ad 4 Q 0 0 σ5 15 [(0, .ref (ad 0)), (1, .int a)] [.int v4, .int (1 : Int32), .ref (ad 0)] := by
    intro v4 σ5 hf
    subst eJ15
    obtain ⟨r6, σ7, h8, hf⟩ := bd_s hf
    refine V_callV (av := [.int (1 : Int32), .int v4]) (st := []) (st1 := [.int r6]) (q := 18) C 0 (by decide) (eM_0 G ad _) rfl rfl (conX7_fails _ _ _ _ _ _ _ _ h8) q_1251 q_114 q_1248 q_1250 q_64 nmX7_fails (by decide) rfl rfl (Nat.le_of_ble_eq_true rfl) dX7_repack_15 rfl rfl ?_
    refine V_if_ne (t := 42) (q := 21) C dX7_repack_18 (by decide) rfl (fun c9 => ?_) (fun c9 => ?_)
    · replace hf := (ite_s hf).2 c9
      refine V_iconst (v := 0) (q := 43) C dX7_repack_42 rfl ic_0 ?_
      obtain ⟨e1, e2⟩ := pr_s hf
      subst e1; subst e2
      exact V_iret C F (by decide) (by decide) dX7_repack_43
    · replace hf := (ite_s hf).1 c9
      refine V_aload_n (q := 22) C dX7_repack_21 rfl rfl 0 rfl ?_
      refine V_iconst (v := 2) (q := 23) C dX7_repack_22 rfl ic_2 ?_
      refine V_aload_n (q := 24) C dX7_repack_23 rfl rfl 0 rfl ?_
      refine V_iload_n (q := 25) C dX7_repack_24 rfl rfl 1 rfl ?_
      obtain ⟨r10, σ11, h12, hf⟩ := bd_s hf
      refine V_callV (av := [.int a]) (st := [.int (2 : Int32), .ref (ad 0)]) (st1 := [.int r10, .int (2 : Int32), .ref (ad 0)]) (q := 28) C 0 (by decide) (eM_0 G ad _) rfl rfl (conX7_isPossible _ _ _ _ _ _ _ h12) q_1380 q_114 q_1377 q_1379 q_79 nmX7_isPossible (by decide) rfl rfl (Nat.le_of_ble_eq_true rfl) dX7_repack_25 rfl rfl ?_
      obtain ⟨J36, eJ36, hf⟩ := jp_s hf
      have hJ36 : ∀ (v13 : Int32) (σ14 : Sg), J36 v13 σ14 = some (r, σf) → V wM X G ad 4 Q 0 0 σ14 36 [(0, .ref (ad 0)), (1, .int a)] [.int v13, .int (2 : Int32), .ref (ad 0)] := by
        intro v13 σ14 hf
        subst eJ36
        obtain ⟨r15, σ16, h17, hf⟩ := bd_s hf
        refine V_callV (av := [.int (2 : Int32), .int v13]) (st := []) (st1 := [.int r15]) (q := 39) C 0 (by decide) (eM_0 G ad _) rfl rfl (conX7_fails _ _ _ _ _ _ _ _ h17) q_1251 q_114 q_1248 q_1250 q_64 nmX7_fails (by decide) rfl rfl (Nat.le_of_ble_eq_true rfl) dX7_repack_36 rfl rfl ?_
        refine V_if_eq (t := 44) (q := 42) C dX7_repack_39 (by decide) rfl (fun c18 => ?_) (fun c18 => ?_)
        · replace hf := (ite_s hf).1 c18
          refine V_aload_n (q := 45) C dX7_repack_44 rfl rfl 0 rfl ?_
          obtain ⟨_u, σ19, h20, hf⟩ := bd_s hf
          refine V_callV (av := []) (st := []) (st1 := []) (q := 48) C 0 (by decide) (eM_0 G ad _) rfl rfl (conX7_fixNone _ _ _  _ _ h20) q_1408 q_114 q_1405 q_1407 q_85 nmX7_fixNone (by decide) rfl rfl (Nat.le_of_ble_eq_true rfl) dX7_repack_45 rfl rfl ?_
          refine V_iconst (v := 0) (q := 49) C dX7_repack_48 rfl ic_0 ?_
          refine V_istore_n (L' := [(2, .int (0 : Int32)), (0, .ref (ad 0)), (1, .int a)]) (q := 50) C dX7_repack_49 rfl rfl (by decide) rfl ?_
          refine V_sub (L' := [(0, .ref (ad 0)), (1, .int a), (2, .int (0 : Int32))]) [1, 2, 0] rfl ?_
          refine wlX7_repack_50 C F a _ (fun σ42 hf => ?_) FU _ _ hf
          refine V_aload_n (q := 133) C dX7_repack_132 rfl rfl 0 rfl ?_
          refine V_iload_n (q := 134) C dX7_repack_133 rfl rfl 1 rfl ?_
          obtain ⟨_u, σ43, h44, hf⟩ := bd_s hf
          refine V_callV (av := [.int a]) (st := []) (st1 := []) (q := 137) C 0 (by decide) (eM_0 G ad _) rfl rfl (conX7_keepFirst _ _ _ _ _ _ h44) q_1412 q_114 q_1409 q_1411 q_86 nmX7_keepFirst (by decide) rfl rfl (Nat.le_of_ble_eq_true rfl) dX7_repack_134 rfl rfl ?_
          refine V_iconst (v := 0) (q := 138) C dX7_repack_137 rfl ic_0 ?_
          refine V_istore_n (L' := [(2, .int (0 : Int32)), (0, .ref (ad 0)), (1, .int a)]) (q := 139) C dX7_repack_138 rfl rfl (by decide) rfl ?_
          refine V_iconst (v := 0) (q := 140) C dX7_repack_139 rfl ic_0 ?_
          refine V_istore_n (L' := [(3, .int (0 : Int32)), (2, .int (0 : Int32)), (0, .ref (ad 0)), (1, .int a)]) (q := 141) C dX7_repack_140 rfl rfl (by decide) rfl ?_
          refine V_sub (L' := [(0, .ref (ad 0)), (1, .int a), (2, .int (0 : Int32)), (3, .int (0 : Int32))]) [2, 3, 1, 0] rfl ?_
          refine wlX7_repack_141 C F a FU _ _ _ hf
        · replace hf := (ite_s hf).2 c18
          refine V_iconst (v := 0) (q := 43) C dX7_repack_42 rfl ic_0 ?_
          obtain ⟨e1, e2⟩ := pr_s hf
          subst e1; subst e2
          exact V_iret C F (by decide) (by decide) dX7_repack_43
      refine V_if_ne (t := 35) (q := 31) C dX7_repack_28 (by decide) rfl (fun c57 => ?_) (fun c57 => ?_)
      · replace hf := (ite_s hf).2 c57
        refine V_iconst (v := 0) (q := 36) C dX7_repack_35 rfl ic_0 ?_
        exact hJ36 _ _ hf
      · replace hf := (ite_s hf).1 c57
        refine V_iconst (v := 1) (q := 32) C dX7_repack_31 rfl ic_1 ?_
        refine V_goto (t := 36) C dX7_repack_32 (by decide) ?_
        exact hJ36 _ _ hf
  refine V_if_ne (t := 14) (q := 10) C dX7_repack_7 (by decide) rfl (fun c58 => ?_) (fun c58 => ?_)
  · replace hf := (ite_s hf).2 c58
    refine V_iconst (v := 0) (q := 15) C dX7_repack_14 rfl ic_0 ?_
    exact hJ15 _ _ hf
  · replace hf := (ite_s hf).1 c58
    refine V_iconst (v := 1) (q := 11) C dX7_repack_10 rfl ic_1 ?_
    refine V_goto (t := 15) C dX7_repack_11 (by decide) ?_
    exact hJ15 _ _ hf
def rmX7_copy_2_1 : Room := { frames := 0, cells := 0, slots := 0, locals := 0 }
def fX7_copy_2_1_2 : Nat → Int32 → Sg → Option (Unit × Sg)
  | 0, _, _ => none
  | n + 1, x1, σ2 => if (2764 : Int32) ≤ x1 then (some ((), σ2)) else (gd (inb x1 2764) (gd (inb x1 2764) (lt' (sup σ2 1 x1.toNatClampNeg (σ2 2 x1.toNatClampNeg)) (fun (σ6 : Sg) => fX7_copy_2_1_2 n (x1 + (1 : Int32)) σ6))))
def fX7_copy_2_1  (σ : Sg) : Option (Unit × Sg) := fX7_copy_2_1_2 FU (0 : Int32) σ
set_option maxHeartbeats 4000000 in
theorem wlX7_copy_2_1_2 {X : Cx} {G : Gx} {ad : Nat → Nat} {Q : State → Prop} {σf : Sg} (C : OK wM X G ad RX7 cX7_copy 3 rmX7_copy_2_1) (F : FinR wM X G ad Q 0 0 none none σf) : ∀ (n : Nat) (x1 : Int32) (σ2 : Sg), fX7_copy_2_1_2 n x1 σ2 = some ((), σf) → V wM X G ad 3 Q 0 0 σ2 2 [(0, .ref (ad 2)), (1, .ref (ad 1)), (2, .int x1)] [] := by
  intro n
  induction n with
  | zero =>
    intro _ _ hf
    exact absurd hf (by simp [fX7_copy_2_1_2])
  | succ n ih =>
    intro x1 σ2 hf
    rw [fX7_copy_2_1_2] at hf
    refine V_iload_n (q := 3) C dX7_copy_2 rfl rfl 2 rfl ?_
    refine V_aload_n (q := 4) C dX7_copy_3 rfl rfl 0 rfl ?_
    refine LM_2 (q := 5) C dX7_copy_4 rfl ?_
    refine V_icmp_ge (t := 20) (q := 8) C dX7_copy_5 (by decide) rfl (fun c3 => ?_) (fun c3 => ?_)
    · replace hf := (ite_s hf).1 c3
      obtain ⟨-, e2⟩ := pr_s hf
      subst e2
      exact V_vret C F (by decide) (by decide) dX7_copy_20
    · replace hf := (ite_s hf).2 c3
      refine V_aload_n (q := 9) C dX7_copy_8 rfl rfl 1 rfl ?_
      refine V_iload_n (q := 10) C dX7_copy_9 rfl rfl 2 rfl ?_
      refine V_aload_n (q := 11) C dX7_copy_10 rfl rfl 0 rfl ?_
      refine V_iload_n (q := 12) C dX7_copy_11 rfl rfl 2 rfl ?_
      obtain ⟨g4, hf⟩ := gd_s hf
      refine RM_2 (z := x1.toNatClampNeg) (q := 13) C rfl (inb_in g4) dX7_copy_12 rfl ?_
      obtain ⟨g5, hf⟩ := gd_s hf
      refine SM_1 (z := x1.toNatClampNeg) (q := 14) C rfl (inb_in g5) dX7_copy_13 rfl ?_
      refine V_lets hf (fun σ6 hf => ?_)
      refine V_iinc (L' := [(2, .int (x1 + (1 : Int32))), (0, .ref (ad 2)), (1, .ref (ad 1))]) (q := 17) C dX7_copy_14 rfl 2 rfl (congrArg (fun y => x1 + y) ic_1) (by decide) rfl ?_
      refine V_goto (t := 2) C dX7_copy_17 (by decide) ?_
      refine V_sub (L' := [(0, .ref (ad 2)), (1, .ref (ad 1)), (2, .int (x1 + (1 : Int32)))]) [1, 2, 0] rfl ?_
      exact ih _ _ hf
set_option maxHeartbeats 4000000 in
theorem conX7_copy_2_1 (l : Launch) (G : Gx) (ad : Nat → Nat)  (σ : Sg) (σf : Sg)  (hf : fX7_copy_2_1  σ = some ((), σf)) : Con wM l G ad yX7_copy (Cond.code yX7_copy cX7_copy 3 none) rmX7_copy_2_1 0 0 [.ref (ad 2), .ref (ad 1)] σ none σf := by
  refine Con.start (by decide) (Nat.le_of_ble_eq_true rfl) (fun X Q _ C F => ?_)
  refine V_eq (L' := [(0, .ref (ad 2)), (1, .ref (ad 1))]) (st' := []) rfl rfl rfl ?_
  unfold fX7_copy_2_1 at hf
  refine V_iconst (v := 0) (q := 1) C dX7_copy_0 rfl ic_0 ?_
  refine V_istore_n (L' := [(2, .int (0 : Int32)), (0, .ref (ad 2)), (1, .ref (ad 1))]) (q := 2) C dX7_copy_1 rfl rfl (by decide) rfl ?_
  refine V_sub (L' := [(0, .ref (ad 2)), (1, .ref (ad 1)), (2, .int (0 : Int32))]) [1, 2, 0] rfl ?_
  refine wlX7_copy_2_1_2 C F FU _ _ hf
def rmX7_restore : Room := { frames := 1, cells := 0, slots := 0, locals := 22 }
def fX7_restore  (σ : Sg) : Option (Int32 × Sg) := jp (fun (v1 : Int32) (σ2 : Sg) => bd (fX7_fails (1 : Int32) v1 σ2) (fun (r3 : Int32) (σ4 : Sg) => if r3 = 0 then (bd (fX7_copy_2_1  σ4) (fun (_ : Unit) (σ7 : Sg) => some ((σ7 1 0), σ7))) else (some ((0 : Int32), σ4)))) (fun (J14 : Int32 → Sg → Option (Int32 × Sg)) => if (σ 0 3) = 0 then (J14 (1 : Int32) σ) else (J14 (0 : Int32) σ))
set_option maxHeartbeats 4000000 in
theorem conX7_restore (l : Launch) (G : Gx) (ad : Nat → Nat)  (σ : Sg) (r : Int32) (σf : Sg)  (hf : fX7_restore  σ = some (r, σf)) : Con wM l G ad yX7_restore (Cond.code yX7_restore cX7_restore 1 (some .int)) rmX7_restore 0 0 [.ref (ad 0)] σ (some (.int r)) σf := by
  refine Con.start (by decide) (Nat.le_of_ble_eq_true rfl) (fun X Q _ C F => ?_)
  refine V_eq (L' := [(0, .ref (ad 0))]) (st' := []) rfl rfl rfl ?_
  unfold fX7_restore at hf
  refine V_aload_n (q := 1) C dX7_restore_0 rfl rfl 0 rfl ?_
  refine V_iconst (v := 1) (q := 2) C dX7_restore_1 rfl ic_1 ?_
  refine V_aload_n (q := 3) C dX7_restore_2 rfl rfl 0 rfl ?_
  refine GM_0_3 (q := 6) C q_1185 dX7_restore_3 rfl ?_
  obtain ⟨J14, eJ14, hf⟩ := jp_s hf
  have hJ14 : ∀ (v1 : Int32) (σ2 : Sg), J14 v1 σ2 = some (r, σf) → V wM X G ad 1 Q 0 0 σ2 14 [(0, .ref (ad 0))] [.int v1, .int (1 : Int32), .ref (ad 0)] := by
    intro v1 σ2 hf
    subst eJ14
    obtain ⟨r3, σ4, h5, hf⟩ := bd_s hf
    refine V_callV (av := [.int (1 : Int32), .int v1]) (st := []) (st1 := [.int r3]) (q := 17) C 0 (by decide) (eM_0 G ad _) rfl rfl (conX7_fails _ _ _ _ _ _ _ _ h5) q_1251 q_114 q_1248 q_1250 q_64 nmX7_fails (by decide) rfl rfl (Nat.le_of_ble_eq_true rfl) dX7_restore_14 rfl rfl ?_
    refine V_if_eq (t := 22) (q := 20) C dX7_restore_17 (by decide) rfl (fun c6 => ?_) (fun c6 => ?_)
    · replace hf := (ite_s hf).1 c6
      refine V_aload_n (q := 23) C dX7_restore_22 rfl rfl 0 rfl ?_
      refine GM_0_2 (q := 26) C q_1184 dX7_restore_23 rfl ?_
      refine V_aload_n (q := 27) C dX7_restore_26 rfl rfl 0 rfl ?_
      refine GM_0_1 (q := 30) C q_1183 dX7_restore_27 rfl ?_
      obtain ⟨_u, σ7, h8, hf⟩ := bd_s hf
      refine V_callS (av := [.ref (ad 2), .ref (ad 1)]) (st := []) (st1 := []) (q := 33) C (conX7_copy_2_1 _ _ _  _ _ h8) q_1592 q_114 q_1590 q_1591 nmX7_copy (by decide) rfl rfl (Nat.le_of_ble_eq_true rfl) dX7_restore_30 rfl rfl ?_
      refine V_aload_n (q := 34) C dX7_restore_33 rfl rfl 0 rfl ?_
      refine GM_0_1 (q := 37) C q_1183 dX7_restore_34 rfl ?_
      refine V_iconst (v := 0) (q := 38) C dX7_restore_37 rfl ic_0 ?_
      refine RM_1 (z := 0) (q := 39) C tn_0 (inb_in (by decide)) dX7_restore_38 rfl ?_
      obtain ⟨e1, e2⟩ := pr_s hf
      subst e1; subst e2
      exact V_iret C F (by decide) (by decide) dX7_restore_39
    · replace hf := (ite_s hf).2 c6
      refine V_iconst (v := 0) (q := 21) C dX7_restore_20 rfl ic_0 ?_
      obtain ⟨e1, e2⟩ := pr_s hf
      subst e1; subst e2
      exact V_iret C F (by decide) (by decide) dX7_restore_21
  refine V_if_ne (t := 13) (q := 9) C dX7_restore_6 (by decide) rfl (fun c9 => ?_) (fun c9 => ?_)
  · replace hf := (ite_s hf).2 c9
    refine V_iconst (v := 0) (q := 14) C dX7_restore_13 rfl ic_0 ?_
    exact hJ14 _ _ hf
  · replace hf := (ite_s hf).1 c9
    refine V_iconst (v := 1) (q := 10) C dX7_restore_9 rfl ic_1 ?_
    refine V_goto (t := 14) C dX7_restore_10 (by decide) ?_
    exact hJ14 _ _ hf
def rmX7_round : Room := { frames := 24, cells := 0, slots := 0, locals := 624 }
def fX7_round (a : Int32) (σ : Sg) : Option (Int32 × Sg) := jp (fun (v1 : Int32) (σ2 : Sg) => bd (fX7_fails (1 : Int32) v1 σ2) (fun (r3 : Int32) (σ4 : Sg) => if r3 = 0 then (bd (fX7_isKnown  σ4) (fun (r7 : Int32) (σ8 : Sg) => jp (fun (v10 : Int32) (σ11 : Sg) => bd (fX7_fails (2 : Int32) v10 σ11) (fun (r12 : Int32) (σ13 : Sg) => if r12 = 0 then (bd (fX7_goOn a σ13) (fun (_ : Unit) (σ16 : Sg) => bd (fX7_in (1 : Int32) σ16) (fun (r18 : Int32) (σ19 : Sg) => bd (fX7_countBits r18 σ19) (fun (r21 : Int32) (σ22 : Sg) => some (r21, σ22))))) else (some ((0 : Int32), σ13)))) (fun (J41 : Int32 → Sg → Option (Int32 × Sg)) => jp (fun (σ24 : Sg) => J41 (1 : Int32) σ24) (fun (J36 : Sg → Option (Int32 × Sg)) => if r7 = 0 then (J36  σ8) else (bd (fX7_isOver  σ8) (fun (r26 : Int32) (σ27 : Sg) => if r26 = 0 then (J41 (0 : Int32) σ27) else (J36  σ27))))))) else (some ((0 : Int32), σ4)))) (fun (J14 : Int32 → Sg → Option (Int32 × Sg)) => if (pX7_isDecrement a) = 0 then (J14 (1 : Int32) σ) else (J14 (0 : Int32) σ))
set_option maxHeartbeats 4000000 in
theorem conX7_round (l : Launch) (G : Gx) (ad : Nat → Nat) (a : Int32) (σ : Sg) (r : Int32) (σf : Sg)  (hf : fX7_round a σ = some (r, σf)) : Con wM l G ad yX7_round (Cond.code yX7_round cX7_round 2 (some .int)) rmX7_round 0 0 [.ref (ad 0), .int a] σ (some (.int r)) σf := by
  refine Con.start (by decide) (Nat.le_of_ble_eq_true rfl) (fun X Q _ C F => ?_)
  refine V_eq (L' := [(0, .ref (ad 0)), (1, .int a)]) (st' := []) rfl rfl rfl ?_
  unfold fX7_round at hf
  refine V_aload_n (q := 1) C dX7_round_0 rfl rfl 0 rfl ?_
  refine V_iconst (v := 1) (q := 2) C dX7_round_1 rfl ic_1 ?_
  refine V_iload_n (q := 3) C dX7_round_2 rfl rfl 1 rfl ?_
  refine V_callS (av := [.int a]) (st := [.int (1 : Int32), .ref (ad 0)]) (st1 := [.int (pX7_isDecrement a), .int (1 : Int32), .ref (ad 0)]) (q := 6) C (conX7_isDecrement _ _ _ _ _ _ rfl) q_1479 q_114 q_1477 q_1478 nmX7_isDecrement (by decide) rfl rfl (Nat.le_of_ble_eq_true rfl) dX7_round_3 rfl rfl ?_
  obtain ⟨J14, eJ14, hf⟩ := jp_s hf
  have hJ14 : ∀ (v1 : Int32) (σ2 : Sg), J14 v1 σ2 = some (r, σf) → V wM X G ad 2 Q 0 0 σ2 14 [(0, .ref (ad 0)), (1, .int a)] [.int v1, .int (1 : Int32), .ref (ad 0)] := by
    intro v1 σ2 hf
    subst eJ14
    obtain ⟨r3, σ4, h5, hf⟩ := bd_s hf
    refine V_callV (av := [.int (1 : Int32), .int v1]) (st := []) (st1 := [.int r3]) (q := 17) C 0 (by decide) (eM_0 G ad _) rfl rfl (conX7_fails _ _ _ _ _ _ _ _ h5) q_1251 q_114 q_1248 q_1250 q_64 nmX7_fails (by decide) rfl rfl (Nat.le_of_ble_eq_true rfl) dX7_round_14 rfl rfl ?_
    refine V_if_ne (t := 47) (q := 20) C dX7_round_17 (by decide) rfl (fun c6 => ?_) (fun c6 => ?_)
    · replace hf := (ite_s hf).2 c6
      refine V_iconst (v := 0) (q := 48) C dX7_round_47 rfl ic_0 ?_
      obtain ⟨e1, e2⟩ := pr_s hf
      subst e1; subst e2
      exact V_iret C F (by decide) (by decide) dX7_round_48
    · replace hf := (ite_s hf).1 c6
      refine V_aload_n (q := 21) C dX7_round_20 rfl rfl 0 rfl ?_
      refine V_iconst (v := 2) (q := 22) C dX7_round_21 rfl ic_2 ?_
      refine V_aload_n (q := 23) C dX7_round_22 rfl rfl 0 rfl ?_
      obtain ⟨r7, σ8, h9, hf⟩ := bd_s hf
      refine V_callV (av := []) (st := [.int (2 : Int32), .ref (ad 0)]) (st1 := [.int r7, .int (2 : Int32), .ref (ad 0)]) (q := 26) C 0 (by decide) (eM_0 G ad _) rfl rfl (conX7_isKnown _ _ _  _ _ _ h9) q_1255 q_114 q_1252 q_1254 q_65 nmX7_isKnown (by decide) rfl rfl (Nat.le_of_ble_eq_true rfl) dX7_round_23 rfl rfl ?_
      obtain ⟨J41, eJ41, hf⟩ := jp_s hf
      have hJ41 : ∀ (v10 : Int32) (σ11 : Sg), J41 v10 σ11 = some (r, σf) → V wM X G ad 2 Q 0 0 σ11 41 [(0, .ref (ad 0)), (1, .int a)] [.int v10, .int (2 : Int32), .ref (ad 0)] := by
        intro v10 σ11 hf
        subst eJ41
        obtain ⟨r12, σ13, h14, hf⟩ := bd_s hf
        refine V_callV (av := [.int (2 : Int32), .int v10]) (st := []) (st1 := [.int r12]) (q := 44) C 0 (by decide) (eM_0 G ad _) rfl rfl (conX7_fails _ _ _ _ _ _ _ _ h14) q_1251 q_114 q_1248 q_1250 q_64 nmX7_fails (by decide) rfl rfl (Nat.le_of_ble_eq_true rfl) dX7_round_41 rfl rfl ?_
        refine V_if_eq (t := 49) (q := 47) C dX7_round_44 (by decide) rfl (fun c15 => ?_) (fun c15 => ?_)
        · replace hf := (ite_s hf).1 c15
          refine V_aload_n (q := 50) C dX7_round_49 rfl rfl 0 rfl ?_
          refine V_iload_n (q := 51) C dX7_round_50 rfl rfl 1 rfl ?_
          obtain ⟨_u, σ16, h17, hf⟩ := bd_s hf
          refine V_callV (av := [.int a]) (st := []) (st1 := []) (q := 54) C 0 (by decide) (eM_0 G ad _) rfl rfl (conX7_goOn _ _ _ _ _ _ h17) q_1487 q_114 q_1484 q_1486 q_98 nmX7_goOn (by decide) rfl rfl (Nat.le_of_ble_eq_true rfl) dX7_round_51 rfl rfl ?_
          refine V_aload_n (q := 55) C dX7_round_54 rfl rfl 0 rfl ?_
          refine V_iconst (v := 1) (q := 56) C dX7_round_55 rfl ic_1 ?_
          obtain ⟨r18, σ19, h20, hf⟩ := bd_s hf
          refine V_callV (av := [.int (1 : Int32)]) (st := []) (st1 := [.int r18]) (q := 59) C 0 (by decide) (eM_0 G ad _) rfl rfl (conX7_in _ _ _ _ _ _ _ h20) q_1468 q_114 q_1465 q_1467 q_95 nmX7_in (by decide) rfl rfl (Nat.le_of_ble_eq_true rfl) dX7_round_56 rfl rfl ?_
          obtain ⟨r21, σ22, h23, hf⟩ := bd_s hf
          refine V_callS (av := [.int r18]) (st := []) (st1 := [.int r21]) (q := 62) C (conX7_countBits _ _ _ _ _ _ _ h23) q_1341 q_114 q_1339 q_1340 nmX7_countBits (by decide) rfl rfl (Nat.le_of_ble_eq_true rfl) dX7_round_59 rfl rfl ?_
          obtain ⟨e1, e2⟩ := pr_s hf
          subst e1; subst e2
          exact V_iret C F (by decide) (by decide) dX7_round_62
        · replace hf := (ite_s hf).2 c15
          refine V_iconst (v := 0) (q := 48) C dX7_round_47 rfl ic_0 ?_
          obtain ⟨e1, e2⟩ := pr_s hf
          subst e1; subst e2
          exact V_iret C F (by decide) (by decide) dX7_round_48
      obtain ⟨J36, eJ36, hf⟩ := jp_s hf
      have hJ36 : ∀ (σ24 : Sg), J36 σ24 = some (r, σf) → V wM X G ad 2 Q 0 0 σ24 36 [(0, .ref (ad 0)), (1, .int a)] [.int (2 : Int32), .ref (ad 0)] := by
        intro σ24 hf
        subst eJ36
        refine V_iconst (v := 1) (q := 37) C dX7_round_36 rfl ic_1 ?_
        refine V_goto (t := 41) C dX7_round_37 (by decide) ?_
        exact hJ41 _ _ hf
      refine V_if_eq (t := 36) (q := 29) C dX7_round_26 (by decide) rfl (fun c25 => ?_) (fun c25 => ?_)
      · replace hf := (ite_s hf).1 c25
        exact hJ36 _ hf
      · replace hf := (ite_s hf).2 c25
        refine V_aload_n (q := 30) C dX7_round_29 rfl rfl 0 rfl ?_
        obtain ⟨r26, σ27, h28, hf⟩ := bd_s hf
        refine V_callV (av := []) (st := [.int (2 : Int32), .ref (ad 0)]) (st1 := [.int r26, .int (2 : Int32), .ref (ad 0)]) (q := 33) C 0 (by decide) (eM_0 G ad _) rfl rfl (conX7_isOver _ _ _  _ _ _ h28) q_1483 q_114 q_1480 q_1482 q_97 nmX7_isOver (by decide) rfl rfl (Nat.le_of_ble_eq_true rfl) dX7_round_30 rfl rfl ?_
        refine V_if_eq (t := 40) (q := 36) C dX7_round_33 (by decide) rfl (fun c29 => ?_) (fun c29 => ?_)
        · replace hf := (ite_s hf).1 c29
          refine V_iconst (v := 0) (q := 41) C dX7_round_40 rfl ic_0 ?_
          exact hJ41 _ _ hf
        · replace hf := (ite_s hf).2 c29
          exact hJ36 _ hf
  refine V_if_ne (t := 13) (q := 9) C dX7_round_6 (by decide) rfl (fun c30 => ?_) (fun c30 => ?_)
  · replace hf := (ite_s hf).2 c30
    refine V_iconst (v := 0) (q := 14) C dX7_round_13 rfl ic_0 ?_
    exact hJ14 _ _ hf
  · replace hf := (ite_s hf).1 c30
    refine V_iconst (v := 1) (q := 10) C dX7_round_9 rfl ic_1 ?_
    refine V_goto (t := 14) C dX7_round_10 (by decide) ?_
    exact hJ14 _ _ hf
def rmX7_run : Room := { frames := 24, cells := 0, slots := 0, locals := 624 }
def fX7_run_44 (a : Int32) : Nat → Int32 → Sg → Option (Int32 × Sg)
  | 0, _, _ => none
  | n + 1, x16, σ17 => bd (fX7_isOver  σ17) (fun (r18 : Int32) (σ19 : Sg) => if r18 = 0 then (bd (fX7_goOn a σ19) (fun (_ : Unit) (σ22 : Sg) => fX7_run_44 a n (x16 + (1 : Int32)) σ22)) else (some (x16, σ19)))
def fX7_run (a : Int32) (σ : Sg) : Option (Int32 × Sg) := jp (fun (v1 : Int32) (σ2 : Sg) => bd (fX7_fails (1 : Int32) v1 σ2) (fun (r3 : Int32) (σ4 : Sg) => if r3 = 0 then (bd (fX7_isKnown  σ4) (fun (r7 : Int32) (σ8 : Sg) => jp (fun (v10 : Int32) (σ11 : Sg) => bd (fX7_fails (2 : Int32) v10 σ11) (fun (r12 : Int32) (σ13 : Sg) => if r12 = 0 then (fX7_run_44 a FU (0 : Int32) σ13) else (some ((0 : Int32), σ13)))) (fun (J34 : Int32 → Sg → Option (Int32 × Sg)) => if r7 = 0 then (J34 (1 : Int32) σ8) else (J34 (0 : Int32) σ8)))) else (some ((0 : Int32), σ4)))) (fun (J14 : Int32 → Sg → Option (Int32 × Sg)) => if (pX7_isDecrement a) = 0 then (J14 (1 : Int32) σ) else (J14 (0 : Int32) σ))
set_option maxHeartbeats 4000000 in
theorem wlX7_run_44 {X : Cx} {G : Gx} {ad : Nat → Nat} {Q : State → Prop} {r : Int32} {σf : Sg} (C : OK wM X G ad RX7 cX7_run 3 rmX7_run) (F : FinR wM X G ad Q 0 0 (some .int) (some (.int r)) σf) (a : Int32) : ∀ (n : Nat) (x16 : Int32) (σ17 : Sg), fX7_run_44 a n x16 σ17 = some (r, σf) → V wM X G ad 3 Q 0 0 σ17 44 [(0, .ref (ad 0)), (1, .int a), (2, .int x16)] [] := by
  intro n
  induction n with
  | zero =>
    intro _ _ hf
    exact absurd hf (by simp [fX7_run_44])
  | succ n ih =>
    intro x16 σ17 hf
    rw [fX7_run_44] at hf
    refine V_aload_n (q := 45) C dX7_run_44 rfl rfl 0 rfl ?_
    obtain ⟨r18, σ19, h20, hf⟩ := bd_s hf
    refine V_callV (av := []) (st := []) (st1 := [.int r18]) (q := 48) C 0 (by decide) (eM_0 G ad _) rfl rfl (conX7_isOver _ _ _  _ _ _ h20) q_1483 q_114 q_1480 q_1482 q_97 nmX7_isOver (by decide) rfl rfl (Nat.le_of_ble_eq_true rfl) dX7_run_45 rfl rfl ?_
    refine V_if_ne (t := 62) (q := 51) C dX7_run_48 (by decide) rfl (fun c21 => ?_) (fun c21 => ?_)
    · replace hf := (ite_s hf).2 c21
      refine V_iload_n (q := 63) C dX7_run_62 rfl rfl 2 rfl ?_
      obtain ⟨e1, e2⟩ := pr_s hf
      subst e1; subst e2
      exact V_iret C F (by decide) (by decide) dX7_run_63
    · replace hf := (ite_s hf).1 c21
      refine V_aload_n (q := 52) C dX7_run_51 rfl rfl 0 rfl ?_
      refine V_iload_n (q := 53) C dX7_run_52 rfl rfl 1 rfl ?_
      obtain ⟨_u, σ22, h23, hf⟩ := bd_s hf
      refine V_callV (av := [.int a]) (st := []) (st1 := []) (q := 56) C 0 (by decide) (eM_0 G ad _) rfl rfl (conX7_goOn _ _ _ _ _ _ h23) q_1487 q_114 q_1484 q_1486 q_98 nmX7_goOn (by decide) rfl rfl (Nat.le_of_ble_eq_true rfl) dX7_run_53 rfl rfl ?_
      refine V_iinc (L' := [(2, .int (x16 + (1 : Int32))), (0, .ref (ad 0)), (1, .int a)]) (q := 59) C dX7_run_56 rfl 2 rfl (congrArg (fun y => x16 + y) ic_1) (by decide) rfl ?_
      refine V_goto (t := 44) C dX7_run_59 (by decide) ?_
      refine V_sub (L' := [(0, .ref (ad 0)), (1, .int a), (2, .int (x16 + (1 : Int32)))]) [1, 2, 0] rfl ?_
      exact ih _ _ hf
set_option maxHeartbeats 4000000 in
theorem conX7_run (l : Launch) (G : Gx) (ad : Nat → Nat) (a : Int32) (σ : Sg) (r : Int32) (σf : Sg)  (hf : fX7_run a σ = some (r, σf)) : Con wM l G ad yX7_run (Cond.code yX7_run cX7_run 3 (some .int)) rmX7_run 0 0 [.ref (ad 0), .int a] σ (some (.int r)) σf := by
  refine Con.start (by decide) (Nat.le_of_ble_eq_true rfl) (fun X Q _ C F => ?_)
  refine V_eq (L' := [(0, .ref (ad 0)), (1, .int a)]) (st' := []) rfl rfl rfl ?_
  unfold fX7_run at hf
  refine V_aload_n (q := 1) C dX7_run_0 rfl rfl 0 rfl ?_
  refine V_iconst (v := 1) (q := 2) C dX7_run_1 rfl ic_1 ?_
  refine V_iload_n (q := 3) C dX7_run_2 rfl rfl 1 rfl ?_
  refine V_callS (av := [.int a]) (st := [.int (1 : Int32), .ref (ad 0)]) (st1 := [.int (pX7_isDecrement a), .int (1 : Int32), .ref (ad 0)]) (q := 6) C (conX7_isDecrement _ _ _ _ _ _ rfl) q_1479 q_114 q_1477 q_1478 nmX7_isDecrement (by decide) rfl rfl (Nat.le_of_ble_eq_true rfl) dX7_run_3 rfl rfl ?_
  obtain ⟨J14, eJ14, hf⟩ := jp_s hf
  have hJ14 : ∀ (v1 : Int32) (σ2 : Sg), J14 v1 σ2 = some (r, σf) → V wM X G ad 3 Q 0 0 σ2 14 [(0, .ref (ad 0)), (1, .int a)] [.int v1, .int (1 : Int32), .ref (ad 0)] := by
    intro v1 σ2 hf
    subst eJ14
    obtain ⟨r3, σ4, h5, hf⟩ := bd_s hf
    refine V_callV (av := [.int (1 : Int32), .int v1]) (st := []) (st1 := [.int r3]) (q := 17) C 0 (by decide) (eM_0 G ad _) rfl rfl (conX7_fails _ _ _ _ _ _ _ _ h5) q_1251 q_114 q_1248 q_1250 q_64 nmX7_fails (by decide) rfl rfl (Nat.le_of_ble_eq_true rfl) dX7_run_14 rfl rfl ?_
    refine V_if_ne (t := 40) (q := 20) C dX7_run_17 (by decide) rfl (fun c6 => ?_) (fun c6 => ?_)
    · replace hf := (ite_s hf).2 c6
      refine V_iconst (v := 0) (q := 41) C dX7_run_40 rfl ic_0 ?_
      obtain ⟨e1, e2⟩ := pr_s hf
      subst e1; subst e2
      exact V_iret C F (by decide) (by decide) dX7_run_41
    · replace hf := (ite_s hf).1 c6
      refine V_aload_n (q := 21) C dX7_run_20 rfl rfl 0 rfl ?_
      refine V_iconst (v := 2) (q := 22) C dX7_run_21 rfl ic_2 ?_
      refine V_aload_n (q := 23) C dX7_run_22 rfl rfl 0 rfl ?_
      obtain ⟨r7, σ8, h9, hf⟩ := bd_s hf
      refine V_callV (av := []) (st := [.int (2 : Int32), .ref (ad 0)]) (st1 := [.int r7, .int (2 : Int32), .ref (ad 0)]) (q := 26) C 0 (by decide) (eM_0 G ad _) rfl rfl (conX7_isKnown _ _ _  _ _ _ h9) q_1255 q_114 q_1252 q_1254 q_65 nmX7_isKnown (by decide) rfl rfl (Nat.le_of_ble_eq_true rfl) dX7_run_23 rfl rfl ?_
      obtain ⟨J34, eJ34, hf⟩ := jp_s hf
      have hJ34 : ∀ (v10 : Int32) (σ11 : Sg), J34 v10 σ11 = some (r, σf) → V wM X G ad 3 Q 0 0 σ11 34 [(0, .ref (ad 0)), (1, .int a)] [.int v10, .int (2 : Int32), .ref (ad 0)] := by
        intro v10 σ11 hf
        subst eJ34
        obtain ⟨r12, σ13, h14, hf⟩ := bd_s hf
        refine V_callV (av := [.int (2 : Int32), .int v10]) (st := []) (st1 := [.int r12]) (q := 37) C 0 (by decide) (eM_0 G ad _) rfl rfl (conX7_fails _ _ _ _ _ _ _ _ h14) q_1251 q_114 q_1248 q_1250 q_64 nmX7_fails (by decide) rfl rfl (Nat.le_of_ble_eq_true rfl) dX7_run_34 rfl rfl ?_
        refine V_if_eq (t := 42) (q := 40) C dX7_run_37 (by decide) rfl (fun c15 => ?_) (fun c15 => ?_)
        · replace hf := (ite_s hf).1 c15
          refine V_iconst (v := 0) (q := 43) C dX7_run_42 rfl ic_0 ?_
          refine V_istore_n (L' := [(2, .int (0 : Int32)), (0, .ref (ad 0)), (1, .int a)]) (q := 44) C dX7_run_43 rfl rfl (by decide) rfl ?_
          refine V_sub (L' := [(0, .ref (ad 0)), (1, .int a), (2, .int (0 : Int32))]) [1, 2, 0] rfl ?_
          refine wlX7_run_44 C F a FU _ _ hf
        · replace hf := (ite_s hf).2 c15
          refine V_iconst (v := 0) (q := 41) C dX7_run_40 rfl ic_0 ?_
          obtain ⟨e1, e2⟩ := pr_s hf
          subst e1; subst e2
          exact V_iret C F (by decide) (by decide) dX7_run_41
      refine V_if_ne (t := 33) (q := 29) C dX7_run_26 (by decide) rfl (fun c24 => ?_) (fun c24 => ?_)
      · replace hf := (ite_s hf).2 c24
        refine V_iconst (v := 0) (q := 34) C dX7_run_33 rfl ic_0 ?_
        exact hJ34 _ _ hf
      · replace hf := (ite_s hf).1 c24
        refine V_iconst (v := 1) (q := 30) C dX7_run_29 rfl ic_1 ?_
        refine V_goto (t := 34) C dX7_run_30 (by decide) ?_
        exact hJ34 _ _ hf
  refine V_if_ne (t := 13) (q := 9) C dX7_run_6 (by decide) rfl (fun c25 => ?_) (fun c25 => ?_)
  · replace hf := (ite_s hf).2 c25
    refine V_iconst (v := 0) (q := 14) C dX7_run_13 rfl ic_0 ?_
    exact hJ14 _ _ hf
  · replace hf := (ite_s hf).1 c25
    refine V_iconst (v := 1) (q := 10) C dX7_run_9 rfl ic_1 ?_
    refine V_goto (t := 14) C dX7_run_10 (by decide) ?_
    exact hJ14 _ _ hf
def rmX7_copy_1_2 : Room := { frames := 0, cells := 0, slots := 0, locals := 0 }
def fX7_copy_1_2_2 : Nat → Int32 → Sg → Option (Unit × Sg)
  | 0, _, _ => none
  | n + 1, x1, σ2 => if (2764 : Int32) ≤ x1 then (some ((), σ2)) else (gd (inb x1 2764) (gd (inb x1 2764) (lt' (sup σ2 2 x1.toNatClampNeg (σ2 1 x1.toNatClampNeg)) (fun (σ6 : Sg) => fX7_copy_1_2_2 n (x1 + (1 : Int32)) σ6))))
def fX7_copy_1_2  (σ : Sg) : Option (Unit × Sg) := fX7_copy_1_2_2 FU (0 : Int32) σ
set_option maxHeartbeats 4000000 in
theorem wlX7_copy_1_2_2 {X : Cx} {G : Gx} {ad : Nat → Nat} {Q : State → Prop} {σf : Sg} (C : OK wM X G ad RX7 cX7_copy 3 rmX7_copy_1_2) (F : FinR wM X G ad Q 0 0 none none σf) : ∀ (n : Nat) (x1 : Int32) (σ2 : Sg), fX7_copy_1_2_2 n x1 σ2 = some ((), σf) → V wM X G ad 3 Q 0 0 σ2 2 [(0, .ref (ad 1)), (1, .ref (ad 2)), (2, .int x1)] [] := by
  intro n
  induction n with
  | zero =>
    intro _ _ hf
    exact absurd hf (by simp [fX7_copy_1_2_2])
  | succ n ih =>
    intro x1 σ2 hf
    rw [fX7_copy_1_2_2] at hf
    refine V_iload_n (q := 3) C dX7_copy_2 rfl rfl 2 rfl ?_
    refine V_aload_n (q := 4) C dX7_copy_3 rfl rfl 0 rfl ?_
    refine LM_1 (q := 5) C dX7_copy_4 rfl ?_
    refine V_icmp_ge (t := 20) (q := 8) C dX7_copy_5 (by decide) rfl (fun c3 => ?_) (fun c3 => ?_)
    · replace hf := (ite_s hf).1 c3
      obtain ⟨-, e2⟩ := pr_s hf
      subst e2
      exact V_vret C F (by decide) (by decide) dX7_copy_20
    · replace hf := (ite_s hf).2 c3
      refine V_aload_n (q := 9) C dX7_copy_8 rfl rfl 1 rfl ?_
      refine V_iload_n (q := 10) C dX7_copy_9 rfl rfl 2 rfl ?_
      refine V_aload_n (q := 11) C dX7_copy_10 rfl rfl 0 rfl ?_
      refine V_iload_n (q := 12) C dX7_copy_11 rfl rfl 2 rfl ?_
      obtain ⟨g4, hf⟩ := gd_s hf
      refine RM_1 (z := x1.toNatClampNeg) (q := 13) C rfl (inb_in g4) dX7_copy_12 rfl ?_
      obtain ⟨g5, hf⟩ := gd_s hf
      refine SM_2 (z := x1.toNatClampNeg) (q := 14) C rfl (inb_in g5) dX7_copy_13 rfl ?_
      refine V_lets hf (fun σ6 hf => ?_)
      refine V_iinc (L' := [(2, .int (x1 + (1 : Int32))), (0, .ref (ad 1)), (1, .ref (ad 2))]) (q := 17) C dX7_copy_14 rfl 2 rfl (congrArg (fun y => x1 + y) ic_1) (by decide) rfl ?_
      refine V_goto (t := 2) C dX7_copy_17 (by decide) ?_
      refine V_sub (L' := [(0, .ref (ad 1)), (1, .ref (ad 2)), (2, .int (x1 + (1 : Int32)))]) [1, 2, 0] rfl ?_
      exact ih _ _ hf
set_option maxHeartbeats 4000000 in
theorem conX7_copy_1_2 (l : Launch) (G : Gx) (ad : Nat → Nat)  (σ : Sg) (σf : Sg)  (hf : fX7_copy_1_2  σ = some ((), σf)) : Con wM l G ad yX7_copy (Cond.code yX7_copy cX7_copy 3 none) rmX7_copy_1_2 0 0 [.ref (ad 1), .ref (ad 2)] σ none σf := by
  refine Con.start (by decide) (Nat.le_of_ble_eq_true rfl) (fun X Q _ C F => ?_)
  refine V_eq (L' := [(0, .ref (ad 1)), (1, .ref (ad 2))]) (st' := []) rfl rfl rfl ?_
  unfold fX7_copy_1_2 at hf
  refine V_iconst (v := 0) (q := 1) C dX7_copy_0 rfl ic_0 ?_
  refine V_istore_n (L' := [(2, .int (0 : Int32)), (0, .ref (ad 1)), (1, .ref (ad 2))]) (q := 2) C dX7_copy_1 rfl rfl (by decide) rfl ?_
  refine V_sub (L' := [(0, .ref (ad 1)), (1, .ref (ad 2)), (2, .int (0 : Int32))]) [1, 2, 0] rfl ?_
  refine wlX7_copy_1_2_2 C F FU _ _ hf
def rmX7_save : Room := { frames := 1, cells := 0, slots := 0, locals := 22 }
def fX7_save  (σ : Sg) : Option (Int32 × Sg) := lt' (sup σ 0 0 (0 : Int32)) (fun (σ1 : Sg) => lt' (sup σ1 0 3 (1 : Int32)) (fun (σ2 : Sg) => bd (fX7_copy_1_2  σ2) (fun (_ : Unit) (σ3 : Sg) => some ((σ3 1 0), σ3))))
set_option maxHeartbeats 4000000 in
theorem conX7_save (l : Launch) (G : Gx) (ad : Nat → Nat)  (σ : Sg) (r : Int32) (σf : Sg)  (hf : fX7_save  σ = some (r, σf)) : Con wM l G ad yX7_save (Cond.code yX7_save cX7_save 1 (some .int)) rmX7_save 0 0 [.ref (ad 0)] σ (some (.int r)) σf := by
  refine Con.start (by decide) (Nat.le_of_ble_eq_true rfl) (fun X Q _ C F => ?_)
  refine V_eq (L' := [(0, .ref (ad 0))]) (st' := []) rfl rfl rfl ?_
  unfold fX7_save at hf
  refine V_aload_n (q := 1) C dX7_save_0 rfl rfl 0 rfl ?_
  refine V_iconst (v := 0) (q := 2) C dX7_save_1 rfl ic_0 ?_
  refine PM_0_0 (q := 5) C q_1182 dX7_save_2 rfl ?_
  refine V_lets hf (fun σ1 hf => ?_)
  refine V_aload_n (q := 6) C dX7_save_5 rfl rfl 0 rfl ?_
  refine V_iconst (v := 1) (q := 7) C dX7_save_6 rfl ic_1 ?_
  refine PM_0_3 (q := 10) C (by decide) q_1185 dX7_save_7 rfl ?_
  refine V_lets hf (fun σ2 hf => ?_)
  refine V_aload_n (q := 11) C dX7_save_10 rfl rfl 0 rfl ?_
  refine GM_0_1 (q := 14) C q_1183 dX7_save_11 rfl ?_
  refine V_aload_n (q := 15) C dX7_save_14 rfl rfl 0 rfl ?_
  refine GM_0_2 (q := 18) C q_1184 dX7_save_15 rfl ?_
  obtain ⟨_u, σ3, h4, hf⟩ := bd_s hf
  refine V_callS (av := [.ref (ad 1), .ref (ad 2)]) (st := []) (st1 := []) (q := 21) C (conX7_copy_1_2 _ _ _  _ _ h4) q_1592 q_114 q_1590 q_1591 nmX7_copy (by decide) rfl rfl (Nat.le_of_ble_eq_true rfl) dX7_save_18 rfl rfl ?_
  refine V_aload_n (q := 22) C dX7_save_21 rfl rfl 0 rfl ?_
  refine GM_0_1 (q := 25) C q_1183 dX7_save_22 rfl ?_
  refine V_iconst (v := 0) (q := 26) C dX7_save_25 rfl ic_0 ?_
  refine RM_1 (z := 0) (q := 27) C tn_0 (inb_in (by decide)) dX7_save_26 rfl ?_
  obtain ⟨e1, e2⟩ := pr_s hf
  subst e1; subst e2
  exact V_iret C F (by decide) (by decide) dX7_save_27
def rmX7_setAvailable : Room := { frames := 2, cells := 0, slots := 0, locals := 42 }
def fX7_setAvailable (a : Int32) (σ : Sg) : Option (Int32 × Sg) := jp (fun (v1 : Int32) (σ2 : Sg) => bd (fX7_fails (1 : Int32) v1 σ2) (fun (r3 : Int32) (σ4 : Sg) => if r3 = 0 then (bd (fX7_isKnown  σ4) (fun (r7 : Int32) (σ8 : Sg) => bd (fX7_fails (2 : Int32) r7 σ8) (fun (r10 : Int32) (σ11 : Sg) => if r10 = 0 then (lt' ((σ11 1 1)) (fun (x14 : Int32) => lt' (sup σ11 1 1 a) (fun (σ15 : Sg) => some (x14, σ15)))) else (some ((0 : Int32), σ11))))) else (some ((0 : Int32), σ4)))) (fun (J14 : Int32 → Sg → Option (Int32 × Sg)) => if (pX7_isChannels a) = 0 then (J14 (1 : Int32) σ) else (J14 (0 : Int32) σ))
set_option maxHeartbeats 4000000 in
theorem conX7_setAvailable (l : Launch) (G : Gx) (ad : Nat → Nat) (a : Int32) (σ : Sg) (r : Int32) (σf : Sg)  (hf : fX7_setAvailable a σ = some (r, σf)) : Con wM l G ad yX7_setAvailable (Cond.code yX7_setAvailable cX7_setAvailable 3 (some .int)) rmX7_setAvailable 0 0 [.ref (ad 0), .int a] σ (some (.int r)) σf := by
  refine Con.start (by decide) (Nat.le_of_ble_eq_true rfl) (fun X Q _ C F => ?_)
  refine V_eq (L' := [(0, .ref (ad 0)), (1, .int a)]) (st' := []) rfl rfl rfl ?_
  unfold fX7_setAvailable at hf
  refine V_aload_n (q := 1) C dX7_setAvailable_0 rfl rfl 0 rfl ?_
  refine V_iconst (v := 1) (q := 2) C dX7_setAvailable_1 rfl ic_1 ?_
  refine V_iload_n (q := 3) C dX7_setAvailable_2 rfl rfl 1 rfl ?_
  refine V_callS (av := [.int a]) (st := [.int (1 : Int32), .ref (ad 0)]) (st1 := [.int (pX7_isChannels a), .int (1 : Int32), .ref (ad 0)]) (q := 6) C (conX7_isChannels _ _ _ _ _ _ rfl) q_1244 q_114 q_1242 q_1243 nmX7_isChannels (by decide) rfl rfl (Nat.le_of_ble_eq_true rfl) dX7_setAvailable_3 rfl rfl ?_
  obtain ⟨J14, eJ14, hf⟩ := jp_s hf
  have hJ14 : ∀ (v1 : Int32) (σ2 : Sg), J14 v1 σ2 = some (r, σf) → V wM X G ad 3 Q 0 0 σ2 14 [(0, .ref (ad 0)), (1, .int a)] [.int v1, .int (1 : Int32), .ref (ad 0)] := by
    intro v1 σ2 hf
    subst eJ14
    obtain ⟨r3, σ4, h5, hf⟩ := bd_s hf
    refine V_callV (av := [.int (1 : Int32), .int v1]) (st := []) (st1 := [.int r3]) (q := 17) C 0 (by decide) (eM_0 G ad _) rfl rfl (conX7_fails _ _ _ _ _ _ _ _ h5) q_1251 q_114 q_1248 q_1250 q_64 nmX7_fails (by decide) rfl rfl (Nat.le_of_ble_eq_true rfl) dX7_setAvailable_14 rfl rfl ?_
    refine V_if_ne (t := 32) (q := 20) C dX7_setAvailable_17 (by decide) rfl (fun c6 => ?_) (fun c6 => ?_)
    · replace hf := (ite_s hf).2 c6
      refine V_iconst (v := 0) (q := 33) C dX7_setAvailable_32 rfl ic_0 ?_
      obtain ⟨e1, e2⟩ := pr_s hf
      subst e1; subst e2
      exact V_iret C F (by decide) (by decide) dX7_setAvailable_33
    · replace hf := (ite_s hf).1 c6
      refine V_aload_n (q := 21) C dX7_setAvailable_20 rfl rfl 0 rfl ?_
      refine V_iconst (v := 2) (q := 22) C dX7_setAvailable_21 rfl ic_2 ?_
      refine V_aload_n (q := 23) C dX7_setAvailable_22 rfl rfl 0 rfl ?_
      obtain ⟨r7, σ8, h9, hf⟩ := bd_s hf
      refine V_callV (av := []) (st := [.int (2 : Int32), .ref (ad 0)]) (st1 := [.int r7, .int (2 : Int32), .ref (ad 0)]) (q := 26) C 0 (by decide) (eM_0 G ad _) rfl rfl (conX7_isKnown _ _ _  _ _ _ h9) q_1255 q_114 q_1252 q_1254 q_65 nmX7_isKnown (by decide) rfl rfl (Nat.le_of_ble_eq_true rfl) dX7_setAvailable_23 rfl rfl ?_
      obtain ⟨r10, σ11, h12, hf⟩ := bd_s hf
      refine V_callV (av := [.int (2 : Int32), .int r7]) (st := []) (st1 := [.int r10]) (q := 29) C 0 (by decide) (eM_0 G ad _) rfl rfl (conX7_fails _ _ _ _ _ _ _ _ h12) q_1251 q_114 q_1248 q_1250 q_64 nmX7_fails (by decide) rfl rfl (Nat.le_of_ble_eq_true rfl) dX7_setAvailable_26 rfl rfl ?_
      refine V_if_eq (t := 34) (q := 32) C dX7_setAvailable_29 (by decide) rfl (fun c13 => ?_) (fun c13 => ?_)
      · replace hf := (ite_s hf).1 c13
        refine V_aload_n (q := 35) C dX7_setAvailable_34 rfl rfl 0 rfl ?_
        refine GM_0_1 (q := 38) C q_1183 dX7_setAvailable_35 rfl ?_
        refine V_iconst (v := 1) (q := 39) C dX7_setAvailable_38 rfl ic_1 ?_
        refine RM_1 (z := 1) (q := 40) C tn_1 (inb_in (by decide)) dX7_setAvailable_39 rfl ?_
        refine V_let (cv := Value.int) hf (fun x14 hf => ?_)
        refine V_istore_n (L' := [(2, .int x14), (0, .ref (ad 0)), (1, .int a)]) (q := 41) C dX7_setAvailable_40 rfl rfl (by decide) rfl ?_
        refine V_aload_n (q := 42) C dX7_setAvailable_41 rfl rfl 1 rfl ?_
        refine GM_0_1 (q := 45) C q_1183 dX7_setAvailable_42 rfl ?_
        refine V_iconst (v := 1) (q := 46) C dX7_setAvailable_45 rfl ic_1 ?_
        refine V_iload_n (q := 47) C dX7_setAvailable_46 rfl rfl 2 rfl ?_
        refine SM_1 (z := 1) (q := 48) C tn_1 (inb_in (by decide)) dX7_setAvailable_47 rfl ?_
        refine V_lets hf (fun σ15 hf => ?_)
        refine V_iload_n (q := 49) C dX7_setAvailable_48 rfl rfl 0 rfl ?_
        obtain ⟨e1, e2⟩ := pr_s hf
        subst e1; subst e2
        exact V_iret C F (by decide) (by decide) dX7_setAvailable_49
      · replace hf := (ite_s hf).2 c13
        refine V_iconst (v := 0) (q := 33) C dX7_setAvailable_32 rfl ic_0 ?_
        obtain ⟨e1, e2⟩ := pr_s hf
        subst e1; subst e2
        exact V_iret C F (by decide) (by decide) dX7_setAvailable_33
  refine V_if_ne (t := 13) (q := 9) C dX7_setAvailable_6 (by decide) rfl (fun c16 => ?_) (fun c16 => ?_)
  · replace hf := (ite_s hf).2 c16
    refine V_iconst (v := 0) (q := 14) C dX7_setAvailable_13 rfl ic_0 ?_
    exact hJ14 _ _ hf
  · replace hf := (ite_s hf).1 c16
    refine V_iconst (v := 1) (q := 10) C dX7_setAvailable_9 rfl ic_1 ?_
    refine V_goto (t := 14) C dX7_setAvailable_10 (by decide) ?_
    exact hJ14 _ _ hf
def rmX7_setConflicts : Room := { frames := 4, cells := 0, slots := 0, locals := 91 }
def fX7_setConflicts_16 (K : Sg → Option (Int32 × Sg)) : Nat → Int32 → Sg → Option (Int32 × Sg)
  | 0, _, _ => none
  | n + 1, x8, σ9 => if (12 : Int32) ≤ x8 then (K σ9) else (gd (inb ((64 : Int32) + x8) 2764) (gd (inb x8 12) (lt' (sup σ9 4 x8.toNatClampNeg (σ9 1 (((64 : Int32) + x8).toNatClampNeg))) (fun (σ13 : Sg) => gd (inb ((76 : Int32) + x8) 2764) (gd (inb x8 12) (lt' (sup σ13 5 x8.toNatClampNeg (σ13 1 (((76 : Int32) + x8).toNatClampNeg))) (fun (σ16 : Sg) => fX7_setConflicts_16 K n (x8 + (1 : Int32)) σ16)))))))
def fX7_setConflicts_72 (K : Int32 → Sg → Option (Int32 × Sg)) : Nat → Int32 → Int32 → Sg → Option (Int32 × Sg)
  | 0, _, _, _ => none
  | n + 1, x20, x21, σ22 => if x21 = 0 then (K x20 σ22) else (bd (fX7_readPair  σ22) (fun (_ : Unit) (σ25 : Sg) => jp (fun (v27 : Int32) (σ28 : Sg) => jp (fun (v29 : Int32) (σ30 : Sg) => gd (b01 ((σ28 0 10) ||| v29)) (lt' (sup σ30 0 10 ((σ28 0 10) ||| v29)) (fun (σ32 : Sg) => jp (fun (v33 : Int32) (σ34 : Sg) => lt' ((v27 &&& v33)) (fun (x35 : Int32) => fX7_setConflicts_72 K n (x20 + (1 : Int32)) x35 σ34)) (fun (J147 : Int32 → Sg → Option (Int32 × Sg)) => if (σ32 0 10) = 0 then (J147 (1 : Int32) σ32) else (J147 (0 : Int32) σ32))))) (fun (J130 : Int32 → Sg → Option (Int32 × Sg)) => jp (fun (σ37 : Sg) => J130 (0 : Int32) σ37) (fun (J129 : Sg → Option (Int32 × Sg)) => if v27 = 0 then (J129  σ28) else (bd (fX7_passes (59 : Int32) σ28) (fun (r39 : Int32) (σ40 : Sg) => if r39 = 0 then (J130 (1 : Int32) σ40) else (J129  σ40)))))) (fun (J106 : Int32 → Sg → Option (Int32 × Sg)) => jp (fun (σ43 : Sg) => J106 (0 : Int32) σ43) (fun (J105 : Sg → Option (Int32 × Sg)) => if (σ25 0 10) = 0 then (if (σ25 0 7) ≤ (σ25 0 8) then (J105  σ25) else (J106 (1 : Int32) σ25)) else (J105  σ25)))))
def fX7_setConflicts_192 (y23 : Int32) : Nat → Int32 → Sg → Option (Int32 × Sg)
  | 0, _, _ => none
  | n + 1, x55, σ56 => if (σ56 1 0) ≤ x55 then (some (y23, σ56)) else (gd (inb x55 12) (gd (inb ((64 : Int32) + x55) 2764) (lt' (sup σ56 1 (((64 : Int32) + x55).toNatClampNeg) (σ56 4 x55.toNatClampNeg)) (fun (σ60 : Sg) => gd (inb x55 12) (gd (inb ((76 : Int32) + x55) 2764) (lt' (sup σ60 1 (((76 : Int32) + x55).toNatClampNeg) (σ60 5 x55.toNatClampNeg)) (fun (σ63 : Sg) => fX7_setConflicts_192 y23 n (x55 + (1 : Int32)) σ63)))))))
def fX7_setConflicts  (σ : Sg) : Option (Int32 × Sg) := bd (fX7_isKnown  σ) (fun (r1 : Int32) (σ2 : Sg) => bd (fX7_fails (1 : Int32) r1 σ2) (fun (r4 : Int32) (σ5 : Sg) => if r4 = 0 then (fX7_setConflicts_16 (fun (σ17 : Sg) => lt' (sup σ17 0 8 (0 : Int32)) (fun (σ18 : Sg) => lt' (sup σ18 0 10 (0 : Int32)) (fun (σ19 : Sg) => fX7_setConflicts_72 (fun (y23 : Int32) (σ46 : Sg) => lt' (sup σ46 0 7 (0 : Int32)) (fun (σ47 : Sg) => jp (fun (v48 : Int32) (σ49 : Sg) => lt' (sup σ49 0 9 v48) (fun (σ50 : Sg) => bd (fX7_fails (2 : Int32) (σ50 0 10) σ50) (fun (r51 : Int32) (σ52 : Sg) => if r51 = 0 then (fX7_setConflicts_192 y23 FU (0 : Int32) σ52) else (some ((0 : Int32), σ52))))) (fun (J173 : Int32 → Sg → Option (Int32 × Sg)) => if (σ47 0 10) = 0 then (J173 (-1 : Int32) σ47) else (J173 (σ47 0 8) σ47)))) FU (0 : Int32) (1 : Int32) σ19))) FU (0 : Int32) σ5) else (some ((0 : Int32), σ5))))
set_option maxHeartbeats 4000000 in
theorem wlX7_setConflicts_16 {X : Cx} {G : Gx} {ad : Nat → Nat} {Q : State → Prop} {r : Int32} {σf : Sg} (C : OK wM X G ad RX7 cX7_setConflicts 4 rmX7_setConflicts) (F : FinR wM X G ad Q 0 0 (some .int) (some (.int r)) σf) (K : Sg → Option (Int32 × Sg)) (hK : ∀ (σk : Sg), K σk = some (r, σf) → V wM X G ad 4 Q 0 0 σk 58 [(0, .ref (ad 0))] []) : ∀ (n : Nat) (x8 : Int32) (σ9 : Sg), fX7_setConflicts_16 K n x8 σ9 = some (r, σf) → V wM X G ad 4 Q 0 0 σ9 16 [(0, .ref (ad 0)), (1, .int x8)] [] := by
  intro n
  induction n with
  | zero =>
    intro _ _ hf
    exact absurd hf (by simp [fX7_setConflicts_16])
  | succ n ih =>
    intro x8 σ9 hf
    rw [fX7_setConflicts_16] at hf
    refine V_iload_n (q := 17) C dX7_setConflicts_16 rfl rfl 1 rfl ?_
    refine V_bipush (v := 12) (q := 19) C dX7_setConflicts_17 rfl bc_12 ?_
    refine V_icmp_ge (t := 58) (q := 22) C dX7_setConflicts_19 (by decide) rfl (fun c10 => ?_) (fun c10 => ?_)
    · replace hf := (ite_s hf).1 c10
      refine V_sub (L' := [(0, .ref (ad 0))]) [0] rfl ?_
      exact hK _ hf
    · replace hf := (ite_s hf).2 c10
      refine V_aload_n (q := 23) C dX7_setConflicts_22 rfl rfl 0 rfl ?_
      refine GM_0_5 (q := 26) C q_1187 dX7_setConflicts_23 rfl ?_
      refine V_iload_n (q := 27) C dX7_setConflicts_26 rfl rfl 1 rfl ?_
      refine V_aload_n (q := 28) C dX7_setConflicts_27 rfl rfl 0 rfl ?_
      refine GM_0_1 (q := 31) C q_1183 dX7_setConflicts_28 rfl ?_
      refine V_bipush (v := 64) (q := 33) C dX7_setConflicts_31 rfl bc_64 ?_
      refine V_iload_n (q := 34) C dX7_setConflicts_33 rfl rfl 1 rfl ?_
      refine V_iadd (q := 35) C dX7_setConflicts_34 rfl ?_
      obtain ⟨g11, hf⟩ := gd_s hf
      refine RM_1 (z := ((64 : Int32) + x8).toNatClampNeg) (q := 36) C rfl (inb_in g11) dX7_setConflicts_35 rfl ?_
      obtain ⟨g12, hf⟩ := gd_s hf
      refine SM_4 (z := x8.toNatClampNeg) (q := 37) C rfl (inb_in g12) dX7_setConflicts_36 rfl ?_
      refine V_lets hf (fun σ13 hf => ?_)
      refine V_aload_n (q := 38) C dX7_setConflicts_37 rfl rfl 0 rfl ?_
      refine GM_0_6 (q := 41) C q_1188 dX7_setConflicts_38 rfl ?_
      refine V_iload_n (q := 42) C dX7_setConflicts_41 rfl rfl 1 rfl ?_
      refine V_aload_n (q := 43) C dX7_setConflicts_42 rfl rfl 0 rfl ?_
      refine GM_0_1 (q := 46) C q_1183 dX7_setConflicts_43 rfl ?_
      refine V_bipush (v := 76) (q := 48) C dX7_setConflicts_46 rfl bc_76 ?_
      refine V_iload_n (q := 49) C dX7_setConflicts_48 rfl rfl 1 rfl ?_
      refine V_iadd (q := 50) C dX7_setConflicts_49 rfl ?_
      obtain ⟨g14, hf⟩ := gd_s hf
      refine RM_1 (z := ((76 : Int32) + x8).toNatClampNeg) (q := 51) C rfl (inb_in g14) dX7_setConflicts_50 rfl ?_
      obtain ⟨g15, hf⟩ := gd_s hf
      refine SM_5 (z := x8.toNatClampNeg) (q := 52) C rfl (inb_in g15) dX7_setConflicts_51 rfl ?_
      refine V_lets hf (fun σ16 hf => ?_)
      refine V_iinc (L' := [(1, .int (x8 + (1 : Int32))), (0, .ref (ad 0))]) (q := 55) C dX7_setConflicts_52 rfl 1 rfl (congrArg (fun y => x8 + y) ic_1) (by decide) rfl ?_
      refine V_goto (t := 16) C dX7_setConflicts_55 (by decide) ?_
      refine V_sub (L' := [(0, .ref (ad 0)), (1, .int (x8 + (1 : Int32)))]) [1, 0] rfl ?_
      exact ih _ _ hf
set_option maxHeartbeats 4000000 in
theorem wlX7_setConflicts_72 {X : Cx} {G : Gx} {ad : Nat → Nat} {Q : State → Prop} {r : Int32} {σf : Sg} (C : OK wM X G ad RX7 cX7_setConflicts 4 rmX7_setConflicts) (F : FinR wM X G ad Q 0 0 (some .int) (some (.int r)) σf) (K : Int32 → Sg → Option (Int32 × Sg)) (hK : ∀ (y23 : Int32) (σk : Sg), K y23 σk = some (r, σf) → V wM X G ad 4 Q 0 0 σk 152 [(0, .ref (ad 0)), (1, .int y23)] []) : ∀ (n : Nat) (x20 : Int32) (x21 : Int32) (σ22 : Sg), fX7_setConflicts_72 K n x20 x21 σ22 = some (r, σf) → V wM X G ad 4 Q 0 0 σ22 72 [(0, .ref (ad 0)), (1, .int x20), (2, .int x21)] [] := by
  intro n
  induction n with
  | zero =>
    intro _ _ _ hf
    exact absurd hf (by simp [fX7_setConflicts_72])
  | succ n ih =>
    intro x20 x21 σ22 hf
    rw [fX7_setConflicts_72] at hf
    refine V_iload_n (q := 73) C dX7_setConflicts_72 rfl rfl 2 rfl ?_
    refine V_if_eq (t := 152) (q := 76) C dX7_setConflicts_73 (by decide) rfl (fun c24 => ?_) (fun c24 => ?_)
    · replace hf := (ite_s hf).1 c24
      refine V_sub (L' := [(0, .ref (ad 0)), (1, .int x20)]) [0, 1] rfl ?_
      exact hK _ _ hf
    · replace hf := (ite_s hf).2 c24
      refine V_aload_n (q := 77) C dX7_setConflicts_76 rfl rfl 0 rfl ?_
      obtain ⟨_u, σ25, h26, hf⟩ := bd_s hf
      refine V_callV (av := []) (st := []) (st1 := []) (q := 80) C 0 (by decide) (eM_0 G ad _) rfl rfl (conX7_readPair _ _ _  _ _ h26) q_1287 q_114 q_1284 q_1286 q_67 nmX7_readPair (by decide) rfl rfl (Nat.le_of_ble_eq_true rfl) dX7_setConflicts_77 rfl rfl ?_
      refine V_iinc (L' := [(1, .int (x20 + (1 : Int32))), (0, .ref (ad 0)), (2, .int x21)]) (q := 83) C dX7_setConflicts_80 rfl 1 rfl (congrArg (fun y => x20 + y) ic_1) (by decide) rfl ?_
      refine V_aload_n (q := 84) C dX7_setConflicts_83 rfl rfl 1 rfl ?_
      refine GM_0_10 (q := 87) C q_1192 dX7_setConflicts_84 rfl ?_
      obtain ⟨J106, eJ106, hf⟩ := jp_s hf
      have hJ106 : ∀ (v27 : Int32) (σ28 : Sg), J106 v27 σ28 = some (r, σf) → V wM X G ad 4 Q 0 0 σ28 106 [(0, .ref (ad 0)), (1, .int (x20 + (1 : Int32)))] [.int v27] := by
        intro v27 σ28 hf
        subst eJ106
        refine V_istore_n (L' := [(2, .int v27), (0, .ref (ad 0)), (1, .int (x20 + (1 : Int32)))]) (q := 107) C dX7_setConflicts_106 rfl rfl (by decide) rfl ?_
        refine V_aload_n (q := 108) C dX7_setConflicts_107 rfl rfl 1 rfl ?_
        refine V_dup (q := 109) C dX7_setConflicts_108 rfl rfl ?_
        refine GM_0_10 (q := 112) C q_1192 dX7_setConflicts_109 rfl ?_
        refine V_iload_n (q := 113) C dX7_setConflicts_112 rfl rfl 0 rfl ?_
        obtain ⟨J130, eJ130, hf⟩ := jp_s hf
        have hJ130 : ∀ (v29 : Int32) (σ30 : Sg), J130 v29 σ30 = some (r, σf) → V wM X G ad 4 Q 0 0 σ30 130 [(0, .ref (ad 0)), (1, .int (x20 + (1 : Int32))), (2, .int v27)] [.int v29, .int (σ28 0 10), .ref (ad 0)] := by
          intro v29 σ30 hf
          subst eJ130
          refine V_ior (q := 131) C dX7_setConflicts_130 rfl ?_
          obtain ⟨g31, hf⟩ := gd_s hf
          refine PM_0_10 (q := 134) C (b01_s g31) q_1192 dX7_setConflicts_131 rfl ?_
          refine V_lets hf (fun σ32 hf => ?_)
          refine V_iload_n (q := 135) C dX7_setConflicts_134 rfl rfl 2 rfl ?_
          refine V_aload_n (q := 136) C dX7_setConflicts_135 rfl rfl 0 rfl ?_
          refine GM_0_10 (q := 139) C q_1192 dX7_setConflicts_136 rfl ?_
          obtain ⟨J147, eJ147, hf⟩ := jp_s hf
          have hJ147 : ∀ (v33 : Int32) (σ34 : Sg), J147 v33 σ34 = some (r, σf) → V wM X G ad 4 Q 0 0 σ34 147 [(0, .ref (ad 0)), (1, .int (x20 + (1 : Int32)))] [.int v33, .int v27] := by
            intro v33 σ34 hf
            subst eJ147
            refine V_iand (q := 148) C dX7_setConflicts_147 rfl ?_
            refine V_let (cv := Value.int) hf (fun x35 hf => ?_)
            refine V_istore_n (L' := [(2, .int x35), (0, .ref (ad 0)), (1, .int (x20 + (1 : Int32)))]) (q := 149) C dX7_setConflicts_148 rfl rfl (by decide) rfl ?_
            refine V_goto (t := 72) C dX7_setConflicts_149 (by decide) ?_
            refine V_sub (L' := [(0, .ref (ad 0)), (1, .int (x20 + (1 : Int32))), (2, .int x35)]) [1, 2, 0] rfl ?_
            exact ih _ _ _ hf
          refine V_if_ne (t := 146) (q := 142) C dX7_setConflicts_139 (by decide) rfl (fun c36 => ?_) (fun c36 => ?_)
          · replace hf := (ite_s hf).2 c36
            refine V_iconst (v := 0) (q := 147) C dX7_setConflicts_146 rfl ic_0 ?_
            refine V_sub (L' := [(0, .ref (ad 0)), (1, .int (x20 + (1 : Int32)))]) [0, 1] rfl ?_
            exact hJ147 _ _ hf
          · replace hf := (ite_s hf).1 c36
            refine V_iconst (v := 1) (q := 143) C dX7_setConflicts_142 rfl ic_1 ?_
            refine V_goto (t := 147) C dX7_setConflicts_143 (by decide) ?_
            refine V_sub (L' := [(0, .ref (ad 0)), (1, .int (x20 + (1 : Int32)))]) [0, 1] rfl ?_
            exact hJ147 _ _ hf
        obtain ⟨J129, eJ129, hf⟩ := jp_s hf
        have hJ129 : ∀ (σ37 : Sg), J129 σ37 = some (r, σf) → V wM X G ad 4 Q 0 0 σ37 129 [(0, .ref (ad 0)), (1, .int (x20 + (1 : Int32))), (2, .int v27)] [.int (σ28 0 10), .ref (ad 0)] := by
          intro σ37 hf
          subst eJ129
          refine V_iconst (v := 0) (q := 130) C dX7_setConflicts_129 rfl ic_0 ?_
          exact hJ130 _ _ hf
        refine V_if_eq (t := 129) (q := 116) C dX7_setConflicts_113 (by decide) rfl (fun c38 => ?_) (fun c38 => ?_)
        · replace hf := (ite_s hf).1 c38
          refine V_sub (L' := [(0, .ref (ad 0)), (1, .int (x20 + (1 : Int32))), (2, .int v27)]) [1, 2, 0] rfl ?_
          exact hJ129 _ hf
        · replace hf := (ite_s hf).2 c38
          refine V_aload_n (q := 117) C dX7_setConflicts_116 rfl rfl 1 rfl ?_
          refine V_bipush (v := 59) (q := 119) C dX7_setConflicts_117 rfl bc_59 ?_
          obtain ⟨r39, σ40, h41, hf⟩ := bd_s hf
          refine V_callV (av := [.int (59 : Int32)]) (st := [.int (σ28 0 10), .ref (ad 0)]) (st1 := [.int r39, .int (σ28 0 10), .ref (ad 0)]) (q := 122) C 0 (by decide) (eM_0 G ad _) rfl rfl (conX7_passes _ _ _ _ _ _ _ h41) q_1299 q_114 q_1296 q_1298 q_70 nmX7_passes (by decide) rfl rfl (Nat.le_of_ble_eq_true rfl) dX7_setConflicts_119 rfl rfl ?_
          refine V_if_ne (t := 129) (q := 125) C dX7_setConflicts_122 (by decide) rfl (fun c42 => ?_) (fun c42 => ?_)
          · replace hf := (ite_s hf).2 c42
            refine V_sub (L' := [(0, .ref (ad 0)), (1, .int (x20 + (1 : Int32))), (2, .int v27)]) [1, 2, 0] rfl ?_
            exact hJ129 _ hf
          · replace hf := (ite_s hf).1 c42
            refine V_iconst (v := 1) (q := 126) C dX7_setConflicts_125 rfl ic_1 ?_
            refine V_goto (t := 130) C dX7_setConflicts_126 (by decide) ?_
            refine V_sub (L' := [(0, .ref (ad 0)), (1, .int (x20 + (1 : Int32))), (2, .int v27)]) [1, 2, 0] rfl ?_
            exact hJ130 _ _ hf
      obtain ⟨J105, eJ105, hf⟩ := jp_s hf
      have hJ105 : ∀ (σ43 : Sg), J105 σ43 = some (r, σf) → V wM X G ad 4 Q 0 0 σ43 105 [(0, .ref (ad 0)), (1, .int (x20 + (1 : Int32)))] [] := by
        intro σ43 hf
        subst eJ105
        refine V_iconst (v := 0) (q := 106) C dX7_setConflicts_105 rfl ic_0 ?_
        exact hJ106 _ _ hf
      refine V_if_ne (t := 105) (q := 90) C dX7_setConflicts_87 (by decide) rfl (fun c44 => ?_) (fun c44 => ?_)
      · replace hf := (ite_s hf).2 c44
        refine V_sub (L' := [(0, .ref (ad 0)), (1, .int (x20 + (1 : Int32)))]) [1, 0] rfl ?_
        exact hJ105 _ hf
      · replace hf := (ite_s hf).1 c44
        refine V_aload_n (q := 91) C dX7_setConflicts_90 rfl rfl 1 rfl ?_
        refine GM_0_8 (q := 94) C q_1190 dX7_setConflicts_91 rfl ?_
        refine V_aload_n (q := 95) C dX7_setConflicts_94 rfl rfl 1 rfl ?_
        refine GM_0_7 (q := 98) C q_1189 dX7_setConflicts_95 rfl ?_
        refine V_icmp_ge (t := 105) (q := 101) C dX7_setConflicts_98 (by decide) rfl (fun c45 => ?_) (fun c45 => ?_)
        · replace hf := (ite_s hf).1 c45
          refine V_sub (L' := [(0, .ref (ad 0)), (1, .int (x20 + (1 : Int32)))]) [1, 0] rfl ?_
          exact hJ105 _ hf
        · replace hf := (ite_s hf).2 c45
          refine V_iconst (v := 1) (q := 102) C dX7_setConflicts_101 rfl ic_1 ?_
          refine V_goto (t := 106) C dX7_setConflicts_102 (by decide) ?_
          refine V_sub (L' := [(0, .ref (ad 0)), (1, .int (x20 + (1 : Int32)))]) [1, 0] rfl ?_
          exact hJ106 _ _ hf
set_option maxHeartbeats 4000000 in
theorem wlX7_setConflicts_192 {X : Cx} {G : Gx} {ad : Nat → Nat} {Q : State → Prop} {r : Int32} {σf : Sg} (C : OK wM X G ad RX7 cX7_setConflicts 4 rmX7_setConflicts) (F : FinR wM X G ad Q 0 0 (some .int) (some (.int r)) σf) (y23 : Int32) : ∀ (n : Nat) (x55 : Int32) (σ56 : Sg), fX7_setConflicts_192 y23 n x55 σ56 = some (r, σf) → V wM X G ad 4 Q 0 0 σ56 192 [(0, .ref (ad 0)), (1, .int y23), (3, .int x55)] [] := by
  intro n
  induction n with
  | zero =>
    intro _ _ hf
    exact absurd hf (by simp [fX7_setConflicts_192])
  | succ n ih =>
    intro x55 σ56 hf
    rw [fX7_setConflicts_192] at hf
    refine V_iload_n (q := 193) C dX7_setConflicts_192 rfl rfl 2 rfl ?_
    refine V_aload_n (q := 194) C dX7_setConflicts_193 rfl rfl 0 rfl ?_
    refine GM_0_1 (q := 197) C q_1183 dX7_setConflicts_194 rfl ?_
    refine V_iconst (v := 0) (q := 198) C dX7_setConflicts_197 rfl ic_0 ?_
    refine RM_1 (z := 0) (q := 199) C tn_0 (inb_in (by decide)) dX7_setConflicts_198 rfl ?_
    refine V_icmp_ge (t := 238) (q := 202) C dX7_setConflicts_199 (by decide) rfl (fun c57 => ?_) (fun c57 => ?_)
    · replace hf := (ite_s hf).1 c57
      refine V_iload_n (q := 239) C dX7_setConflicts_238 rfl rfl 1 rfl ?_
      obtain ⟨e1, e2⟩ := pr_s hf
      subst e1; subst e2
      exact V_iret C F (by decide) (by decide) dX7_setConflicts_239
    · replace hf := (ite_s hf).2 c57
      refine V_aload_n (q := 203) C dX7_setConflicts_202 rfl rfl 0 rfl ?_
      refine GM_0_1 (q := 206) C q_1183 dX7_setConflicts_203 rfl ?_
      refine V_bipush (v := 64) (q := 208) C dX7_setConflicts_206 rfl bc_64 ?_
      refine V_iload_n (q := 209) C dX7_setConflicts_208 rfl rfl 2 rfl ?_
      refine V_iadd (q := 210) C dX7_setConflicts_209 rfl ?_
      refine V_aload_n (q := 211) C dX7_setConflicts_210 rfl rfl 0 rfl ?_
      refine GM_0_5 (q := 214) C q_1187 dX7_setConflicts_211 rfl ?_
      refine V_iload_n (q := 215) C dX7_setConflicts_214 rfl rfl 2 rfl ?_
      obtain ⟨g58, hf⟩ := gd_s hf
      refine RM_4 (z := x55.toNatClampNeg) (q := 216) C rfl (inb_in g58) dX7_setConflicts_215 rfl ?_
      obtain ⟨g59, hf⟩ := gd_s hf
      refine SM_1 (z := ((64 : Int32) + x55).toNatClampNeg) (q := 217) C rfl (inb_in g59) dX7_setConflicts_216 rfl ?_
      refine V_lets hf (fun σ60 hf => ?_)
      refine V_aload_n (q := 218) C dX7_setConflicts_217 rfl rfl 0 rfl ?_
      refine GM_0_1 (q := 221) C q_1183 dX7_setConflicts_218 rfl ?_
      refine V_bipush (v := 76) (q := 223) C dX7_setConflicts_221 rfl bc_76 ?_
      refine V_iload_n (q := 224) C dX7_setConflicts_223 rfl rfl 2 rfl ?_
      refine V_iadd (q := 225) C dX7_setConflicts_224 rfl ?_
      refine V_aload_n (q := 226) C dX7_setConflicts_225 rfl rfl 0 rfl ?_
      refine GM_0_6 (q := 229) C q_1188 dX7_setConflicts_226 rfl ?_
      refine V_iload_n (q := 230) C dX7_setConflicts_229 rfl rfl 2 rfl ?_
      obtain ⟨g61, hf⟩ := gd_s hf
      refine RM_5 (z := x55.toNatClampNeg) (q := 231) C rfl (inb_in g61) dX7_setConflicts_230 rfl ?_
      obtain ⟨g62, hf⟩ := gd_s hf
      refine SM_1 (z := ((76 : Int32) + x55).toNatClampNeg) (q := 232) C rfl (inb_in g62) dX7_setConflicts_231 rfl ?_
      refine V_lets hf (fun σ63 hf => ?_)
      refine V_iinc (L' := [(3, .int (x55 + (1 : Int32))), (0, .ref (ad 0)), (1, .int y23)]) (q := 235) C dX7_setConflicts_232 rfl 2 rfl (congrArg (fun y => x55 + y) ic_1) (by decide) rfl ?_
      refine V_goto (t := 192) C dX7_setConflicts_235 (by decide) ?_
      refine V_sub (L' := [(0, .ref (ad 0)), (1, .int y23), (3, .int (x55 + (1 : Int32)))]) [1, 2, 0] rfl ?_
      exact ih _ _ hf
set_option maxHeartbeats 4000000 in
theorem conX7_setConflicts (l : Launch) (G : Gx) (ad : Nat → Nat)  (σ : Sg) (r : Int32) (σf : Sg)  (hf : fX7_setConflicts  σ = some (r, σf)) : Con wM l G ad yX7_setConflicts (Cond.code yX7_setConflicts cX7_setConflicts 4 (some .int)) rmX7_setConflicts 0 0 [.ref (ad 0)] σ (some (.int r)) σf := by
  refine Con.start (by decide) (Nat.le_of_ble_eq_true rfl) (fun X Q _ C F => ?_)
  refine V_eq (L' := [(0, .ref (ad 0))]) (st' := []) rfl rfl rfl ?_
  unfold fX7_setConflicts at hf
  refine V_aload_n (q := 1) C dX7_setConflicts_0 rfl rfl 0 rfl ?_
  refine V_iconst (v := 1) (q := 2) C dX7_setConflicts_1 rfl ic_1 ?_
  refine V_aload_n (q := 3) C dX7_setConflicts_2 rfl rfl 0 rfl ?_
  obtain ⟨r1, σ2, h3, hf⟩ := bd_s hf
  refine V_callV (av := []) (st := [.int (1 : Int32), .ref (ad 0)]) (st1 := [.int r1, .int (1 : Int32), .ref (ad 0)]) (q := 6) C 0 (by decide) (eM_0 G ad _) rfl rfl (conX7_isKnown _ _ _  _ _ _ h3) q_1255 q_114 q_1252 q_1254 q_65 nmX7_isKnown (by decide) rfl rfl (Nat.le_of_ble_eq_true rfl) dX7_setConflicts_3 rfl rfl ?_
  obtain ⟨r4, σ5, h6, hf⟩ := bd_s hf
  refine V_callV (av := [.int (1 : Int32), .int r1]) (st := []) (st1 := [.int r4]) (q := 9) C 0 (by decide) (eM_0 G ad _) rfl rfl (conX7_fails _ _ _ _ _ _ _ _ h6) q_1251 q_114 q_1248 q_1250 q_64 nmX7_fails (by decide) rfl rfl (Nat.le_of_ble_eq_true rfl) dX7_setConflicts_6 rfl rfl ?_
  refine V_if_eq (t := 14) (q := 12) C dX7_setConflicts_9 (by decide) rfl (fun c7 => ?_) (fun c7 => ?_)
  · replace hf := (ite_s hf).1 c7
    refine V_iconst (v := 0) (q := 15) C dX7_setConflicts_14 rfl ic_0 ?_
    refine V_istore_n (L' := [(1, .int (0 : Int32)), (0, .ref (ad 0))]) (q := 16) C dX7_setConflicts_15 rfl rfl (by decide) rfl ?_
    refine V_sub (L' := [(0, .ref (ad 0)), (1, .int (0 : Int32))]) [1, 0] rfl ?_
    refine wlX7_setConflicts_16 C F _ (fun σ17 hf => ?_) FU _ _ hf
    refine V_aload_n (q := 59) C dX7_setConflicts_58 rfl rfl 0 rfl ?_
    refine V_iconst (v := 0) (q := 60) C dX7_setConflicts_59 rfl ic_0 ?_
    refine PM_0_8 (q := 63) C q_1190 dX7_setConflicts_60 rfl ?_
    refine V_lets hf (fun σ18 hf => ?_)
    refine V_aload_n (q := 64) C dX7_setConflicts_63 rfl rfl 0 rfl ?_
    refine V_iconst (v := 0) (q := 65) C dX7_setConflicts_64 rfl ic_0 ?_
    refine PM_0_10 (q := 68) C (by decide) q_1192 dX7_setConflicts_65 rfl ?_
    refine V_lets hf (fun σ19 hf => ?_)
    refine V_iconst (v := 0) (q := 69) C dX7_setConflicts_68 rfl ic_0 ?_
    refine V_istore_n (L' := [(1, .int (0 : Int32)), (0, .ref (ad 0))]) (q := 70) C dX7_setConflicts_69 rfl rfl (by decide) rfl ?_
    refine V_iconst (v := 1) (q := 71) C dX7_setConflicts_70 rfl ic_1 ?_
    refine V_istore_n (L' := [(2, .int (1 : Int32)), (1, .int (0 : Int32)), (0, .ref (ad 0))]) (q := 72) C dX7_setConflicts_71 rfl rfl (by decide) rfl ?_
    refine V_sub (L' := [(0, .ref (ad 0)), (1, .int (0 : Int32)), (2, .int (1 : Int32))]) [2, 1, 0] rfl ?_
    refine wlX7_setConflicts_72 C F _ (fun y23 σ46 hf => ?_) FU _ _ _ hf
    refine V_aload_n (q := 153) C dX7_setConflicts_152 rfl rfl 0 rfl ?_
    refine V_iconst (v := 0) (q := 154) C dX7_setConflicts_153 rfl ic_0 ?_
    refine PM_0_7 (q := 157) C q_1189 dX7_setConflicts_154 rfl ?_
    refine V_lets hf (fun σ47 hf => ?_)
    refine V_aload_n (q := 158) C dX7_setConflicts_157 rfl rfl 0 rfl ?_
    refine V_aload_n (q := 159) C dX7_setConflicts_158 rfl rfl 0 rfl ?_
    refine GM_0_10 (q := 162) C q_1192 dX7_setConflicts_159 rfl ?_
    obtain ⟨J173, eJ173, hf⟩ := jp_s hf
    have hJ173 : ∀ (v48 : Int32) (σ49 : Sg), J173 v48 σ49 = some (r, σf) → V wM X G ad 4 Q 0 0 σ49 173 [(0, .ref (ad 0)), (1, .int y23)] [.int v48, .ref (ad 0)] := by
      intro v48 σ49 hf
      subst eJ173
      refine PM_0_9 (q := 176) C q_1191 dX7_setConflicts_173 rfl ?_
      refine V_lets hf (fun σ50 hf => ?_)
      refine V_aload_n (q := 177) C dX7_setConflicts_176 rfl rfl 0 rfl ?_
      refine V_iconst (v := 2) (q := 178) C dX7_setConflicts_177 rfl ic_2 ?_
      refine V_aload_n (q := 179) C dX7_setConflicts_178 rfl rfl 0 rfl ?_
      refine GM_0_10 (q := 182) C q_1192 dX7_setConflicts_179 rfl ?_
      obtain ⟨r51, σ52, h53, hf⟩ := bd_s hf
      refine V_callV (av := [.int (2 : Int32), .int (σ50 0 10)]) (st := []) (st1 := [.int r51]) (q := 185) C 0 (by decide) (eM_0 G ad _) rfl rfl (conX7_fails _ _ _ _ _ _ _ _ h53) q_1251 q_114 q_1248 q_1250 q_64 nmX7_fails (by decide) rfl rfl (Nat.le_of_ble_eq_true rfl) dX7_setConflicts_182 rfl rfl ?_
      refine V_if_eq (t := 190) (q := 188) C dX7_setConflicts_185 (by decide) rfl (fun c54 => ?_) (fun c54 => ?_)
      · replace hf := (ite_s hf).1 c54
        refine V_iconst (v := 0) (q := 191) C dX7_setConflicts_190 rfl ic_0 ?_
        refine V_istore_n (L' := [(3, .int (0 : Int32)), (0, .ref (ad 0)), (1, .int y23)]) (q := 192) C dX7_setConflicts_191 rfl rfl (by decide) rfl ?_
        refine V_sub (L' := [(0, .ref (ad 0)), (1, .int y23), (3, .int (0 : Int32))]) [1, 2, 0] rfl ?_
        refine wlX7_setConflicts_192 C F y23 FU _ _ hf
      · replace hf := (ite_s hf).2 c54
        refine V_iconst (v := 0) (q := 189) C dX7_setConflicts_188 rfl ic_0 ?_
        obtain ⟨e1, e2⟩ := pr_s hf
        subst e1; subst e2
        exact V_iret C F (by decide) (by decide) dX7_setConflicts_189
    refine V_if_eq (t := 172) (q := 165) C dX7_setConflicts_162 (by decide) rfl (fun c64 => ?_) (fun c64 => ?_)
    · replace hf := (ite_s hf).1 c64
      refine V_iconst (v := (-1)) (q := 173) C dX7_setConflicts_172 rfl ic_m1 ?_
      exact hJ173 _ _ hf
    · replace hf := (ite_s hf).2 c64
      refine V_aload_n (q := 166) C dX7_setConflicts_165 rfl rfl 0 rfl ?_
      refine GM_0_8 (q := 169) C q_1190 dX7_setConflicts_166 rfl ?_
      refine V_goto (t := 173) C dX7_setConflicts_169 (by decide) ?_
      exact hJ173 _ _ hf
  · replace hf := (ite_s hf).2 c7
    refine V_iconst (v := 0) (q := 13) C dX7_setConflicts_12 rfl ic_0 ?_
    obtain ⟨e1, e2⟩ := pr_s hf
    subst e1; subst e2
    exact V_iret C F (by decide) (by decide) dX7_setConflicts_13
