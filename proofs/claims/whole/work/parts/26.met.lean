def rmX7_back : Room := { frames := 2, cells := 0, slots := 0, locals := 44 }
def fX7_back (a : Int32) (σ : Sg) : Option (Int32 × Sg) := bd (fX7_isKnown  σ) (fun (r1 : Int32) (σ2 : Sg) => jp (fun (v4 : Int32) (σ5 : Sg) => bd (fX7_fails (1 : Int32) v4 σ5) (fun (r6 : Int32) (σ7 : Sg) => if r6 = 0 then (jp (fun (v10 : Int32) (σ11 : Sg) => bd (fX7_fails (2 : Int32) v10 σ11) (fun (r12 : Int32) (σ13 : Sg) => if r12 = 0 then (lt' (sup σ13 1 3 a) (fun (σ16 : Sg) => bd (fX7_in (1 : Int32) σ16) (fun (r17 : Int32) (σ18 : Sg) => bd (fX7_countBits r17 σ18) (fun (r20 : Int32) (σ21 : Sg) => some (r20, σ21))))) else (some ((0 : Int32), σ13)))) (fun (J41 : Int32 → Sg → Option (Int32 × Sg)) => if (pX7_isBetween a (0 : Int32) (σ7 1 3)) = 0 then (J41 (1 : Int32) σ7) else (J41 (0 : Int32) σ7))) else (some ((0 : Int32), σ7)))) (fun (J14 : Int32 → Sg → Option (Int32 × Sg)) => if r1 = 0 then (J14 (1 : Int32) σ2) else (J14 (0 : Int32) σ2)))
set_option maxHeartbeats 4000000 in
theorem conX7_back (l : Launch) (G : Gx) (ad : Nat → Nat) (a : Int32) (σ : Sg) (r : Int32) (σf : Sg)  (hf : fX7_back a σ = some (r, σf)) : Con wM l G ad yX7_back (Cond.code yX7_back cX7_back 2 (some .int)) rmX7_back 0 0 [.ref (ad 0), .int a] σ (some (.int r)) σf := by
  refine Con.start (by decide) (Nat.le_of_ble_eq_true rfl) (fun X Q _ C F => ?_)
  refine V_eq (L' := [(0, .ref (ad 0)), (1, .int a)]) (st' := []) rfl rfl rfl ?_
  unfold fX7_back at hf
  refine V_aload_n (q := 1) C dX7_back_0 rfl rfl 0 rfl ?_
  refine V_iconst (v := 1) (q := 2) C dX7_back_1 rfl ic_1 ?_
  refine V_aload_n (q := 3) C dX7_back_2 rfl rfl 0 rfl ?_
  obtain ⟨r1, σ2, h3, hf⟩ := bd_s hf
  refine V_callV (av := []) (st := [.int (1 : Int32), .ref (ad 0)]) (st1 := [.int r1, .int (1 : Int32), .ref (ad 0)]) (q := 6) C 0 (by decide) (eM_0 G ad _) rfl rfl (conX7_isKnown _ _ _  _ _ _ h3) q_1255 q_114 q_1252 q_1254 q_65 nmX7_isKnown (by decide) rfl rfl (Nat.le_of_ble_eq_true rfl) dX7_back_3 rfl rfl ?_
  obtain ⟨J14, eJ14, hf⟩ := jp_s hf
  have hJ14 : ∀ (v4 : Int32) (σ5 : Sg), J14 v4 σ5 = some (r, σf) → V wM X G ad 2 Q 0 0 σ5 14 [(0, .ref (ad 0)), (1, .int a)] [.int v4, .int (1 : Int32), .ref (ad 0)] := by
    intro v4 σ5 hf
    subst eJ14
    obtain ⟨r6, σ7, h8, hf⟩ := bd_s hf
    refine V_callV (av := [.int (1 : Int32), .int v4]) (st := []) (st1 := [.int r6]) (q := 17) C 0 (by decide) (eM_0 G ad _) rfl rfl (conX7_fails _ _ _ _ _ _ _ _ h8) q_1251 q_114 q_1248 q_1250 q_64 nmX7_fails (by decide) rfl rfl (Nat.le_of_ble_eq_true rfl) dX7_back_14 rfl rfl ?_
    refine V_if_ne (t := 47) (q := 20) C dX7_back_17 (by decide) rfl (fun c9 => ?_) (fun c9 => ?_)
    · replace hf := (ite_s hf).2 c9
      refine V_iconst (v := 0) (q := 48) C dX7_back_47 rfl ic_0 ?_
      obtain ⟨e1, e2⟩ := pr_s hf
      subst e1; subst e2
      exact V_iret C F (by decide) (by decide) dX7_back_48
    · replace hf := (ite_s hf).1 c9
      refine V_aload_n (q := 21) C dX7_back_20 rfl rfl 0 rfl ?_
      refine V_iconst (v := 2) (q := 22) C dX7_back_21 rfl ic_2 ?_
      refine V_iload_n (q := 23) C dX7_back_22 rfl rfl 1 rfl ?_
      refine V_iconst (v := 0) (q := 24) C dX7_back_23 rfl ic_0 ?_
      refine V_aload_n (q := 25) C dX7_back_24 rfl rfl 0 rfl ?_
      refine GM_0_1 (q := 28) C q_1183 dX7_back_25 rfl ?_
      refine V_iconst (v := 3) (q := 29) C dX7_back_28 rfl ic_3 ?_
      refine RM_1 (z := 3) (q := 30) C tn_3 (inb_in (by decide)) dX7_back_29 rfl ?_
      refine V_callS (av := [.int a, .int (0 : Int32), .int (σ7 1 3)]) (st := [.int (2 : Int32), .ref (ad 0)]) (st1 := [.int (pX7_isBetween a (0 : Int32) (σ7 1 3)), .int (2 : Int32), .ref (ad 0)]) (q := 33) C (conX7_isBetween _ _ _ _ _ _ _ _ rfl) q_1247 q_114 q_1245 q_1246 nmX7_isBetween (by decide) rfl rfl (Nat.le_of_ble_eq_true rfl) dX7_back_30 rfl rfl ?_
      obtain ⟨J41, eJ41, hf⟩ := jp_s hf
      have hJ41 : ∀ (v10 : Int32) (σ11 : Sg), J41 v10 σ11 = some (r, σf) → V wM X G ad 2 Q 0 0 σ11 41 [(0, .ref (ad 0)), (1, .int a)] [.int v10, .int (2 : Int32), .ref (ad 0)] := by
        intro v10 σ11 hf
        subst eJ41
        obtain ⟨r12, σ13, h14, hf⟩ := bd_s hf
        refine V_callV (av := [.int (2 : Int32), .int v10]) (st := []) (st1 := [.int r12]) (q := 44) C 0 (by decide) (eM_0 G ad _) rfl rfl (conX7_fails _ _ _ _ _ _ _ _ h14) q_1251 q_114 q_1248 q_1250 q_64 nmX7_fails (by decide) rfl rfl (Nat.le_of_ble_eq_true rfl) dX7_back_41 rfl rfl ?_
        refine V_if_eq (t := 49) (q := 47) C dX7_back_44 (by decide) rfl (fun c15 => ?_) (fun c15 => ?_)
        · replace hf := (ite_s hf).1 c15
          refine V_aload_n (q := 50) C dX7_back_49 rfl rfl 0 rfl ?_
          refine GM_0_1 (q := 53) C q_1183 dX7_back_50 rfl ?_
          refine V_iconst (v := 3) (q := 54) C dX7_back_53 rfl ic_3 ?_
          refine V_iload_n (q := 55) C dX7_back_54 rfl rfl 1 rfl ?_
          refine SM_1 (z := 3) (q := 56) C tn_3 (inb_in (by decide)) dX7_back_55 rfl ?_
          refine V_lets hf (fun σ16 hf => ?_)
          refine V_aload_n (q := 57) C dX7_back_56 rfl rfl 0 rfl ?_
          refine V_iconst (v := 1) (q := 58) C dX7_back_57 rfl ic_1 ?_
          obtain ⟨r17, σ18, h19, hf⟩ := bd_s hf
          refine V_callV (av := [.int (1 : Int32)]) (st := []) (st1 := [.int r17]) (q := 61) C 0 (by decide) (eM_0 G ad _) rfl rfl (conX7_in _ _ _ _ _ _ _ h19) q_1468 q_114 q_1465 q_1467 q_95 nmX7_in (by decide) rfl rfl (Nat.le_of_ble_eq_true rfl) dX7_back_58 rfl rfl ?_
          obtain ⟨r20, σ21, h22, hf⟩ := bd_s hf
          refine V_callS (av := [.int r17]) (st := []) (st1 := [.int r20]) (q := 64) C (conX7_countBits _ _ _ _ _ _ _ h22) q_1341 q_114 q_1339 q_1340 nmX7_countBits (by decide) rfl rfl (Nat.le_of_ble_eq_true rfl) dX7_back_61 rfl rfl ?_
          obtain ⟨e1, e2⟩ := pr_s hf
          subst e1; subst e2
          exact V_iret C F (by decide) (by decide) dX7_back_64
        · replace hf := (ite_s hf).2 c15
          refine V_iconst (v := 0) (q := 48) C dX7_back_47 rfl ic_0 ?_
          obtain ⟨e1, e2⟩ := pr_s hf
          subst e1; subst e2
          exact V_iret C F (by decide) (by decide) dX7_back_48
      refine V_if_ne (t := 40) (q := 36) C dX7_back_33 (by decide) rfl (fun c23 => ?_) (fun c23 => ?_)
      · replace hf := (ite_s hf).2 c23
        refine V_iconst (v := 0) (q := 41) C dX7_back_40 rfl ic_0 ?_
        exact hJ41 _ _ hf
      · replace hf := (ite_s hf).1 c23
        refine V_iconst (v := 1) (q := 37) C dX7_back_36 rfl ic_1 ?_
        refine V_goto (t := 41) C dX7_back_37 (by decide) ?_
        exact hJ41 _ _ hf
  refine V_if_ne (t := 13) (q := 9) C dX7_back_6 (by decide) rfl (fun c24 => ?_) (fun c24 => ?_)
  · replace hf := (ite_s hf).2 c24
    refine V_iconst (v := 0) (q := 14) C dX7_back_13 rfl ic_0 ?_
    exact hJ14 _ _ hf
  · replace hf := (ite_s hf).1 c24
    refine V_iconst (v := 1) (q := 10) C dX7_back_9 rfl ic_1 ?_
    refine V_goto (t := 14) C dX7_back_10 (by decide) ?_
    exact hJ14 _ _ hf
def rmX7_outside : Room := { frames := 0, cells := 0, slots := 0, locals := 0 }
def fX7_outside_4 : Nat → Int32 → Int32 → Sg → Option (Int32 × Sg)
  | 0, _, _, _ => none
  | n + 1, x1, x2, σ3 => if (σ3 1 0) ≤ x2 then (some (x1, σ3)) else (gd (inb ((40 : Int32) + x2) 2764) (jp (fun (v6 : Int32) (σ7 : Sg) => lt' ((x1 ||| v6)) (fun (x8 : Int32) => fX7_outside_4 n x8 (x2 + (1 : Int32)) σ7)) (fun (J34 : Int32 → Sg → Option (Int32 × Sg)) => if (σ3 1 (((40 : Int32) + x2).toNatClampNeg)) = 0 then (J34 ((1 : Int32) <<< (x2 &&& 31)) σ3) else (J34 (0 : Int32) σ3))))
def fX7_outside  (σ : Sg) : Option (Int32 × Sg) := fX7_outside_4 FU (0 : Int32) (0 : Int32) σ
set_option maxHeartbeats 4000000 in
theorem wlX7_outside_4 {X : Cx} {G : Gx} {ad : Nat → Nat} {Q : State → Prop} {r : Int32} {σf : Sg} (C : OK wM X G ad RX7 cX7_outside 3 rmX7_outside) (F : FinR wM X G ad Q 0 0 (some .int) (some (.int r)) σf) : ∀ (n : Nat) (x1 : Int32) (x2 : Int32) (σ3 : Sg), fX7_outside_4 n x1 x2 σ3 = some (r, σf) → V wM X G ad 3 Q 0 0 σ3 4 [(0, .ref (ad 0)), (1, .int x1), (2, .int x2)] [] := by
  intro n
  induction n with
  | zero =>
    intro _ _ _ hf
    exact absurd hf (by simp [fX7_outside_4])
  | succ n ih =>
    intro x1 x2 σ3 hf
    rw [fX7_outside_4] at hf
    refine V_iload_n (q := 5) C dX7_outside_4 rfl rfl 2 rfl ?_
    refine V_aload_n (q := 6) C dX7_outside_5 rfl rfl 0 rfl ?_
    refine GM_0_1 (q := 9) C q_1183 dX7_outside_6 rfl ?_
    refine V_iconst (v := 0) (q := 10) C dX7_outside_9 rfl ic_0 ?_
    refine RM_1 (z := 0) (q := 11) C tn_0 (inb_in (by decide)) dX7_outside_10 rfl ?_
    refine V_icmp_ge (t := 42) (q := 14) C dX7_outside_11 (by decide) rfl (fun c4 => ?_) (fun c4 => ?_)
    · replace hf := (ite_s hf).1 c4
      refine V_iload_n (q := 43) C dX7_outside_42 rfl rfl 1 rfl ?_
      obtain ⟨e1, e2⟩ := pr_s hf
      subst e1; subst e2
      exact V_iret C F (by decide) (by decide) dX7_outside_43
    · replace hf := (ite_s hf).2 c4
      refine V_iload_n (q := 15) C dX7_outside_14 rfl rfl 1 rfl ?_
      refine V_aload_n (q := 16) C dX7_outside_15 rfl rfl 0 rfl ?_
      refine GM_0_1 (q := 19) C q_1183 dX7_outside_16 rfl ?_
      refine V_bipush (v := 40) (q := 21) C dX7_outside_19 rfl bc_40 ?_
      refine V_iload_n (q := 22) C dX7_outside_21 rfl rfl 2 rfl ?_
      refine V_iadd (q := 23) C dX7_outside_22 rfl ?_
      obtain ⟨g5, hf⟩ := gd_s hf
      refine RM_1 (z := ((40 : Int32) + x2).toNatClampNeg) (q := 24) C rfl (inb_in g5) dX7_outside_23 rfl ?_
      obtain ⟨J34, eJ34, hf⟩ := jp_s hf
      have hJ34 : ∀ (v6 : Int32) (σ7 : Sg), J34 v6 σ7 = some (r, σf) → V wM X G ad 3 Q 0 0 σ7 34 [(0, .ref (ad 0)), (2, .int x2)] [.int v6, .int x1] := by
        intro v6 σ7 hf
        subst eJ34
        refine V_ior (q := 35) C dX7_outside_34 rfl ?_
        refine V_let (cv := Value.int) hf (fun x8 hf => ?_)
        refine V_istore_n (L' := [(1, .int x8), (0, .ref (ad 0)), (2, .int x2)]) (q := 36) C dX7_outside_35 rfl rfl (by decide) rfl ?_
        refine V_iinc (L' := [(2, .int (x2 + (1 : Int32))), (1, .int x8), (0, .ref (ad 0))]) (q := 39) C dX7_outside_36 rfl 2 rfl (congrArg (fun y => x2 + y) ic_1) (by decide) rfl ?_
        refine V_goto (t := 4) C dX7_outside_39 (by decide) ?_
        refine V_sub (L' := [(0, .ref (ad 0)), (1, .int x8), (2, .int (x2 + (1 : Int32)))]) [2, 1, 0] rfl ?_
        exact ih _ _ _ hf
      refine V_if_ne (t := 33) (q := 27) C dX7_outside_24 (by decide) rfl (fun c9 => ?_) (fun c9 => ?_)
      · replace hf := (ite_s hf).2 c9
        refine V_iconst (v := 0) (q := 34) C dX7_outside_33 rfl ic_0 ?_
        refine V_sub (L' := [(0, .ref (ad 0)), (2, .int x2)]) [0, 2] rfl ?_
        exact hJ34 _ _ hf
      · replace hf := (ite_s hf).1 c9
        refine V_iconst (v := 1) (q := 28) C dX7_outside_27 rfl ic_1 ?_
        refine V_iload_n (q := 29) C dX7_outside_28 rfl rfl 2 rfl ?_
        refine V_ishl (q := 30) C dX7_outside_29 rfl ?_
        refine V_goto (t := 34) C dX7_outside_30 (by decide) ?_
        refine V_sub (L' := [(0, .ref (ad 0)), (2, .int x2)]) [0, 2] rfl ?_
        exact hJ34 _ _ hf
set_option maxHeartbeats 4000000 in
theorem conX7_outside (l : Launch) (G : Gx) (ad : Nat → Nat)  (σ : Sg) (r : Int32) (σf : Sg)  (hf : fX7_outside  σ = some (r, σf)) : Con wM l G ad yX7_outside (Cond.code yX7_outside cX7_outside 3 (some .int)) rmX7_outside 0 0 [.ref (ad 0)] σ (some (.int r)) σf := by
  refine Con.start (by decide) (Nat.le_of_ble_eq_true rfl) (fun X Q _ C F => ?_)
  refine V_eq (L' := [(0, .ref (ad 0))]) (st' := []) rfl rfl rfl ?_
  unfold fX7_outside at hf
  refine V_iconst (v := 0) (q := 1) C dX7_outside_0 rfl ic_0 ?_
  refine V_istore_n (L' := [(1, .int (0 : Int32)), (0, .ref (ad 0))]) (q := 2) C dX7_outside_1 rfl rfl (by decide) rfl ?_
  refine V_iconst (v := 0) (q := 3) C dX7_outside_2 rfl ic_0 ?_
  refine V_istore_n (L' := [(2, .int (0 : Int32)), (1, .int (0 : Int32)), (0, .ref (ad 0))]) (q := 4) C dX7_outside_3 rfl rfl (by decide) rfl ?_
  refine V_sub (L' := [(0, .ref (ad 0)), (1, .int (0 : Int32)), (2, .int (0 : Int32))]) [2, 1, 0] rfl ?_
  refine wlX7_outside_4 C F FU _ _ _ hf
def rmX7_findBest : Room := { frames := 20, cells := 0, slots := 0, locals := 531 }
def fX7_findBest_16 (r1 : Int32) : Nat → Int32 → Int32 → Int32 → Sg → Option (Int32 × Sg)
  | 0, _, _, _, _ => none
  | n + 1, x7, x8, x9, σ10 => if ((1 : Int32) <<< ((σ10 1 0) &&& 31)) ≤ x9 then (some (x7, σ10)) else (jp (fun (y12 : Int32) (y13 : Int32) (σ14 : Sg) => fX7_findBest_16 r1 n y12 y13 (x9 + (1 : Int32)) σ14) (fun (J67 : Int32 → Int32 → Sg → Option (Int32 × Sg)) => if (r1 &&& (x9 ^^^ (-1 : Int32))) = 0 then (bd (fX7_sumValues x9 σ10) (fun (r16 : Int32) (σ17 : Sg) => if r16 ≤ x8 then (J67 x7 x8 σ17) else (bd (fX7_isPossible x9 σ17) (fun (r20 : Int32) (σ21 : Sg) => if r20 = 0 then (J67 x7 x8 σ21) else (bd (fX7_sumValues x9 σ21) (fun (r24 : Int32) (σ25 : Sg) => J67 x9 r24 σ25)))))) else (J67 x7 x8 σ10)))
def fX7_findBest  (σ : Sg) : Option (Int32 × Sg) := bd (fX7_outside  σ) (fun (r1 : Int32) (σ2 : Sg) => bd (fX7_sumValues r1 σ2) (fun (r4 : Int32) (σ5 : Sg) => fX7_findBest_16 r1 FU r1 r4 (0 : Int32) σ5))
set_option maxHeartbeats 4000000 in
theorem wlX7_findBest_16 {X : Cx} {G : Gx} {ad : Nat → Nat} {Q : State → Prop} {r : Int32} {σf : Sg} (C : OK wM X G ad RX7 cX7_findBest 5 rmX7_findBest) (F : FinR wM X G ad Q 0 0 (some .int) (some (.int r)) σf) (r1 : Int32) : ∀ (n : Nat) (x7 : Int32) (x8 : Int32) (x9 : Int32) (σ10 : Sg), fX7_findBest_16 r1 n x7 x8 x9 σ10 = some (r, σf) → V wM X G ad 5 Q 0 0 σ10 16 [(0, .ref (ad 0)), (1, .int r1), (2, .int x7), (3, .int x8), (4, .int x9)] [] := by
  intro n
  induction n with
  | zero =>
    intro _ _ _ _ hf
    exact absurd hf (by simp [fX7_findBest_16])
  | succ n ih =>
    intro x7 x8 x9 σ10 hf
    rw [fX7_findBest_16] at hf
    refine V_iload (q := 18) C dX7_findBest_16 rfl 4 rfl ?_
    refine V_iconst (v := 1) (q := 19) C dX7_findBest_18 rfl ic_1 ?_
    refine V_aload_n (q := 20) C dX7_findBest_19 rfl rfl 0 rfl ?_
    refine GM_0_1 (q := 23) C q_1183 dX7_findBest_20 rfl ?_
    refine V_iconst (v := 0) (q := 24) C dX7_findBest_23 rfl ic_0 ?_
    refine RM_1 (z := 0) (q := 25) C tn_0 (inb_in (by decide)) dX7_findBest_24 rfl ?_
    refine V_ishl (q := 26) C dX7_findBest_25 rfl ?_
    refine V_icmp_ge (t := 73) (q := 29) C dX7_findBest_26 (by decide) rfl (fun c11 => ?_) (fun c11 => ?_)
    · replace hf := (ite_s hf).1 c11
      refine V_iload_n (q := 74) C dX7_findBest_73 rfl rfl 2 rfl ?_
      obtain ⟨e1, e2⟩ := pr_s hf
      subst e1; subst e2
      exact V_iret C F (by decide) (by decide) dX7_findBest_74
    · replace hf := (ite_s hf).2 c11
      refine V_iload_n (q := 30) C dX7_findBest_29 rfl rfl 1 rfl ?_
      refine V_iload (q := 32) C dX7_findBest_30 rfl 4 rfl ?_
      refine V_iconst (v := (-1)) (q := 33) C dX7_findBest_32 rfl ic_m1 ?_
      refine V_ixor (q := 34) C dX7_findBest_33 rfl ?_
      refine V_iand (q := 35) C dX7_findBest_34 rfl ?_
      obtain ⟨J67, eJ67, hf⟩ := jp_s hf
      have hJ67 : ∀ (y12 : Int32) (y13 : Int32) (σ14 : Sg), J67 y12 y13 σ14 = some (r, σf) → V wM X G ad 5 Q 0 0 σ14 67 [(0, .ref (ad 0)), (1, .int r1), (2, .int y12), (3, .int y13), (4, .int x9)] [] := by
        intro y12 y13 σ14 hf
        subst eJ67
        refine V_iinc (L' := [(4, .int (x9 + (1 : Int32))), (0, .ref (ad 0)), (1, .int r1), (2, .int y12), (3, .int y13)]) (q := 70) C dX7_findBest_67 rfl 4 rfl (congrArg (fun y => x9 + y) ic_1) (by decide) rfl ?_
        refine V_goto (t := 16) C dX7_findBest_70 (by decide) ?_
        refine V_sub (L' := [(0, .ref (ad 0)), (1, .int r1), (2, .int y12), (3, .int y13), (4, .int (x9 + (1 : Int32)))]) [1, 2, 3, 4, 0] rfl ?_
        exact ih _ _ _ _ hf
      refine V_if_ne (t := 67) (q := 38) C dX7_findBest_35 (by decide) rfl (fun c15 => ?_) (fun c15 => ?_)
      · replace hf := (ite_s hf).2 c15
        exact hJ67 _ _ _ hf
      · replace hf := (ite_s hf).1 c15
        refine V_aload_n (q := 39) C dX7_findBest_38 rfl rfl 0 rfl ?_
        refine V_iload (q := 41) C dX7_findBest_39 rfl 4 rfl ?_
        obtain ⟨r16, σ17, h18, hf⟩ := bd_s hf
        refine V_callV (av := [.int x9]) (st := []) (st1 := [.int r16]) (q := 44) C 0 (by decide) (eM_0 G ad _) rfl rfl (conX7_sumValues _ _ _ _ _ _ _ h18) q_1531 q_114 q_1528 q_1530 q_101 nmX7_sumValues (by decide) rfl rfl (Nat.le_of_ble_eq_true rfl) dX7_findBest_41 rfl rfl ?_
        refine V_iload_n (q := 45) C dX7_findBest_44 rfl rfl 3 rfl ?_
        refine V_icmp_le (t := 67) (q := 48) C dX7_findBest_45 (by decide) rfl (fun c19 => ?_) (fun c19 => ?_)
        · replace hf := (ite_s hf).1 c19
          exact hJ67 _ _ _ hf
        · replace hf := (ite_s hf).2 c19
          refine V_aload_n (q := 49) C dX7_findBest_48 rfl rfl 0 rfl ?_
          refine V_iload (q := 51) C dX7_findBest_49 rfl 4 rfl ?_
          obtain ⟨r20, σ21, h22, hf⟩ := bd_s hf
          refine V_callV (av := [.int x9]) (st := []) (st1 := [.int r20]) (q := 54) C 0 (by decide) (eM_0 G ad _) rfl rfl (conX7_isPossible _ _ _ _ _ _ _ h22) q_1380 q_114 q_1377 q_1379 q_79 nmX7_isPossible (by decide) rfl rfl (Nat.le_of_ble_eq_true rfl) dX7_findBest_51 rfl rfl ?_
          refine V_if_eq (t := 67) (q := 57) C dX7_findBest_54 (by decide) rfl (fun c23 => ?_) (fun c23 => ?_)
          · replace hf := (ite_s hf).1 c23
            exact hJ67 _ _ _ hf
          · replace hf := (ite_s hf).2 c23
            refine V_iload (q := 59) C dX7_findBest_57 rfl 4 rfl ?_
            refine V_istore_n (L' := [(2, .int x9), (0, .ref (ad 0)), (1, .int r1), (3, .int x8), (4, .int x9)]) (q := 60) C dX7_findBest_59 rfl rfl (by decide) rfl ?_
            refine V_aload_n (q := 61) C dX7_findBest_60 rfl rfl 1 rfl ?_
            refine V_iload (q := 63) C dX7_findBest_61 rfl 4 rfl ?_
            obtain ⟨r24, σ25, h26, hf⟩ := bd_s hf
            refine V_callV (av := [.int x9]) (st := []) (st1 := [.int r24]) (q := 66) C 0 (by decide) (eM_0 G ad _) rfl rfl (conX7_sumValues _ _ _ _ _ _ _ h26) q_1531 q_114 q_1528 q_1530 q_101 nmX7_sumValues (by decide) rfl rfl (Nat.le_of_ble_eq_true rfl) dX7_findBest_63 rfl rfl ?_
            refine V_istore_n (L' := [(3, .int r24), (2, .int x9), (0, .ref (ad 0)), (1, .int r1), (4, .int x9)]) (q := 67) C dX7_findBest_66 rfl rfl (by decide) rfl ?_
            refine V_sub (L' := [(0, .ref (ad 0)), (1, .int r1), (2, .int x9), (3, .int r24), (4, .int x9)]) [2, 3, 1, 0, 4] rfl ?_
            exact hJ67 _ _ _ hf
set_option maxHeartbeats 4000000 in
theorem conX7_findBest (l : Launch) (G : Gx) (ad : Nat → Nat)  (σ : Sg) (r : Int32) (σf : Sg)  (hf : fX7_findBest  σ = some (r, σf)) : Con wM l G ad yX7_findBest (Cond.code yX7_findBest cX7_findBest 5 (some .int)) rmX7_findBest 0 0 [.ref (ad 0)] σ (some (.int r)) σf := by
  refine Con.start (by decide) (Nat.le_of_ble_eq_true rfl) (fun X Q _ C F => ?_)
  refine V_eq (L' := [(0, .ref (ad 0))]) (st' := []) rfl rfl rfl ?_
  unfold fX7_findBest at hf
  refine V_aload_n (q := 1) C dX7_findBest_0 rfl rfl 0 rfl ?_
  obtain ⟨r1, σ2, h3, hf⟩ := bd_s hf
  refine V_callV (av := []) (st := []) (st1 := [.int r1]) (q := 4) C 0 (by decide) (eM_0 G ad _) rfl rfl (conX7_outside _ _ _  _ _ _ h3) q_1444 q_114 q_1441 q_1443 q_89 nmX7_outside (by decide) rfl rfl (Nat.le_of_ble_eq_true rfl) dX7_findBest_1 rfl rfl ?_
  refine V_istore_n (L' := [(1, .int r1), (0, .ref (ad 0))]) (q := 5) C dX7_findBest_4 rfl rfl (by decide) rfl ?_
  refine V_iload_n (q := 6) C dX7_findBest_5 rfl rfl 0 rfl ?_
  refine V_istore_n (L' := [(2, .int r1), (1, .int r1), (0, .ref (ad 0))]) (q := 7) C dX7_findBest_6 rfl rfl (by decide) rfl ?_
  refine V_aload_n (q := 8) C dX7_findBest_7 rfl rfl 2 rfl ?_
  refine V_iload_n (q := 9) C dX7_findBest_8 rfl rfl 1 rfl ?_
  obtain ⟨r4, σ5, h6, hf⟩ := bd_s hf
  refine V_callV (av := [.int r1]) (st := []) (st1 := [.int r4]) (q := 12) C 0 (by decide) (eM_0 G ad _) rfl rfl (conX7_sumValues _ _ _ _ _ _ _ h6) q_1531 q_114 q_1528 q_1530 q_101 nmX7_sumValues (by decide) rfl rfl (Nat.le_of_ble_eq_true rfl) dX7_findBest_9 rfl rfl ?_
  refine V_istore_n (L' := [(3, .int r4), (2, .int r1), (1, .int r1), (0, .ref (ad 0))]) (q := 13) C dX7_findBest_12 rfl rfl (by decide) rfl ?_
  refine V_iconst (v := 0) (q := 14) C dX7_findBest_13 rfl ic_0 ?_
  refine V_istore (L' := [(4, .int (0 : Int32)), (3, .int r4), (2, .int r1), (1, .int r1), (0, .ref (ad 0))]) (q := 16) C dX7_findBest_14 rfl (by decide) rfl ?_
  refine V_sub (L' := [(0, .ref (ad 0)), (1, .int r1), (2, .int r1), (3, .int r4), (4, .int (0 : Int32))]) [4, 3, 2, 1, 0] rfl ?_
  refine wlX7_findBest_16 C F r1 FU _ _ _ _ hf
def rmX7_best : Room := { frames := 21, cells := 0, slots := 0, locals := 555 }
def fX7_best  (σ : Sg) : Option (Int32 × Sg) := bd (fX7_outside  σ) (fun (r1 : Int32) (σ2 : Sg) => bd (fX7_isPossible r1 σ2) (fun (r4 : Int32) (σ5 : Sg) => jp (fun (v7 : Int32) (σ8 : Sg) => bd (fX7_fails (1 : Int32) v7 σ8) (fun (r9 : Int32) (σ10 : Sg) => if r9 = 0 then (bd (fX7_findBest  σ10) (fun (r13 : Int32) (σ14 : Sg) => some (r13, σ14))) else (some ((0 : Int32), σ10)))) (fun (J18 : Int32 → Sg → Option (Int32 × Sg)) => if r4 = 0 then (J18 (1 : Int32) σ5) else (J18 (0 : Int32) σ5))))
set_option maxHeartbeats 4000000 in
theorem conX7_best (l : Launch) (G : Gx) (ad : Nat → Nat)  (σ : Sg) (r : Int32) (σf : Sg)  (hf : fX7_best  σ = some (r, σf)) : Con wM l G ad yX7_best (Cond.code yX7_best cX7_best 1 (some .int)) rmX7_best 0 0 [.ref (ad 0)] σ (some (.int r)) σf := by
  refine Con.start (by decide) (Nat.le_of_ble_eq_true rfl) (fun X Q _ C F => ?_)
  refine V_eq (L' := [(0, .ref (ad 0))]) (st' := []) rfl rfl rfl ?_
  unfold fX7_best at hf
  refine V_aload_n (q := 1) C dX7_best_0 rfl rfl 0 rfl ?_
  refine V_iconst (v := 1) (q := 2) C dX7_best_1 rfl ic_1 ?_
  refine V_aload_n (q := 3) C dX7_best_2 rfl rfl 0 rfl ?_
  refine V_aload_n (q := 4) C dX7_best_3 rfl rfl 0 rfl ?_
  obtain ⟨r1, σ2, h3, hf⟩ := bd_s hf
  refine V_callV (av := []) (st := [.ref (ad 0), .int (1 : Int32), .ref (ad 0)]) (st1 := [.int r1, .ref (ad 0), .int (1 : Int32), .ref (ad 0)]) (q := 7) C 0 (by decide) (eM_0 G ad _) rfl rfl (conX7_outside _ _ _  _ _ _ h3) q_1444 q_114 q_1441 q_1443 q_89 nmX7_outside (by decide) rfl rfl (Nat.le_of_ble_eq_true rfl) dX7_best_4 rfl rfl ?_
  obtain ⟨r4, σ5, h6, hf⟩ := bd_s hf
  refine V_callV (av := [.int r1]) (st := [.int (1 : Int32), .ref (ad 0)]) (st1 := [.int r4, .int (1 : Int32), .ref (ad 0)]) (q := 10) C 0 (by decide) (eM_0 G ad _) rfl rfl (conX7_isPossible _ _ _ _ _ _ _ h6) q_1380 q_114 q_1377 q_1379 q_79 nmX7_isPossible (by decide) rfl rfl (Nat.le_of_ble_eq_true rfl) dX7_best_7 rfl rfl ?_
  obtain ⟨J18, eJ18, hf⟩ := jp_s hf
  have hJ18 : ∀ (v7 : Int32) (σ8 : Sg), J18 v7 σ8 = some (r, σf) → V wM X G ad 1 Q 0 0 σ8 18 [(0, .ref (ad 0))] [.int v7, .int (1 : Int32), .ref (ad 0)] := by
    intro v7 σ8 hf
    subst eJ18
    obtain ⟨r9, σ10, h11, hf⟩ := bd_s hf
    refine V_callV (av := [.int (1 : Int32), .int v7]) (st := []) (st1 := [.int r9]) (q := 21) C 0 (by decide) (eM_0 G ad _) rfl rfl (conX7_fails _ _ _ _ _ _ _ _ h11) q_1251 q_114 q_1248 q_1250 q_64 nmX7_fails (by decide) rfl rfl (Nat.le_of_ble_eq_true rfl) dX7_best_18 rfl rfl ?_
    refine V_if_eq (t := 28) (q := 24) C dX7_best_21 (by decide) rfl (fun c12 => ?_) (fun c12 => ?_)
    · replace hf := (ite_s hf).1 c12
      refine V_aload_n (q := 29) C dX7_best_28 rfl rfl 0 rfl ?_
      obtain ⟨r13, σ14, h15, hf⟩ := bd_s hf
      refine V_callV (av := []) (st := []) (st1 := [.int r13]) (q := 32) C 0 (by decide) (eM_0 G ad _) rfl rfl (conX7_findBest _ _ _  _ _ _ h15) q_1547 q_114 q_1544 q_1546 q_102 nmX7_findBest (by decide) rfl rfl (Nat.le_of_ble_eq_true rfl) dX7_best_29 rfl rfl ?_
      obtain ⟨e1, e2⟩ := pr_s hf
      subst e1; subst e2
      exact V_iret C F (by decide) (by decide) dX7_best_32
    · replace hf := (ite_s hf).2 c12
      refine V_iconst (v := 0) (q := 25) C dX7_best_24 rfl ic_0 ?_
      refine V_goto (t := 32) C dX7_best_25 (by decide) ?_
      obtain ⟨e1, e2⟩ := pr_s hf
      subst e1; subst e2
      exact V_iret C F (by decide) (by decide) dX7_best_32
  refine V_if_ne (t := 17) (q := 13) C dX7_best_10 (by decide) rfl (fun c16 => ?_) (fun c16 => ?_)
  · replace hf := (ite_s hf).2 c16
    refine V_iconst (v := 0) (q := 18) C dX7_best_17 rfl ic_0 ?_
    exact hJ18 _ _ hf
  · replace hf := (ite_s hf).1 c16
    refine V_iconst (v := 1) (q := 14) C dX7_best_13 rfl ic_1 ?_
    refine V_goto (t := 18) C dX7_best_14 (by decide) ?_
    exact hJ18 _ _ hf
def rmX7_cancel : Room := { frames := 1, cells := 0, slots := 0, locals := 22 }
def fX7_cancel  (σ : Sg) : Option (Int32 × Sg) := bd (fX7_isKnown  σ) (fun (r1 : Int32) (σ2 : Sg) => jp (fun (v4 : Int32) (σ5 : Sg) => bd (fX7_fails (1 : Int32) v4 σ5) (fun (r6 : Int32) (σ7 : Sg) => if r6 = 0 then (lt' (sup σ7 1 2 (0 : Int32)) (fun (σ10 : Sg) => some ((σ10 1 3), σ10))) else (some ((0 : Int32), σ7)))) (fun (J14 : Int32 → Sg → Option (Int32 × Sg)) => if r1 = 0 then (J14 (1 : Int32) σ2) else (J14 (0 : Int32) σ2)))
set_option maxHeartbeats 4000000 in
theorem conX7_cancel (l : Launch) (G : Gx) (ad : Nat → Nat)  (σ : Sg) (r : Int32) (σf : Sg)  (hf : fX7_cancel  σ = some (r, σf)) : Con wM l G ad yX7_cancel (Cond.code yX7_cancel cX7_cancel 1 (some .int)) rmX7_cancel 0 0 [.ref (ad 0)] σ (some (.int r)) σf := by
  refine Con.start (by decide) (Nat.le_of_ble_eq_true rfl) (fun X Q _ C F => ?_)
  refine V_eq (L' := [(0, .ref (ad 0))]) (st' := []) rfl rfl rfl ?_
  unfold fX7_cancel at hf
  refine V_aload_n (q := 1) C dX7_cancel_0 rfl rfl 0 rfl ?_
  refine V_iconst (v := 1) (q := 2) C dX7_cancel_1 rfl ic_1 ?_
  refine V_aload_n (q := 3) C dX7_cancel_2 rfl rfl 0 rfl ?_
  obtain ⟨r1, σ2, h3, hf⟩ := bd_s hf
  refine V_callV (av := []) (st := [.int (1 : Int32), .ref (ad 0)]) (st1 := [.int r1, .int (1 : Int32), .ref (ad 0)]) (q := 6) C 0 (by decide) (eM_0 G ad _) rfl rfl (conX7_isKnown _ _ _  _ _ _ h3) q_1255 q_114 q_1252 q_1254 q_65 nmX7_isKnown (by decide) rfl rfl (Nat.le_of_ble_eq_true rfl) dX7_cancel_3 rfl rfl ?_
  obtain ⟨J14, eJ14, hf⟩ := jp_s hf
  have hJ14 : ∀ (v4 : Int32) (σ5 : Sg), J14 v4 σ5 = some (r, σf) → V wM X G ad 1 Q 0 0 σ5 14 [(0, .ref (ad 0))] [.int v4, .int (1 : Int32), .ref (ad 0)] := by
    intro v4 σ5 hf
    subst eJ14
    obtain ⟨r6, σ7, h8, hf⟩ := bd_s hf
    refine V_callV (av := [.int (1 : Int32), .int v4]) (st := []) (st1 := [.int r6]) (q := 17) C 0 (by decide) (eM_0 G ad _) rfl rfl (conX7_fails _ _ _ _ _ _ _ _ h8) q_1251 q_114 q_1248 q_1250 q_64 nmX7_fails (by decide) rfl rfl (Nat.le_of_ble_eq_true rfl) dX7_cancel_14 rfl rfl ?_
    refine V_if_eq (t := 22) (q := 20) C dX7_cancel_17 (by decide) rfl (fun c9 => ?_) (fun c9 => ?_)
    · replace hf := (ite_s hf).1 c9
      refine V_aload_n (q := 23) C dX7_cancel_22 rfl rfl 0 rfl ?_
      refine GM_0_1 (q := 26) C q_1183 dX7_cancel_23 rfl ?_
      refine V_iconst (v := 2) (q := 27) C dX7_cancel_26 rfl ic_2 ?_
      refine V_iconst (v := 0) (q := 28) C dX7_cancel_27 rfl ic_0 ?_
      refine SM_1 (z := 2) (q := 29) C tn_2 (inb_in (by decide)) dX7_cancel_28 rfl ?_
      refine V_lets hf (fun σ10 hf => ?_)
      refine V_aload_n (q := 30) C dX7_cancel_29 rfl rfl 0 rfl ?_
      refine GM_0_1 (q := 33) C q_1183 dX7_cancel_30 rfl ?_
      refine V_iconst (v := 3) (q := 34) C dX7_cancel_33 rfl ic_3 ?_
      refine RM_1 (z := 3) (q := 35) C tn_3 (inb_in (by decide)) dX7_cancel_34 rfl ?_
      obtain ⟨e1, e2⟩ := pr_s hf
      subst e1; subst e2
      exact V_iret C F (by decide) (by decide) dX7_cancel_35
    · replace hf := (ite_s hf).2 c9
      refine V_iconst (v := 0) (q := 21) C dX7_cancel_20 rfl ic_0 ?_
      obtain ⟨e1, e2⟩ := pr_s hf
      subst e1; subst e2
      exact V_iret C F (by decide) (by decide) dX7_cancel_21
  refine V_if_ne (t := 13) (q := 9) C dX7_cancel_6 (by decide) rfl (fun c11 => ?_) (fun c11 => ?_)
  · replace hf := (ite_s hf).2 c11
    refine V_iconst (v := 0) (q := 14) C dX7_cancel_13 rfl ic_0 ?_
    exact hJ14 _ _ hf
  · replace hf := (ite_s hf).1 c11
    refine V_iconst (v := 1) (q := 10) C dX7_cancel_9 rfl ic_1 ?_
    refine V_goto (t := 14) C dX7_cancel_10 (by decide) ?_
    exact hJ14 _ _ hf
def rmX7_channelsNeeded : Room := { frames := 20, cells := 0, slots := 0, locals := 531 }
def fX7_channelsNeeded_49 (a : Int32) : Nat → Int32 → Int32 → Sg → Option (Int32 × Sg)
  | 0, _, _, _ => none
  | n + 1, x19, x20, σ21 => if (255 : Int32) < x20 then (some (x19, σ21)) else (jp (fun (y23 : Int32) (σ24 : Sg) => fX7_channelsNeeded_49 a n y23 (x20 + (1 : Int32)) σ24) (fun (J91 : Int32 → Sg → Option (Int32 × Sg)) => if (x20 &&& ((σ21 1 1) ^^^ (-1 : Int32))) = 0 then (bd (fX7_countBits x20 σ21) (fun (r26 : Int32) (σ27 : Sg) => if x19 ≤ r26 then (J91 x19 σ27) else (bd (fX7_isPossibleWith a x20 σ27) (fun (r30 : Int32) (σ31 : Sg) => if r30 = 0 then (J91 x19 σ31) else (bd (fX7_countBits x20 σ31) (fun (r34 : Int32) (σ35 : Sg) => J91 r34 σ35)))))) else (J91 x19 σ21)))
def fX7_channelsNeeded (a : Int32) (σ : Sg) : Option (Int32 × Sg) := bd (fX7_areStations a σ) (fun (r1 : Int32) (σ2 : Sg) => jp (fun (v4 : Int32) (σ5 : Sg) => bd (fX7_fails (1 : Int32) v4 σ5) (fun (r6 : Int32) (σ7 : Sg) => if r6 = 0 then (bd (fX7_isPossible a σ7) (fun (r10 : Int32) (σ11 : Sg) => jp (fun (v13 : Int32) (σ14 : Sg) => bd (fX7_fails (2 : Int32) v13 σ14) (fun (r15 : Int32) (σ16 : Sg) => if r15 = 0 then (fX7_channelsNeeded_49 a FU (8 : Int32) (0 : Int32) σ16) else (some ((0 : Int32), σ16)))) (fun (J36 : Int32 → Sg → Option (Int32 × Sg)) => if r10 = 0 then (J36 (1 : Int32) σ11) else (J36 (0 : Int32) σ11)))) else (some ((0 : Int32), σ7)))) (fun (J15 : Int32 → Sg → Option (Int32 × Sg)) => if r1 = 0 then (J15 (1 : Int32) σ2) else (J15 (0 : Int32) σ2)))
set_option maxHeartbeats 4000000 in
theorem wlX7_channelsNeeded_49 {X : Cx} {G : Gx} {ad : Nat → Nat} {Q : State → Prop} {r : Int32} {σf : Sg} (C : OK wM X G ad RX7 cX7_channelsNeeded 4 rmX7_channelsNeeded) (F : FinR wM X G ad Q 0 0 (some .int) (some (.int r)) σf) (a : Int32) : ∀ (n : Nat) (x19 : Int32) (x20 : Int32) (σ21 : Sg), fX7_channelsNeeded_49 a n x19 x20 σ21 = some (r, σf) → V wM X G ad 4 Q 0 0 σ21 49 [(0, .ref (ad 0)), (1, .int a), (2, .int x19), (3, .int x20)] [] := by
  intro n
  induction n with
  | zero =>
    intro _ _ _ hf
    exact absurd hf (by simp [fX7_channelsNeeded_49])
  | succ n ih =>
    intro x19 x20 σ21 hf
    rw [fX7_channelsNeeded_49] at hf
    refine V_iload_n (q := 50) C dX7_channelsNeeded_49 rfl rfl 3 rfl ?_
    refine V_sipush (v := 255) (q := 53) C dX7_channelsNeeded_50 rfl sc_255 ?_
    refine V_icmp_gt (t := 97) (q := 56) C dX7_channelsNeeded_53 (by decide) rfl (fun c22 => ?_) (fun c22 => ?_)
    · replace hf := (ite_s hf).1 c22
      refine V_iload_n (q := 98) C dX7_channelsNeeded_97 rfl rfl 2 rfl ?_
      obtain ⟨e1, e2⟩ := pr_s hf
      subst e1; subst e2
      exact V_iret C F (by decide) (by decide) dX7_channelsNeeded_98
    · replace hf := (ite_s hf).2 c22
      refine V_iload_n (q := 57) C dX7_channelsNeeded_56 rfl rfl 3 rfl ?_
      refine V_aload_n (q := 58) C dX7_channelsNeeded_57 rfl rfl 0 rfl ?_
      refine GM_0_1 (q := 61) C q_1183 dX7_channelsNeeded_58 rfl ?_
      refine V_iconst (v := 1) (q := 62) C dX7_channelsNeeded_61 rfl ic_1 ?_
      refine RM_1 (z := 1) (q := 63) C tn_1 (inb_in (by decide)) dX7_channelsNeeded_62 rfl ?_
      refine V_iconst (v := (-1)) (q := 64) C dX7_channelsNeeded_63 rfl ic_m1 ?_
      refine V_ixor (q := 65) C dX7_channelsNeeded_64 rfl ?_
      refine V_iand (q := 66) C dX7_channelsNeeded_65 rfl ?_
      obtain ⟨J91, eJ91, hf⟩ := jp_s hf
      have hJ91 : ∀ (y23 : Int32) (σ24 : Sg), J91 y23 σ24 = some (r, σf) → V wM X G ad 4 Q 0 0 σ24 91 [(0, .ref (ad 0)), (1, .int a), (2, .int y23), (3, .int x20)] [] := by
        intro y23 σ24 hf
        subst eJ91
        refine V_iinc (L' := [(3, .int (x20 + (1 : Int32))), (0, .ref (ad 0)), (1, .int a), (2, .int y23)]) (q := 94) C dX7_channelsNeeded_91 rfl 3 rfl (congrArg (fun y => x20 + y) ic_1) (by decide) rfl ?_
        refine V_goto (t := 49) C dX7_channelsNeeded_94 (by decide) ?_
        refine V_sub (L' := [(0, .ref (ad 0)), (1, .int a), (2, .int y23), (3, .int (x20 + (1 : Int32)))]) [1, 2, 3, 0] rfl ?_
        exact ih _ _ _ hf
      refine V_if_ne (t := 91) (q := 69) C dX7_channelsNeeded_66 (by decide) rfl (fun c25 => ?_) (fun c25 => ?_)
      · replace hf := (ite_s hf).2 c25
        exact hJ91 _ _ hf
      · replace hf := (ite_s hf).1 c25
        refine V_iload_n (q := 70) C dX7_channelsNeeded_69 rfl rfl 3 rfl ?_
        obtain ⟨r26, σ27, h28, hf⟩ := bd_s hf
        refine V_callS (av := [.int x20]) (st := []) (st1 := [.int r26]) (q := 73) C (conX7_countBits _ _ _ _ _ _ _ h28) q_1341 q_114 q_1339 q_1340 nmX7_countBits (by decide) rfl rfl (Nat.le_of_ble_eq_true rfl) dX7_channelsNeeded_70 rfl rfl ?_
        refine V_iload_n (q := 74) C dX7_channelsNeeded_73 rfl rfl 2 rfl ?_
        refine V_icmp_ge (t := 91) (q := 77) C dX7_channelsNeeded_74 (by decide) rfl (fun c29 => ?_) (fun c29 => ?_)
        · replace hf := (ite_s hf).1 c29
          exact hJ91 _ _ hf
        · replace hf := (ite_s hf).2 c29
          refine V_aload_n (q := 78) C dX7_channelsNeeded_77 rfl rfl 0 rfl ?_
          refine V_iload_n (q := 79) C dX7_channelsNeeded_78 rfl rfl 1 rfl ?_
          refine V_iload_n (q := 80) C dX7_channelsNeeded_79 rfl rfl 3 rfl ?_
          obtain ⟨r30, σ31, h32, hf⟩ := bd_s hf
          refine V_callV (av := [.int a, .int x20]) (st := []) (st1 := [.int r30]) (q := 83) C 0 (by decide) (eM_0 G ad _) rfl rfl (conX7_isPossibleWith _ _ _ _ _ _ _ _ h32) q_1384 q_114 q_1381 q_1383 q_80 nmX7_isPossibleWith (by decide) rfl rfl (Nat.le_of_ble_eq_true rfl) dX7_channelsNeeded_80 rfl rfl ?_
          refine V_if_eq (t := 91) (q := 86) C dX7_channelsNeeded_83 (by decide) rfl (fun c33 => ?_) (fun c33 => ?_)
          · replace hf := (ite_s hf).1 c33
            exact hJ91 _ _ hf
          · replace hf := (ite_s hf).2 c33
            refine V_iload_n (q := 87) C dX7_channelsNeeded_86 rfl rfl 3 rfl ?_
            obtain ⟨r34, σ35, h36, hf⟩ := bd_s hf
            refine V_callS (av := [.int x20]) (st := []) (st1 := [.int r34]) (q := 90) C (conX7_countBits _ _ _ _ _ _ _ h36) q_1341 q_114 q_1339 q_1340 nmX7_countBits (by decide) rfl rfl (Nat.le_of_ble_eq_true rfl) dX7_channelsNeeded_87 rfl rfl ?_
            refine V_istore_n (L' := [(2, .int r34), (0, .ref (ad 0)), (1, .int a), (3, .int x20)]) (q := 91) C dX7_channelsNeeded_90 rfl rfl (by decide) rfl ?_
            refine V_sub (L' := [(0, .ref (ad 0)), (1, .int a), (2, .int r34), (3, .int x20)]) [1, 2, 0, 3] rfl ?_
            exact hJ91 _ _ hf
set_option maxHeartbeats 4000000 in
theorem conX7_channelsNeeded (l : Launch) (G : Gx) (ad : Nat → Nat) (a : Int32) (σ : Sg) (r : Int32) (σf : Sg)  (hf : fX7_channelsNeeded a σ = some (r, σf)) : Con wM l G ad yX7_channelsNeeded (Cond.code yX7_channelsNeeded cX7_channelsNeeded 4 (some .int)) rmX7_channelsNeeded 0 0 [.ref (ad 0), .int a] σ (some (.int r)) σf := by
  refine Con.start (by decide) (Nat.le_of_ble_eq_true rfl) (fun X Q _ C F => ?_)
  refine V_eq (L' := [(0, .ref (ad 0)), (1, .int a)]) (st' := []) rfl rfl rfl ?_
  unfold fX7_channelsNeeded at hf
  refine V_aload_n (q := 1) C dX7_channelsNeeded_0 rfl rfl 0 rfl ?_
  refine V_iconst (v := 1) (q := 2) C dX7_channelsNeeded_1 rfl ic_1 ?_
  refine V_aload_n (q := 3) C dX7_channelsNeeded_2 rfl rfl 0 rfl ?_
  refine V_iload_n (q := 4) C dX7_channelsNeeded_3 rfl rfl 1 rfl ?_
  obtain ⟨r1, σ2, h3, hf⟩ := bd_s hf
  refine V_callV (av := [.int a]) (st := [.int (1 : Int32), .ref (ad 0)]) (st1 := [.int r1, .int (1 : Int32), .ref (ad 0)]) (q := 7) C 0 (by decide) (eM_0 G ad _) rfl rfl (conX7_areStations _ _ _ _ _ _ _ h3) q_1376 q_114 q_1373 q_1375 q_78 nmX7_areStations (by decide) rfl rfl (Nat.le_of_ble_eq_true rfl) dX7_channelsNeeded_4 rfl rfl ?_
  obtain ⟨J15, eJ15, hf⟩ := jp_s hf
  have hJ15 : ∀ (v4 : Int32) (σ5 : Sg), J15 v4 σ5 = some (r, σf) → V wM X G ad 4 Q 0 0 σ5 15 [(0, .ref (ad 0)), (1, .int a)] [.int v4, .int (1 : Int32), .ref (ad 0)] := by
    intro v4 σ5 hf
    subst eJ15
    obtain ⟨r6, σ7, h8, hf⟩ := bd_s hf
    refine V_callV (av := [.int (1 : Int32), .int v4]) (st := []) (st1 := [.int r6]) (q := 18) C 0 (by decide) (eM_0 G ad _) rfl rfl (conX7_fails _ _ _ _ _ _ _ _ h8) q_1251 q_114 q_1248 q_1250 q_64 nmX7_fails (by decide) rfl rfl (Nat.le_of_ble_eq_true rfl) dX7_channelsNeeded_15 rfl rfl ?_
    refine V_if_ne (t := 42) (q := 21) C dX7_channelsNeeded_18 (by decide) rfl (fun c9 => ?_) (fun c9 => ?_)
    · replace hf := (ite_s hf).2 c9
      refine V_iconst (v := 0) (q := 43) C dX7_channelsNeeded_42 rfl ic_0 ?_
      obtain ⟨e1, e2⟩ := pr_s hf
      subst e1; subst e2
      exact V_iret C F (by decide) (by decide) dX7_channelsNeeded_43
    · replace hf := (ite_s hf).1 c9
      refine V_aload_n (q := 22) C dX7_channelsNeeded_21 rfl rfl 0 rfl ?_
      refine V_iconst (v := 2) (q := 23) C dX7_channelsNeeded_22 rfl ic_2 ?_
      refine V_aload_n (q := 24) C dX7_channelsNeeded_23 rfl rfl 0 rfl ?_
      refine V_iload_n (q := 25) C dX7_channelsNeeded_24 rfl rfl 1 rfl ?_
      obtain ⟨r10, σ11, h12, hf⟩ := bd_s hf
      refine V_callV (av := [.int a]) (st := [.int (2 : Int32), .ref (ad 0)]) (st1 := [.int r10, .int (2 : Int32), .ref (ad 0)]) (q := 28) C 0 (by decide) (eM_0 G ad _) rfl rfl (conX7_isPossible _ _ _ _ _ _ _ h12) q_1380 q_114 q_1377 q_1379 q_79 nmX7_isPossible (by decide) rfl rfl (Nat.le_of_ble_eq_true rfl) dX7_channelsNeeded_25 rfl rfl ?_
      obtain ⟨J36, eJ36, hf⟩ := jp_s hf
      have hJ36 : ∀ (v13 : Int32) (σ14 : Sg), J36 v13 σ14 = some (r, σf) → V wM X G ad 4 Q 0 0 σ14 36 [(0, .ref (ad 0)), (1, .int a)] [.int v13, .int (2 : Int32), .ref (ad 0)] := by
        intro v13 σ14 hf
        subst eJ36
        obtain ⟨r15, σ16, h17, hf⟩ := bd_s hf
        refine V_callV (av := [.int (2 : Int32), .int v13]) (st := []) (st1 := [.int r15]) (q := 39) C 0 (by decide) (eM_0 G ad _) rfl rfl (conX7_fails _ _ _ _ _ _ _ _ h17) q_1251 q_114 q_1248 q_1250 q_64 nmX7_fails (by decide) rfl rfl (Nat.le_of_ble_eq_true rfl) dX7_channelsNeeded_36 rfl rfl ?_
        refine V_if_eq (t := 44) (q := 42) C dX7_channelsNeeded_39 (by decide) rfl (fun c18 => ?_) (fun c18 => ?_)
        · replace hf := (ite_s hf).1 c18
          refine V_bipush (v := 8) (q := 46) C dX7_channelsNeeded_44 rfl bc_8 ?_
          refine V_istore_n (L' := [(2, .int (8 : Int32)), (0, .ref (ad 0)), (1, .int a)]) (q := 47) C dX7_channelsNeeded_46 rfl rfl (by decide) rfl ?_
          refine V_iconst (v := 0) (q := 48) C dX7_channelsNeeded_47 rfl ic_0 ?_
          refine V_istore_n (L' := [(3, .int (0 : Int32)), (2, .int (8 : Int32)), (0, .ref (ad 0)), (1, .int a)]) (q := 49) C dX7_channelsNeeded_48 rfl rfl (by decide) rfl ?_
          refine V_sub (L' := [(0, .ref (ad 0)), (1, .int a), (2, .int (8 : Int32)), (3, .int (0 : Int32))]) [2, 3, 1, 0] rfl ?_
          refine wlX7_channelsNeeded_49 C F a FU _ _ _ hf
        · replace hf := (ite_s hf).2 c18
          refine V_iconst (v := 0) (q := 43) C dX7_channelsNeeded_42 rfl ic_0 ?_
          obtain ⟨e1, e2⟩ := pr_s hf
          subst e1; subst e2
          exact V_iret C F (by decide) (by decide) dX7_channelsNeeded_43
      refine V_if_ne (t := 35) (q := 31) C dX7_channelsNeeded_28 (by decide) rfl (fun c37 => ?_) (fun c37 => ?_)
      · replace hf := (ite_s hf).2 c37
        refine V_iconst (v := 0) (q := 36) C dX7_channelsNeeded_35 rfl ic_0 ?_
        exact hJ36 _ _ hf
      · replace hf := (ite_s hf).1 c37
        refine V_iconst (v := 1) (q := 32) C dX7_channelsNeeded_31 rfl ic_1 ?_
        refine V_goto (t := 36) C dX7_channelsNeeded_32 (by decide) ?_
        exact hJ36 _ _ hf
  refine V_if_ne (t := 14) (q := 10) C dX7_channelsNeeded_7 (by decide) rfl (fun c38 => ?_) (fun c38 => ?_)
  · replace hf := (ite_s hf).2 c38
    refine V_iconst (v := 0) (q := 15) C dX7_channelsNeeded_14 rfl ic_0 ?_
    exact hJ15 _ _ hf
  · replace hf := (ite_s hf).1 c38
    refine V_iconst (v := 1) (q := 11) C dX7_channelsNeeded_10 rfl ic_1 ?_
    refine V_goto (t := 15) C dX7_channelsNeeded_11 (by decide) ?_
    exact hJ15 _ _ hf
def rmX7_isOver : Room := { frames := 2, cells := 0, slots := 0, locals := 44 }
def fX7_isOver  (σ : Sg) : Option (Int32 × Sg) := bd (fX7_isKnown  σ) (fun (r1 : Int32) (σ2 : Sg) => jp (fun (σ4 : Sg) => some ((0 : Int32), σ4)) (fun (J19 : Sg → Option (Int32 × Sg)) => if r1 = 0 then (J19  σ2) else (bd (fX7_in (1 : Int32) σ2) (fun (r6 : Int32) (σ7 : Sg) => if r6 = 0 then (some ((1 : Int32), σ7)) else (J19  σ7)))))
set_option maxHeartbeats 4000000 in
theorem conX7_isOver (l : Launch) (G : Gx) (ad : Nat → Nat)  (σ : Sg) (r : Int32) (σf : Sg)  (hf : fX7_isOver  σ = some (r, σf)) : Con wM l G ad yX7_isOver (Cond.code yX7_isOver cX7_isOver 1 (some .boolean)) rmX7_isOver 0 0 [.ref (ad 0)] σ (some (.int r)) σf := by
  refine Con.start (by decide) (Nat.le_of_ble_eq_true rfl) (fun X Q _ C F => ?_)
  refine V_eq (L' := [(0, .ref (ad 0))]) (st' := []) rfl rfl rfl ?_
  unfold fX7_isOver at hf
  refine V_aload_n (q := 1) C dX7_isOver_0 rfl rfl 0 rfl ?_
  obtain ⟨r1, σ2, h3, hf⟩ := bd_s hf
  refine V_callV (av := []) (st := []) (st1 := [.int r1]) (q := 4) C 0 (by decide) (eM_0 G ad _) rfl rfl (conX7_isKnown _ _ _  _ _ _ h3) q_1255 q_114 q_1252 q_1254 q_65 nmX7_isKnown (by decide) rfl rfl (Nat.le_of_ble_eq_true rfl) dX7_isOver_1 rfl rfl ?_
  obtain ⟨J19, eJ19, hf⟩ := jp_s hf
  have hJ19 : ∀ (σ4 : Sg), J19 σ4 = some (r, σf) → V wM X G ad 1 Q 0 0 σ4 19 [] [] := by
    intro σ4 hf
    subst eJ19
    refine V_iconst (v := 0) (q := 20) C dX7_isOver_19 rfl ic_0 ?_
    obtain ⟨e1, e2⟩ := pr_s hf
    subst e1; subst e2
    exact V_zret C F (by decide) (by decide) (by decide) dX7_isOver_20
  refine V_if_eq (t := 19) (q := 7) C dX7_isOver_4 (by decide) rfl (fun c5 => ?_) (fun c5 => ?_)
  · replace hf := (ite_s hf).1 c5
    refine V_sub (L' := []) [] rfl ?_
    exact hJ19 _ hf
  · replace hf := (ite_s hf).2 c5
    refine V_aload_n (q := 8) C dX7_isOver_7 rfl rfl 0 rfl ?_
    refine V_iconst (v := 1) (q := 9) C dX7_isOver_8 rfl ic_1 ?_
    obtain ⟨r6, σ7, h8, hf⟩ := bd_s hf
    refine V_callV (av := [.int (1 : Int32)]) (st := []) (st1 := [.int r6]) (q := 12) C 0 (by decide) (eM_0 G ad _) rfl rfl (conX7_in _ _ _ _ _ _ _ h8) q_1468 q_114 q_1465 q_1467 q_95 nmX7_in (by decide) rfl rfl (Nat.le_of_ble_eq_true rfl) dX7_isOver_9 rfl rfl ?_
    refine V_if_ne (t := 19) (q := 15) C dX7_isOver_12 (by decide) rfl (fun c9 => ?_) (fun c9 => ?_)
    · replace hf := (ite_s hf).2 c9
      refine V_sub (L' := []) [] rfl ?_
      exact hJ19 _ hf
    · replace hf := (ite_s hf).1 c9
      refine V_iconst (v := 1) (q := 16) C dX7_isOver_15 rfl ic_1 ?_
      refine V_goto (t := 20) C dX7_isOver_16 (by decide) ?_
      obtain ⟨e1, e2⟩ := pr_s hf
      subst e1; subst e2
      exact V_zret C F (by decide) (by decide) (by decide) dX7_isOver_20
def rmX7_close : Room := { frames := 20, cells := 0, slots := 0, locals := 532 }
def fX7_close  (σ : Sg) : Option (Int32 × Sg) := bd (fX7_isOver  σ) (fun (r1 : Int32) (σ2 : Sg) => jp (fun (v4 : Int32) (σ5 : Sg) => bd (fX7_fails (1 : Int32) v4 σ5) (fun (r6 : Int32) (σ7 : Sg) => if r6 = 0 then (bd (fX7_in (0 : Int32) σ7) (fun (r10 : Int32) (σ11 : Sg) => bd (fX7_fixNone  σ11) (fun (_ : Unit) (σ13 : Sg) => bd (fX7_keepFirst r10 σ13) (fun (_ : Unit) (σ15 : Sg) => lt' (sup σ15 1 2 (0 : Int32)) (fun (σ17 : Sg) => bd (fX7_countBits r10 σ17) (fun (r18 : Int32) (σ19 : Sg) => some (r18, σ19))))))) else (some ((0 : Int32), σ7)))) (fun (J14 : Int32 → Sg → Option (Int32 × Sg)) => if r1 = 0 then (J14 (1 : Int32) σ2) else (J14 (0 : Int32) σ2)))
set_option maxHeartbeats 4000000 in
theorem conX7_close (l : Launch) (G : Gx) (ad : Nat → Nat)  (σ : Sg) (r : Int32) (σf : Sg)  (hf : fX7_close  σ = some (r, σf)) : Con wM l G ad yX7_close (Cond.code yX7_close cX7_close 2 (some .int)) rmX7_close 0 0 [.ref (ad 0)] σ (some (.int r)) σf := by
  refine Con.start (by decide) (Nat.le_of_ble_eq_true rfl) (fun X Q _ C F => ?_)
  refine V_eq (L' := [(0, .ref (ad 0))]) (st' := []) rfl rfl rfl ?_
  unfold fX7_close at hf
  refine V_aload_n (q := 1) C dX7_close_0 rfl rfl 0 rfl ?_
  refine V_iconst (v := 1) (q := 2) C dX7_close_1 rfl ic_1 ?_
  refine V_aload_n (q := 3) C dX7_close_2 rfl rfl 0 rfl ?_
  obtain ⟨r1, σ2, h3, hf⟩ := bd_s hf
  refine V_callV (av := []) (st := [.int (1 : Int32), .ref (ad 0)]) (st1 := [.int r1, .int (1 : Int32), .ref (ad 0)]) (q := 6) C 0 (by decide) (eM_0 G ad _) rfl rfl (conX7_isOver _ _ _  _ _ _ h3) q_1483 q_114 q_1480 q_1482 q_97 nmX7_isOver (by decide) rfl rfl (Nat.le_of_ble_eq_true rfl) dX7_close_3 rfl rfl ?_
  obtain ⟨J14, eJ14, hf⟩ := jp_s hf
  have hJ14 : ∀ (v4 : Int32) (σ5 : Sg), J14 v4 σ5 = some (r, σf) → V wM X G ad 2 Q 0 0 σ5 14 [(0, .ref (ad 0))] [.int v4, .int (1 : Int32), .ref (ad 0)] := by
    intro v4 σ5 hf
    subst eJ14
    obtain ⟨r6, σ7, h8, hf⟩ := bd_s hf
    refine V_callV (av := [.int (1 : Int32), .int v4]) (st := []) (st1 := [.int r6]) (q := 17) C 0 (by decide) (eM_0 G ad _) rfl rfl (conX7_fails _ _ _ _ _ _ _ _ h8) q_1251 q_114 q_1248 q_1250 q_64 nmX7_fails (by decide) rfl rfl (Nat.le_of_ble_eq_true rfl) dX7_close_14 rfl rfl ?_
    refine V_if_eq (t := 22) (q := 20) C dX7_close_17 (by decide) rfl (fun c9 => ?_) (fun c9 => ?_)
    · replace hf := (ite_s hf).1 c9
      refine V_aload_n (q := 23) C dX7_close_22 rfl rfl 0 rfl ?_
      refine V_iconst (v := 0) (q := 24) C dX7_close_23 rfl ic_0 ?_
      obtain ⟨r10, σ11, h12, hf⟩ := bd_s hf
      refine V_callV (av := [.int (0 : Int32)]) (st := []) (st1 := [.int r10]) (q := 27) C 0 (by decide) (eM_0 G ad _) rfl rfl (conX7_in _ _ _ _ _ _ _ h12) q_1468 q_114 q_1465 q_1467 q_95 nmX7_in (by decide) rfl rfl (Nat.le_of_ble_eq_true rfl) dX7_close_24 rfl rfl ?_
      refine V_istore_n (L' := [(1, .int r10), (0, .ref (ad 0))]) (q := 28) C dX7_close_27 rfl rfl (by decide) rfl ?_
      refine V_aload_n (q := 29) C dX7_close_28 rfl rfl 1 rfl ?_
      obtain ⟨_u, σ13, h14, hf⟩ := bd_s hf
      refine V_callV (av := []) (st := []) (st1 := []) (q := 32) C 0 (by decide) (eM_0 G ad _) rfl rfl (conX7_fixNone _ _ _  _ _ h14) q_1408 q_114 q_1405 q_1407 q_85 nmX7_fixNone (by decide) rfl rfl (Nat.le_of_ble_eq_true rfl) dX7_close_29 rfl rfl ?_
      refine V_aload_n (q := 33) C dX7_close_32 rfl rfl 1 rfl ?_
      refine V_iload_n (q := 34) C dX7_close_33 rfl rfl 0 rfl ?_
      obtain ⟨_u, σ15, h16, hf⟩ := bd_s hf
      refine V_callV (av := [.int r10]) (st := []) (st1 := []) (q := 37) C 0 (by decide) (eM_0 G ad _) rfl rfl (conX7_keepFirst _ _ _ _ _ _ h16) q_1412 q_114 q_1409 q_1411 q_86 nmX7_keepFirst (by decide) rfl rfl (Nat.le_of_ble_eq_true rfl) dX7_close_34 rfl rfl ?_
      refine V_aload_n (q := 38) C dX7_close_37 rfl rfl 1 rfl ?_
      refine GM_0_1 (q := 41) C q_1183 dX7_close_38 rfl ?_
      refine V_iconst (v := 2) (q := 42) C dX7_close_41 rfl ic_2 ?_
      refine V_iconst (v := 0) (q := 43) C dX7_close_42 rfl ic_0 ?_
      refine SM_1 (z := 2) (q := 44) C tn_2 (inb_in (by decide)) dX7_close_43 rfl ?_
      refine V_lets hf (fun σ17 hf => ?_)
      refine V_iload_n (q := 45) C dX7_close_44 rfl rfl 0 rfl ?_
      obtain ⟨r18, σ19, h20, hf⟩ := bd_s hf
      refine V_callS (av := [.int r10]) (st := []) (st1 := [.int r18]) (q := 48) C (conX7_countBits _ _ _ _ _ _ _ h20) q_1341 q_114 q_1339 q_1340 nmX7_countBits (by decide) rfl rfl (Nat.le_of_ble_eq_true rfl) dX7_close_45 rfl rfl ?_
      obtain ⟨e1, e2⟩ := pr_s hf
      subst e1; subst e2
      exact V_iret C F (by decide) (by decide) dX7_close_48
    · replace hf := (ite_s hf).2 c9
      refine V_iconst (v := 0) (q := 21) C dX7_close_20 rfl ic_0 ?_
      obtain ⟨e1, e2⟩ := pr_s hf
      subst e1; subst e2
      exact V_iret C F (by decide) (by decide) dX7_close_21
  refine V_if_ne (t := 13) (q := 9) C dX7_close_6 (by decide) rfl (fun c21 => ?_) (fun c21 => ?_)
  · replace hf := (ite_s hf).2 c21
    refine V_iconst (v := 0) (q := 14) C dX7_close_13 rfl ic_0 ?_
    exact hJ14 _ _ hf
  · replace hf := (ite_s hf).1 c21
    refine V_iconst (v := 1) (q := 10) C dX7_close_9 rfl ic_1 ?_
    refine V_goto (t := 14) C dX7_close_10 (by decide) ?_
    exact hJ14 _ _ hf
def rmX7_write : Room := { frames := 0, cells := 0, slots := 0, locals := 0 }
def fX7_write (a : Int32) (σ : Sg) : Option (Unit × Sg) := gd (inb (σ 0 12) 700) (lt' (sup σ 6 ((σ 0 12).toNatClampNeg) a) (fun (σ2 : Sg) => lt' (sup σ2 0 12 ((σ2 0 12) + (1 : Int32))) (fun (σ3 : Sg) => some ((), σ3))))
set_option maxHeartbeats 4000000 in
theorem conX7_write (l : Launch) (G : Gx) (ad : Nat → Nat) (a : Int32) (σ : Sg) (σf : Sg)  (hf : fX7_write a σ = some ((), σf)) : Con wM l G ad yX7_write (Cond.code yX7_write cX7_write 2 none) rmX7_write 0 0 [.ref (ad 0), .int a] σ none σf := by
  refine Con.start (by decide) (Nat.le_of_ble_eq_true rfl) (fun X Q _ C F => ?_)
  refine V_eq (L' := [(0, .ref (ad 0)), (1, .int a)]) (st' := []) rfl rfl rfl ?_
  unfold fX7_write at hf
  refine V_aload_n (q := 1) C dX7_write_0 rfl rfl 0 rfl ?_
  refine GM_0_11 (q := 4) C q_1193 dX7_write_1 rfl ?_
  refine V_aload_n (q := 5) C dX7_write_4 rfl rfl 0 rfl ?_
  refine GM_0_12 (q := 8) C q_1194 dX7_write_5 rfl ?_
  refine V_iload_n (q := 9) C dX7_write_8 rfl rfl 1 rfl ?_
  obtain ⟨g1, hf⟩ := gd_s hf
  refine SM_6 (z := (σ 0 12).toNatClampNeg) (q := 10) C rfl (inb_in g1) dX7_write_9 rfl ?_
  refine V_lets hf (fun σ2 hf => ?_)
  refine V_aload_n (q := 11) C dX7_write_10 rfl rfl 0 rfl ?_
  refine V_dup (q := 12) C dX7_write_11 rfl rfl ?_
  refine GM_0_12 (q := 15) C q_1194 dX7_write_12 rfl ?_
  refine V_iconst (v := 1) (q := 16) C dX7_write_15 rfl ic_1 ?_
  refine V_iadd (q := 17) C dX7_write_16 rfl ?_
  refine PM_0_12 (q := 20) C q_1194 dX7_write_17 rfl ?_
  refine V_lets hf (fun σ3 hf => ?_)
  obtain ⟨-, e2⟩ := pr_s hf
  subst e2
  exact V_vret C F (by decide) (by decide) dX7_write_20
def rmX7_writeStation : Room := { frames := 1, cells := 0, slots := 0, locals := 21 }
def fX7_writeStation (a : Int32) (σ : Sg) : Option (Unit × Sg) := jp (fun (σ1 : Sg) => bd (fX7_write ((48 : Int32) + (a - a / (10 : Int32) * (10 : Int32))) σ1) (fun (_ : Unit) (σ2 : Sg) => some ((), σ2))) (fun (J12 : Sg → Option (Unit × Sg)) => if a ≤ (9 : Int32) then (J12  σ) else (bd (fX7_write (49 : Int32) σ) (fun (_ : Unit) (σ5 : Sg) => J12  σ5)))
set_option maxHeartbeats 4000000 in
theorem conX7_writeStation (l : Launch) (G : Gx) (ad : Nat → Nat) (a : Int32) (σ : Sg) (σf : Sg)  (hf : fX7_writeStation a σ = some ((), σf)) : Con wM l G ad yX7_writeStation (Cond.code yX7_writeStation cX7_writeStation 2 none) rmX7_writeStation 0 0 [.ref (ad 0), .int a] σ none σf := by
  refine Con.start (by decide) (Nat.le_of_ble_eq_true rfl) (fun X Q _ C F => ?_)
  refine V_eq (L' := [(0, .ref (ad 0)), (1, .int a)]) (st' := []) rfl rfl rfl ?_
  unfold fX7_writeStation at hf
  refine V_iload_n (q := 1) C dX7_writeStation_0 rfl rfl 1 rfl ?_
  refine V_bipush (v := 9) (q := 3) C dX7_writeStation_1 rfl bc_9 ?_
  obtain ⟨J12, eJ12, hf⟩ := jp_s hf
  have hJ12 : ∀ (σ1 : Sg), J12 σ1 = some ((), σf) → V wM X G ad 2 Q 0 0 σ1 12 [(0, .ref (ad 0)), (1, .int a)] [] := by
    intro σ1 hf
    subst eJ12
    refine V_aload_n (q := 13) C dX7_writeStation_12 rfl rfl 0 rfl ?_
    refine V_bipush (v := 48) (q := 15) C dX7_writeStation_13 rfl bc_48 ?_
    refine V_iload_n (q := 16) C dX7_writeStation_15 rfl rfl 1 rfl ?_
    refine V_bipush (v := 10) (q := 18) C dX7_writeStation_16 rfl bc_10 ?_
    refine V_irem (q := 19) C dX7_writeStation_18 rfl (by decide) ?_
    refine V_iadd (q := 20) C dX7_writeStation_19 rfl ?_
    obtain ⟨_u, σ2, h3, hf⟩ := bd_s hf
    refine V_callV (av := [.int ((48 : Int32) + (a - a / (10 : Int32) * (10 : Int32)))]) (st := []) (st1 := []) (q := 23) C 0 (by decide) (eM_0 G ad _) rfl rfl (conX7_write _ _ _ _ _ _ h3) q_1326 q_114 q_1323 q_1325 q_73 nmX7_write (by decide) rfl rfl (Nat.le_of_ble_eq_true rfl) dX7_writeStation_20 rfl rfl ?_
    obtain ⟨-, e2⟩ := pr_s hf
    subst e2
    exact V_vret C F (by decide) (by decide) dX7_writeStation_23
  refine V_icmp_le (t := 12) (q := 6) C dX7_writeStation_3 (by decide) rfl (fun c4 => ?_) (fun c4 => ?_)
  · replace hf := (ite_s hf).1 c4
    exact hJ12 _ hf
  · replace hf := (ite_s hf).2 c4
    refine V_aload_n (q := 7) C dX7_writeStation_6 rfl rfl 0 rfl ?_
    refine V_bipush (v := 49) (q := 9) C dX7_writeStation_7 rfl bc_49 ?_
    obtain ⟨_u, σ5, h6, hf⟩ := bd_s hf
    refine V_callV (av := [.int (49 : Int32)]) (st := []) (st1 := []) (q := 12) C 0 (by decide) (eM_0 G ad _) rfl rfl (conX7_write _ _ _ _ _ _ h6) q_1326 q_114 q_1323 q_1325 q_73 nmX7_write (by decide) rfl rfl (Nat.le_of_ble_eq_true rfl) dX7_writeStation_9 rfl rfl ?_
    exact hJ12 _ hf
def rmX7_print : Room := { frames := 2, cells := 0, slots := 0, locals := 42 }
def fX7_print_7 : Nat → Int32 → Sg → Option (Unit × Sg)
  | 0, _, _ => none
  | n + 1, x2, σ3 => if (144 : Int32) ≤ x2 then (some ((), σ3)) else (lt' ((x2 / (12 : Int32))) (fun (x5 : Int32) => lt' ((x2 - x2 / (12 : Int32) * (12 : Int32))) (fun (x6 : Int32) => gd (inb ((64 : Int32) + x5) 2764) (lt' ((pX7_has (σ3 1 (((64 : Int32) + x5).toNatClampNeg)) x6)) (fun (x8 : Int32) => gd (inb ((76 : Int32) + x5) 2764) (lt' ((pX7_has (σ3 1 (((76 : Int32) + x5).toNatClampNeg)) x6)) (fun (x10 : Int32) => jp (fun (σ11 : Sg) => fX7_print_7 n (x2 + (1 : Int32)) σ11) (fun (J130 : Sg → Option (Unit × Sg)) => if x6 ≤ x5 then (J130  σ3) else (if (σ3 1 0) ≤ x6 then (J130  σ3) else (jp (fun (σ14 : Sg) => jp (fun (σ15 : Sg) => bd (fX7_writeStation x5 σ15) (fun (_ : Unit) (σ16 : Sg) => bd (fX7_write (45 : Int32) σ16) (fun (_ : Unit) (σ18 : Sg) => bd (fX7_writeStation x6 σ18) (fun (_ : Unit) (σ20 : Sg) => jp (fun (σ22 : Sg) => if x10 = 0 then (J130  σ22) else (bd (fX7_write (97 : Int32) σ22) (fun (_ : Unit) (σ24 : Sg) => J130  σ24))) (fun (J119 : Sg → Option (Unit × Sg)) => if x8 = 0 then (J119  σ20) else (bd (fX7_write (99 : Int32) σ20) (fun (_ : Unit) (σ27 : Sg) => J119  σ27))))))) (fun (J92 : Sg → Option (Unit × Sg)) => if (σ14 0 12) ≤ 0 then (J92  σ14) else (bd (fX7_write (59 : Int32) σ14) (fun (_ : Unit) (σ30 : Sg) => J92  σ30)))) (fun (J79 : Sg → Option (Unit × Sg)) => if x8 = 0 then (if x10 = 0 then (J130  σ3) else (J79  σ3)) else (J79  σ3))))))))))))
def fX7_print  (σ : Sg) : Option (Unit × Sg) := lt' (sup σ 0 12 (0 : Int32)) (fun (σ1 : Sg) => fX7_print_7 FU (0 : Int32) σ1)
set_option maxHeartbeats 4000000 in
theorem wlX7_print_7 {X : Cx} {G : Gx} {ad : Nat → Nat} {Q : State → Prop} {σf : Sg} (C : OK wM X G ad RX7 cX7_print 6 rmX7_print) (F : FinR wM X G ad Q 0 0 none none σf) : ∀ (n : Nat) (x2 : Int32) (σ3 : Sg), fX7_print_7 n x2 σ3 = some ((), σf) → V wM X G ad 6 Q 0 0 σ3 7 [(0, .ref (ad 0)), (1, .int x2)] [] := by
  intro n
  induction n with
  | zero =>
    intro _ _ hf
    exact absurd hf (by simp [fX7_print_7])
  | succ n ih =>
    intro x2 σ3 hf
    rw [fX7_print_7] at hf
    refine V_iload_n (q := 8) C dX7_print_7 rfl rfl 1 rfl ?_
    refine V_sipush (v := 144) (q := 11) C dX7_print_8 rfl sc_144 ?_
    refine V_icmp_ge (t := 136) (q := 14) C dX7_print_11 (by decide) rfl (fun c4 => ?_) (fun c4 => ?_)
    · replace hf := (ite_s hf).1 c4
      obtain ⟨-, e2⟩ := pr_s hf
      subst e2
      exact V_vret C F (by decide) (by decide) dX7_print_136
    · replace hf := (ite_s hf).2 c4
      refine V_iload_n (q := 15) C dX7_print_14 rfl rfl 1 rfl ?_
      refine V_bipush (v := 12) (q := 17) C dX7_print_15 rfl bc_12 ?_
      refine V_idiv (q := 18) C dX7_print_17 rfl (by decide) ?_
      refine V_let (cv := Value.int) hf (fun x5 hf => ?_)
      refine V_istore_n (L' := [(2, .int x5), (0, .ref (ad 0)), (1, .int x2)]) (q := 19) C dX7_print_18 rfl rfl (by decide) rfl ?_
      refine V_iload_n (q := 20) C dX7_print_19 rfl rfl 2 rfl ?_
      refine V_bipush (v := 12) (q := 22) C dX7_print_20 rfl bc_12 ?_
      refine V_irem (q := 23) C dX7_print_22 rfl (by decide) ?_
      refine V_let (cv := Value.int) hf (fun x6 hf => ?_)
      refine V_istore_n (L' := [(3, .int x6), (2, .int x5), (0, .ref (ad 0)), (1, .int x2)]) (q := 24) C dX7_print_23 rfl rfl (by decide) rfl ?_
      refine V_aload_n (q := 25) C dX7_print_24 rfl rfl 2 rfl ?_
      refine GM_0_1 (q := 28) C q_1183 dX7_print_25 rfl ?_
      refine V_bipush (v := 64) (q := 30) C dX7_print_28 rfl bc_64 ?_
      refine V_iload_n (q := 31) C dX7_print_30 rfl rfl 1 rfl ?_
      refine V_iadd (q := 32) C dX7_print_31 rfl ?_
      obtain ⟨g7, hf⟩ := gd_s hf
      refine RM_1 (z := ((64 : Int32) + x5).toNatClampNeg) (q := 33) C rfl (inb_in g7) dX7_print_32 rfl ?_
      refine V_iload_n (q := 34) C dX7_print_33 rfl rfl 0 rfl ?_
      refine V_callS (av := [.int (σ3 1 (((64 : Int32) + x5).toNatClampNeg)), .int x6]) (st := []) (st1 := [.int (pX7_has (σ3 1 (((64 : Int32) + x5).toNatClampNeg)) x6)]) (q := 37) C (conX7_has _ _ _ _ _ _ _ rfl) q_1314 q_114 q_1312 q_1313 nmX7_has (by decide) rfl rfl (Nat.le_of_ble_eq_true rfl) dX7_print_34 rfl rfl ?_
      refine V_let (cv := Value.int) hf (fun x8 hf => ?_)
      refine V_istore (L' := [(4, .int x8), (3, .int x6), (2, .int x5), (0, .ref (ad 0)), (1, .int x2)]) (q := 39) C dX7_print_37 rfl (by decide) rfl ?_
      refine V_aload_n (q := 40) C dX7_print_39 rfl rfl 3 rfl ?_
      refine GM_0_1 (q := 43) C q_1183 dX7_print_40 rfl ?_
      refine V_bipush (v := 76) (q := 45) C dX7_print_43 rfl bc_76 ?_
      refine V_iload_n (q := 46) C dX7_print_45 rfl rfl 2 rfl ?_
      refine V_iadd (q := 47) C dX7_print_46 rfl ?_
      obtain ⟨g9, hf⟩ := gd_s hf
      refine RM_1 (z := ((76 : Int32) + x5).toNatClampNeg) (q := 48) C rfl (inb_in g9) dX7_print_47 rfl ?_
      refine V_iload_n (q := 49) C dX7_print_48 rfl rfl 1 rfl ?_
      refine V_callS (av := [.int (σ3 1 (((76 : Int32) + x5).toNatClampNeg)), .int x6]) (st := []) (st1 := [.int (pX7_has (σ3 1 (((76 : Int32) + x5).toNatClampNeg)) x6)]) (q := 52) C (conX7_has _ _ _ _ _ _ _ rfl) q_1314 q_114 q_1312 q_1313 nmX7_has (by decide) rfl rfl (Nat.le_of_ble_eq_true rfl) dX7_print_49 rfl rfl ?_
      refine V_let (cv := Value.int) hf (fun x10 hf => ?_)
      refine V_istore (L' := [(5, .int x10), (4, .int x8), (3, .int x6), (2, .int x5), (0, .ref (ad 0)), (1, .int x2)]) (q := 54) C dX7_print_52 rfl (by decide) rfl ?_
      refine V_iload_n (q := 55) C dX7_print_54 rfl rfl 3 rfl ?_
      refine V_iload_n (q := 56) C dX7_print_55 rfl rfl 2 rfl ?_
      obtain ⟨J130, eJ130, hf⟩ := jp_s hf
      have hJ130 : ∀ (σ11 : Sg), J130 σ11 = some ((), σf) → V wM X G ad 6 Q 0 0 σ11 130 [(0, .ref (ad 0)), (1, .int x2)] [] := by
        intro σ11 hf
        subst eJ130
        refine V_iinc (L' := [(1, .int (x2 + (1 : Int32))), (0, .ref (ad 0))]) (q := 133) C dX7_print_130 rfl 1 rfl (congrArg (fun y => x2 + y) ic_1) (by decide) rfl ?_
        refine V_goto (t := 7) C dX7_print_133 (by decide) ?_
        refine V_sub (L' := [(0, .ref (ad 0)), (1, .int (x2 + (1 : Int32)))]) [1, 0] rfl ?_
        exact ih _ _ hf
      refine V_icmp_ge (t := 130) (q := 59) C dX7_print_56 (by decide) rfl (fun c12 => ?_) (fun c12 => ?_)
      · replace hf := (ite_s hf).1 c12
        refine V_sub (L' := [(0, .ref (ad 0)), (1, .int x2)]) [4, 5] rfl ?_
        exact hJ130 _ hf
      · replace hf := (ite_s hf).2 c12
        refine V_iload_n (q := 60) C dX7_print_59 rfl rfl 2 rfl ?_
        refine V_aload_n (q := 61) C dX7_print_60 rfl rfl 4 rfl ?_
        refine GM_0_1 (q := 64) C q_1183 dX7_print_61 rfl ?_
        refine V_iconst (v := 0) (q := 65) C dX7_print_64 rfl ic_0 ?_
        refine RM_1 (z := 0) (q := 66) C tn_0 (inb_in (by decide)) dX7_print_65 rfl ?_
        refine V_icmp_ge (t := 130) (q := 69) C dX7_print_66 (by decide) rfl (fun c13 => ?_) (fun c13 => ?_)
        · replace hf := (ite_s hf).1 c13
          refine V_sub (L' := [(0, .ref (ad 0)), (1, .int x2)]) [4, 5] rfl ?_
          exact hJ130 _ hf
        · replace hf := (ite_s hf).2 c13
          refine V_iload (q := 71) C dX7_print_69 rfl 1 rfl ?_
          obtain ⟨J79, eJ79, hf⟩ := jp_s hf
          have hJ79 : ∀ (σ14 : Sg), J79 σ14 = some ((), σf) → V wM X G ad 6 Q 0 0 σ14 79 [(0, .ref (ad 0)), (1, .int x2), (2, .int x5), (3, .int x6), (4, .int x8), (5, .int x10)] [] := by
            intro σ14 hf
            subst eJ79
            refine V_aload_n (q := 80) C dX7_print_79 rfl rfl 0 rfl ?_
            refine GM_0_12 (q := 83) C q_1194 dX7_print_80 rfl ?_
            obtain ⟨J92, eJ92, hf⟩ := jp_s hf
            have hJ92 : ∀ (σ15 : Sg), J92 σ15 = some ((), σf) → V wM X G ad 6 Q 0 0 σ15 92 [(0, .ref (ad 0)), (1, .int x2), (2, .int x5), (3, .int x6), (4, .int x8), (5, .int x10)] [] := by
              intro σ15 hf
              subst eJ92
              refine V_aload_n (q := 93) C dX7_print_92 rfl rfl 0 rfl ?_
              refine V_iload_n (q := 94) C dX7_print_93 rfl rfl 2 rfl ?_
              obtain ⟨_u, σ16, h17, hf⟩ := bd_s hf
              refine V_callV (av := [.int x5]) (st := []) (st1 := []) (q := 97) C 0 (by decide) (eM_0 G ad _) rfl rfl (conX7_writeStation _ _ _ _ _ _ h17) q_1330 q_114 q_1327 q_1329 q_74 nmX7_writeStation (by decide) rfl rfl (Nat.le_of_ble_eq_true rfl) dX7_print_94 rfl rfl ?_
              refine V_aload_n (q := 98) C dX7_print_97 rfl rfl 0 rfl ?_
              refine V_bipush (v := 45) (q := 100) C dX7_print_98 rfl bc_45 ?_
              obtain ⟨_u, σ18, h19, hf⟩ := bd_s hf
              refine V_callV (av := [.int (45 : Int32)]) (st := []) (st1 := []) (q := 103) C 0 (by decide) (eM_0 G ad _) rfl rfl (conX7_write _ _ _ _ _ _ h19) q_1326 q_114 q_1323 q_1325 q_73 nmX7_write (by decide) rfl rfl (Nat.le_of_ble_eq_true rfl) dX7_print_100 rfl rfl ?_
              refine V_aload_n (q := 104) C dX7_print_103 rfl rfl 0 rfl ?_
              refine V_iload_n (q := 105) C dX7_print_104 rfl rfl 3 rfl ?_
              obtain ⟨_u, σ20, h21, hf⟩ := bd_s hf
              refine V_callV (av := [.int x6]) (st := []) (st1 := []) (q := 108) C 0 (by decide) (eM_0 G ad _) rfl rfl (conX7_writeStation _ _ _ _ _ _ h21) q_1330 q_114 q_1327 q_1329 q_74 nmX7_writeStation (by decide) rfl rfl (Nat.le_of_ble_eq_true rfl) dX7_print_105 rfl rfl ?_
              refine V_iload (q := 110) C dX7_print_108 rfl 4 rfl ?_
              obtain ⟨J119, eJ119, hf⟩ := jp_s hf
              have hJ119 : ∀ (σ22 : Sg), J119 σ22 = some ((), σf) → V wM X G ad 6 Q 0 0 σ22 119 [(0, .ref (ad 0)), (1, .int x2), (5, .int x10)] [] := by
                intro σ22 hf
                subst eJ119
                refine V_iload (q := 121) C dX7_print_119 rfl 2 rfl ?_
                refine V_if_eq (t := 130) (q := 124) C dX7_print_121 (by decide) rfl (fun c23 => ?_) (fun c23 => ?_)
                · replace hf := (ite_s hf).1 c23
                  refine V_sub (L' := [(0, .ref (ad 0)), (1, .int x2)]) [0, 1] rfl ?_
                  exact hJ130 _ hf
                · replace hf := (ite_s hf).2 c23
                  refine V_aload_n (q := 125) C dX7_print_124 rfl rfl 0 rfl ?_
                  refine V_bipush (v := 97) (q := 127) C dX7_print_125 rfl bc_97 ?_
                  obtain ⟨_u, σ24, h25, hf⟩ := bd_s hf
                  refine V_callV (av := [.int (97 : Int32)]) (st := []) (st1 := []) (q := 130) C 0 (by decide) (eM_0 G ad _) rfl rfl (conX7_write _ _ _ _ _ _ h25) q_1326 q_114 q_1323 q_1325 q_73 nmX7_write (by decide) rfl rfl (Nat.le_of_ble_eq_true rfl) dX7_print_127 rfl rfl ?_
                  refine V_sub (L' := [(0, .ref (ad 0)), (1, .int x2)]) [0, 1] rfl ?_
                  exact hJ130 _ hf
              refine V_if_eq (t := 119) (q := 113) C dX7_print_110 (by decide) rfl (fun c26 => ?_) (fun c26 => ?_)
              · replace hf := (ite_s hf).1 c26
                refine V_sub (L' := [(0, .ref (ad 0)), (1, .int x2), (5, .int x10)]) [0, 1, 5] rfl ?_
                exact hJ119 _ hf
              · replace hf := (ite_s hf).2 c26
                refine V_aload_n (q := 114) C dX7_print_113 rfl rfl 0 rfl ?_
                refine V_bipush (v := 99) (q := 116) C dX7_print_114 rfl bc_99 ?_
                obtain ⟨_u, σ27, h28, hf⟩ := bd_s hf
                refine V_callV (av := [.int (99 : Int32)]) (st := []) (st1 := []) (q := 119) C 0 (by decide) (eM_0 G ad _) rfl rfl (conX7_write _ _ _ _ _ _ h28) q_1326 q_114 q_1323 q_1325 q_73 nmX7_write (by decide) rfl rfl (Nat.le_of_ble_eq_true rfl) dX7_print_116 rfl rfl ?_
                refine V_sub (L' := [(0, .ref (ad 0)), (1, .int x2), (5, .int x10)]) [0, 1, 5] rfl ?_
                exact hJ119 _ hf
            refine V_if_le (t := 92) (q := 86) C dX7_print_83 (by decide) rfl (fun c29 => ?_) (fun c29 => ?_)
            · replace hf := (ite_s hf).1 c29
              exact hJ92 _ hf
            · replace hf := (ite_s hf).2 c29
              refine V_aload_n (q := 87) C dX7_print_86 rfl rfl 0 rfl ?_
              refine V_bipush (v := 59) (q := 89) C dX7_print_87 rfl bc_59 ?_
              obtain ⟨_u, σ30, h31, hf⟩ := bd_s hf
              refine V_callV (av := [.int (59 : Int32)]) (st := []) (st1 := []) (q := 92) C 0 (by decide) (eM_0 G ad _) rfl rfl (conX7_write _ _ _ _ _ _ h31) q_1326 q_114 q_1323 q_1325 q_73 nmX7_write (by decide) rfl rfl (Nat.le_of_ble_eq_true rfl) dX7_print_89 rfl rfl ?_
              exact hJ92 _ hf
          refine V_if_ne (t := 79) (q := 74) C dX7_print_71 (by decide) rfl (fun c32 => ?_) (fun c32 => ?_)
          · replace hf := (ite_s hf).2 c32
            refine V_sub (L' := [(0, .ref (ad 0)), (1, .int x2), (2, .int x5), (3, .int x6), (4, .int x8), (5, .int x10)]) [4, 5, 3, 2, 1, 0] rfl ?_
            exact hJ79 _ hf
          · replace hf := (ite_s hf).1 c32
            refine V_iload (q := 76) C dX7_print_74 rfl 0 rfl ?_
            refine V_if_eq (t := 130) (q := 79) C dX7_print_76 (by decide) rfl (fun c33 => ?_) (fun c33 => ?_)
            · replace hf := (ite_s hf).1 c33
              refine V_sub (L' := [(0, .ref (ad 0)), (1, .int x2)]) [4, 5] rfl ?_
              exact hJ130 _ hf
            · replace hf := (ite_s hf).2 c33
              refine V_sub (L' := [(0, .ref (ad 0)), (1, .int x2), (2, .int x5), (3, .int x6), (4, .int x8), (5, .int x10)]) [4, 5, 3, 2, 1, 0] rfl ?_
              exact hJ79 _ hf
set_option maxHeartbeats 4000000 in
theorem conX7_print (l : Launch) (G : Gx) (ad : Nat → Nat)  (σ : Sg) (σf : Sg)  (hf : fX7_print  σ = some ((), σf)) : Con wM l G ad yX7_print (Cond.code yX7_print cX7_print 6 none) rmX7_print 0 0 [.ref (ad 0)] σ none σf := by
  refine Con.start (by decide) (Nat.le_of_ble_eq_true rfl) (fun X Q _ C F => ?_)
  refine V_eq (L' := [(0, .ref (ad 0))]) (st' := []) rfl rfl rfl ?_
  unfold fX7_print at hf
  refine V_aload_n (q := 1) C dX7_print_0 rfl rfl 0 rfl ?_
  refine V_iconst (v := 0) (q := 2) C dX7_print_1 rfl ic_0 ?_
  refine PM_0_12 (q := 5) C q_1194 dX7_print_2 rfl ?_
  refine V_lets hf (fun σ1 hf => ?_)
  refine V_iconst (v := 0) (q := 6) C dX7_print_5 rfl ic_0 ?_
  refine V_istore_n (L' := [(1, .int (0 : Int32)), (0, .ref (ad 0))]) (q := 7) C dX7_print_6 rfl rfl (by decide) rfl ?_
  refine V_sub (L' := [(0, .ref (ad 0)), (1, .int (0 : Int32))]) [1, 0] rfl ?_
  refine wlX7_print_7 C F FU _ _ hf
def rmX7_conflicts : Room := { frames := 3, cells := 0, slots := 0, locals := 67 }
def fX7_conflicts (a : Int32) (σ : Sg) : Option (Int32 × Sg) := bd (fX7_print  σ) (fun (_ : Unit) (σ1 : Sg) => jp (fun (v3 : Int32) (σ4 : Sg) => bd (fX7_fails (1 : Int32) v3 σ4) (fun (r5 : Int32) (σ6 : Sg) => if r5 = 0 then (if 0 ≤ a then (gd (inb a 700) (some ((σ6 6 a.toNatClampNeg), σ6))) else (some ((σ6 0 12), σ6))) else (some ((0 : Int32), σ6)))) (fun (J25 : Int32 → Sg → Option (Int32 × Sg)) => if (pX7_isBetween a (-1 : Int32) ((σ1 0 12) - (1 : Int32))) = 0 then (J25 (1 : Int32) σ1) else (J25 (0 : Int32) σ1)))
set_option maxHeartbeats 4000000 in
theorem conX7_conflicts (l : Launch) (G : Gx) (ad : Nat → Nat) (a : Int32) (σ : Sg) (r : Int32) (σf : Sg)  (hf : fX7_conflicts a σ = some (r, σf)) : Con wM l G ad yX7_conflicts (Cond.code yX7_conflicts cX7_conflicts 2 (some .int)) rmX7_conflicts 0 0 [.ref (ad 0), .int a] σ (some (.int r)) σf := by
  refine Con.start (by decide) (Nat.le_of_ble_eq_true rfl) (fun X Q _ C F => ?_)
  refine V_eq (L' := [(0, .ref (ad 0)), (1, .int a)]) (st' := []) rfl rfl rfl ?_
  unfold fX7_conflicts at hf
  refine V_aload_n (q := 1) C dX7_conflicts_0 rfl rfl 0 rfl ?_
  obtain ⟨_u, σ1, h2, hf⟩ := bd_s hf
  refine V_callV (av := []) (st := []) (st1 := []) (q := 4) C 0 (by decide) (eM_0 G ad _) rfl rfl (conX7_print _ _ _  _ _ h2) q_1322 q_114 q_1319 q_1321 q_72 nmX7_print (by decide) rfl rfl (Nat.le_of_ble_eq_true rfl) dX7_conflicts_1 rfl rfl ?_
  refine V_aload_n (q := 5) C dX7_conflicts_4 rfl rfl 0 rfl ?_
  refine V_iconst (v := 1) (q := 6) C dX7_conflicts_5 rfl ic_1 ?_
  refine V_iload_n (q := 7) C dX7_conflicts_6 rfl rfl 1 rfl ?_
  refine V_iconst (v := (-1)) (q := 8) C dX7_conflicts_7 rfl ic_m1 ?_
  refine V_aload_n (q := 9) C dX7_conflicts_8 rfl rfl 0 rfl ?_
  refine GM_0_12 (q := 12) C q_1194 dX7_conflicts_9 rfl ?_
  refine V_iconst (v := 1) (q := 13) C dX7_conflicts_12 rfl ic_1 ?_
  refine V_isub (q := 14) C dX7_conflicts_13 rfl ?_
  refine V_callS (av := [.int a, .int (-1 : Int32), .int ((σ1 0 12) - (1 : Int32))]) (st := [.int (1 : Int32), .ref (ad 0)]) (st1 := [.int (pX7_isBetween a (-1 : Int32) ((σ1 0 12) - (1 : Int32))), .int (1 : Int32), .ref (ad 0)]) (q := 17) C (conX7_isBetween _ _ _ _ _ _ _ _ rfl) q_1247 q_114 q_1245 q_1246 nmX7_isBetween (by decide) rfl rfl (Nat.le_of_ble_eq_true rfl) dX7_conflicts_14 rfl rfl ?_
  obtain ⟨J25, eJ25, hf⟩ := jp_s hf
  have hJ25 : ∀ (v3 : Int32) (σ4 : Sg), J25 v3 σ4 = some (r, σf) → V wM X G ad 2 Q 0 0 σ4 25 [(0, .ref (ad 0)), (1, .int a)] [.int v3, .int (1 : Int32), .ref (ad 0)] := by
    intro v3 σ4 hf
    subst eJ25
    obtain ⟨r5, σ6, h7, hf⟩ := bd_s hf
    refine V_callV (av := [.int (1 : Int32), .int v3]) (st := []) (st1 := [.int r5]) (q := 28) C 0 (by decide) (eM_0 G ad _) rfl rfl (conX7_fails _ _ _ _ _ _ _ _ h7) q_1251 q_114 q_1248 q_1250 q_64 nmX7_fails (by decide) rfl rfl (Nat.le_of_ble_eq_true rfl) dX7_conflicts_25 rfl rfl ?_
    refine V_if_eq (t := 33) (q := 31) C dX7_conflicts_28 (by decide) rfl (fun c8 => ?_) (fun c8 => ?_)
    · replace hf := (ite_s hf).1 c8
      refine V_iload_n (q := 34) C dX7_conflicts_33 rfl rfl 1 rfl ?_
      refine V_if_ge (t := 44) (q := 37) C dX7_conflicts_34 (by decide) rfl (fun c9 => ?_) (fun c9 => ?_)
      · replace hf := (ite_s hf).1 c9
        refine V_aload_n (q := 45) C dX7_conflicts_44 rfl rfl 0 rfl ?_
        refine GM_0_11 (q := 48) C q_1193 dX7_conflicts_45 rfl ?_
        refine V_iload_n (q := 49) C dX7_conflicts_48 rfl rfl 1 rfl ?_
        obtain ⟨g10, hf⟩ := gd_s hf
        refine RM_6 (z := a.toNatClampNeg) (q := 50) C rfl (inb_in g10) dX7_conflicts_49 rfl ?_
        obtain ⟨e1, e2⟩ := pr_s hf
        subst e1; subst e2
        exact V_iret C F (by decide) (by decide) dX7_conflicts_50
      · replace hf := (ite_s hf).2 c9
        refine V_aload_n (q := 38) C dX7_conflicts_37 rfl rfl 0 rfl ?_
        refine GM_0_12 (q := 41) C q_1194 dX7_conflicts_38 rfl ?_
        refine V_goto (t := 50) C dX7_conflicts_41 (by decide) ?_
        obtain ⟨e1, e2⟩ := pr_s hf
        subst e1; subst e2
        exact V_iret C F (by decide) (by decide) dX7_conflicts_50
    · replace hf := (ite_s hf).2 c8
      refine V_iconst (v := 0) (q := 32) C dX7_conflicts_31 rfl ic_0 ?_
      obtain ⟨e1, e2⟩ := pr_s hf
      subst e1; subst e2
      exact V_iret C F (by decide) (by decide) dX7_conflicts_32
  refine V_if_ne (t := 24) (q := 20) C dX7_conflicts_17 (by decide) rfl (fun c11 => ?_) (fun c11 => ?_)
  · replace hf := (ite_s hf).2 c11
    refine V_iconst (v := 0) (q := 25) C dX7_conflicts_24 rfl ic_0 ?_
    exact hJ25 _ _ hf
  · replace hf := (ite_s hf).1 c11
    refine V_iconst (v := 1) (q := 21) C dX7_conflicts_20 rfl ic_1 ?_
    refine V_goto (t := 25) C dX7_conflicts_21 (by decide) ?_
    exact hJ25 _ _ hf
def rmX7_degree : Room := { frames := 1, cells := 0, slots := 0, locals := 22 }
def fX7_degree (a : Int32) (σ : Sg) : Option (Int32 × Sg) := gd (inb ((64 : Int32) + a) 2764) (gd (inb ((76 : Int32) + a) 2764) (bd (fX7_countBits ((σ 1 (((64 : Int32) + a).toNatClampNeg)) ||| (σ 1 (((76 : Int32) + a).toNatClampNeg))) σ) (fun (r3 : Int32) (σ4 : Sg) => some (r3, σ4))))
set_option maxHeartbeats 4000000 in
theorem conX7_degree (l : Launch) (G : Gx) (ad : Nat → Nat) (a : Int32) (σ : Sg) (r : Int32) (σf : Sg)  (hf : fX7_degree a σ = some (r, σf)) : Con wM l G ad yX7_degree (Cond.code yX7_degree cX7_degree 2 (some .int)) rmX7_degree 0 0 [.ref (ad 0), .int a] σ (some (.int r)) σf := by
  refine Con.start (by decide) (Nat.le_of_ble_eq_true rfl) (fun X Q _ C F => ?_)
  refine V_eq (L' := [(0, .ref (ad 0)), (1, .int a)]) (st' := []) rfl rfl rfl ?_
  unfold fX7_degree at hf
  refine V_aload_n (q := 1) C dX7_degree_0 rfl rfl 0 rfl ?_
  refine GM_0_1 (q := 4) C q_1183 dX7_degree_1 rfl ?_
  refine V_bipush (v := 64) (q := 6) C dX7_degree_4 rfl bc_64 ?_
  refine V_iload_n (q := 7) C dX7_degree_6 rfl rfl 1 rfl ?_
  refine V_iadd (q := 8) C dX7_degree_7 rfl ?_
  obtain ⟨g1, hf⟩ := gd_s hf
  refine RM_1 (z := ((64 : Int32) + a).toNatClampNeg) (q := 9) C rfl (inb_in g1) dX7_degree_8 rfl ?_
  refine V_aload_n (q := 10) C dX7_degree_9 rfl rfl 0 rfl ?_
  refine GM_0_1 (q := 13) C q_1183 dX7_degree_10 rfl ?_
  refine V_bipush (v := 76) (q := 15) C dX7_degree_13 rfl bc_76 ?_
  refine V_iload_n (q := 16) C dX7_degree_15 rfl rfl 1 rfl ?_
  refine V_iadd (q := 17) C dX7_degree_16 rfl ?_
  obtain ⟨g2, hf⟩ := gd_s hf
  refine RM_1 (z := ((76 : Int32) + a).toNatClampNeg) (q := 18) C rfl (inb_in g2) dX7_degree_17 rfl ?_
  refine V_ior (q := 19) C dX7_degree_18 rfl ?_
  obtain ⟨r3, σ4, h5, hf⟩ := bd_s hf
  refine V_callS (av := [.int ((σ 1 (((64 : Int32) + a).toNatClampNeg)) ||| (σ 1 (((76 : Int32) + a).toNatClampNeg)))]) (st := []) (st1 := [.int r3]) (q := 22) C (conX7_countBits _ _ _ _ _ _ _ h5) q_1341 q_114 q_1339 q_1340 nmX7_countBits (by decide) rfl rfl (Nat.le_of_ble_eq_true rfl) dX7_degree_19 rfl rfl ?_
  obtain ⟨e1, e2⟩ := pr_s hf
  subst e1; subst e2
  exact V_iret C F (by decide) (by decide) dX7_degree_22
def rmX7_volume : Room := { frames := 2, cells := 0, slots := 0, locals := 43 }
def fX7_volume (a : Int32) (σ : Sg) : Option (UInt32 × Sg) := bd (fX7_degree a σ) (fun (r1 : Int32) (σ2 : Sg) => gd (inb ((28 : Int32) + a) 2764) (gd (n32 (FP.fmul (FP.i2f (r1 + (1 : Int32))) (FP.i2f (σ2 1 (((28 : Int32) + a).toNatClampNeg))))) (gd (n32 (FP.fdiv (FP.fmul (FP.i2f (r1 + (1 : Int32))) (FP.i2f (σ2 1 (((28 : Int32) + a).toNatClampNeg)))) (1092616192 : UInt32))) (some ((FP.fdiv (FP.fmul (FP.i2f (r1 + (1 : Int32))) (FP.i2f (σ2 1 (((28 : Int32) + a).toNatClampNeg)))) (1092616192 : UInt32)), σ2)))))
set_option maxHeartbeats 4000000 in
theorem conX7_volume (l : Launch) (G : Gx) (ad : Nat → Nat) (a : Int32) (σ : Sg) (r : UInt32) (σf : Sg)  (hf : fX7_volume a σ = some (r, σf)) : Con wM l G ad yX7_volume (Cond.code yX7_volume cX7_volume 2 (some .float)) rmX7_volume 0 0 [.ref (ad 0), .int a] σ (some (.float r)) σf := by
  refine Con.start (by decide) (Nat.le_of_ble_eq_true rfl) (fun X Q _ C F => ?_)
  refine V_eq (L' := [(0, .ref (ad 0)), (1, .int a)]) (st' := []) rfl rfl rfl ?_
  unfold fX7_volume at hf
  refine V_aload_n (q := 1) C dX7_volume_0 rfl rfl 0 rfl ?_
  refine V_iload_n (q := 2) C dX7_volume_1 rfl rfl 1 rfl ?_
  obtain ⟨r1, σ2, h3, hf⟩ := bd_s hf
  refine V_callV (av := [.int a]) (st := []) (st1 := [.int r1]) (q := 5) C 0 (by decide) (eM_0 G ad _) rfl rfl (conX7_degree _ _ _ _ _ _ _ h3) q_1338 q_114 q_1335 q_1337 q_75 nmX7_degree (by decide) rfl rfl (Nat.le_of_ble_eq_true rfl) dX7_volume_2 rfl rfl ?_
  refine V_iconst (v := 1) (q := 6) C dX7_volume_5 rfl ic_1 ?_
  refine V_iadd (q := 7) C dX7_volume_6 rfl ?_
  refine V_i2f (q := 8) C dX7_volume_7 rfl ?_
  refine V_aload_n (q := 9) C dX7_volume_8 rfl rfl 0 rfl ?_
  refine GM_0_1 (q := 12) C q_1183 dX7_volume_9 rfl ?_
  refine V_bipush (v := 28) (q := 14) C dX7_volume_12 rfl bc_28 ?_
  refine V_iload_n (q := 15) C dX7_volume_14 rfl rfl 1 rfl ?_
  refine V_iadd (q := 16) C dX7_volume_15 rfl ?_
  obtain ⟨g4, hf⟩ := gd_s hf
  refine RM_1 (z := ((28 : Int32) + a).toNatClampNeg) (q := 17) C rfl (inb_in g4) dX7_volume_16 rfl ?_
  refine V_i2f (q := 18) C dX7_volume_17 rfl ?_
  obtain ⟨g5, hf⟩ := gd_s hf
  refine V_fmul (q := 19) C dX7_volume_18 rfl (n32_s g5) ?_
  refine V_ldcf (q := 21) C q_1350 dX7_volume_19 rfl ?_
  obtain ⟨g6, hf⟩ := gd_s hf
  refine V_fdiv (q := 22) C dX7_volume_21 rfl (n32_s g6) ?_
  obtain ⟨e1, e2⟩ := pr_s hf
  subst e1; subst e2
  exact V_fret C F (by decide) (by decide) dX7_volume_22
def rmX7_priceOf : Room := { frames := 3, cells := 0, slots := 0, locals := 64 }
def fX7_priceOf (a : Int32) (b : Int32) (σ : Sg) : Option (Int32 × Sg) := bd (fX7_volume a σ) (fun (r1 : UInt32) (σ2 : Sg) => gd (n32 (FP.fmul r1 (FP.i2f b))) (some ((FP.f2i (FP.fmul r1 (FP.i2f b))), σ2)))
set_option maxHeartbeats 4000000 in
theorem conX7_priceOf (l : Launch) (G : Gx) (ad : Nat → Nat) (a : Int32) (b : Int32) (σ : Sg) (r : Int32) (σf : Sg)  (hf : fX7_priceOf a b σ = some (r, σf)) : Con wM l G ad yX7_priceOf (Cond.code yX7_priceOf cX7_priceOf 3 (some .int)) rmX7_priceOf 0 0 [.ref (ad 0), .int a, .int b] σ (some (.int r)) σf := by
  refine Con.start (by decide) (Nat.le_of_ble_eq_true rfl) (fun X Q _ C F => ?_)
  refine V_eq (L' := [(0, .ref (ad 0)), (1, .int a), (2, .int b)]) (st' := []) rfl rfl rfl ?_
  unfold fX7_priceOf at hf
  refine V_aload_n (q := 1) C dX7_priceOf_0 rfl rfl 0 rfl ?_
  refine V_iload_n (q := 2) C dX7_priceOf_1 rfl rfl 1 rfl ?_
  obtain ⟨r1, σ2, h3, hf⟩ := bd_s hf
  refine V_callV (av := [.int a]) (st := []) (st1 := [.float r1]) (q := 5) C 0 (by decide) (eM_0 G ad _) rfl rfl (conX7_volume _ _ _ _ _ _ _ h3) q_1349 q_114 q_1346 q_1348 q_76 nmX7_volume (by decide) rfl rfl (Nat.le_of_ble_eq_true rfl) dX7_priceOf_2 rfl rfl ?_
  refine V_iload_n (q := 6) C dX7_priceOf_5 rfl rfl 2 rfl ?_
  refine V_i2f (q := 7) C dX7_priceOf_6 rfl ?_
  obtain ⟨g4, hf⟩ := gd_s hf
  refine V_fmul (q := 8) C dX7_priceOf_7 rfl (n32_s g4) ?_
  refine V_f2i (q := 9) C dX7_priceOf_8 rfl ?_
  obtain ⟨e1, e2⟩ := pr_s hf
  subst e1; subst e2
  exact V_iret C F (by decide) (by decide) dX7_priceOf_9
def rmX7_setState : Room := { frames := 0, cells := 0, slots := 0, locals := 0 }
def fX7_setState (a : Int32) (b : Int32) (σ : Sg) : Option (Unit × Sg) := gd (inb (((316 : Int32) + ((σ 1 3) * (12 : Int32))) + a) 2764) (lt' (sup σ 1 ((((316 : Int32) + ((σ 1 3) * (12 : Int32))) + a).toNatClampNeg) b) (fun (σ2 : Sg) => some ((), σ2)))
set_option maxHeartbeats 4000000 in
theorem conX7_setState (l : Launch) (G : Gx) (ad : Nat → Nat) (a : Int32) (b : Int32) (σ : Sg) (σf : Sg)  (hf : fX7_setState a b σ = some ((), σf)) : Con wM l G ad yX7_setState (Cond.code yX7_setState cX7_setState 3 none) rmX7_setState 0 0 [.ref (ad 0), .int a, .int b] σ none σf := by
  refine Con.start (by decide) (Nat.le_of_ble_eq_true rfl) (fun X Q _ C F => ?_)
  refine V_eq (L' := [(0, .ref (ad 0)), (1, .int a), (2, .int b)]) (st' := []) rfl rfl rfl ?_
  unfold fX7_setState at hf
  refine V_aload_n (q := 1) C dX7_setState_0 rfl rfl 0 rfl ?_
  refine GM_0_1 (q := 4) C q_1183 dX7_setState_1 rfl ?_
  refine V_sipush (v := 316) (q := 7) C dX7_setState_4 rfl sc_316 ?_
  refine V_aload_n (q := 8) C dX7_setState_7 rfl rfl 0 rfl ?_
  refine GM_0_1 (q := 11) C q_1183 dX7_setState_8 rfl ?_
  refine V_iconst (v := 3) (q := 12) C dX7_setState_11 rfl ic_3 ?_
  refine RM_1 (z := 3) (q := 13) C tn_3 (inb_in (by decide)) dX7_setState_12 rfl ?_
  refine V_bipush (v := 12) (q := 15) C dX7_setState_13 rfl bc_12 ?_
  refine V_imul (q := 16) C dX7_setState_15 rfl ?_
  refine V_iadd (q := 17) C dX7_setState_16 rfl ?_
  refine V_iload_n (q := 18) C dX7_setState_17 rfl rfl 1 rfl ?_
  refine V_iadd (q := 19) C dX7_setState_18 rfl ?_
  refine V_iload_n (q := 20) C dX7_setState_19 rfl rfl 2 rfl ?_
  obtain ⟨g1, hf⟩ := gd_s hf
  refine SM_1 (z := (((316 : Int32) + ((σ 1 3) * (12 : Int32))) + a).toNatClampNeg) (q := 21) C rfl (inb_in g1) dX7_setState_20 rfl ?_
  refine V_lets hf (fun σ2 hf => ?_)
  obtain ⟨-, e2⟩ := pr_s hf
  subst e2
  exact V_vret C F (by decide) (by decide) dX7_setState_21
def rmX7_note : Room := { frames := 0, cells := 0, slots := 0, locals := 0 }
def fX7_note (a : Int32) (b : Int32) (σ : Sg) : Option (Unit × Sg) := gd (inb ((214 : Int32) + (σ 1 3)) 2764) (gd (inb ((100 : Int32) + (σ 1 (((214 : Int32) + (σ 1 3)).toNatClampNeg))) 2764) (lt' (sup σ 1 (((100 : Int32) + (σ 1 (((214 : Int32) + (σ 1 3)).toNatClampNeg))).toNatClampNeg) ((((1000 : Int32) * (σ 1 3)) + ((10 : Int32) * a)) + b)) (fun (σ3 : Sg) => gd (inb ((214 : Int32) + (σ3 1 3)) 2764) (gd (inb ((214 : Int32) + (σ3 1 3)) 2764) (lt' (sup σ3 1 (((214 : Int32) + (σ3 1 3)).toNatClampNeg) ((σ3 1 (((214 : Int32) + (σ3 1 3)).toNatClampNeg)) + (1 : Int32))) (fun (σ6 : Sg) => some ((), σ6)))))))
set_option maxHeartbeats 4000000 in
theorem conX7_note (l : Launch) (G : Gx) (ad : Nat → Nat) (a : Int32) (b : Int32) (σ : Sg) (σf : Sg)  (hf : fX7_note a b σ = some ((), σf)) : Con wM l G ad yX7_note (Cond.code yX7_note cX7_note 3 none) rmX7_note 0 0 [.ref (ad 0), .int a, .int b] σ none σf := by
  refine Con.start (by decide) (Nat.le_of_ble_eq_true rfl) (fun X Q _ C F => ?_)
  refine V_eq (L' := [(0, .ref (ad 0)), (1, .int a), (2, .int b)]) (st' := []) rfl rfl rfl ?_
  unfold fX7_note at hf
  refine V_aload_n (q := 1) C dX7_note_0 rfl rfl 0 rfl ?_
  refine GM_0_1 (q := 4) C q_1183 dX7_note_1 rfl ?_
  refine V_bipush (v := 100) (q := 6) C dX7_note_4 rfl bc_100 ?_
  refine V_aload_n (q := 7) C dX7_note_6 rfl rfl 0 rfl ?_
  refine GM_0_1 (q := 10) C q_1183 dX7_note_7 rfl ?_
  refine V_sipush (v := 214) (q := 13) C dX7_note_10 rfl sc_214 ?_
  refine V_aload_n (q := 14) C dX7_note_13 rfl rfl 0 rfl ?_
  refine GM_0_1 (q := 17) C q_1183 dX7_note_14 rfl ?_
  refine V_iconst (v := 3) (q := 18) C dX7_note_17 rfl ic_3 ?_
  refine RM_1 (z := 3) (q := 19) C tn_3 (inb_in (by decide)) dX7_note_18 rfl ?_
  refine V_iadd (q := 20) C dX7_note_19 rfl ?_
  obtain ⟨g1, hf⟩ := gd_s hf
  refine RM_1 (z := ((214 : Int32) + (σ 1 3)).toNatClampNeg) (q := 21) C rfl (inb_in g1) dX7_note_20 rfl ?_
  refine V_iadd (q := 22) C dX7_note_21 rfl ?_
  refine V_sipush (v := 1000) (q := 25) C dX7_note_22 rfl sc_1000 ?_
  refine V_aload_n (q := 26) C dX7_note_25 rfl rfl 0 rfl ?_
  refine GM_0_1 (q := 29) C q_1183 dX7_note_26 rfl ?_
  refine V_iconst (v := 3) (q := 30) C dX7_note_29 rfl ic_3 ?_
  refine RM_1 (z := 3) (q := 31) C tn_3 (inb_in (by decide)) dX7_note_30 rfl ?_
  refine V_imul (q := 32) C dX7_note_31 rfl ?_
  refine V_bipush (v := 10) (q := 34) C dX7_note_32 rfl bc_10 ?_
  refine V_iload_n (q := 35) C dX7_note_34 rfl rfl 1 rfl ?_
  refine V_imul (q := 36) C dX7_note_35 rfl ?_
  refine V_iadd (q := 37) C dX7_note_36 rfl ?_
  refine V_iload_n (q := 38) C dX7_note_37 rfl rfl 2 rfl ?_
  refine V_iadd (q := 39) C dX7_note_38 rfl ?_
  obtain ⟨g2, hf⟩ := gd_s hf
  refine SM_1 (z := ((100 : Int32) + (σ 1 (((214 : Int32) + (σ 1 3)).toNatClampNeg))).toNatClampNeg) (q := 40) C rfl (inb_in g2) dX7_note_39 rfl ?_
  refine V_lets hf (fun σ3 hf => ?_)
  refine V_aload_n (q := 41) C dX7_note_40 rfl rfl 0 rfl ?_
  refine GM_0_1 (q := 44) C q_1183 dX7_note_41 rfl ?_
  refine V_sipush (v := 214) (q := 47) C dX7_note_44 rfl sc_214 ?_
  refine V_aload_n (q := 48) C dX7_note_47 rfl rfl 0 rfl ?_
  refine GM_0_1 (q := 51) C q_1183 dX7_note_48 rfl ?_
  refine V_iconst (v := 3) (q := 52) C dX7_note_51 rfl ic_3 ?_
  refine RM_1 (z := 3) (q := 53) C tn_3 (inb_in (by decide)) dX7_note_52 rfl ?_
  refine V_iadd (q := 54) C dX7_note_53 rfl ?_
  refine V_dup2 (q := 55) C dX7_note_54 rfl rfl rfl ?_
  obtain ⟨g4, hf⟩ := gd_s hf
  refine RM_1 (z := ((214 : Int32) + (σ3 1 3)).toNatClampNeg) (q := 56) C rfl (inb_in g4) dX7_note_55 rfl ?_
  refine V_iconst (v := 1) (q := 57) C dX7_note_56 rfl ic_1 ?_
  refine V_iadd (q := 58) C dX7_note_57 rfl ?_
  obtain ⟨g5, hf⟩ := gd_s hf
  refine SM_1 (z := ((214 : Int32) + (σ3 1 3)).toNatClampNeg) (q := 59) C rfl (inb_in g5) dX7_note_58 rfl ?_
  refine V_lets hf (fun σ6 hf => ?_)
  obtain ⟨-, e2⟩ := pr_s hf
  subst e2
  exact V_vret C F (by decide) (by decide) dX7_note_59
def rmX7_reason : Room := { frames := 20, cells := 0, slots := 0, locals := 531 }
def fX7_reason_5 (a : Int32) (b : Int32) : Nat → Int32 → Int32 → Sg → Option (Int32 × Sg)
  | 0, _, _, _ => none
  | n + 1, x1, x2, σ3 => if b < x2 then (some (x1, σ3)) else (jp (fun (v5 : Int32) (σ6 : Sg) => jp (fun (y7 : Int32) (σ8 : Sg) => fX7_reason_5 a b n y7 (x2 + (1 : Int32)) σ8) (fun (J64 : Int32 → Sg → Option (Int32 × Sg)) => if (x2 &&& (b ^^^ (-1 : Int32))) = 0 then (if v5 = 0 then (J64 x1 σ6) else (bd (fX7_isPossible (x2 ||| ((1 : Int32) <<< (a &&& 31))) σ6) (fun (r11 : Int32) (σ12 : Sg) => if r11 = 0 then (J64 x2 σ12) else (J64 x1 σ12)))) else (J64 x1 σ6))) (fun (J32 : Int32 → Sg → Option (Int32 × Sg)) => jp (fun (σ15 : Sg) => J32 (1 : Int32) σ15) (fun (J27 : Sg → Option (Int32 × Sg)) => if x1 < 0 then (J27  σ3) else (bd (fX7_countBits x2 σ3) (fun (r17 : Int32) (σ18 : Sg) => bd (fX7_countBits x1 σ18) (fun (r20 : Int32) (σ21 : Sg) => if r20 ≤ r17 then (J32 (0 : Int32) σ21) else (J27  σ21)))))))
def fX7_reason (a : Int32) (b : Int32) (σ : Sg) : Option (Int32 × Sg) := fX7_reason_5 a b FU (-1 : Int32) (0 : Int32) σ
set_option maxHeartbeats 4000000 in
theorem wlX7_reason_5 {X : Cx} {G : Gx} {ad : Nat → Nat} {Q : State → Prop} {r : Int32} {σf : Sg} (C : OK wM X G ad RX7 cX7_reason 6 rmX7_reason) (F : FinR wM X G ad Q 0 0 (some .int) (some (.int r)) σf) (a : Int32) (b : Int32) : ∀ (n : Nat) (x1 : Int32) (x2 : Int32) (σ3 : Sg), fX7_reason_5 a b n x1 x2 σ3 = some (r, σf) → V wM X G ad 6 Q 0 0 σ3 5 [(0, .ref (ad 0)), (1, .int a), (2, .int b), (3, .int x1), (4, .int x2)] [] := by
  intro n
  induction n with
  | zero =>
    intro _ _ _ hf
    exact absurd hf (by simp [fX7_reason_5])
  | succ n ih =>
    intro x1 x2 σ3 hf
    rw [fX7_reason_5] at hf
    refine V_iload (q := 7) C dX7_reason_5 rfl 4 rfl ?_
    refine V_iload_n (q := 8) C dX7_reason_7 rfl rfl 2 rfl ?_
    refine V_icmp_gt (t := 70) (q := 11) C dX7_reason_8 (by decide) rfl (fun c4 => ?_) (fun c4 => ?_)
    · replace hf := (ite_s hf).1 c4
      refine V_iload_n (q := 71) C dX7_reason_70 rfl rfl 3 rfl ?_
      obtain ⟨e1, e2⟩ := pr_s hf
      subst e1; subst e2
      exact V_iret C F (by decide) (by decide) dX7_reason_71
    · replace hf := (ite_s hf).2 c4
      refine V_iload_n (q := 12) C dX7_reason_11 rfl rfl 3 rfl ?_
      obtain ⟨J32, eJ32, hf⟩ := jp_s hf
      have hJ32 : ∀ (v5 : Int32) (σ6 : Sg), J32 v5 σ6 = some (r, σf) → V wM X G ad 6 Q 0 0 σ6 32 [(0, .ref (ad 0)), (1, .int a), (2, .int b), (3, .int x1), (4, .int x2)] [.int v5] := by
        intro v5 σ6 hf
        subst eJ32
        refine V_istore (L' := [(5, .int v5), (0, .ref (ad 0)), (1, .int a), (2, .int b), (3, .int x1), (4, .int x2)]) (q := 34) C dX7_reason_32 rfl (by decide) rfl ?_
        refine V_iload (q := 36) C dX7_reason_34 rfl 5 rfl ?_
        refine V_iload_n (q := 37) C dX7_reason_36 rfl rfl 3 rfl ?_
        refine V_iconst (v := (-1)) (q := 38) C dX7_reason_37 rfl ic_m1 ?_
        refine V_ixor (q := 39) C dX7_reason_38 rfl ?_
        refine V_iand (q := 40) C dX7_reason_39 rfl ?_
        obtain ⟨J64, eJ64, hf⟩ := jp_s hf
        have hJ64 : ∀ (y7 : Int32) (σ8 : Sg), J64 y7 σ8 = some (r, σf) → V wM X G ad 6 Q 0 0 σ8 64 [(0, .ref (ad 0)), (1, .int a), (2, .int b), (3, .int y7), (4, .int x2)] [] := by
          intro y7 σ8 hf
          subst eJ64
          refine V_iinc (L' := [(4, .int (x2 + (1 : Int32))), (0, .ref (ad 0)), (1, .int a), (2, .int b), (3, .int y7)]) (q := 67) C dX7_reason_64 rfl 4 rfl (congrArg (fun y => x2 + y) ic_1) (by decide) rfl ?_
          refine V_goto (t := 5) C dX7_reason_67 (by decide) ?_
          refine V_sub (L' := [(0, .ref (ad 0)), (1, .int a), (2, .int b), (3, .int y7), (4, .int (x2 + (1 : Int32)))]) [1, 2, 3, 4, 0] rfl ?_
          exact ih _ _ _ hf
        refine V_if_ne (t := 64) (q := 43) C dX7_reason_40 (by decide) rfl (fun c9 => ?_) (fun c9 => ?_)
        · replace hf := (ite_s hf).2 c9
          refine V_sub (L' := [(0, .ref (ad 0)), (1, .int a), (2, .int b), (3, .int x1), (4, .int x2)]) [1, 2, 3, 4, 5] rfl ?_
          exact hJ64 _ _ hf
        · replace hf := (ite_s hf).1 c9
          refine V_iload (q := 45) C dX7_reason_43 rfl 0 rfl ?_
          refine V_if_eq (t := 64) (q := 48) C dX7_reason_45 (by decide) rfl (fun c10 => ?_) (fun c10 => ?_)
          · replace hf := (ite_s hf).1 c10
            refine V_sub (L' := [(0, .ref (ad 0)), (1, .int a), (2, .int b), (3, .int x1), (4, .int x2)]) [1, 2, 3, 4, 5] rfl ?_
            exact hJ64 _ _ hf
          · replace hf := (ite_s hf).2 c10
            refine V_aload_n (q := 49) C dX7_reason_48 rfl rfl 1 rfl ?_
            refine V_iload (q := 51) C dX7_reason_49 rfl 5 rfl ?_
            refine V_iconst (v := 1) (q := 52) C dX7_reason_51 rfl ic_1 ?_
            refine V_iload_n (q := 53) C dX7_reason_52 rfl rfl 2 rfl ?_
            refine V_ishl (q := 54) C dX7_reason_53 rfl ?_
            refine V_ior (q := 55) C dX7_reason_54 rfl ?_
            obtain ⟨r11, σ12, h13, hf⟩ := bd_s hf
            refine V_callV (av := [.int (x2 ||| ((1 : Int32) <<< (a &&& 31)))]) (st := []) (st1 := [.int r11]) (q := 58) C 0 (by decide) (eM_0 G ad _) rfl rfl (conX7_isPossible _ _ _ _ _ _ _ h13) q_1380 q_114 q_1377 q_1379 q_79 nmX7_isPossible (by decide) rfl rfl (Nat.le_of_ble_eq_true rfl) dX7_reason_55 rfl rfl ?_
            refine V_if_ne (t := 64) (q := 61) C dX7_reason_58 (by decide) rfl (fun c14 => ?_) (fun c14 => ?_)
            · replace hf := (ite_s hf).2 c14
              refine V_sub (L' := [(0, .ref (ad 0)), (1, .int a), (2, .int b), (3, .int x1), (4, .int x2)]) [1, 2, 3, 4, 5] rfl ?_
              exact hJ64 _ _ hf
            · replace hf := (ite_s hf).1 c14
              refine V_iload (q := 63) C dX7_reason_61 rfl 5 rfl ?_
              refine V_istore_n (L' := [(3, .int x2), (5, .int v5), (0, .ref (ad 0)), (1, .int a), (2, .int b), (4, .int x2)]) (q := 64) C dX7_reason_63 rfl rfl (by decide) rfl ?_
              refine V_sub (L' := [(0, .ref (ad 0)), (1, .int a), (2, .int b), (3, .int x2), (4, .int x2)]) [2, 3, 4, 0, 5] rfl ?_
              exact hJ64 _ _ hf
      obtain ⟨J27, eJ27, hf⟩ := jp_s hf
      have hJ27 : ∀ (σ15 : Sg), J27 σ15 = some (r, σf) → V wM X G ad 6 Q 0 0 σ15 27 [(0, .ref (ad 0)), (1, .int a), (2, .int b), (3, .int x1), (4, .int x2)] [] := by
        intro σ15 hf
        subst eJ27
        refine V_iconst (v := 1) (q := 28) C dX7_reason_27 rfl ic_1 ?_
        refine V_goto (t := 32) C dX7_reason_28 (by decide) ?_
        exact hJ32 _ _ hf
      refine V_if_lt (t := 27) (q := 15) C dX7_reason_12 (by decide) rfl (fun c16 => ?_) (fun c16 => ?_)
      · replace hf := (ite_s hf).1 c16
        exact hJ27 _ hf
      · replace hf := (ite_s hf).2 c16
        refine V_iload (q := 17) C dX7_reason_15 rfl 4 rfl ?_
        obtain ⟨r17, σ18, h19, hf⟩ := bd_s hf
        refine V_callS (av := [.int x2]) (st := []) (st1 := [.int r17]) (q := 20) C (conX7_countBits _ _ _ _ _ _ _ h19) q_1341 q_114 q_1339 q_1340 nmX7_countBits (by decide) rfl rfl (Nat.le_of_ble_eq_true rfl) dX7_reason_17 rfl rfl ?_
        refine V_iload_n (q := 21) C dX7_reason_20 rfl rfl 3 rfl ?_
        obtain ⟨r20, σ21, h22, hf⟩ := bd_s hf
        refine V_callS (av := [.int x1]) (st := [.int r17]) (st1 := [.int r20, .int r17]) (q := 24) C (conX7_countBits _ _ _ _ _ _ _ h22) q_1341 q_114 q_1339 q_1340 nmX7_countBits (by decide) rfl rfl (Nat.le_of_ble_eq_true rfl) dX7_reason_21 rfl rfl ?_
        refine V_icmp_ge (t := 31) (q := 27) C dX7_reason_24 (by decide) rfl (fun c23 => ?_) (fun c23 => ?_)
        · replace hf := (ite_s hf).1 c23
          refine V_iconst (v := 0) (q := 32) C dX7_reason_31 rfl ic_0 ?_
          exact hJ32 _ _ hf
        · replace hf := (ite_s hf).2 c23
          exact hJ27 _ hf
set_option maxHeartbeats 4000000 in
theorem conX7_reason (l : Launch) (G : Gx) (ad : Nat → Nat) (a : Int32) (b : Int32) (σ : Sg) (r : Int32) (σf : Sg)  (hf : fX7_reason a b σ = some (r, σf)) : Con wM l G ad yX7_reason (Cond.code yX7_reason cX7_reason 6 (some .int)) rmX7_reason 0 0 [.ref (ad 0), .int a, .int b] σ (some (.int r)) σf := by
  refine Con.start (by decide) (Nat.le_of_ble_eq_true rfl) (fun X Q _ C F => ?_)
  refine V_eq (L' := [(0, .ref (ad 0)), (1, .int a), (2, .int b)]) (st' := []) rfl rfl rfl ?_
  unfold fX7_reason at hf
  refine V_iconst (v := (-1)) (q := 1) C dX7_reason_0 rfl ic_m1 ?_
  refine V_istore_n (L' := [(3, .int (-1 : Int32)), (0, .ref (ad 0)), (1, .int a), (2, .int b)]) (q := 2) C dX7_reason_1 rfl rfl (by decide) rfl ?_
  refine V_iconst (v := 0) (q := 3) C dX7_reason_2 rfl ic_0 ?_
  refine V_istore (L' := [(4, .int (0 : Int32)), (3, .int (-1 : Int32)), (0, .ref (ad 0)), (1, .int a), (2, .int b)]) (q := 5) C dX7_reason_3 rfl (by decide) rfl ?_
  refine V_sub (L' := [(0, .ref (ad 0)), (1, .int a), (2, .int b), (3, .int (-1 : Int32)), (4, .int (0 : Int32))]) [2, 3, 4, 1, 0] rfl ?_
  refine wlX7_reason_5 C F a b FU _ _ _ hf
def rmX7_consider : Room := { frames := 21, cells := 0, slots := 0, locals := 556 }
def fX7_consider (a : Int32) (σ : Sg) : Option (Unit × Sg) := bd (fX7_in (0 : Int32) σ) (fun (r1 : Int32) (σ2 : Sg) => bd (fX7_isPossible (r1 ||| ((1 : Int32) <<< (a &&& 31))) σ2) (fun (r4 : Int32) (σ5 : Sg) => if r4 = 0 then (bd (fX7_setState a (2 : Int32) σ5) (fun (_ : Unit) (σ20 : Sg) => bd (fX7_reason a r1 σ20) (fun (r22 : Int32) (σ23 : Sg) => gd (inb ((88 : Int32) + a) 2764) (lt' (sup σ23 1 (((88 : Int32) + a).toNatClampNeg) r22) (fun (σ26 : Sg) => bd (fX7_note a (1 : Int32) σ26) (fun (_ : Unit) (σ27 : Sg) => some ((), σ27))))))) else (gd (inb ((112 : Int32) + (σ5 1 3)) 2764) (bd (fX7_priceOf a (σ5 1 (((112 : Int32) + (σ5 1 3)).toNatClampNeg)) σ5) (fun (r9 : Int32) (σ10 : Sg) => gd (inb ((16 : Int32) + a) 2764) (if (σ10 1 (((16 : Int32) + a).toNatClampNeg)) ≤ r9 then (gd (inb (((1540 : Int32) + ((σ10 1 3) * (12 : Int32))) + a) 2764) (lt' (sup σ10 1 ((((1540 : Int32) + ((σ10 1 3) * (12 : Int32))) + a).toNatClampNeg) r9) (fun (σ15 : Sg) => some ((), σ15)))) else (bd (fX7_setState a (0 : Int32) σ10) (fun (_ : Unit) (σ16 : Sg) => bd (fX7_note a (0 : Int32) σ16) (fun (_ : Unit) (σ18 : Sg) => some ((), σ18))))))))))
set_option maxHeartbeats 4000000 in
theorem conX7_consider (l : Launch) (G : Gx) (ad : Nat → Nat) (a : Int32) (σ : Sg) (σf : Sg)  (hf : fX7_consider a σ = some ((), σf)) : Con wM l G ad yX7_consider (Cond.code yX7_consider cX7_consider 4 none) rmX7_consider 0 0 [.ref (ad 0), .int a] σ none σf := by
  refine Con.start (by decide) (Nat.le_of_ble_eq_true rfl) (fun X Q _ C F => ?_)
  refine V_eq (L' := [(0, .ref (ad 0)), (1, .int a)]) (st' := []) rfl rfl rfl ?_
  unfold fX7_consider at hf
  refine V_aload_n (q := 1) C dX7_consider_0 rfl rfl 0 rfl ?_
  refine V_iconst (v := 0) (q := 2) C dX7_consider_1 rfl ic_0 ?_
  obtain ⟨r1, σ2, h3, hf⟩ := bd_s hf
  refine V_callV (av := [.int (0 : Int32)]) (st := []) (st1 := [.int r1]) (q := 5) C 0 (by decide) (eM_0 G ad _) rfl rfl (conX7_in _ _ _ _ _ _ _ h3) q_1468 q_114 q_1465 q_1467 q_95 nmX7_in (by decide) rfl rfl (Nat.le_of_ble_eq_true rfl) dX7_consider_2 rfl rfl ?_
  refine V_istore_n (L' := [(2, .int r1), (0, .ref (ad 0)), (1, .int a)]) (q := 6) C dX7_consider_5 rfl rfl (by decide) rfl ?_
  refine V_aload_n (q := 7) C dX7_consider_6 rfl rfl 1 rfl ?_
  refine V_iload_n (q := 8) C dX7_consider_7 rfl rfl 0 rfl ?_
  refine V_iconst (v := 1) (q := 9) C dX7_consider_8 rfl ic_1 ?_
  refine V_iload_n (q := 10) C dX7_consider_9 rfl rfl 2 rfl ?_
  refine V_ishl (q := 11) C dX7_consider_10 rfl ?_
  refine V_ior (q := 12) C dX7_consider_11 rfl ?_
  obtain ⟨r4, σ5, h6, hf⟩ := bd_s hf
  refine V_callV (av := [.int (r1 ||| ((1 : Int32) <<< (a &&& 31)))]) (st := []) (st1 := [.int r4]) (q := 15) C 0 (by decide) (eM_0 G ad _) rfl rfl (conX7_isPossible _ _ _ _ _ _ _ h6) q_1380 q_114 q_1377 q_1379 q_79 nmX7_isPossible (by decide) rfl rfl (Nat.le_of_ble_eq_true rfl) dX7_consider_12 rfl rfl ?_
  refine V_if_ne (t := 46) (q := 18) C dX7_consider_15 (by decide) rfl (fun c7 => ?_) (fun c7 => ?_)
  · replace hf := (ite_s hf).2 c7
    refine V_aload_n (q := 47) C dX7_consider_46 rfl rfl 1 rfl ?_
    refine V_iload_n (q := 48) C dX7_consider_47 rfl rfl 2 rfl ?_
    refine V_aload_n (q := 49) C dX7_consider_48 rfl rfl 1 rfl ?_
    refine GM_0_1 (q := 52) C q_1183 dX7_consider_49 rfl ?_
    refine V_bipush (v := 112) (q := 54) C dX7_consider_52 rfl bc_112 ?_
    refine V_aload_n (q := 55) C dX7_consider_54 rfl rfl 1 rfl ?_
    refine GM_0_1 (q := 58) C q_1183 dX7_consider_55 rfl ?_
    refine V_iconst (v := 3) (q := 59) C dX7_consider_58 rfl ic_3 ?_
    refine RM_1 (z := 3) (q := 60) C tn_3 (inb_in (by decide)) dX7_consider_59 rfl ?_
    refine V_iadd (q := 61) C dX7_consider_60 rfl ?_
    obtain ⟨g8, hf⟩ := gd_s hf
    refine RM_1 (z := ((112 : Int32) + (σ5 1 3)).toNatClampNeg) (q := 62) C rfl (inb_in g8) dX7_consider_61 rfl ?_
    obtain ⟨r9, σ10, h11, hf⟩ := bd_s hf
    refine V_callV (av := [.int a, .int (σ5 1 (((112 : Int32) + (σ5 1 3)).toNatClampNeg))]) (st := []) (st1 := [.int r9]) (q := 65) C 0 (by decide) (eM_0 G ad _) rfl rfl (conX7_priceOf _ _ _ _ _ _ _ _ h11) q_1368 q_114 q_1365 q_1367 q_77 nmX7_priceOf (by decide) rfl rfl (Nat.le_of_ble_eq_true rfl) dX7_consider_62 rfl rfl ?_
    refine V_istore_n (L' := [(3, .int r9), (2, .int r1), (0, .ref (ad 0)), (1, .int a)]) (q := 66) C dX7_consider_65 rfl rfl (by decide) rfl ?_
    refine V_iload_n (q := 67) C dX7_consider_66 rfl rfl 0 rfl ?_
    refine V_aload_n (q := 68) C dX7_consider_67 rfl rfl 2 rfl ?_
    refine GM_0_1 (q := 71) C q_1183 dX7_consider_68 rfl ?_
    refine V_bipush (v := 16) (q := 73) C dX7_consider_71 rfl bc_16 ?_
    refine V_iload_n (q := 74) C dX7_consider_73 rfl rfl 3 rfl ?_
    refine V_iadd (q := 75) C dX7_consider_74 rfl ?_
    obtain ⟨g12, hf⟩ := gd_s hf
    refine RM_1 (z := ((16 : Int32) + a).toNatClampNeg) (q := 76) C rfl (inb_in g12) dX7_consider_75 rfl ?_
    refine V_icmp_ge (t := 94) (q := 79) C dX7_consider_76 (by decide) rfl (fun c13 => ?_) (fun c13 => ?_)
    · replace hf := (ite_s hf).1 c13
      refine V_aload_n (q := 95) C dX7_consider_94 rfl rfl 2 rfl ?_
      refine GM_0_1 (q := 98) C q_1183 dX7_consider_95 rfl ?_
      refine V_sipush (v := 1540) (q := 101) C dX7_consider_98 rfl sc_1540 ?_
      refine V_aload_n (q := 102) C dX7_consider_101 rfl rfl 2 rfl ?_
      refine GM_0_1 (q := 105) C q_1183 dX7_consider_102 rfl ?_
      refine V_iconst (v := 3) (q := 106) C dX7_consider_105 rfl ic_3 ?_
      refine RM_1 (z := 3) (q := 107) C tn_3 (inb_in (by decide)) dX7_consider_106 rfl ?_
      refine V_bipush (v := 12) (q := 109) C dX7_consider_107 rfl bc_12 ?_
      refine V_imul (q := 110) C dX7_consider_109 rfl ?_
      refine V_iadd (q := 111) C dX7_consider_110 rfl ?_
      refine V_iload_n (q := 112) C dX7_consider_111 rfl rfl 3 rfl ?_
      refine V_iadd (q := 113) C dX7_consider_112 rfl ?_
      refine V_iload_n (q := 114) C dX7_consider_113 rfl rfl 0 rfl ?_
      obtain ⟨g14, hf⟩ := gd_s hf
      refine SM_1 (z := (((1540 : Int32) + ((σ10 1 3) * (12 : Int32))) + a).toNatClampNeg) (q := 115) C rfl (inb_in g14) dX7_consider_114 rfl ?_
      refine V_lets hf (fun σ15 hf => ?_)
      obtain ⟨-, e2⟩ := pr_s hf
      subst e2
      exact V_vret C F (by decide) (by decide) dX7_consider_115
    · replace hf := (ite_s hf).2 c13
      refine V_aload_n (q := 80) C dX7_consider_79 rfl rfl 2 rfl ?_
      refine V_iload_n (q := 81) C dX7_consider_80 rfl rfl 3 rfl ?_
      refine V_iconst (v := 0) (q := 82) C dX7_consider_81 rfl ic_0 ?_
      obtain ⟨_u, σ16, h17, hf⟩ := bd_s hf
      refine V_callV (av := [.int a, .int (0 : Int32)]) (st := []) (st1 := []) (q := 85) C 0 (by decide) (eM_0 G ad _) rfl rfl (conX7_setState _ _ _ _ _ _ _ h17) q_1448 q_114 q_1445 q_1447 q_90 nmX7_setState (by decide) rfl rfl (Nat.le_of_ble_eq_true rfl) dX7_consider_82 rfl rfl ?_
      refine V_aload_n (q := 86) C dX7_consider_85 rfl rfl 2 rfl ?_
      refine V_iload_n (q := 87) C dX7_consider_86 rfl rfl 3 rfl ?_
      refine V_iconst (v := 0) (q := 88) C dX7_consider_87 rfl ic_0 ?_
      obtain ⟨_u, σ18, h19, hf⟩ := bd_s hf
      refine V_callV (av := [.int a, .int (0 : Int32)]) (st := []) (st1 := []) (q := 91) C 0 (by decide) (eM_0 G ad _) rfl rfl (conX7_note _ _ _ _ _ _ _ h19) q_1472 q_114 q_1469 q_1471 q_96 nmX7_note (by decide) rfl rfl (Nat.le_of_ble_eq_true rfl) dX7_consider_88 rfl rfl ?_
      refine V_goto (t := 115) C dX7_consider_91 (by decide) ?_
      obtain ⟨-, e2⟩ := pr_s hf
      subst e2
      exact V_vret C F (by decide) (by decide) dX7_consider_115
  · replace hf := (ite_s hf).1 c7
    refine V_aload_n (q := 19) C dX7_consider_18 rfl rfl 1 rfl ?_
    refine V_iload_n (q := 20) C dX7_consider_19 rfl rfl 2 rfl ?_
    refine V_iconst (v := 2) (q := 21) C dX7_consider_20 rfl ic_2 ?_
    obtain ⟨_u, σ20, h21, hf⟩ := bd_s hf
    refine V_callV (av := [.int a, .int (2 : Int32)]) (st := []) (st1 := []) (q := 24) C 0 (by decide) (eM_0 G ad _) rfl rfl (conX7_setState _ _ _ _ _ _ _ h21) q_1448 q_114 q_1445 q_1447 q_90 nmX7_setState (by decide) rfl rfl (Nat.le_of_ble_eq_true rfl) dX7_consider_21 rfl rfl ?_
    refine V_aload_n (q := 25) C dX7_consider_24 rfl rfl 1 rfl ?_
    refine GM_0_1 (q := 28) C q_1183 dX7_consider_25 rfl ?_
    refine V_bipush (v := 88) (q := 30) C dX7_consider_28 rfl bc_88 ?_
    refine V_iload_n (q := 31) C dX7_consider_30 rfl rfl 2 rfl ?_
    refine V_iadd (q := 32) C dX7_consider_31 rfl ?_
    refine V_aload_n (q := 33) C dX7_consider_32 rfl rfl 1 rfl ?_
    refine V_iload_n (q := 34) C dX7_consider_33 rfl rfl 2 rfl ?_
    refine V_iload_n (q := 35) C dX7_consider_34 rfl rfl 0 rfl ?_
    obtain ⟨r22, σ23, h24, hf⟩ := bd_s hf
    refine V_callV (av := [.int a, .int r1]) (st := [.int ((88 : Int32) + a), .ref (ad 1)]) (st1 := [.int r22, .int ((88 : Int32) + a), .ref (ad 1)]) (q := 38) C 0 (by decide) (eM_0 G ad _) rfl rfl (conX7_reason _ _ _ _ _ _ _ _ h24) q_1436 q_114 q_1433 q_1435 q_88 nmX7_reason (by decide) rfl rfl (Nat.le_of_ble_eq_true rfl) dX7_consider_35 rfl rfl ?_
    obtain ⟨g25, hf⟩ := gd_s hf
    refine SM_1 (z := ((88 : Int32) + a).toNatClampNeg) (q := 39) C rfl (inb_in g25) dX7_consider_38 rfl ?_
    refine V_lets hf (fun σ26 hf => ?_)
    refine V_aload_n (q := 40) C dX7_consider_39 rfl rfl 1 rfl ?_
    refine V_iload_n (q := 41) C dX7_consider_40 rfl rfl 2 rfl ?_
    refine V_iconst (v := 1) (q := 42) C dX7_consider_41 rfl ic_1 ?_
    obtain ⟨_u, σ27, h28, hf⟩ := bd_s hf
    refine V_callV (av := [.int a, .int (1 : Int32)]) (st := []) (st1 := []) (q := 45) C 0 (by decide) (eM_0 G ad _) rfl rfl (conX7_note _ _ _ _ _ _ _ h28) q_1472 q_114 q_1469 q_1471 q_96 nmX7_note (by decide) rfl rfl (Nat.le_of_ble_eq_true rfl) dX7_consider_42 rfl rfl ?_
    obtain ⟨-, e2⟩ := pr_s hf
    subst e2
    exact V_vret C F (by decide) (by decide) dX7_consider_45
def rmX7_ranked : Room := { frames := 3, cells := 0, slots := 0, locals := 64 }
def fX7_ranked_17 (a : Int32) (x1 : Int32) (K : Int32 → Sg → Option (Int32 × Sg)) : Nat → Int32 → Int32 → Sg → Option (Int32 × Sg)
  | 0, _, _, _ => none
  | n + 1, x4, x5, σ6 => if (σ6 1 0) ≤ x5 then (K x4 σ6) else (bd (fX7_volume x5 σ6) (fun (r9 : UInt32) (σ10 : Sg) => bd (fX7_volume x1 σ10) (fun (r12 : UInt32) (σ13 : Sg) => jp (fun (v15 : Int32) (σ16 : Sg) => gd (inb ((40 : Int32) + x5) 2764) (jp (fun (v18 : Int32) (σ19 : Sg) => lt' ((x4 + v18)) (fun (x20 : Int32) => fX7_ranked_17 a x1 K n x20 (x5 + (1 : Int32)) σ19)) (fun (J96 : Int32 → Sg → Option (Int32 × Sg)) => jp (fun (σ21 : Sg) => J96 (0 : Int32) σ21) (fun (J95 : Sg → Option (Int32 × Sg)) => if (σ16 1 (((40 : Int32) + x5).toNatClampNeg)) = (1 : Int32) then (if v15 = 0 then (J95  σ16) else (J96 (1 : Int32) σ16)) else (J95  σ16))))) (fun (J69 : Int32 → Sg → Option (Int32 × Sg)) => jp (fun (σ24 : Sg) => J69 (1 : Int32) σ24) (fun (J64 : Sg → Option (Int32 × Sg)) => if 0 < (Op.cmpValue (FP.fcmp r9 r12) CmpOp.l) then (J64  σ13) else (bd (fX7_volume x5 σ13) (fun (r26 : UInt32) (σ27 : Sg) => bd (fX7_volume x1 σ27) (fun (r29 : UInt32) (σ30 : Sg) => jp (fun (σ32 : Sg) => J69 (0 : Int32) σ32) (fun (J68 : Sg → Option (Int32 × Sg)) => if (Op.cmpValue (FP.fcmp r26 r29) CmpOp.l) = 0 then (if x1 ≤ x5 then (J68  σ30) else (J64  σ30)) else (J68  σ30))))))))))
def fX7_ranked_2 (a : Int32) : Nat → Int32 → Sg → Option (Int32 × Sg)
  | 0, _, _ => none
  | n + 1, x1, σ2 => if (σ2 1 0) ≤ x1 then (some ((-1 : Int32), σ2)) else (fX7_ranked_17 a x1 (fun (y7 : Int32) (σ35 : Sg) => gd (inb ((40 : Int32) + x1) 2764) (jp (fun (σ37 : Sg) => fX7_ranked_2 a n (x1 + (1 : Int32)) σ37) (fun (J124 : Sg → Option (Int32 × Sg)) => if (σ35 1 (((40 : Int32) + x1).toNatClampNeg)) = (1 : Int32) then (if y7 = a then (some (x1, σ35)) else (J124  σ35)) else (J124  σ35)))) FU (0 : Int32) (0 : Int32) σ2)
def fX7_ranked (a : Int32) (σ : Sg) : Option (Int32 × Sg) := fX7_ranked_2 a FU (0 : Int32) σ
set_option maxHeartbeats 4000000 in
theorem wlX7_ranked_17 {X : Cx} {G : Gx} {ad : Nat → Nat} {Q : State → Prop} {r : Int32} {σf : Sg} (C : OK wM X G ad RX7 cX7_ranked 6 rmX7_ranked) (F : FinR wM X G ad Q 0 0 (some .int) (some (.int r)) σf) (a : Int32) (x1 : Int32) (K : Int32 → Sg → Option (Int32 × Sg)) (hK : ∀ (y7 : Int32) (σk : Sg), K y7 σk = some (r, σf) → V wM X G ad 6 Q 0 0 σk 104 [(0, .ref (ad 0)), (1, .int a), (2, .int x1), (3, .int y7)] []) : ∀ (n : Nat) (x4 : Int32) (x5 : Int32) (σ6 : Sg), fX7_ranked_17 a x1 K n x4 x5 σ6 = some (r, σf) → V wM X G ad 6 Q 0 0 σ6 17 [(0, .ref (ad 0)), (1, .int a), (2, .int x1), (3, .int x4), (4, .int x5)] [] := by
  intro n
  induction n with
  | zero =>
    intro _ _ _ hf
    exact absurd hf (by simp [fX7_ranked_17])
  | succ n ih =>
    intro x4 x5 σ6 hf
    rw [fX7_ranked_17] at hf
    refine V_iload (q := 19) C dX7_ranked_17 rfl 4 rfl ?_
    refine V_aload_n (q := 20) C dX7_ranked_19 rfl rfl 0 rfl ?_
    refine GM_0_1 (q := 23) C q_1183 dX7_ranked_20 rfl ?_
    refine V_iconst (v := 0) (q := 24) C dX7_ranked_23 rfl ic_0 ?_
    refine RM_1 (z := 0) (q := 25) C tn_0 (inb_in (by decide)) dX7_ranked_24 rfl ?_
    refine V_icmp_ge (t := 104) (q := 28) C dX7_ranked_25 (by decide) rfl (fun c8 => ?_) (fun c8 => ?_)
    · replace hf := (ite_s hf).1 c8
      refine V_sub (L' := [(0, .ref (ad 0)), (1, .int a), (2, .int x1), (3, .int x4)]) [0, 1, 2, 3] rfl ?_
      exact hK _ _ hf
    · replace hf := (ite_s hf).2 c8
      refine V_aload_n (q := 29) C dX7_ranked_28 rfl rfl 0 rfl ?_
      refine V_iload (q := 31) C dX7_ranked_29 rfl 4 rfl ?_
      obtain ⟨r9, σ10, h11, hf⟩ := bd_s hf
      refine V_callV (av := [.int x5]) (st := []) (st1 := [.float r9]) (q := 34) C 0 (by decide) (eM_0 G ad _) rfl rfl (conX7_volume _ _ _ _ _ _ _ h11) q_1349 q_114 q_1346 q_1348 q_76 nmX7_volume (by decide) rfl rfl (Nat.le_of_ble_eq_true rfl) dX7_ranked_31 rfl rfl ?_
      refine V_aload_n (q := 35) C dX7_ranked_34 rfl rfl 0 rfl ?_
      refine V_iload_n (q := 36) C dX7_ranked_35 rfl rfl 2 rfl ?_
      obtain ⟨r12, σ13, h14, hf⟩ := bd_s hf
      refine V_callV (av := [.int x1]) (st := [.float r9]) (st1 := [.float r12, .float r9]) (q := 39) C 0 (by decide) (eM_0 G ad _) rfl rfl (conX7_volume _ _ _ _ _ _ _ h14) q_1349 q_114 q_1346 q_1348 q_76 nmX7_volume (by decide) rfl rfl (Nat.le_of_ble_eq_true rfl) dX7_ranked_36 rfl rfl ?_
      refine V_fcmp (q := 40) C dX7_ranked_39 rfl ?_
      obtain ⟨J69, eJ69, hf⟩ := jp_s hf
      have hJ69 : ∀ (v15 : Int32) (σ16 : Sg), J69 v15 σ16 = some (r, σf) → V wM X G ad 6 Q 0 0 σ16 69 [(0, .ref (ad 0)), (1, .int a), (2, .int x1), (3, .int x4), (4, .int x5)] [.int v15] := by
        intro v15 σ16 hf
        subst eJ69
        refine V_istore (L' := [(5, .int v15), (0, .ref (ad 0)), (1, .int a), (2, .int x1), (3, .int x4), (4, .int x5)]) (q := 71) C dX7_ranked_69 rfl (by decide) rfl ?_
        refine V_iload_n (q := 72) C dX7_ranked_71 rfl rfl 4 rfl ?_
        refine V_aload_n (q := 73) C dX7_ranked_72 rfl rfl 1 rfl ?_
        refine GM_0_1 (q := 76) C q_1183 dX7_ranked_73 rfl ?_
        refine V_bipush (v := 40) (q := 78) C dX7_ranked_76 rfl bc_40 ?_
        refine V_iload (q := 80) C dX7_ranked_78 rfl 5 rfl ?_
        refine V_iadd (q := 81) C dX7_ranked_80 rfl ?_
        obtain ⟨g17, hf⟩ := gd_s hf
        refine RM_1 (z := ((40 : Int32) + x5).toNatClampNeg) (q := 82) C rfl (inb_in g17) dX7_ranked_81 rfl ?_
        refine V_iconst (v := 1) (q := 83) C dX7_ranked_82 rfl ic_1 ?_
        obtain ⟨J96, eJ96, hf⟩ := jp_s hf
        have hJ96 : ∀ (v18 : Int32) (σ19 : Sg), J96 v18 σ19 = some (r, σf) → V wM X G ad 6 Q 0 0 σ19 96 [(0, .ref (ad 0)), (1, .int a), (2, .int x1), (4, .int x5)] [.int v18, .int x4] := by
          intro v18 σ19 hf
          subst eJ96
          refine V_iadd (q := 97) C dX7_ranked_96 rfl ?_
          refine V_let (cv := Value.int) hf (fun x20 hf => ?_)
          refine V_istore_n (L' := [(3, .int x20), (0, .ref (ad 0)), (1, .int a), (2, .int x1), (4, .int x5)]) (q := 98) C dX7_ranked_97 rfl rfl (by decide) rfl ?_
          refine V_iinc (L' := [(4, .int (x5 + (1 : Int32))), (3, .int x20), (0, .ref (ad 0)), (1, .int a), (2, .int x1)]) (q := 101) C dX7_ranked_98 rfl 4 rfl (congrArg (fun y => x5 + y) ic_1) (by decide) rfl ?_
          refine V_goto (t := 17) C dX7_ranked_101 (by decide) ?_
          refine V_sub (L' := [(0, .ref (ad 0)), (1, .int a), (2, .int x1), (3, .int x20), (4, .int (x5 + (1 : Int32)))]) [2, 3, 4, 1, 0] rfl ?_
          exact ih _ _ _ hf
        obtain ⟨J95, eJ95, hf⟩ := jp_s hf
        have hJ95 : ∀ (σ21 : Sg), J95 σ21 = some (r, σf) → V wM X G ad 6 Q 0 0 σ21 95 [(0, .ref (ad 0)), (1, .int a), (2, .int x1), (4, .int x5)] [.int x4] := by
          intro σ21 hf
          subst eJ95
          refine V_iconst (v := 0) (q := 96) C dX7_ranked_95 rfl ic_0 ?_
          exact hJ96 _ _ hf
        refine V_icmp_ne (t := 95) (q := 86) C dX7_ranked_83 (by decide) rfl (fun c22 => ?_) (fun c22 => ?_)
        · replace hf := (ite_s hf).2 c22
          refine V_sub (L' := [(0, .ref (ad 0)), (1, .int a), (2, .int x1), (4, .int x5)]) [1, 2, 3, 5] rfl ?_
          exact hJ95 _ hf
        · replace hf := (ite_s hf).1 c22
          refine V_iload (q := 88) C dX7_ranked_86 rfl 0 rfl ?_
          refine V_if_eq (t := 95) (q := 91) C dX7_ranked_88 (by decide) rfl (fun c23 => ?_) (fun c23 => ?_)
          · replace hf := (ite_s hf).1 c23
            refine V_sub (L' := [(0, .ref (ad 0)), (1, .int a), (2, .int x1), (4, .int x5)]) [1, 2, 3, 5] rfl ?_
            exact hJ95 _ hf
          · replace hf := (ite_s hf).2 c23
            refine V_iconst (v := 1) (q := 92) C dX7_ranked_91 rfl ic_1 ?_
            refine V_goto (t := 96) C dX7_ranked_92 (by decide) ?_
            refine V_sub (L' := [(0, .ref (ad 0)), (1, .int a), (2, .int x1), (4, .int x5)]) [1, 2, 3, 5] rfl ?_
            exact hJ96 _ _ hf
      obtain ⟨J64, eJ64, hf⟩ := jp_s hf
      have hJ64 : ∀ (σ24 : Sg), J64 σ24 = some (r, σf) → V wM X G ad 6 Q 0 0 σ24 64 [(0, .ref (ad 0)), (1, .int a), (2, .int x1), (3, .int x4), (4, .int x5)] [] := by
        intro σ24 hf
        subst eJ64
        refine V_iconst (v := 1) (q := 65) C dX7_ranked_64 rfl ic_1 ?_
        refine V_goto (t := 69) C dX7_ranked_65 (by decide) ?_
        exact hJ69 _ _ hf
      refine V_if_gt (t := 64) (q := 43) C dX7_ranked_40 (by decide) rfl (fun c25 => ?_) (fun c25 => ?_)
      · replace hf := (ite_s hf).1 c25
        exact hJ64 _ hf
      · replace hf := (ite_s hf).2 c25
        refine V_aload_n (q := 44) C dX7_ranked_43 rfl rfl 0 rfl ?_
        refine V_iload (q := 46) C dX7_ranked_44 rfl 4 rfl ?_
        obtain ⟨r26, σ27, h28, hf⟩ := bd_s hf
        refine V_callV (av := [.int x5]) (st := []) (st1 := [.float r26]) (q := 49) C 0 (by decide) (eM_0 G ad _) rfl rfl (conX7_volume _ _ _ _ _ _ _ h28) q_1349 q_114 q_1346 q_1348 q_76 nmX7_volume (by decide) rfl rfl (Nat.le_of_ble_eq_true rfl) dX7_ranked_46 rfl rfl ?_
        refine V_aload_n (q := 50) C dX7_ranked_49 rfl rfl 0 rfl ?_
        refine V_iload_n (q := 51) C dX7_ranked_50 rfl rfl 2 rfl ?_
        obtain ⟨r29, σ30, h31, hf⟩ := bd_s hf
        refine V_callV (av := [.int x1]) (st := [.float r26]) (st1 := [.float r29, .float r26]) (q := 54) C 0 (by decide) (eM_0 G ad _) rfl rfl (conX7_volume _ _ _ _ _ _ _ h31) q_1349 q_114 q_1346 q_1348 q_76 nmX7_volume (by decide) rfl rfl (Nat.le_of_ble_eq_true rfl) dX7_ranked_51 rfl rfl ?_
        refine V_fcmp (q := 55) C dX7_ranked_54 rfl ?_
        obtain ⟨J68, eJ68, hf⟩ := jp_s hf
        have hJ68 : ∀ (σ32 : Sg), J68 σ32 = some (r, σf) → V wM X G ad 6 Q 0 0 σ32 68 [(0, .ref (ad 0)), (1, .int a), (2, .int x1), (3, .int x4), (4, .int x5)] [] := by
          intro σ32 hf
          subst eJ68
          refine V_iconst (v := 0) (q := 69) C dX7_ranked_68 rfl ic_0 ?_
          exact hJ69 _ _ hf
        refine V_if_ne (t := 68) (q := 58) C dX7_ranked_55 (by decide) rfl (fun c33 => ?_) (fun c33 => ?_)
        · replace hf := (ite_s hf).2 c33
          exact hJ68 _ hf
        · replace hf := (ite_s hf).1 c33
          refine V_iload (q := 60) C dX7_ranked_58 rfl 4 rfl ?_
          refine V_iload_n (q := 61) C dX7_ranked_60 rfl rfl 2 rfl ?_
          refine V_icmp_ge (t := 68) (q := 64) C dX7_ranked_61 (by decide) rfl (fun c34 => ?_) (fun c34 => ?_)
          · replace hf := (ite_s hf).1 c34
            exact hJ68 _ hf
          · replace hf := (ite_s hf).2 c34
            exact hJ64 _ hf
set_option maxHeartbeats 4000000 in
theorem wlX7_ranked_2 {X : Cx} {G : Gx} {ad : Nat → Nat} {Q : State → Prop} {r : Int32} {σf : Sg} (C : OK wM X G ad RX7 cX7_ranked 6 rmX7_ranked) (F : FinR wM X G ad Q 0 0 (some .int) (some (.int r)) σf) (a : Int32) : ∀ (n : Nat) (x1 : Int32) (σ2 : Sg), fX7_ranked_2 a n x1 σ2 = some (r, σf) → V wM X G ad 6 Q 0 0 σ2 2 [(0, .ref (ad 0)), (1, .int a), (2, .int x1)] [] := by
  intro n
  induction n with
  | zero =>
    intro _ _ hf
    exact absurd hf (by simp [fX7_ranked_2])
  | succ n ih =>
    intro x1 σ2 hf
    rw [fX7_ranked_2] at hf
    refine V_iload_n (q := 3) C dX7_ranked_2 rfl rfl 2 rfl ?_
    refine V_aload_n (q := 4) C dX7_ranked_3 rfl rfl 0 rfl ?_
    refine GM_0_1 (q := 7) C q_1183 dX7_ranked_4 rfl ?_
    refine V_iconst (v := 0) (q := 8) C dX7_ranked_7 rfl ic_0 ?_
    refine RM_1 (z := 0) (q := 9) C tn_0 (inb_in (by decide)) dX7_ranked_8 rfl ?_
    refine V_icmp_ge (t := 130) (q := 12) C dX7_ranked_9 (by decide) rfl (fun c3 => ?_) (fun c3 => ?_)
    · replace hf := (ite_s hf).1 c3
      refine V_iconst (v := (-1)) (q := 131) C dX7_ranked_130 rfl ic_m1 ?_
      obtain ⟨e1, e2⟩ := pr_s hf
      subst e1; subst e2
      exact V_iret C F (by decide) (by decide) dX7_ranked_131
    · replace hf := (ite_s hf).2 c3
      refine V_iconst (v := 0) (q := 13) C dX7_ranked_12 rfl ic_0 ?_
      refine V_istore_n (L' := [(3, .int (0 : Int32)), (0, .ref (ad 0)), (1, .int a), (2, .int x1)]) (q := 14) C dX7_ranked_13 rfl rfl (by decide) rfl ?_
      refine V_iconst (v := 0) (q := 15) C dX7_ranked_14 rfl ic_0 ?_
      refine V_istore (L' := [(4, .int (0 : Int32)), (3, .int (0 : Int32)), (0, .ref (ad 0)), (1, .int a), (2, .int x1)]) (q := 17) C dX7_ranked_15 rfl (by decide) rfl ?_
      refine V_sub (L' := [(0, .ref (ad 0)), (1, .int a), (2, .int x1), (3, .int (0 : Int32)), (4, .int (0 : Int32))]) [2, 3, 4, 1, 0] rfl ?_
      refine wlX7_ranked_17 C F a x1 _ (fun y7 σ35 hf => ?_) FU _ _ _ hf
      refine V_aload_n (q := 105) C dX7_ranked_104 rfl rfl 0 rfl ?_
      refine GM_0_1 (q := 108) C q_1183 dX7_ranked_105 rfl ?_
      refine V_bipush (v := 40) (q := 110) C dX7_ranked_108 rfl bc_40 ?_
      refine V_iload_n (q := 111) C dX7_ranked_110 rfl rfl 2 rfl ?_
      refine V_iadd (q := 112) C dX7_ranked_111 rfl ?_
      obtain ⟨g36, hf⟩ := gd_s hf
      refine RM_1 (z := ((40 : Int32) + x1).toNatClampNeg) (q := 113) C rfl (inb_in g36) dX7_ranked_112 rfl ?_
      refine V_iconst (v := 1) (q := 114) C dX7_ranked_113 rfl ic_1 ?_
      obtain ⟨J124, eJ124, hf⟩ := jp_s hf
      have hJ124 : ∀ (σ37 : Sg), J124 σ37 = some (r, σf) → V wM X G ad 6 Q 0 0 σ37 124 [(0, .ref (ad 0)), (1, .int a), (2, .int x1)] [] := by
        intro σ37 hf
        subst eJ124
        refine V_iinc (L' := [(2, .int (x1 + (1 : Int32))), (0, .ref (ad 0)), (1, .int a)]) (q := 127) C dX7_ranked_124 rfl 2 rfl (congrArg (fun y => x1 + y) ic_1) (by decide) rfl ?_
        refine V_goto (t := 2) C dX7_ranked_127 (by decide) ?_
        refine V_sub (L' := [(0, .ref (ad 0)), (1, .int a), (2, .int (x1 + (1 : Int32)))]) [1, 2, 0] rfl ?_
        exact ih _ _ hf
      refine V_icmp_ne (t := 124) (q := 117) C dX7_ranked_114 (by decide) rfl (fun c38 => ?_) (fun c38 => ?_)
      · replace hf := (ite_s hf).2 c38
        refine V_sub (L' := [(0, .ref (ad 0)), (1, .int a), (2, .int x1)]) [0, 1, 2] rfl ?_
        exact hJ124 _ hf
      · replace hf := (ite_s hf).1 c38
        refine V_iload_n (q := 118) C dX7_ranked_117 rfl rfl 3 rfl ?_
        refine V_iload_n (q := 119) C dX7_ranked_118 rfl rfl 1 rfl ?_
        refine V_icmp_ne (t := 124) (q := 122) C dX7_ranked_119 (by decide) rfl (fun c39 => ?_) (fun c39 => ?_)
        · replace hf := (ite_s hf).2 c39
          refine V_sub (L' := [(0, .ref (ad 0)), (1, .int a), (2, .int x1)]) [0, 1, 2] rfl ?_
          exact hJ124 _ hf
        · replace hf := (ite_s hf).1 c39
          refine V_iload_n (q := 123) C dX7_ranked_122 rfl rfl 2 rfl ?_
          obtain ⟨e1, e2⟩ := pr_s hf
          subst e1; subst e2
          exact V_iret C F (by decide) (by decide) dX7_ranked_123
set_option maxHeartbeats 4000000 in
theorem conX7_ranked (l : Launch) (G : Gx) (ad : Nat → Nat) (a : Int32) (σ : Sg) (r : Int32) (σf : Sg)  (hf : fX7_ranked a σ = some (r, σf)) : Con wM l G ad yX7_ranked (Cond.code yX7_ranked cX7_ranked 6 (some .int)) rmX7_ranked 0 0 [.ref (ad 0), .int a] σ (some (.int r)) σf := by
  refine Con.start (by decide) (Nat.le_of_ble_eq_true rfl) (fun X Q _ C F => ?_)
  refine V_eq (L' := [(0, .ref (ad 0)), (1, .int a)]) (st' := []) rfl rfl rfl ?_
  unfold fX7_ranked at hf
  refine V_iconst (v := 0) (q := 1) C dX7_ranked_0 rfl ic_0 ?_
  refine V_istore_n (L' := [(2, .int (0 : Int32)), (0, .ref (ad 0)), (1, .int a)]) (q := 2) C dX7_ranked_1 rfl rfl (by decide) rfl ?_
  refine V_sub (L' := [(0, .ref (ad 0)), (1, .int a), (2, .int (0 : Int32))]) [1, 2, 0] rfl ?_
  refine wlX7_ranked_2 C F a FU _ _ hf
def rmX7_considerAll : Room := { frames := 22, cells := 0, slots := 0, locals := 579 }
def fX7_considerAll_2 (K : Sg → Option (Unit × Sg)) : Nat → Int32 → Sg → Option (Unit × Sg)
  | 0, _, _ => none
  | n + 1, x1, σ2 => bd (fX7_ranked x1 σ2) (fun (r3 : Int32) (σ4 : Sg) => if r3 < 0 then (K σ4) else (bd (fX7_ranked x1 σ4) (fun (r7 : Int32) (σ8 : Sg) => bd (fX7_stateOf r7 σ8) (fun (r10 : Int32) (σ11 : Sg) => jp (fun (σ13 : Sg) => fX7_considerAll_2 K n (x1 + (1 : Int32)) σ13) (fun (J32 : Sg → Option (Unit × Sg)) => if r10 = (1 : Int32) then (bd (fX7_ranked x1 σ11) (fun (r15 : Int32) (σ16 : Sg) => bd (fX7_consider r15 σ16) (fun (_ : Unit) (σ18 : Sg) => J32  σ18))) else (J32  σ11))))))
def fX7_considerAll_40 (K : Sg → Option (Unit × Sg)) : Nat → Int32 → Sg → Option (Unit × Sg)
  | 0, _, _ => none
  | n + 1, x21, σ22 => if (σ22 1 0) ≤ x21 then (K σ22) else (gd (inb ((112 : Int32) + (σ22 1 3)) 2764) (if (σ22 1 (((112 : Int32) + (σ22 1 3)).toNatClampNeg)) = 0 then (bd (fX7_stateOf x21 σ22) (fun (r26 : Int32) (σ27 : Sg) => jp (fun (σ29 : Sg) => fX7_considerAll_40 K n (x21 + (1 : Int32)) σ29) (fun (J98 : Sg → Option (Unit × Sg)) => if r26 = (1 : Int32) then (bd (fX7_setState x21 (2 : Int32) σ27) (fun (_ : Unit) (σ31 : Sg) => gd (inb ((88 : Int32) + x21) 2764) (lt' (sup σ31 1 (((88 : Int32) + x21).toNatClampNeg) (-1 : Int32)) (fun (σ34 : Sg) => bd (fX7_note x21 (2 : Int32) σ34) (fun (_ : Unit) (σ35 : Sg) => J98  σ35))))) else (J98  σ27)))) else (K σ22)))
def fX7_considerAll  (σ : Sg) : Option (Unit × Sg) := fX7_considerAll_2 (fun (σ20 : Sg) => fX7_considerAll_40 (fun (σ37 : Sg) => some ((), σ37)) FU (0 : Int32) σ20) FU (0 : Int32) σ
set_option maxHeartbeats 4000000 in
theorem wlX7_considerAll_2 {X : Cx} {G : Gx} {ad : Nat → Nat} {Q : State → Prop} {σf : Sg} (C : OK wM X G ad RX7 cX7_considerAll 2 rmX7_considerAll) (F : FinR wM X G ad Q 0 0 none none σf) (K : Sg → Option (Unit × Sg)) (hK : ∀ (σk : Sg), K σk = some ((), σf) → V wM X G ad 2 Q 0 0 σk 38 [(0, .ref (ad 0))] []) : ∀ (n : Nat) (x1 : Int32) (σ2 : Sg), fX7_considerAll_2 K n x1 σ2 = some ((), σf) → V wM X G ad 2 Q 0 0 σ2 2 [(0, .ref (ad 0)), (1, .int x1)] [] := by
  intro n
  induction n with
  | zero =>
    intro _ _ hf
    exact absurd hf (by simp [fX7_considerAll_2])
  | succ n ih =>
    intro x1 σ2 hf
    rw [fX7_considerAll_2] at hf
    refine V_aload_n (q := 3) C dX7_considerAll_2 rfl rfl 0 rfl ?_
    refine V_iload_n (q := 4) C dX7_considerAll_3 rfl rfl 1 rfl ?_
    obtain ⟨r3, σ4, h5, hf⟩ := bd_s hf
    refine V_callV (av := [.int x1]) (st := []) (st1 := [.int r3]) (q := 7) C 0 (by decide) (eM_0 G ad _) rfl rfl (conX7_ranked _ _ _ _ _ _ _ h5) q_1456 q_114 q_1453 q_1455 q_92 nmX7_ranked (by decide) rfl rfl (Nat.le_of_ble_eq_true rfl) dX7_considerAll_4 rfl rfl ?_
    refine V_if_lt (t := 38) (q := 10) C dX7_considerAll_7 (by decide) rfl (fun c6 => ?_) (fun c6 => ?_)
    · replace hf := (ite_s hf).1 c6
      refine V_sub (L' := [(0, .ref (ad 0))]) [0] rfl ?_
      exact hK _ hf
    · replace hf := (ite_s hf).2 c6
      refine V_aload_n (q := 11) C dX7_considerAll_10 rfl rfl 0 rfl ?_
      refine V_aload_n (q := 12) C dX7_considerAll_11 rfl rfl 0 rfl ?_
      refine V_iload_n (q := 13) C dX7_considerAll_12 rfl rfl 1 rfl ?_
      obtain ⟨r7, σ8, h9, hf⟩ := bd_s hf
      refine V_callV (av := [.int x1]) (st := [.ref (ad 0)]) (st1 := [.int r7, .ref (ad 0)]) (q := 16) C 0 (by decide) (eM_0 G ad _) rfl rfl (conX7_ranked _ _ _ _ _ _ _ h9) q_1456 q_114 q_1453 q_1455 q_92 nmX7_ranked (by decide) rfl rfl (Nat.le_of_ble_eq_true rfl) dX7_considerAll_13 rfl rfl ?_
      obtain ⟨r10, σ11, h12, hf⟩ := bd_s hf
      refine V_callV (av := [.int r7]) (st := []) (st1 := [.int r10]) (q := 19) C 0 (by decide) (eM_0 G ad _) rfl rfl (conX7_stateOf _ _ _ _ _ _ _ h12) q_1460 q_114 q_1457 q_1459 q_93 nmX7_stateOf (by decide) rfl rfl (Nat.le_of_ble_eq_true rfl) dX7_considerAll_16 rfl rfl ?_
      refine V_iconst (v := 1) (q := 20) C dX7_considerAll_19 rfl ic_1 ?_
      obtain ⟨J32, eJ32, hf⟩ := jp_s hf
      have hJ32 : ∀ (σ13 : Sg), J32 σ13 = some ((), σf) → V wM X G ad 2 Q 0 0 σ13 32 [(0, .ref (ad 0)), (1, .int x1)] [] := by
        intro σ13 hf
        subst eJ32
        refine V_iinc (L' := [(1, .int (x1 + (1 : Int32))), (0, .ref (ad 0))]) (q := 35) C dX7_considerAll_32 rfl 1 rfl (congrArg (fun y => x1 + y) ic_1) (by decide) rfl ?_
        refine V_goto (t := 2) C dX7_considerAll_35 (by decide) ?_
        refine V_sub (L' := [(0, .ref (ad 0)), (1, .int (x1 + (1 : Int32)))]) [1, 0] rfl ?_
        exact ih _ _ hf
      refine V_icmp_ne (t := 32) (q := 23) C dX7_considerAll_20 (by decide) rfl (fun c14 => ?_) (fun c14 => ?_)
      · replace hf := (ite_s hf).2 c14
        exact hJ32 _ hf
      · replace hf := (ite_s hf).1 c14
        refine V_aload_n (q := 24) C dX7_considerAll_23 rfl rfl 0 rfl ?_
        refine V_aload_n (q := 25) C dX7_considerAll_24 rfl rfl 0 rfl ?_
        refine V_iload_n (q := 26) C dX7_considerAll_25 rfl rfl 1 rfl ?_
        obtain ⟨r15, σ16, h17, hf⟩ := bd_s hf
        refine V_callV (av := [.int x1]) (st := [.ref (ad 0)]) (st1 := [.int r15, .ref (ad 0)]) (q := 29) C 0 (by decide) (eM_0 G ad _) rfl rfl (conX7_ranked _ _ _ _ _ _ _ h17) q_1456 q_114 q_1453 q_1455 q_92 nmX7_ranked (by decide) rfl rfl (Nat.le_of_ble_eq_true rfl) dX7_considerAll_26 rfl rfl ?_
        obtain ⟨_u, σ18, h19, hf⟩ := bd_s hf
        refine V_callV (av := [.int r15]) (st := []) (st1 := []) (q := 32) C 0 (by decide) (eM_0 G ad _) rfl rfl (conX7_consider _ _ _ _ _ _ h19) q_1464 q_114 q_1461 q_1463 q_94 nmX7_consider (by decide) rfl rfl (Nat.le_of_ble_eq_true rfl) dX7_considerAll_29 rfl rfl ?_
        exact hJ32 _ hf
set_option maxHeartbeats 4000000 in
theorem wlX7_considerAll_40 {X : Cx} {G : Gx} {ad : Nat → Nat} {Q : State → Prop} {σf : Sg} (C : OK wM X G ad RX7 cX7_considerAll 2 rmX7_considerAll) (F : FinR wM X G ad Q 0 0 none none σf) (K : Sg → Option (Unit × Sg)) (hK : ∀ (σk : Sg), K σk = some ((), σf) → V wM X G ad 2 Q 0 0 σk 104 [] []) : ∀ (n : Nat) (x21 : Int32) (σ22 : Sg), fX7_considerAll_40 K n x21 σ22 = some ((), σf) → V wM X G ad 2 Q 0 0 σ22 40 [(0, .ref (ad 0)), (1, .int x21)] [] := by
  intro n
  induction n with
  | zero =>
    intro _ _ hf
    exact absurd hf (by simp [fX7_considerAll_40])
  | succ n ih =>
    intro x21 σ22 hf
    rw [fX7_considerAll_40] at hf
    refine V_iload_n (q := 41) C dX7_considerAll_40 rfl rfl 1 rfl ?_
    refine V_aload_n (q := 42) C dX7_considerAll_41 rfl rfl 0 rfl ?_
    refine GM_0_1 (q := 45) C q_1183 dX7_considerAll_42 rfl ?_
    refine V_iconst (v := 0) (q := 46) C dX7_considerAll_45 rfl ic_0 ?_
    refine RM_1 (z := 0) (q := 47) C tn_0 (inb_in (by decide)) dX7_considerAll_46 rfl ?_
    refine V_icmp_ge (t := 104) (q := 50) C dX7_considerAll_47 (by decide) rfl (fun c23 => ?_) (fun c23 => ?_)
    · replace hf := (ite_s hf).1 c23
      refine V_sub (L' := []) [] rfl ?_
      exact hK _ hf
    · replace hf := (ite_s hf).2 c23
      refine V_aload_n (q := 51) C dX7_considerAll_50 rfl rfl 0 rfl ?_
      refine GM_0_1 (q := 54) C q_1183 dX7_considerAll_51 rfl ?_
      refine V_bipush (v := 112) (q := 56) C dX7_considerAll_54 rfl bc_112 ?_
      refine V_aload_n (q := 57) C dX7_considerAll_56 rfl rfl 0 rfl ?_
      refine GM_0_1 (q := 60) C q_1183 dX7_considerAll_57 rfl ?_
      refine V_iconst (v := 3) (q := 61) C dX7_considerAll_60 rfl ic_3 ?_
      refine RM_1 (z := 3) (q := 62) C tn_3 (inb_in (by decide)) dX7_considerAll_61 rfl ?_
      refine V_iadd (q := 63) C dX7_considerAll_62 rfl ?_
      obtain ⟨g24, hf⟩ := gd_s hf
      refine RM_1 (z := ((112 : Int32) + (σ22 1 3)).toNatClampNeg) (q := 64) C rfl (inb_in g24) dX7_considerAll_63 rfl ?_
      refine V_if_ne (t := 104) (q := 67) C dX7_considerAll_64 (by decide) rfl (fun c25 => ?_) (fun c25 => ?_)
      · replace hf := (ite_s hf).2 c25
        refine V_sub (L' := []) [] rfl ?_
        exact hK _ hf
      · replace hf := (ite_s hf).1 c25
        refine V_aload_n (q := 68) C dX7_considerAll_67 rfl rfl 0 rfl ?_
        refine V_iload_n (q := 69) C dX7_considerAll_68 rfl rfl 1 rfl ?_
        obtain ⟨r26, σ27, h28, hf⟩ := bd_s hf
        refine V_callV (av := [.int x21]) (st := []) (st1 := [.int r26]) (q := 72) C 0 (by decide) (eM_0 G ad _) rfl rfl (conX7_stateOf _ _ _ _ _ _ _ h28) q_1460 q_114 q_1457 q_1459 q_93 nmX7_stateOf (by decide) rfl rfl (Nat.le_of_ble_eq_true rfl) dX7_considerAll_69 rfl rfl ?_
        refine V_iconst (v := 1) (q := 73) C dX7_considerAll_72 rfl ic_1 ?_
        obtain ⟨J98, eJ98, hf⟩ := jp_s hf
        have hJ98 : ∀ (σ29 : Sg), J98 σ29 = some ((), σf) → V wM X G ad 2 Q 0 0 σ29 98 [(0, .ref (ad 0)), (1, .int x21)] [] := by
          intro σ29 hf
          subst eJ98
          refine V_iinc (L' := [(1, .int (x21 + (1 : Int32))), (0, .ref (ad 0))]) (q := 101) C dX7_considerAll_98 rfl 1 rfl (congrArg (fun y => x21 + y) ic_1) (by decide) rfl ?_
          refine V_goto (t := 40) C dX7_considerAll_101 (by decide) ?_
          refine V_sub (L' := [(0, .ref (ad 0)), (1, .int (x21 + (1 : Int32)))]) [1, 0] rfl ?_
          exact ih _ _ hf
        refine V_icmp_ne (t := 98) (q := 76) C dX7_considerAll_73 (by decide) rfl (fun c30 => ?_) (fun c30 => ?_)
        · replace hf := (ite_s hf).2 c30
          exact hJ98 _ hf
        · replace hf := (ite_s hf).1 c30
          refine V_aload_n (q := 77) C dX7_considerAll_76 rfl rfl 0 rfl ?_
          refine V_iload_n (q := 78) C dX7_considerAll_77 rfl rfl 1 rfl ?_
          refine V_iconst (v := 2) (q := 79) C dX7_considerAll_78 rfl ic_2 ?_
          obtain ⟨_u, σ31, h32, hf⟩ := bd_s hf
          refine V_callV (av := [.int x21, .int (2 : Int32)]) (st := []) (st1 := []) (q := 82) C 0 (by decide) (eM_0 G ad _) rfl rfl (conX7_setState _ _ _ _ _ _ _ h32) q_1448 q_114 q_1445 q_1447 q_90 nmX7_setState (by decide) rfl rfl (Nat.le_of_ble_eq_true rfl) dX7_considerAll_79 rfl rfl ?_
          refine V_aload_n (q := 83) C dX7_considerAll_82 rfl rfl 0 rfl ?_
          refine GM_0_1 (q := 86) C q_1183 dX7_considerAll_83 rfl ?_
          refine V_bipush (v := 88) (q := 88) C dX7_considerAll_86 rfl bc_88 ?_
          refine V_iload_n (q := 89) C dX7_considerAll_88 rfl rfl 1 rfl ?_
          refine V_iadd (q := 90) C dX7_considerAll_89 rfl ?_
          refine V_iconst (v := (-1)) (q := 91) C dX7_considerAll_90 rfl ic_m1 ?_
          obtain ⟨g33, hf⟩ := gd_s hf
          refine SM_1 (z := ((88 : Int32) + x21).toNatClampNeg) (q := 92) C rfl (inb_in g33) dX7_considerAll_91 rfl ?_
          refine V_lets hf (fun σ34 hf => ?_)
          refine V_aload_n (q := 93) C dX7_considerAll_92 rfl rfl 0 rfl ?_
          refine V_iload_n (q := 94) C dX7_considerAll_93 rfl rfl 1 rfl ?_
          refine V_iconst (v := 2) (q := 95) C dX7_considerAll_94 rfl ic_2 ?_
          obtain ⟨_u, σ35, h36, hf⟩ := bd_s hf
          refine V_callV (av := [.int x21, .int (2 : Int32)]) (st := []) (st1 := []) (q := 98) C 0 (by decide) (eM_0 G ad _) rfl rfl (conX7_note _ _ _ _ _ _ _ h36) q_1472 q_114 q_1469 q_1471 q_96 nmX7_note (by decide) rfl rfl (Nat.le_of_ble_eq_true rfl) dX7_considerAll_95 rfl rfl ?_
          exact hJ98 _ hf
set_option maxHeartbeats 4000000 in
theorem conX7_considerAll (l : Launch) (G : Gx) (ad : Nat → Nat)  (σ : Sg) (σf : Sg)  (hf : fX7_considerAll  σ = some ((), σf)) : Con wM l G ad yX7_considerAll (Cond.code yX7_considerAll cX7_considerAll 2 none) rmX7_considerAll 0 0 [.ref (ad 0)] σ none σf := by
  refine Con.start (by decide) (Nat.le_of_ble_eq_true rfl) (fun X Q _ C F => ?_)
  refine V_eq (L' := [(0, .ref (ad 0))]) (st' := []) rfl rfl rfl ?_
  unfold fX7_considerAll at hf
  refine V_iconst (v := 0) (q := 1) C dX7_considerAll_0 rfl ic_0 ?_
  refine V_istore_n (L' := [(1, .int (0 : Int32)), (0, .ref (ad 0))]) (q := 2) C dX7_considerAll_1 rfl rfl (by decide) rfl ?_
  refine V_sub (L' := [(0, .ref (ad 0)), (1, .int (0 : Int32))]) [1, 0] rfl ?_
  refine wlX7_considerAll_2 C F _ (fun σ20 hf => ?_) FU _ _ hf
  refine V_iconst (v := 0) (q := 39) C dX7_considerAll_38 rfl ic_0 ?_
  refine V_istore_n (L' := [(1, .int (0 : Int32)), (0, .ref (ad 0))]) (q := 40) C dX7_considerAll_39 rfl rfl (by decide) rfl ?_
  refine V_sub (L' := [(0, .ref (ad 0)), (1, .int (0 : Int32))]) [1, 0] rfl ?_
  refine wlX7_considerAll_40 C F _ (fun σ37 hf => ?_) FU _ _ hf
  obtain ⟨-, e2⟩ := pr_s hf
  subst e2
  exact V_vret C F (by decide) (by decide) dX7_considerAll_104
