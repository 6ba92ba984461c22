def rmX7_isStation : Room := { frames := 1, cells := 0, slots := 0, locals := 22 }
def fX7_isStation (a : Int32) (σ : Sg) : Option (Int32 × Sg) := gd (b01 (pX7_isBetween a (0 : Int32) ((σ 1 0) - (1 : Int32)))) (some ((pX7_isBetween a (0 : Int32) ((σ 1 0) - (1 : Int32))), σ))
set_option maxHeartbeats 4000000 in
theorem conX7_isStation (l : Launch) (G : Gx) (ad : Nat → Nat) (a : Int32) (σ : Sg) (r : Int32) (σf : Sg)  (hf : fX7_isStation a σ = some (r, σf)) : Con wM l G ad yX7_isStation (Cond.code yX7_isStation cX7_isStation 2 (some .boolean)) rmX7_isStation 0 0 [.ref (ad 0), .int a] σ (some (.int r)) σf := by
  refine Con.start (by decide) (Nat.le_of_ble_eq_true rfl) (fun X Q _ C F => ?_)
  refine V_eq (L' := [(0, .ref (ad 0)), (1, .int a)]) (st' := []) rfl rfl rfl ?_
  unfold fX7_isStation at hf
  refine V_iload_n (q := 1) C dX7_isStation_0 rfl rfl 1 rfl ?_
  refine V_iconst (v := 0) (q := 2) C dX7_isStation_1 rfl ic_0 ?_
  refine V_aload_n (q := 3) C dX7_isStation_2 rfl rfl 0 rfl ?_
  refine GM_0_1 (q := 6) C q_1183 dX7_isStation_3 rfl ?_
  refine V_iconst (v := 0) (q := 7) C dX7_isStation_6 rfl ic_0 ?_
  refine RM_1 (z := 0) (q := 8) C tn_0 (inb_in (by decide)) dX7_isStation_7 rfl ?_
  refine V_iconst (v := 1) (q := 9) C dX7_isStation_8 rfl ic_1 ?_
  refine V_isub (q := 10) C dX7_isStation_9 rfl ?_
  refine V_callS (av := [.int a, .int (0 : Int32), .int ((σ 1 0) - (1 : Int32))]) (st := []) (st1 := [.int (pX7_isBetween a (0 : Int32) ((σ 1 0) - (1 : Int32)))]) (q := 13) C (conX7_isBetween _ _ _ _ _ _ _ _ rfl) q_1247 q_114 q_1245 q_1246 nmX7_isBetween (by decide) rfl rfl (Nat.le_of_ble_eq_true rfl) dX7_isStation_10 rfl rfl ?_
  obtain ⟨g1, hf⟩ := gd_s hf
  obtain ⟨e1, e2⟩ := pr_s hf
  subst e1; subst e2
  exact V_zret C F (b01_s g1) (by decide) (by decide) dX7_isStation_13
def rmX7_core : Room := { frames := 21, cells := 0, slots := 0, locals := 556 }
def fX7_core (a : Int32) (b : Int32) (σ : Sg) : Option (Int32 × Sg) := bd (fX7_isStation a σ) (fun (r1 : Int32) (σ2 : Sg) => jp (fun (v4 : Int32) (σ5 : Sg) => bd (fX7_fails (1 : Int32) v4 σ5) (fun (r6 : Int32) (σ7 : Sg) => if r6 = 0 then (bd (fX7_areStations b σ7) (fun (r10 : Int32) (σ11 : Sg) => jp (fun (v13 : Int32) (σ14 : Sg) => bd (fX7_fails (2 : Int32) v13 σ14) (fun (r15 : Int32) (σ16 : Sg) => if r15 = 0 then (bd (fX7_isPossible (b ||| ((1 : Int32) <<< (a &&& 31))) σ16) (fun (r19 : Int32) (σ20 : Sg) => bd (fX7_fails (3 : Int32) r19 σ20) (fun (r22 : Int32) (σ23 : Sg) => if r22 = 0 then (bd (fX7_reason a (b &&& (((1 : Int32) <<< (a &&& 31)) ^^^ (-1 : Int32))) σ23) (fun (r26 : Int32) (σ27 : Sg) => some (r26, σ27))) else (some ((0 : Int32), σ23))))) else (some ((0 : Int32), σ16)))) (fun (J36 : Int32 → Sg → Option (Int32 × Sg)) => if r10 = 0 then (J36 (1 : Int32) σ11) else (J36 (0 : Int32) σ11)))) else (some ((0 : Int32), σ7)))) (fun (J15 : Int32 → Sg → Option (Int32 × Sg)) => if r1 = 0 then (J15 (1 : Int32) σ2) else (J15 (0 : Int32) σ2)))
set_option maxHeartbeats 4000000 in
theorem conX7_core (l : Launch) (G : Gx) (ad : Nat → Nat) (a : Int32) (b : Int32) (σ : Sg) (r : Int32) (σf : Sg)  (hf : fX7_core a b σ = some (r, σf)) : Con wM l G ad yX7_core (Cond.code yX7_core cX7_core 3 (some .int)) rmX7_core 0 0 [.ref (ad 0), .int a, .int b] σ (some (.int r)) σf := by
  refine Con.start (by decide) (Nat.le_of_ble_eq_true rfl) (fun X Q _ C F => ?_)
  refine V_eq (L' := [(0, .ref (ad 0)), (1, .int a), (2, .int b)]) (st' := []) rfl rfl rfl ?_
  unfold fX7_core at hf
  refine V_aload_n (q := 1) C dX7_core_0 rfl rfl 0 rfl ?_
  refine V_iconst (v := 1) (q := 2) C dX7_core_1 rfl ic_1 ?_
  refine V_aload_n (q := 3) C dX7_core_2 rfl rfl 0 rfl ?_
  refine V_iload_n (q := 4) C dX7_core_3 rfl rfl 1 rfl ?_
  obtain ⟨r1, σ2, h3, hf⟩ := bd_s hf
  refine V_callV (av := [.int a]) (st := [.int (1 : Int32), .ref (ad 0)]) (st1 := [.int r1, .int (1 : Int32), .ref (ad 0)]) (q := 7) C 0 (by decide) (eM_0 G ad _) rfl rfl (conX7_isStation _ _ _ _ _ _ _ h3) q_1267 q_114 q_1264 q_1266 q_66 nmX7_isStation (by decide) rfl rfl (Nat.le_of_ble_eq_true rfl) dX7_core_4 rfl rfl ?_
  obtain ⟨J15, eJ15, hf⟩ := jp_s hf
  have hJ15 : ∀ (v4 : Int32) (σ5 : Sg), J15 v4 σ5 = some (r, σf) → V wM X G ad 3 Q 0 0 σ5 15 [(0, .ref (ad 0)), (1, .int a), (2, .int b)] [.int v4, .int (1 : Int32), .ref (ad 0)] := by
    intro v4 σ5 hf
    subst eJ15
    obtain ⟨r6, σ7, h8, hf⟩ := bd_s hf
    refine V_callV (av := [.int (1 : Int32), .int v4]) (st := []) (st1 := [.int r6]) (q := 18) C 0 (by decide) (eM_0 G ad _) rfl rfl (conX7_fails _ _ _ _ _ _ _ _ h8) q_1251 q_114 q_1248 q_1250 q_64 nmX7_fails (by decide) rfl rfl (Nat.le_of_ble_eq_true rfl) dX7_core_15 rfl rfl ?_
    refine V_if_ne (t := 59) (q := 21) C dX7_core_18 (by decide) rfl (fun c9 => ?_) (fun c9 => ?_)
    · replace hf := (ite_s hf).2 c9
      refine V_iconst (v := 0) (q := 60) C dX7_core_59 rfl ic_0 ?_
      obtain ⟨e1, e2⟩ := pr_s hf
      subst e1; subst e2
      exact V_iret C F (by decide) (by decide) dX7_core_60
    · replace hf := (ite_s hf).1 c9
      refine V_aload_n (q := 22) C dX7_core_21 rfl rfl 0 rfl ?_
      refine V_iconst (v := 2) (q := 23) C dX7_core_22 rfl ic_2 ?_
      refine V_aload_n (q := 24) C dX7_core_23 rfl rfl 0 rfl ?_
      refine V_iload_n (q := 25) C dX7_core_24 rfl rfl 2 rfl ?_
      obtain ⟨r10, σ11, h12, hf⟩ := bd_s hf
      refine V_callV (av := [.int b]) (st := [.int (2 : Int32), .ref (ad 0)]) (st1 := [.int r10, .int (2 : Int32), .ref (ad 0)]) (q := 28) C 0 (by decide) (eM_0 G ad _) rfl rfl (conX7_areStations _ _ _ _ _ _ _ h12) q_1376 q_114 q_1373 q_1375 q_78 nmX7_areStations (by decide) rfl rfl (Nat.le_of_ble_eq_true rfl) dX7_core_25 rfl rfl ?_
      obtain ⟨J36, eJ36, hf⟩ := jp_s hf
      have hJ36 : ∀ (v13 : Int32) (σ14 : Sg), J36 v13 σ14 = some (r, σf) → V wM X G ad 3 Q 0 0 σ14 36 [(0, .ref (ad 0)), (1, .int a), (2, .int b)] [.int v13, .int (2 : Int32), .ref (ad 0)] := by
        intro v13 σ14 hf
        subst eJ36
        obtain ⟨r15, σ16, h17, hf⟩ := bd_s hf
        refine V_callV (av := [.int (2 : Int32), .int v13]) (st := []) (st1 := [.int r15]) (q := 39) C 0 (by decide) (eM_0 G ad _) rfl rfl (conX7_fails _ _ _ _ _ _ _ _ h17) q_1251 q_114 q_1248 q_1250 q_64 nmX7_fails (by decide) rfl rfl (Nat.le_of_ble_eq_true rfl) dX7_core_36 rfl rfl ?_
        refine V_if_ne (t := 59) (q := 42) C dX7_core_39 (by decide) rfl (fun c18 => ?_) (fun c18 => ?_)
        · replace hf := (ite_s hf).2 c18
          refine V_iconst (v := 0) (q := 60) C dX7_core_59 rfl ic_0 ?_
          obtain ⟨e1, e2⟩ := pr_s hf
          subst e1; subst e2
          exact V_iret C F (by decide) (by decide) dX7_core_60
        · replace hf := (ite_s hf).1 c18
          refine V_aload_n (q := 43) C dX7_core_42 rfl rfl 0 rfl ?_
          refine V_iconst (v := 3) (q := 44) C dX7_core_43 rfl ic_3 ?_
          refine V_aload_n (q := 45) C dX7_core_44 rfl rfl 0 rfl ?_
          refine V_iload_n (q := 46) C dX7_core_45 rfl rfl 2 rfl ?_
          refine V_iconst (v := 1) (q := 47) C dX7_core_46 rfl ic_1 ?_
          refine V_iload_n (q := 48) C dX7_core_47 rfl rfl 1 rfl ?_
          refine V_ishl (q := 49) C dX7_core_48 rfl ?_
          refine V_ior (q := 50) C dX7_core_49 rfl ?_
          obtain ⟨r19, σ20, h21, hf⟩ := bd_s hf
          refine V_callV (av := [.int (b ||| ((1 : Int32) <<< (a &&& 31)))]) (st := [.int (3 : Int32), .ref (ad 0)]) (st1 := [.int r19, .int (3 : Int32), .ref (ad 0)]) (q := 53) C 0 (by decide) (eM_0 G ad _) rfl rfl (conX7_isPossible _ _ _ _ _ _ _ h21) q_1380 q_114 q_1377 q_1379 q_79 nmX7_isPossible (by decide) rfl rfl (Nat.le_of_ble_eq_true rfl) dX7_core_50 rfl rfl ?_
          obtain ⟨r22, σ23, h24, hf⟩ := bd_s hf
          refine V_callV (av := [.int (3 : Int32), .int r19]) (st := []) (st1 := [.int r22]) (q := 56) C 0 (by decide) (eM_0 G ad _) rfl rfl (conX7_fails _ _ _ _ _ _ _ _ h24) q_1251 q_114 q_1248 q_1250 q_64 nmX7_fails (by decide) rfl rfl (Nat.le_of_ble_eq_true rfl) dX7_core_53 rfl rfl ?_
          refine V_if_eq (t := 61) (q := 59) C dX7_core_56 (by decide) rfl (fun c25 => ?_) (fun c25 => ?_)
          · replace hf := (ite_s hf).1 c25
            refine V_aload_n (q := 62) C dX7_core_61 rfl rfl 0 rfl ?_
            refine V_iload_n (q := 63) C dX7_core_62 rfl rfl 1 rfl ?_
            refine V_iload_n (q := 64) C dX7_core_63 rfl rfl 2 rfl ?_
            refine V_iconst (v := 1) (q := 65) C dX7_core_64 rfl ic_1 ?_
            refine V_iload_n (q := 66) C dX7_core_65 rfl rfl 1 rfl ?_
            refine V_ishl (q := 67) C dX7_core_66 rfl ?_
            refine V_iconst (v := (-1)) (q := 68) C dX7_core_67 rfl ic_m1 ?_
            refine V_ixor (q := 69) C dX7_core_68 rfl ?_
            refine V_iand (q := 70) C dX7_core_69 rfl ?_
            obtain ⟨r26, σ27, h28, hf⟩ := bd_s hf
            refine V_callV (av := [.int a, .int (b &&& (((1 : Int32) <<< (a &&& 31)) ^^^ (-1 : Int32)))]) (st := []) (st1 := [.int r26]) (q := 73) C 0 (by decide) (eM_0 G ad _) rfl rfl (conX7_reason _ _ _ _ _ _ _ _ h28) q_1436 q_114 q_1433 q_1435 q_88 nmX7_reason (by decide) rfl rfl (Nat.le_of_ble_eq_true rfl) dX7_core_70 rfl rfl ?_
            obtain ⟨e1, e2⟩ := pr_s hf
            subst e1; subst e2
            exact V_iret C F (by decide) (by decide) dX7_core_73
          · replace hf := (ite_s hf).2 c25
            refine V_iconst (v := 0) (q := 60) C dX7_core_59 rfl ic_0 ?_
            obtain ⟨e1, e2⟩ := pr_s hf
            subst e1; subst e2
            exact V_iret C F (by decide) (by decide) dX7_core_60
      refine V_if_ne (t := 35) (q := 31) C dX7_core_28 (by decide) rfl (fun c29 => ?_) (fun c29 => ?_)
      · replace hf := (ite_s hf).2 c29
        refine V_iconst (v := 0) (q := 36) C dX7_core_35 rfl ic_0 ?_
        exact hJ36 _ _ hf
      · replace hf := (ite_s hf).1 c29
        refine V_iconst (v := 1) (q := 32) C dX7_core_31 rfl ic_1 ?_
        refine V_goto (t := 36) C dX7_core_32 (by decide) ?_
        exact hJ36 _ _ hf
  refine V_if_ne (t := 14) (q := 10) C dX7_core_7 (by decide) rfl (fun c30 => ?_) (fun c30 => ?_)
  · replace hf := (ite_s hf).2 c30
    refine V_iconst (v := 0) (q := 15) C dX7_core_14 rfl ic_0 ?_
    exact hJ15 _ _ hf
  · replace hf := (ite_s hf).1 c30
    refine V_iconst (v := 1) (q := 11) C dX7_core_10 rfl ic_1 ?_
    refine V_goto (t := 15) C dX7_core_11 (by decide) ?_
    exact hJ15 _ _ hf
def rmX7_countPairs : Room := { frames := 1, cells := 0, slots := 0, locals := 22 }
def fX7_countPairs_4 (a : Int32) (K : Int32 → Sg → Option (Int32 × Sg)) : Nat → Int32 → Int32 → Sg → Option (Int32 × Sg)
  | 0, _, _, _ => none
  | n + 1, x1, x2, σ3 => if (σ3 1 0) ≤ x2 then (K x1 σ3) else (gd (inb (a + x2) 2764) (bd (fX7_countBits (σ3 1 ((a + x2).toNatClampNeg)) σ3) (fun (r7 : Int32) (σ8 : Sg) => lt' ((x1 + r7)) (fun (x10 : Int32) => fX7_countPairs_4 a K n x10 (x2 + (1 : Int32)) σ8))))
def fX7_countPairs (a : Int32) (σ : Sg) : Option (Int32 × Sg) := fX7_countPairs_4 a (fun (y4 : Int32) (σ11 : Sg) => some ((y4 / (2 : Int32)), σ11)) FU (0 : Int32) (0 : Int32) σ
set_option maxHeartbeats 4000000 in
theorem wlX7_countPairs_4 {X : Cx} {G : Gx} {ad : Nat → Nat} {Q : State → Prop} {r : Int32} {σf : Sg} (C : OK wM X G ad RX7 cX7_countPairs 4 rmX7_countPairs) (F : FinR wM X G ad Q 0 0 (some .int) (some (.int r)) σf) (a : Int32) (K : Int32 → Sg → Option (Int32 × Sg)) (hK : ∀ (y4 : Int32) (σk : Sg), K y4 σk = some (r, σf) → V wM X G ad 4 Q 0 0 σk 34 [(2, .int y4)] []) : ∀ (n : Nat) (x1 : Int32) (x2 : Int32) (σ3 : Sg), fX7_countPairs_4 a K n x1 x2 σ3 = some (r, σf) → V wM X G ad 4 Q 0 0 σ3 4 [(0, .ref (ad 0)), (1, .int a), (2, .int x1), (3, .int x2)] [] := by
  intro n
  induction n with
  | zero =>
    intro _ _ _ hf
    exact absurd hf (by simp [fX7_countPairs_4])
  | succ n ih =>
    intro x1 x2 σ3 hf
    rw [fX7_countPairs_4] at hf
    refine V_iload_n (q := 5) C dX7_countPairs_4 rfl rfl 3 rfl ?_
    refine V_aload_n (q := 6) C dX7_countPairs_5 rfl rfl 0 rfl ?_
    refine GM_0_1 (q := 9) C q_1183 dX7_countPairs_6 rfl ?_
    refine V_iconst (v := 0) (q := 10) C dX7_countPairs_9 rfl ic_0 ?_
    refine RM_1 (z := 0) (q := 11) C tn_0 (inb_in (by decide)) dX7_countPairs_10 rfl ?_
    refine V_icmp_ge (t := 34) (q := 14) C dX7_countPairs_11 (by decide) rfl (fun c5 => ?_) (fun c5 => ?_)
    · replace hf := (ite_s hf).1 c5
      refine V_sub (L' := [(2, .int x1)]) [2] rfl ?_
      exact hK _ _ hf
    · replace hf := (ite_s hf).2 c5
      refine V_iload_n (q := 15) C dX7_countPairs_14 rfl rfl 2 rfl ?_
      refine V_aload_n (q := 16) C dX7_countPairs_15 rfl rfl 0 rfl ?_
      refine GM_0_1 (q := 19) C q_1183 dX7_countPairs_16 rfl ?_
      refine V_iload_n (q := 20) C dX7_countPairs_19 rfl rfl 1 rfl ?_
      refine V_iload_n (q := 21) C dX7_countPairs_20 rfl rfl 3 rfl ?_
      refine V_iadd (q := 22) C dX7_countPairs_21 rfl ?_
      obtain ⟨g6, hf⟩ := gd_s hf
      refine RM_1 (z := (a + x2).toNatClampNeg) (q := 23) C rfl (inb_in g6) dX7_countPairs_22 rfl ?_
      obtain ⟨r7, σ8, h9, hf⟩ := bd_s hf
      refine V_callS (av := [.int (σ3 1 ((a + x2).toNatClampNeg))]) (st := [.int x1]) (st1 := [.int r7, .int x1]) (q := 26) C (conX7_countBits _ _ _ _ _ _ _ h9) q_1341 q_114 q_1339 q_1340 nmX7_countBits (by decide) rfl rfl (Nat.le_of_ble_eq_true rfl) dX7_countPairs_23 rfl rfl ?_
      refine V_iadd (q := 27) C dX7_countPairs_26 rfl ?_
      refine V_let (cv := Value.int) hf (fun x10 hf => ?_)
      refine V_istore_n (L' := [(2, .int x10), (0, .ref (ad 0)), (1, .int a), (3, .int x2)]) (q := 28) C dX7_countPairs_27 rfl rfl (by decide) rfl ?_
      refine V_iinc (L' := [(3, .int (x2 + (1 : Int32))), (2, .int x10), (0, .ref (ad 0)), (1, .int a)]) (q := 31) C dX7_countPairs_28 rfl 3 rfl (congrArg (fun y => x2 + y) ic_1) (by decide) rfl ?_
      refine V_goto (t := 4) C dX7_countPairs_31 (by decide) ?_
      refine V_sub (L' := [(0, .ref (ad 0)), (1, .int a), (2, .int x10), (3, .int (x2 + (1 : Int32)))]) [2, 3, 1, 0] rfl ?_
      exact ih _ _ _ hf
set_option maxHeartbeats 4000000 in
theorem conX7_countPairs (l : Launch) (G : Gx) (ad : Nat → Nat) (a : Int32) (σ : Sg) (r : Int32) (σf : Sg)  (hf : fX7_countPairs a σ = some (r, σf)) : Con wM l G ad yX7_countPairs (Cond.code yX7_countPairs cX7_countPairs 4 (some .int)) rmX7_countPairs 0 0 [.ref (ad 0), .int a] σ (some (.int r)) σf := by
  refine Con.start (by decide) (Nat.le_of_ble_eq_true rfl) (fun X Q _ C F => ?_)
  refine V_eq (L' := [(0, .ref (ad 0)), (1, .int a)]) (st' := []) rfl rfl rfl ?_
  unfold fX7_countPairs at hf
  refine V_iconst (v := 0) (q := 1) C dX7_countPairs_0 rfl ic_0 ?_
  refine V_istore_n (L' := [(2, .int (0 : Int32)), (0, .ref (ad 0)), (1, .int a)]) (q := 2) C dX7_countPairs_1 rfl rfl (by decide) rfl ?_
  refine V_iconst (v := 0) (q := 3) C dX7_countPairs_2 rfl ic_0 ?_
  refine V_istore_n (L' := [(3, .int (0 : Int32)), (2, .int (0 : Int32)), (0, .ref (ad 0)), (1, .int a)]) (q := 4) C dX7_countPairs_3 rfl rfl (by decide) rfl ?_
  refine V_sub (L' := [(0, .ref (ad 0)), (1, .int a), (2, .int (0 : Int32)), (3, .int (0 : Int32))]) [2, 3, 1, 0] rfl ?_
  refine wlX7_countPairs_4 C F a _ (fun y4 σ11 hf => ?_) FU _ _ _ hf
  refine V_iload_n (q := 35) C dX7_countPairs_34 rfl rfl 0 rfl ?_
  refine V_iconst (v := 2) (q := 36) C dX7_countPairs_35 rfl ic_2 ?_
  refine V_idiv (q := 37) C dX7_countPairs_36 rfl (by decide) ?_
  obtain ⟨e1, e2⟩ := pr_s hf
  subst e1; subst e2
  exact V_iret C F (by decide) (by decide) dX7_countPairs_37
def rmX7_countKept : Room := { frames := 0, cells := 0, slots := 0, locals := 0 }
def fX7_countKept_4 : Nat → Int32 → Int32 → Sg → Option (Int32 × Sg)
  | 0, _, _, _ => none
  | n + 1, x1, x2, σ3 => if (σ3 1 0) ≤ x2 then (some (x1, σ3)) else (gd (inb ((52 : Int32) + x2) 2764) (jp (fun (v6 : Int32) (σ7 : Sg) => lt' ((x1 + v6)) (fun (x8 : Int32) => fX7_countKept_4 n x8 (x2 + (1 : Int32)) σ7)) (fun (J32 : Int32 → Sg → Option (Int32 × Sg)) => if (σ3 1 (((52 : Int32) + x2).toNatClampNeg)) < 0 then (J32 (0 : Int32) σ3) else (J32 (1 : Int32) σ3))))
def fX7_countKept  (σ : Sg) : Option (Int32 × Sg) := fX7_countKept_4 FU (0 : Int32) (0 : Int32) σ
set_option maxHeartbeats 4000000 in
theorem wlX7_countKept_4 {X : Cx} {G : Gx} {ad : Nat → Nat} {Q : State → Prop} {r : Int32} {σf : Sg} (C : OK wM X G ad RX7 cX7_countKept 3 rmX7_countKept) (F : FinR wM X G ad Q 0 0 (some .int) (some (.int r)) σf) : ∀ (n : Nat) (x1 : Int32) (x2 : Int32) (σ3 : Sg), fX7_countKept_4 n x1 x2 σ3 = some (r, σf) → V wM X G ad 3 Q 0 0 σ3 4 [(0, .ref (ad 0)), (1, .int x1), (2, .int x2)] [] := by
  intro n
  induction n with
  | zero =>
    intro _ _ _ hf
    exact absurd hf (by simp [fX7_countKept_4])
  | succ n ih =>
    intro x1 x2 σ3 hf
    rw [fX7_countKept_4] at hf
    refine V_iload_n (q := 5) C dX7_countKept_4 rfl rfl 2 rfl ?_
    refine V_aload_n (q := 6) C dX7_countKept_5 rfl rfl 0 rfl ?_
    refine GM_0_1 (q := 9) C q_1183 dX7_countKept_6 rfl ?_
    refine V_iconst (v := 0) (q := 10) C dX7_countKept_9 rfl ic_0 ?_
    refine RM_1 (z := 0) (q := 11) C tn_0 (inb_in (by decide)) dX7_countKept_10 rfl ?_
    refine V_icmp_ge (t := 40) (q := 14) C dX7_countKept_11 (by decide) rfl (fun c4 => ?_) (fun c4 => ?_)
    · replace hf := (ite_s hf).1 c4
      refine V_iload_n (q := 41) C dX7_countKept_40 rfl rfl 1 rfl ?_
      obtain ⟨e1, e2⟩ := pr_s hf
      subst e1; subst e2
      exact V_iret C F (by decide) (by decide) dX7_countKept_41
    · replace hf := (ite_s hf).2 c4
      refine V_iload_n (q := 15) C dX7_countKept_14 rfl rfl 1 rfl ?_
      refine V_aload_n (q := 16) C dX7_countKept_15 rfl rfl 0 rfl ?_
      refine GM_0_1 (q := 19) C q_1183 dX7_countKept_16 rfl ?_
      refine V_bipush (v := 52) (q := 21) C dX7_countKept_19 rfl bc_52 ?_
      refine V_iload_n (q := 22) C dX7_countKept_21 rfl rfl 2 rfl ?_
      refine V_iadd (q := 23) C dX7_countKept_22 rfl ?_
      obtain ⟨g5, hf⟩ := gd_s hf
      refine RM_1 (z := ((52 : Int32) + x2).toNatClampNeg) (q := 24) C rfl (inb_in g5) dX7_countKept_23 rfl ?_
      obtain ⟨J32, eJ32, hf⟩ := jp_s hf
      have hJ32 : ∀ (v6 : Int32) (σ7 : Sg), J32 v6 σ7 = some (r, σf) → V wM X G ad 3 Q 0 0 σ7 32 [(0, .ref (ad 0)), (2, .int x2)] [.int v6, .int x1] := by
        intro v6 σ7 hf
        subst eJ32
        refine V_iadd (q := 33) C dX7_countKept_32 rfl ?_
        refine V_let (cv := Value.int) hf (fun x8 hf => ?_)
        refine V_istore_n (L' := [(1, .int x8), (0, .ref (ad 0)), (2, .int x2)]) (q := 34) C dX7_countKept_33 rfl rfl (by decide) rfl ?_
        refine V_iinc (L' := [(2, .int (x2 + (1 : Int32))), (1, .int x8), (0, .ref (ad 0))]) (q := 37) C dX7_countKept_34 rfl 2 rfl (congrArg (fun y => x2 + y) ic_1) (by decide) rfl ?_
        refine V_goto (t := 4) C dX7_countKept_37 (by decide) ?_
        refine V_sub (L' := [(0, .ref (ad 0)), (1, .int x8), (2, .int (x2 + (1 : Int32)))]) [2, 1, 0] rfl ?_
        exact ih _ _ _ hf
      refine V_if_lt (t := 31) (q := 27) C dX7_countKept_24 (by decide) rfl (fun c9 => ?_) (fun c9 => ?_)
      · replace hf := (ite_s hf).1 c9
        refine V_iconst (v := 0) (q := 32) C dX7_countKept_31 rfl ic_0 ?_
        refine V_sub (L' := [(0, .ref (ad 0)), (2, .int x2)]) [0, 2] rfl ?_
        exact hJ32 _ _ hf
      · replace hf := (ite_s hf).2 c9
        refine V_iconst (v := 1) (q := 28) C dX7_countKept_27 rfl ic_1 ?_
        refine V_goto (t := 32) C dX7_countKept_28 (by decide) ?_
        refine V_sub (L' := [(0, .ref (ad 0)), (2, .int x2)]) [0, 2] rfl ?_
        exact hJ32 _ _ hf
set_option maxHeartbeats 4000000 in
theorem conX7_countKept (l : Launch) (G : Gx) (ad : Nat → Nat)  (σ : Sg) (r : Int32) (σf : Sg)  (hf : fX7_countKept  σ = some (r, σf)) : Con wM l G ad yX7_countKept (Cond.code yX7_countKept cX7_countKept 3 (some .int)) rmX7_countKept 0 0 [.ref (ad 0)] σ (some (.int r)) σf := by
  refine Con.start (by decide) (Nat.le_of_ble_eq_true rfl) (fun X Q _ C F => ?_)
  refine V_eq (L' := [(0, .ref (ad 0))]) (st' := []) rfl rfl rfl ?_
  unfold fX7_countKept at hf
  refine V_iconst (v := 0) (q := 1) C dX7_countKept_0 rfl ic_0 ?_
  refine V_istore_n (L' := [(1, .int (0 : Int32)), (0, .ref (ad 0))]) (q := 2) C dX7_countKept_1 rfl rfl (by decide) rfl ?_
  refine V_iconst (v := 0) (q := 3) C dX7_countKept_2 rfl ic_0 ?_
  refine V_istore_n (L' := [(2, .int (0 : Int32)), (1, .int (0 : Int32)), (0, .ref (ad 0))]) (q := 4) C dX7_countKept_3 rfl rfl (by decide) rfl ?_
  refine V_sub (L' := [(0, .ref (ad 0)), (1, .int (0 : Int32)), (2, .int (0 : Int32))]) [2, 1, 0] rfl ?_
  refine wlX7_countKept_4 C F FU _ _ _ hf
def rmX7_count : Room := { frames := 2, cells := 0, slots := 0, locals := 45 }
def fX7_count (a : Int32) (σ : Sg) : Option (Int32 × Sg) := jp (fun (v1 : Int32) (σ2 : Sg) => bd (fX7_fails (1 : Int32) v1 σ2) (fun (r3 : Int32) (σ4 : Sg) => if r3 = 0 then (if a = (0 : Int32) then (some ((σ4 1 0), σ4)) else if a = (1 : Int32) then (bd (fX7_countPairs (64 : Int32) σ4) (fun (r9 : Int32) (σ10 : Sg) => some (r9, σ10))) else if a = (2 : Int32) then (bd (fX7_countPairs (76 : Int32) σ4) (fun (r13 : Int32) (σ14 : Sg) => some (r13, σ14))) else if a = (3 : Int32) then (bd (fX7_countBits (σ4 1 1) σ4) (fun (r17 : Int32) (σ18 : Sg) => some (r17, σ18))) else if a = (4 : Int32) then (bd (fX7_outside  σ4) (fun (r21 : Int32) (σ22 : Sg) => bd (fX7_countBits r21 σ22) (fun (r24 : Int32) (σ25 : Sg) => some (((σ4 1 0) - r24), σ25)))) else if a = (5 : Int32) then (bd (fX7_countKept  σ4) (fun (r28 : Int32) (σ29 : Sg) => some (r28, σ29))) else if a = (6 : Int32) then (some ((σ4 0 7), σ4)) else (bd (fX7_isKnown  σ4) (fun (r32 : Int32) (σ33 : Sg) => if r32 = 0 then (some ((0 : Int32), σ33)) else (some (((σ33 1 3) + (1 : Int32)), σ33))))) else (some ((0 : Int32), σ4)))) (fun (J17 : Int32 → Sg → Option (Int32 × Sg)) => if (pX7_isBetween a (0 : Int32) (7 : Int32)) = 0 then (J17 (1 : Int32) σ) else (J17 (0 : Int32) σ))
set_option maxHeartbeats 4000000 in
theorem conX7_count (l : Launch) (G : Gx) (ad : Nat → Nat) (a : Int32) (σ : Sg) (r : Int32) (σf : Sg)  (hf : fX7_count a σ = some (r, σf)) : Con wM l G ad yX7_count (Cond.code yX7_count cX7_count 2 (some .int)) rmX7_count 0 0 [.ref (ad 0), .int a] σ (some (.int r)) σf := by
  refine Con.start (by decide) (Nat.le_of_ble_eq_true rfl) (fun X Q _ C F => ?_)
  refine V_eq (L' := [(0, .ref (ad 0)), (1, .int a)]) (st' := []) rfl rfl rfl ?_
  unfold fX7_count at hf
  refine V_aload_n (q := 1) C dX7_count_0 rfl rfl 0 rfl ?_
  refine V_iconst (v := 1) (q := 2) C dX7_count_1 rfl ic_1 ?_
  refine V_iload_n (q := 3) C dX7_count_2 rfl rfl 1 rfl ?_
  refine V_iconst (v := 0) (q := 4) C dX7_count_3 rfl ic_0 ?_
  refine V_bipush (v := 7) (q := 6) C dX7_count_4 rfl bc_7 ?_
  refine V_callS (av := [.int a, .int (0 : Int32), .int (7 : Int32)]) (st := [.int (1 : Int32), .ref (ad 0)]) (st1 := [.int (pX7_isBetween a (0 : Int32) (7 : Int32)), .int (1 : Int32), .ref (ad 0)]) (q := 9) C (conX7_isBetween _ _ _ _ _ _ _ _ rfl) q_1247 q_114 q_1245 q_1246 nmX7_isBetween (by decide) rfl rfl (Nat.le_of_ble_eq_true rfl) dX7_count_6 rfl rfl ?_
  obtain ⟨J17, eJ17, hf⟩ := jp_s hf
  have hJ17 : ∀ (v1 : Int32) (σ2 : Sg), J17 v1 σ2 = some (r, σf) → V wM X G ad 2 Q 0 0 σ2 17 [(0, .ref (ad 0)), (1, .int a)] [.int v1, .int (1 : Int32), .ref (ad 0)] := by
    intro v1 σ2 hf
    subst eJ17
    obtain ⟨r3, σ4, h5, hf⟩ := bd_s hf
    refine V_callV (av := [.int (1 : Int32), .int v1]) (st := []) (st1 := [.int r3]) (q := 20) C 0 (by decide) (eM_0 G ad _) rfl rfl (conX7_fails _ _ _ _ _ _ _ _ h5) q_1251 q_114 q_1248 q_1250 q_64 nmX7_fails (by decide) rfl rfl (Nat.le_of_ble_eq_true rfl) dX7_count_17 rfl rfl ?_
    refine V_if_eq (t := 25) (q := 23) C dX7_count_20 (by decide) rfl (fun c6 => ?_) (fun c6 => ?_)
    · replace hf := (ite_s hf).1 c6
      refine V_iload_n (q := 26) C dX7_count_25 rfl rfl 1 rfl ?_
      by_cases c7 : a = (0 : Int32)
      · replace hf := (ite_s hf).1 c7
        refine V_tabIn (t := 68) C dX7_count_26 (by rw [c7]; decide) (by rw [c7]; decide) (off := 42) (by rw [c7]; decide) (by decide) ?_
        refine V_aload_n (q := 69) C dX7_count_68 rfl rfl 0 rfl ?_
        refine GM_0_1 (q := 72) C q_1183 dX7_count_69 rfl ?_
        refine V_iconst (v := 0) (q := 73) C dX7_count_72 rfl ic_0 ?_
        refine RM_1 (z := 0) (q := 74) C tn_0 (inb_in (by decide)) dX7_count_73 rfl ?_
        obtain ⟨e1, e2⟩ := pr_s hf
        subst e1; subst e2
        exact V_iret C F (by decide) (by decide) dX7_count_74
      · replace hf := (ite_s hf).2 c7
        by_cases c8 : a = (1 : Int32)
        · replace hf := (ite_s hf).1 c8
          refine V_tabIn (t := 75) C dX7_count_26 (by rw [c8]; decide) (by rw [c8]; decide) (off := 49) (by rw [c8]; decide) (by decide) ?_
          refine V_aload_n (q := 76) C dX7_count_75 rfl rfl 0 rfl ?_
          refine V_bipush (v := 64) (q := 78) C dX7_count_76 rfl bc_64 ?_
          obtain ⟨r9, σ10, h11, hf⟩ := bd_s hf
          refine V_callV (av := [.int (64 : Int32)]) (st := []) (st1 := [.int r9]) (q := 81) C 0 (by decide) (eM_0 G ad _) rfl rfl (conX7_countPairs _ _ _ _ _ _ _ h11) q_1581 q_114 q_1578 q_1580 q_104 nmX7_countPairs (by decide) rfl rfl (Nat.le_of_ble_eq_true rfl) dX7_count_78 rfl rfl ?_
          obtain ⟨e1, e2⟩ := pr_s hf
          subst e1; subst e2
          exact V_iret C F (by decide) (by decide) dX7_count_81
        · replace hf := (ite_s hf).2 c8
          by_cases c12 : a = (2 : Int32)
          · replace hf := (ite_s hf).1 c12
            refine V_tabIn (t := 82) C dX7_count_26 (by rw [c12]; decide) (by rw [c12]; decide) (off := 56) (by rw [c12]; decide) (by decide) ?_
            refine V_aload_n (q := 83) C dX7_count_82 rfl rfl 0 rfl ?_
            refine V_bipush (v := 76) (q := 85) C dX7_count_83 rfl bc_76 ?_
            obtain ⟨r13, σ14, h15, hf⟩ := bd_s hf
            refine V_callV (av := [.int (76 : Int32)]) (st := []) (st1 := [.int r13]) (q := 88) C 0 (by decide) (eM_0 G ad _) rfl rfl (conX7_countPairs _ _ _ _ _ _ _ h15) q_1581 q_114 q_1578 q_1580 q_104 nmX7_countPairs (by decide) rfl rfl (Nat.le_of_ble_eq_true rfl) dX7_count_85 rfl rfl ?_
            obtain ⟨e1, e2⟩ := pr_s hf
            subst e1; subst e2
            exact V_iret C F (by decide) (by decide) dX7_count_88
          · replace hf := (ite_s hf).2 c12
            by_cases c16 : a = (3 : Int32)
            · replace hf := (ite_s hf).1 c16
              refine V_tabIn (t := 89) C dX7_count_26 (by rw [c16]; decide) (by rw [c16]; decide) (off := 63) (by rw [c16]; decide) (by decide) ?_
              refine V_aload_n (q := 90) C dX7_count_89 rfl rfl 0 rfl ?_
              refine GM_0_1 (q := 93) C q_1183 dX7_count_90 rfl ?_
              refine V_iconst (v := 1) (q := 94) C dX7_count_93 rfl ic_1 ?_
              refine RM_1 (z := 1) (q := 95) C tn_1 (inb_in (by decide)) dX7_count_94 rfl ?_
              obtain ⟨r17, σ18, h19, hf⟩ := bd_s hf
              refine V_callS (av := [.int (σ4 1 1)]) (st := []) (st1 := [.int r17]) (q := 98) C (conX7_countBits _ _ _ _ _ _ _ h19) q_1341 q_114 q_1339 q_1340 nmX7_countBits (by decide) rfl rfl (Nat.le_of_ble_eq_true rfl) dX7_count_95 rfl rfl ?_
              obtain ⟨e1, e2⟩ := pr_s hf
              subst e1; subst e2
              exact V_iret C F (by decide) (by decide) dX7_count_98
            · replace hf := (ite_s hf).2 c16
              by_cases c20 : a = (4 : Int32)
              · replace hf := (ite_s hf).1 c20
                refine V_tabIn (t := 99) C dX7_count_26 (by rw [c20]; decide) (by rw [c20]; decide) (off := 73) (by rw [c20]; decide) (by decide) ?_
                refine V_aload_n (q := 100) C dX7_count_99 rfl rfl 0 rfl ?_
                refine GM_0_1 (q := 103) C q_1183 dX7_count_100 rfl ?_
                refine V_iconst (v := 0) (q := 104) C dX7_count_103 rfl ic_0 ?_
                refine RM_1 (z := 0) (q := 105) C tn_0 (inb_in (by decide)) dX7_count_104 rfl ?_
                refine V_aload_n (q := 106) C dX7_count_105 rfl rfl 0 rfl ?_
                obtain ⟨r21, σ22, h23, hf⟩ := bd_s hf
                refine V_callV (av := []) (st := [.int (σ4 1 0)]) (st1 := [.int r21, .int (σ4 1 0)]) (q := 109) C 0 (by decide) (eM_0 G ad _) rfl rfl (conX7_outside _ _ _  _ _ _ h23) q_1444 q_114 q_1441 q_1443 q_89 nmX7_outside (by decide) rfl rfl (Nat.le_of_ble_eq_true rfl) dX7_count_106 rfl rfl ?_
                obtain ⟨r24, σ25, h26, hf⟩ := bd_s hf
                refine V_callS (av := [.int r21]) (st := [.int (σ4 1 0)]) (st1 := [.int r24, .int (σ4 1 0)]) (q := 112) C (conX7_countBits _ _ _ _ _ _ _ h26) q_1341 q_114 q_1339 q_1340 nmX7_countBits (by decide) rfl rfl (Nat.le_of_ble_eq_true rfl) dX7_count_109 rfl rfl ?_
                refine V_isub (q := 113) C dX7_count_112 rfl ?_
                obtain ⟨e1, e2⟩ := pr_s hf
                subst e1; subst e2
                exact V_iret C F (by decide) (by decide) dX7_count_113
              · replace hf := (ite_s hf).2 c20
                by_cases c27 : a = (5 : Int32)
                · replace hf := (ite_s hf).1 c27
                  refine V_tabIn (t := 114) C dX7_count_26 (by rw [c27]; decide) (by rw [c27]; decide) (off := 88) (by rw [c27]; decide) (by decide) ?_
                  refine V_aload_n (q := 115) C dX7_count_114 rfl rfl 0 rfl ?_
                  obtain ⟨r28, σ29, h30, hf⟩ := bd_s hf
                  refine V_callV (av := []) (st := []) (st1 := [.int r28]) (q := 118) C 0 (by decide) (eM_0 G ad _) rfl rfl (conX7_countKept _ _ _  _ _ _ h30) q_1585 q_114 q_1582 q_1584 q_105 nmX7_countKept (by decide) rfl rfl (Nat.le_of_ble_eq_true rfl) dX7_count_115 rfl rfl ?_
                  obtain ⟨e1, e2⟩ := pr_s hf
                  subst e1; subst e2
                  exact V_iret C F (by decide) (by decide) dX7_count_118
                · replace hf := (ite_s hf).2 c27
                  by_cases c31 : a = (6 : Int32)
                  · replace hf := (ite_s hf).1 c31
                    refine V_tabIn (t := 119) C dX7_count_26 (by rw [c31]; decide) (by rw [c31]; decide) (off := 93) (by rw [c31]; decide) (by decide) ?_
                    refine V_aload_n (q := 120) C dX7_count_119 rfl rfl 0 rfl ?_
                    refine GM_0_7 (q := 123) C q_1189 dX7_count_120 rfl ?_
                    obtain ⟨e1, e2⟩ := pr_s hf
                    subst e1; subst e2
                    exact V_iret C F (by decide) (by decide) dX7_count_123
                  · replace hf := (ite_s hf).2 c31
                    refine V_tabOut (t := 124) C dX7_count_26 (sw_out (h := 6) (by decide) (fun i hi => ?_)) (by decide) ?_
                    · match i, hi with
                      | 0, _ => exact c7
                      | 1, _ => exact c8
                      | 2, _ => exact c12
                      | 3, _ => exact c16
                      | 4, _ => exact c20
                      | 5, _ => exact c27
                      | 6, _ => exact c31
                      | i + 7, h => exact absurd h (by omega)
                    · refine V_aload_n (q := 125) C dX7_count_124 rfl rfl 0 rfl ?_
                      obtain ⟨r32, σ33, h34, hf⟩ := bd_s hf
                      refine V_callV (av := []) (st := []) (st1 := [.int r32]) (q := 128) C 0 (by decide) (eM_0 G ad _) rfl rfl (conX7_isKnown _ _ _  _ _ _ h34) q_1255 q_114 q_1252 q_1254 q_65 nmX7_isKnown (by decide) rfl rfl (Nat.le_of_ble_eq_true rfl) dX7_count_125 rfl rfl ?_
                      refine V_if_eq (t := 142) (q := 131) C dX7_count_128 (by decide) rfl (fun c35 => ?_) (fun c35 => ?_)
                      · replace hf := (ite_s hf).1 c35
                        refine V_iconst (v := 0) (q := 143) C dX7_count_142 rfl ic_0 ?_
                        obtain ⟨e1, e2⟩ := pr_s hf
                        subst e1; subst e2
                        exact V_iret C F (by decide) (by decide) dX7_count_143
                      · replace hf := (ite_s hf).2 c35
                        refine V_aload_n (q := 132) C dX7_count_131 rfl rfl 0 rfl ?_
                        refine GM_0_1 (q := 135) C q_1183 dX7_count_132 rfl ?_
                        refine V_iconst (v := 3) (q := 136) C dX7_count_135 rfl ic_3 ?_
                        refine RM_1 (z := 3) (q := 137) C tn_3 (inb_in (by decide)) dX7_count_136 rfl ?_
                        refine V_iconst (v := 1) (q := 138) C dX7_count_137 rfl ic_1 ?_
                        refine V_iadd (q := 139) C dX7_count_138 rfl ?_
                        refine V_goto (t := 143) C dX7_count_139 (by decide) ?_
                        obtain ⟨e1, e2⟩ := pr_s hf
                        subst e1; subst e2
                        exact V_iret C F (by decide) (by decide) dX7_count_143
    · replace hf := (ite_s hf).2 c6
      refine V_iconst (v := 0) (q := 24) C dX7_count_23 rfl ic_0 ?_
      obtain ⟨e1, e2⟩ := pr_s hf
      subst e1; subst e2
      exact V_iret C F (by decide) (by decide) dX7_count_24
  refine V_if_ne (t := 16) (q := 12) C dX7_count_9 (by decide) rfl (fun c36 => ?_) (fun c36 => ?_)
  · replace hf := (ite_s hf).2 c36
    refine V_iconst (v := 0) (q := 17) C dX7_count_16 rfl ic_0 ?_
    exact hJ17 _ _ hf
  · replace hf := (ite_s hf).1 c36
    refine V_iconst (v := 1) (q := 13) C dX7_count_12 rfl ic_1 ?_
    refine V_goto (t := 17) C dX7_count_13 (by decide) ?_
    exact hJ17 _ _ hf
def rmJxf58ca_isNaN_12338 : Room := { frames := 0, cells := 0, slots := 0, locals := 0 }
def pJxf58ca_isNaN_12338 (a : UInt32) : Int32 := if (Op.cmpValue (FP.fcmp a a) CmpOp.l) = 0 then ((0 : Int32)) else ((1 : Int32))
set_option maxHeartbeats 4000000 in
theorem conJxf58ca_isNaN_12338 {T : Type} {w : Wd T} (l : Launch) (G : Gx) (ad : Nat → Nat) (a : UInt32) (τ : T) (r : Int32) (hf : pJxf58ca_isNaN_12338 a = r) : Con w l G ad yJxf58ca_isNaN_12338 (Cond.code yJxf58ca_isNaN_12338 cJxf58ca_isNaN_12338 1 (some .boolean)) rmJxf58ca_isNaN_12338 0 0 [.float a] τ (some (.int r)) τ := by
  refine Con.startF (by decide +kernel) (Nat.le_of_ble_eq_true rfl) (fun X Q _ C F => ?_)
  refine V_eq (L' := [(0, .float a)]) (st' := []) rfl rfl rfl ?_
  unfold pJxf58ca_isNaN_12338 at hf
  refine V_fload_n (q := 1) C dJxf58ca_isNaN_12338_0 rfl rfl 0 rfl ?_
  refine V_fload_n (q := 2) C dJxf58ca_isNaN_12338_1 rfl rfl 0 rfl ?_
  refine V_fcmp (q := 3) C dJxf58ca_isNaN_12338_2 rfl ?_
  refine V_if_eq (t := 10) (q := 6) C dJxf58ca_isNaN_12338_3 (by decide) rfl (fun c1 => ?_) (fun c1 => ?_)
  · replace hf := (ite_s hf).1 c1
    refine V_iconst (v := 0) (q := 11) C dJxf58ca_isNaN_12338_10 rfl ic_0 ?_
    subst hf
    exact V_zret C F (by decide) (Nat.le_refl 0) (Nat.le_refl 0) dJxf58ca_isNaN_12338_11
  · replace hf := (ite_s hf).2 c1
    refine V_iconst (v := 1) (q := 7) C dJxf58ca_isNaN_12338_6 rfl ic_1 ?_
    refine V_goto (t := 11) C dJxf58ca_isNaN_12338_7 (by decide) ?_
    subst hf
    exact V_zret C F (by decide) (Nat.le_refl 0) (Nat.le_refl 0) dJxf58ca_isNaN_12338_11
theorem pJxf58ca_isNaN_12338_b (a : UInt32) : pJxf58ca_isNaN_12338 a = 0 ∨ pJxf58ca_isNaN_12338 a = 1 := by
  unfold pJxf58ca_isNaN_12338
  try simp only [jp]
  repeat' split
  all_goals first | exact Or.inl rfl | exact Or.inr rfl | exact pX6_contains_b _ _ | exact pX7_isBetween_b _ _ _ | exact pX7_isChannels_b _ | exact pX7_has_b _ _
def rmJxf58ca_floatToIntBits_5c35a : Room := { frames := 1, cells := 0, slots := 0, locals := 48 }
def pJxf58ca_floatToIntBits_5c35a (a : UInt32) : Int32 := if (pJxf58ca_isNaN_12338 a) = 0 then (a.toInt32) else ((2143289344 : Int32))
set_option maxHeartbeats 4000000 in
theorem conJxf58ca_floatToIntBits_5c35a {T : Type} {w : Wd T} (l : Launch) (G : Gx) (ad : Nat → Nat) (a : UInt32) (τ : T) (r : Int32) (hf : pJxf58ca_floatToIntBits_5c35a a = r) : Con w l G ad yJxf58ca_floatToIntBits_5c35a (Cond.code yJxf58ca_floatToIntBits_5c35a cJxf58ca_floatToIntBits_5c35a 1 (some .int)) rmJxf58ca_floatToIntBits_5c35a 0 0 [.float a] τ (some (.int r)) τ := by
  refine Con.startF (by decide +kernel) (Nat.le_of_ble_eq_true rfl) (fun X Q _ C F => ?_)
  refine V_eq (L' := [(0, .float a)]) (st' := []) rfl rfl rfl ?_
  unfold pJxf58ca_floatToIntBits_5c35a at hf
  refine V_fload_n (q := 1) C dJxf58ca_floatToIntBits_5c35a_0 rfl rfl 0 rfl ?_
  refine V_callS (av := [.float a]) (st := []) (st1 := [.int (pJxf58ca_isNaN_12338 a)]) (q := 4) C (conJxf58ca_isNaN_12338 _ _ _ _ _ _ rfl) q_1356 q_127 q_1354 q_1355 nmJxf58ca_isNaN_12338 (by decide) rfl rfl (Nat.le_of_ble_eq_true rfl) dJxf58ca_floatToIntBits_5c35a_1 rfl rfl ?_
  refine V_if_ne (t := 12) (q := 7) C dJxf58ca_floatToIntBits_5c35a_4 (by decide) rfl (fun c1 => ?_) (fun c1 => ?_)
  · replace hf := (ite_s hf).2 c1
    refine V_ldc (q := 14) C q_1360 dJxf58ca_floatToIntBits_5c35a_12 rfl ?_
    subst hf
    exact V_iret C F (Nat.le_refl 0) (Nat.le_refl 0) dJxf58ca_floatToIntBits_5c35a_14
  · replace hf := (ite_s hf).1 c1
    refine V_fload_n (q := 8) C dJxf58ca_floatToIntBits_5c35a_7 rfl rfl 0 rfl ?_
    refine V_f2b (q := 11) C q_1357 q_1359 q_1358 q_127 (by decide) (Nat.le_of_ble_eq_true rfl) dJxf58ca_floatToIntBits_5c35a_8 rfl ?_
    subst hf
    exact V_iret C F (Nat.le_refl 0) (Nat.le_refl 0) dJxf58ca_floatToIntBits_5c35a_11
def rmX7_lossOf : Room := { frames := 2, cells := 0, slots := 0, locals := 44 }
def fX7_lossOf (a : Int32) (σ : Sg) : Option (Int32 × Sg) := bd (fX7_sumValues ((((1 : Int32) <<< ((σ 1 0) &&& 31)) - (1 : Int32)) &&& (a ^^^ (-1 : Int32))) σ) (fun (r1 : Int32) (σ2 : Sg) => some (r1, σ2))
set_option maxHeartbeats 4000000 in
theorem conX7_lossOf (l : Launch) (G : Gx) (ad : Nat → Nat) (a : Int32) (σ : Sg) (r : Int32) (σf : Sg)  (hf : fX7_lossOf a σ = some (r, σf)) : Con wM l G ad yX7_lossOf (Cond.code yX7_lossOf cX7_lossOf 2 (some .int)) rmX7_lossOf 0 0 [.ref (ad 0), .int a] σ (some (.int r)) σf := by
  refine Con.start (by decide) (Nat.le_of_ble_eq_true rfl) (fun X Q _ C F => ?_)
  refine V_eq (L' := [(0, .ref (ad 0)), (1, .int a)]) (st' := []) rfl rfl rfl ?_
  unfold fX7_lossOf at hf
  refine V_aload_n (q := 1) C dX7_lossOf_0 rfl rfl 0 rfl ?_
  refine V_iconst (v := 1) (q := 2) C dX7_lossOf_1 rfl ic_1 ?_
  refine V_aload_n (q := 3) C dX7_lossOf_2 rfl rfl 0 rfl ?_
  refine GM_0_1 (q := 6) C q_1183 dX7_lossOf_3 rfl ?_
  refine V_iconst (v := 0) (q := 7) C dX7_lossOf_6 rfl ic_0 ?_
  refine RM_1 (z := 0) (q := 8) C tn_0 (inb_in (by decide)) dX7_lossOf_7 rfl ?_
  refine V_ishl (q := 9) C dX7_lossOf_8 rfl ?_
  refine V_iconst (v := 1) (q := 10) C dX7_lossOf_9 rfl ic_1 ?_
  refine V_isub (q := 11) C dX7_lossOf_10 rfl ?_
  refine V_iload_n (q := 12) C dX7_lossOf_11 rfl rfl 1 rfl ?_
  refine V_iconst (v := (-1)) (q := 13) C dX7_lossOf_12 rfl ic_m1 ?_
  refine V_ixor (q := 14) C dX7_lossOf_13 rfl ?_
  refine V_iand (q := 15) C dX7_lossOf_14 rfl ?_
  obtain ⟨r1, σ2, h3, hf⟩ := bd_s hf
  refine V_callV (av := [.int ((((1 : Int32) <<< ((σ 1 0) &&& 31)) - (1 : Int32)) &&& (a ^^^ (-1 : Int32)))]) (st := []) (st1 := [.int r1]) (q := 18) C 0 (by decide) (eM_0 G ad _) rfl rfl (conX7_sumValues _ _ _ _ _ _ _ h3) q_1531 q_114 q_1528 q_1530 q_101 nmX7_sumValues (by decide) rfl rfl (Nat.le_of_ble_eq_true rfl) dX7_lossOf_15 rfl rfl ?_
  obtain ⟨e1, e2⟩ := pr_s hf
  subst e1; subst e2
  exact V_iret C F (by decide) (by decide) dX7_lossOf_18
def rmX7_efficiencyBits : Room := { frames := 21, cells := 0, slots := 0, locals := 555 }
def fX7_efficiencyBits  (σ : Sg) : Option (Int32 × Sg) := bd (fX7_isOver  σ) (fun (r1 : Int32) (σ2 : Sg) => jp (fun (v4 : Int32) (σ5 : Sg) => bd (fX7_fails (1 : Int32) v4 σ5) (fun (r6 : Int32) (σ7 : Sg) => if r6 = 0 then (bd (fX7_in (2 : Int32) σ7) (fun (r10 : Int32) (σ11 : Sg) => bd (fX7_sumValues r10 σ11) (fun (r13 : Int32) (σ14 : Sg) => jp (fun (v16 : UInt32) (σ17 : Sg) => some ((pJxf58ca_floatToIntBits_5c35a v16), σ17)) (fun (J52 : UInt32 → Sg → Option (Int32 × Sg)) => if r13 = 0 then (J52 FP.fconst1 σ14) else (bd (fX7_findBest  σ14) (fun (r19 : Int32) (σ20 : Sg) => bd (fX7_lossOf r19 σ20) (fun (r22 : Int32) (σ23 : Sg) => gd (n32 (FP.fdiv (FP.i2f r22) (FP.i2f r13))) (J52 (FP.fdiv (FP.i2f r22) (FP.i2f r13)) σ23)))))))) else (some ((0 : Int32), σ7)))) (fun (J14 : Int32 → Sg → Option (Int32 × Sg)) => if r1 = 0 then (J14 (1 : Int32) σ2) else (J14 (0 : Int32) σ2)))
set_option maxHeartbeats 4000000 in
theorem conX7_efficiencyBits (l : Launch) (G : Gx) (ad : Nat → Nat)  (σ : Sg) (r : Int32) (σf : Sg)  (hf : fX7_efficiencyBits  σ = some (r, σf)) : Con wM l G ad yX7_efficiencyBits (Cond.code yX7_efficiencyBits cX7_efficiencyBits 2 (some .int)) rmX7_efficiencyBits 0 0 [.ref (ad 0)] σ (some (.int r)) σf := by
  refine Con.start (by decide) (Nat.le_of_ble_eq_true rfl) (fun X Q _ C F => ?_)
  refine V_eq (L' := [(0, .ref (ad 0))]) (st' := []) rfl rfl rfl ?_
  unfold fX7_efficiencyBits at hf
  refine V_aload_n (q := 1) C dX7_efficiencyBits_0 rfl rfl 0 rfl ?_
  refine V_iconst (v := 1) (q := 2) C dX7_efficiencyBits_1 rfl ic_1 ?_
  refine V_aload_n (q := 3) C dX7_efficiencyBits_2 rfl rfl 0 rfl ?_
  obtain ⟨r1, σ2, h3, hf⟩ := bd_s hf
  refine V_callV (av := []) (st := [.int (1 : Int32), .ref (ad 0)]) (st1 := [.int r1, .int (1 : Int32), .ref (ad 0)]) (q := 6) C 0 (by decide) (eM_0 G ad _) rfl rfl (conX7_isOver _ _ _  _ _ _ h3) q_1483 q_114 q_1480 q_1482 q_97 nmX7_isOver (by decide) rfl rfl (Nat.le_of_ble_eq_true rfl) dX7_efficiencyBits_3 rfl rfl ?_
  obtain ⟨J14, eJ14, hf⟩ := jp_s hf
  have hJ14 : ∀ (v4 : Int32) (σ5 : Sg), J14 v4 σ5 = some (r, σf) → V wM X G ad 2 Q 0 0 σ5 14 [(0, .ref (ad 0))] [.int v4, .int (1 : Int32), .ref (ad 0)] := by
    intro v4 σ5 hf
    subst eJ14
    obtain ⟨r6, σ7, h8, hf⟩ := bd_s hf
    refine V_callV (av := [.int (1 : Int32), .int v4]) (st := []) (st1 := [.int r6]) (q := 17) C 0 (by decide) (eM_0 G ad _) rfl rfl (conX7_fails _ _ _ _ _ _ _ _ h8) q_1251 q_114 q_1248 q_1250 q_64 nmX7_fails (by decide) rfl rfl (Nat.le_of_ble_eq_true rfl) dX7_efficiencyBits_14 rfl rfl ?_
    refine V_if_eq (t := 22) (q := 20) C dX7_efficiencyBits_17 (by decide) rfl (fun c9 => ?_) (fun c9 => ?_)
    · replace hf := (ite_s hf).1 c9
      refine V_aload_n (q := 23) C dX7_efficiencyBits_22 rfl rfl 0 rfl ?_
      refine V_aload_n (q := 24) C dX7_efficiencyBits_23 rfl rfl 0 rfl ?_
      refine V_iconst (v := 2) (q := 25) C dX7_efficiencyBits_24 rfl ic_2 ?_
      obtain ⟨r10, σ11, h12, hf⟩ := bd_s hf
      refine V_callV (av := [.int (2 : Int32)]) (st := [.ref (ad 0)]) (st1 := [.int r10, .ref (ad 0)]) (q := 28) C 0 (by decide) (eM_0 G ad _) rfl rfl (conX7_in _ _ _ _ _ _ _ h12) q_1468 q_114 q_1465 q_1467 q_95 nmX7_in (by decide) rfl rfl (Nat.le_of_ble_eq_true rfl) dX7_efficiencyBits_25 rfl rfl ?_
      obtain ⟨r13, σ14, h15, hf⟩ := bd_s hf
      refine V_callV (av := [.int r10]) (st := []) (st1 := [.int r13]) (q := 31) C 0 (by decide) (eM_0 G ad _) rfl rfl (conX7_sumValues _ _ _ _ _ _ _ h15) q_1531 q_114 q_1528 q_1530 q_101 nmX7_sumValues (by decide) rfl rfl (Nat.le_of_ble_eq_true rfl) dX7_efficiencyBits_28 rfl rfl ?_
      refine V_istore_n (L' := [(1, .int r13), (0, .ref (ad 0))]) (q := 32) C dX7_efficiencyBits_31 rfl rfl (by decide) rfl ?_
      refine V_iload_n (q := 33) C dX7_efficiencyBits_32 rfl rfl 0 rfl ?_
      obtain ⟨J52, eJ52, hf⟩ := jp_s hf
      have hJ52 : ∀ (v16 : UInt32) (σ17 : Sg), J52 v16 σ17 = some (r, σf) → V wM X G ad 2 Q 0 0 σ17 52 [] [.float v16] := by
        intro v16 σ17 hf
        subst eJ52
        refine V_callS (av := [.float v16]) (st := []) (st1 := [.int (pJxf58ca_floatToIntBits_5c35a v16)]) (q := 55) C (conJxf58ca_floatToIntBits_5c35a _ _ _ _ _ _ rfl) q_1353 q_127 q_1351 q_1352 nmJxf58ca_floatToIntBits_5c35a (by decide) rfl rfl (Nat.le_of_ble_eq_true rfl) dX7_efficiencyBits_52 rfl rfl ?_
        obtain ⟨e1, e2⟩ := pr_s hf
        subst e1; subst e2
        exact V_iret C F (by decide) (by decide) dX7_efficiencyBits_55
      refine V_if_ne (t := 40) (q := 36) C dX7_efficiencyBits_33 (by decide) rfl (fun c18 => ?_) (fun c18 => ?_)
      · replace hf := (ite_s hf).2 c18
        refine V_aload_n (q := 41) C dX7_efficiencyBits_40 rfl rfl 1 rfl ?_
        refine V_aload_n (q := 42) C dX7_efficiencyBits_41 rfl rfl 1 rfl ?_
        obtain ⟨r19, σ20, h21, hf⟩ := bd_s hf
        refine V_callV (av := []) (st := [.ref (ad 0)]) (st1 := [.int r19, .ref (ad 0)]) (q := 45) C 0 (by decide) (eM_0 G ad _) rfl rfl (conX7_findBest _ _ _  _ _ _ h21) q_1547 q_114 q_1544 q_1546 q_102 nmX7_findBest (by decide) rfl rfl (Nat.le_of_ble_eq_true rfl) dX7_efficiencyBits_42 rfl rfl ?_
        obtain ⟨r22, σ23, h24, hf⟩ := bd_s hf
        refine V_callV (av := [.int r19]) (st := []) (st1 := [.int r22]) (q := 48) C 0 (by decide) (eM_0 G ad _) rfl rfl (conX7_lossOf _ _ _ _ _ _ _ h24) q_1555 q_114 q_1552 q_1554 q_103 nmX7_lossOf (by decide) rfl rfl (Nat.le_of_ble_eq_true rfl) dX7_efficiencyBits_45 rfl rfl ?_
        refine V_i2f (q := 49) C dX7_efficiencyBits_48 rfl ?_
        refine V_iload_n (q := 50) C dX7_efficiencyBits_49 rfl rfl 0 rfl ?_
        refine V_i2f (q := 51) C dX7_efficiencyBits_50 rfl ?_
        obtain ⟨g25, hf⟩ := gd_s hf
        refine V_fdiv (q := 52) C dX7_efficiencyBits_51 rfl (n32_s g25) ?_
        refine V_sub (L' := []) [] rfl ?_
        exact hJ52 _ _ hf
      · replace hf := (ite_s hf).1 c18
        refine V_fconst1 (q := 37) C dX7_efficiencyBits_36 rfl ?_
        refine V_goto (t := 52) C dX7_efficiencyBits_37 (by decide) ?_
        refine V_sub (L' := []) [] rfl ?_
        exact hJ52 _ _ hf
    · replace hf := (ite_s hf).2 c9
      refine V_iconst (v := 0) (q := 21) C dX7_efficiencyBits_20 rfl ic_0 ?_
      obtain ⟨e1, e2⟩ := pr_s hf
      subst e1; subst e2
      exact V_iret C F (by decide) (by decide) dX7_efficiencyBits_21
  refine V_if_ne (t := 13) (q := 9) C dX7_efficiencyBits_6 (by decide) rfl (fun c26 => ?_) (fun c26 => ?_)
  · replace hf := (ite_s hf).2 c26
    refine V_iconst (v := 0) (q := 14) C dX7_efficiencyBits_13 rfl ic_0 ?_
    exact hJ14 _ _ hf
  · replace hf := (ite_s hf).1 c26
    refine V_iconst (v := 1) (q := 10) C dX7_efficiencyBits_9 rfl ic_1 ?_
    refine V_goto (t := 14) C dX7_efficiencyBits_10 (by decide) ?_
    exact hJ14 _ _ hf
def rmX7_errorPosition : Room := { frames := 0, cells := 0, slots := 0, locals := 0 }
def fX7_errorPosition  (σ : Sg) : Option (Int32 × Sg) := lt' (sup σ 0 0 (0 : Int32)) (fun (σ1 : Sg) => some ((σ1 0 9), σ1))
set_option maxHeartbeats 4000000 in
theorem conX7_errorPosition (l : Launch) (G : Gx) (ad : Nat → Nat)  (σ : Sg) (r : Int32) (σf : Sg)  (hf : fX7_errorPosition  σ = some (r, σf)) : Con wM l G ad yX7_errorPosition (Cond.code yX7_errorPosition cX7_errorPosition 1 (some .int)) rmX7_errorPosition 0 0 [.ref (ad 0)] σ (some (.int r)) σf := by
  refine Con.start (by decide) (Nat.le_of_ble_eq_true rfl) (fun X Q _ C F => ?_)
  refine V_eq (L' := [(0, .ref (ad 0))]) (st' := []) rfl rfl rfl ?_
  unfold fX7_errorPosition at hf
  refine V_aload_n (q := 1) C dX7_errorPosition_0 rfl rfl 0 rfl ?_
  refine V_iconst (v := 0) (q := 2) C dX7_errorPosition_1 rfl ic_0 ?_
  refine PM_0_0 (q := 5) C q_1182 dX7_errorPosition_2 rfl ?_
  refine V_lets hf (fun σ1 hf => ?_)
  refine V_aload_n (q := 6) C dX7_errorPosition_5 rfl rfl 0 rfl ?_
  refine GM_0_9 (q := 9) C q_1191 dX7_errorPosition_6 rfl ?_
  obtain ⟨e1, e2⟩ := pr_s hf
  subst e1; subst e2
  exact V_iret C F (by decide) (by decide) dX7_errorPosition_9
def rmX7_event : Room := { frames := 1, cells := 0, slots := 0, locals := 22 }
def fX7_event (a : Int32) (σ : Sg) : Option (Int32 × Sg) := bd (fX7_isKnown  σ) (fun (r1 : Int32) (σ2 : Sg) => jp (fun (v4 : Int32) (σ5 : Sg) => bd (fX7_fails (1 : Int32) v4 σ5) (fun (r6 : Int32) (σ7 : Sg) => if r6 = 0 then (gd (inb ((214 : Int32) + (σ7 1 3)) 2764) (jp (fun (v11 : Int32) (σ12 : Sg) => bd (fX7_fails (2 : Int32) v11 σ12) (fun (r13 : Int32) (σ14 : Sg) => if r13 = 0 then (gd (inb ((100 : Int32) + a) 2764) (some ((σ14 1 (((100 : Int32) + a).toNatClampNeg)), σ14))) else (some ((0 : Int32), σ14)))) (fun (J52 : Int32 → Sg → Option (Int32 × Sg)) => if (pX7_isBetween a (0 : Int32) ((σ7 1 (((214 : Int32) + (σ7 1 3)).toNatClampNeg)) - (1 : Int32))) = 0 then (J52 (1 : Int32) σ7) else (J52 (0 : Int32) σ7)))) else (some ((0 : Int32), σ7)))) (fun (J14 : Int32 → Sg → Option (Int32 × Sg)) => if r1 = 0 then (J14 (1 : Int32) σ2) else (J14 (0 : Int32) σ2)))
set_option maxHeartbeats 4000000 in
theorem conX7_event (l : Launch) (G : Gx) (ad : Nat → Nat) (a : Int32) (σ : Sg) (r : Int32) (σf : Sg)  (hf : fX7_event a σ = some (r, σf)) : Con wM l G ad yX7_event (Cond.code yX7_event cX7_event 2 (some .int)) rmX7_event 0 0 [.ref (ad 0), .int a] σ (some (.int r)) σf := by
  refine Con.start (by decide) (Nat.le_of_ble_eq_true rfl) (fun X Q _ C F => ?_)
  refine V_eq (L' := [(0, .ref (ad 0)), (1, .int a)]) (st' := []) rfl rfl rfl ?_
  unfold fX7_event at hf
  refine V_aload_n (q := 1) C dX7_event_0 rfl rfl 0 rfl ?_
  refine V_iconst (v := 1) (q := 2) C dX7_event_1 rfl ic_1 ?_
  refine V_aload_n (q := 3) C dX7_event_2 rfl rfl 0 rfl ?_
  obtain ⟨r1, σ2, h3, hf⟩ := bd_s hf
  refine V_callV (av := []) (st := [.int (1 : Int32), .ref (ad 0)]) (st1 := [.int r1, .int (1 : Int32), .ref (ad 0)]) (q := 6) C 0 (by decide) (eM_0 G ad _) rfl rfl (conX7_isKnown _ _ _  _ _ _ h3) q_1255 q_114 q_1252 q_1254 q_65 nmX7_isKnown (by decide) rfl rfl (Nat.le_of_ble_eq_true rfl) dX7_event_3 rfl rfl ?_
  obtain ⟨J14, eJ14, hf⟩ := jp_s hf
  have hJ14 : ∀ (v4 : Int32) (σ5 : Sg), J14 v4 σ5 = some (r, σf) → V wM X G ad 2 Q 0 0 σ5 14 [(0, .ref (ad 0)), (1, .int a)] [.int v4, .int (1 : Int32), .ref (ad 0)] := by
    intro v4 σ5 hf
    subst eJ14
    obtain ⟨r6, σ7, h8, hf⟩ := bd_s hf
    refine V_callV (av := [.int (1 : Int32), .int v4]) (st := []) (st1 := [.int r6]) (q := 17) C 0 (by decide) (eM_0 G ad _) rfl rfl (conX7_fails _ _ _ _ _ _ _ _ h8) q_1251 q_114 q_1248 q_1250 q_64 nmX7_fails (by decide) rfl rfl (Nat.le_of_ble_eq_true rfl) dX7_event_14 rfl rfl ?_
    refine V_if_ne (t := 58) (q := 20) C dX7_event_17 (by decide) rfl (fun c9 => ?_) (fun c9 => ?_)
    · replace hf := (ite_s hf).2 c9
      refine V_iconst (v := 0) (q := 59) C dX7_event_58 rfl ic_0 ?_
      obtain ⟨e1, e2⟩ := pr_s hf
      subst e1; subst e2
      exact V_iret C F (by decide) (by decide) dX7_event_59
    · replace hf := (ite_s hf).1 c9
      refine V_aload_n (q := 21) C dX7_event_20 rfl rfl 0 rfl ?_
      refine V_iconst (v := 2) (q := 22) C dX7_event_21 rfl ic_2 ?_
      refine V_iload_n (q := 23) C dX7_event_22 rfl rfl 1 rfl ?_
      refine V_iconst (v := 0) (q := 24) C dX7_event_23 rfl ic_0 ?_
      refine V_aload_n (q := 25) C dX7_event_24 rfl rfl 0 rfl ?_
      refine GM_0_1 (q := 28) C q_1183 dX7_event_25 rfl ?_
      refine V_sipush (v := 214) (q := 31) C dX7_event_28 rfl sc_214 ?_
      refine V_aload_n (q := 32) C dX7_event_31 rfl rfl 0 rfl ?_
      refine GM_0_1 (q := 35) C q_1183 dX7_event_32 rfl ?_
      refine V_iconst (v := 3) (q := 36) C dX7_event_35 rfl ic_3 ?_
      refine RM_1 (z := 3) (q := 37) C tn_3 (inb_in (by decide)) dX7_event_36 rfl ?_
      refine V_iadd (q := 38) C dX7_event_37 rfl ?_
      obtain ⟨g10, hf⟩ := gd_s hf
      refine RM_1 (z := ((214 : Int32) + (σ7 1 3)).toNatClampNeg) (q := 39) C rfl (inb_in g10) dX7_event_38 rfl ?_
      refine V_iconst (v := 1) (q := 40) C dX7_event_39 rfl ic_1 ?_
      refine V_isub (q := 41) C dX7_event_40 rfl ?_
      refine V_callS (av := [.int a, .int (0 : Int32), .int ((σ7 1 (((214 : Int32) + (σ7 1 3)).toNatClampNeg)) - (1 : Int32))]) (st := [.int (2 : Int32), .ref (ad 0)]) (st1 := [.int (pX7_isBetween a (0 : Int32) ((σ7 1 (((214 : Int32) + (σ7 1 3)).toNatClampNeg)) - (1 : Int32))), .int (2 : Int32), .ref (ad 0)]) (q := 44) C (conX7_isBetween _ _ _ _ _ _ _ _ rfl) q_1247 q_114 q_1245 q_1246 nmX7_isBetween (by decide) rfl rfl (Nat.le_of_ble_eq_true rfl) dX7_event_41 rfl rfl ?_
      obtain ⟨J52, eJ52, hf⟩ := jp_s hf
      have hJ52 : ∀ (v11 : Int32) (σ12 : Sg), J52 v11 σ12 = some (r, σf) → V wM X G ad 2 Q 0 0 σ12 52 [(0, .ref (ad 0)), (1, .int a)] [.int v11, .int (2 : Int32), .ref (ad 0)] := by
        intro v11 σ12 hf
        subst eJ52
        obtain ⟨r13, σ14, h15, hf⟩ := bd_s hf
        refine V_callV (av := [.int (2 : Int32), .int v11]) (st := []) (st1 := [.int r13]) (q := 55) C 0 (by decide) (eM_0 G ad _) rfl rfl (conX7_fails _ _ _ _ _ _ _ _ h15) q_1251 q_114 q_1248 q_1250 q_64 nmX7_fails (by decide) rfl rfl (Nat.le_of_ble_eq_true rfl) dX7_event_52 rfl rfl ?_
        refine V_if_eq (t := 60) (q := 58) C dX7_event_55 (by decide) rfl (fun c16 => ?_) (fun c16 => ?_)
        · replace hf := (ite_s hf).1 c16
          refine V_aload_n (q := 61) C dX7_event_60 rfl rfl 0 rfl ?_
          refine GM_0_1 (q := 64) C q_1183 dX7_event_61 rfl ?_
          refine V_bipush (v := 100) (q := 66) C dX7_event_64 rfl bc_100 ?_
          refine V_iload_n (q := 67) C dX7_event_66 rfl rfl 1 rfl ?_
          refine V_iadd (q := 68) C dX7_event_67 rfl ?_
          obtain ⟨g17, hf⟩ := gd_s hf
          refine RM_1 (z := ((100 : Int32) + a).toNatClampNeg) (q := 69) C rfl (inb_in g17) dX7_event_68 rfl ?_
          obtain ⟨e1, e2⟩ := pr_s hf
          subst e1; subst e2
          exact V_iret C F (by decide) (by decide) dX7_event_69
        · replace hf := (ite_s hf).2 c16
          refine V_iconst (v := 0) (q := 59) C dX7_event_58 rfl ic_0 ?_
          obtain ⟨e1, e2⟩ := pr_s hf
          subst e1; subst e2
          exact V_iret C F (by decide) (by decide) dX7_event_59
      refine V_if_ne (t := 51) (q := 47) C dX7_event_44 (by decide) rfl (fun c18 => ?_) (fun c18 => ?_)
      · replace hf := (ite_s hf).2 c18
        refine V_iconst (v := 0) (q := 52) C dX7_event_51 rfl ic_0 ?_
        exact hJ52 _ _ hf
      · replace hf := (ite_s hf).1 c18
        refine V_iconst (v := 1) (q := 48) C dX7_event_47 rfl ic_1 ?_
        refine V_goto (t := 52) C dX7_event_48 (by decide) ?_
        exact hJ52 _ _ hf
  refine V_if_ne (t := 13) (q := 9) C dX7_event_6 (by decide) rfl (fun c19 => ?_) (fun c19 => ?_)
  · replace hf := (ite_s hf).2 c19
    refine V_iconst (v := 0) (q := 14) C dX7_event_13 rfl ic_0 ?_
    exact hJ14 _ _ hf
  · replace hf := (ite_s hf).1 c19
    refine V_iconst (v := 1) (q := 10) C dX7_event_9 rfl ic_1 ?_
    refine V_goto (t := 14) C dX7_event_10 (by decide) ?_
    exact hJ14 _ _ hf
def rmX7_frozenBy : Room := { frames := 2, cells := 0, slots := 0, locals := 43 }
def fX7_frozenBy (a : Int32) (σ : Sg) : Option (Int32 × Sg) := bd (fX7_isStation a σ) (fun (r1 : Int32) (σ2 : Sg) => jp (fun (v4 : Int32) (σ5 : Sg) => bd (fX7_fails (1 : Int32) v4 σ5) (fun (r6 : Int32) (σ7 : Sg) => if r6 = 0 then (bd (fX7_isKnown  σ7) (fun (r10 : Int32) (σ11 : Sg) => jp (fun (v13 : Int32) (σ14 : Sg) => bd (fX7_fails (2 : Int32) v13 σ14) (fun (r15 : Int32) (σ16 : Sg) => if r15 = 0 then (bd (fX7_stateOf a σ16) (fun (r19 : Int32) (σ20 : Sg) => jp (fun (v22 : Int32) (σ23 : Sg) => bd (fX7_fails (3 : Int32) v22 σ23) (fun (r24 : Int32) (σ25 : Sg) => if r24 = 0 then (gd (inb ((88 : Int32) + a) 2764) (some ((σ25 1 (((88 : Int32) + a).toNatClampNeg)), σ25))) else (some ((0 : Int32), σ25)))) (fun (J69 : Int32 → Sg → Option (Int32 × Sg)) => jp (fun (σ29 : Sg) => J69 (1 : Int32) σ29) (fun (J64 : Sg → Option (Int32 × Sg)) => if r19 = (2 : Int32) then (gd (inb ((88 : Int32) + a) 2764) (if 0 ≤ (σ20 1 (((88 : Int32) + a).toNatClampNeg)) then (J69 (0 : Int32) σ20) else (J64  σ20))) else (J64  σ20))))) else (some ((0 : Int32), σ16)))) (fun (J35 : Int32 → Sg → Option (Int32 × Sg)) => if r10 = 0 then (J35 (1 : Int32) σ11) else (J35 (0 : Int32) σ11)))) else (some ((0 : Int32), σ7)))) (fun (J15 : Int32 → Sg → Option (Int32 × Sg)) => if r1 = 0 then (J15 (1 : Int32) σ2) else (J15 (0 : Int32) σ2)))
set_option maxHeartbeats 4000000 in
theorem conX7_frozenBy (l : Launch) (G : Gx) (ad : Nat → Nat) (a : Int32) (σ : Sg) (r : Int32) (σf : Sg)  (hf : fX7_frozenBy a σ = some (r, σf)) : Con wM l G ad yX7_frozenBy (Cond.code yX7_frozenBy cX7_frozenBy 2 (some .int)) rmX7_frozenBy 0 0 [.ref (ad 0), .int a] σ (some (.int r)) σf := by
  refine Con.start (by decide) (Nat.le_of_ble_eq_true rfl) (fun X Q _ C F => ?_)
  refine V_eq (L' := [(0, .ref (ad 0)), (1, .int a)]) (st' := []) rfl rfl rfl ?_
  unfold fX7_frozenBy at hf
  refine V_aload_n (q := 1) C dX7_frozenBy_0 rfl rfl 0 rfl ?_
  refine V_iconst (v := 1) (q := 2) C dX7_frozenBy_1 rfl ic_1 ?_
  refine V_aload_n (q := 3) C dX7_frozenBy_2 rfl rfl 0 rfl ?_
  refine V_iload_n (q := 4) C dX7_frozenBy_3 rfl rfl 1 rfl ?_
  obtain ⟨r1, σ2, h3, hf⟩ := bd_s hf
  refine V_callV (av := [.int a]) (st := [.int (1 : Int32), .ref (ad 0)]) (st1 := [.int r1, .int (1 : Int32), .ref (ad 0)]) (q := 7) C 0 (by decide) (eM_0 G ad _) rfl rfl (conX7_isStation _ _ _ _ _ _ _ h3) q_1267 q_114 q_1264 q_1266 q_66 nmX7_isStation (by decide) rfl rfl (Nat.le_of_ble_eq_true rfl) dX7_frozenBy_4 rfl rfl ?_
  obtain ⟨J15, eJ15, hf⟩ := jp_s hf
  have hJ15 : ∀ (v4 : Int32) (σ5 : Sg), J15 v4 σ5 = some (r, σf) → V wM X G ad 2 Q 0 0 σ5 15 [(0, .ref (ad 0)), (1, .int a)] [.int v4, .int (1 : Int32), .ref (ad 0)] := by
    intro v4 σ5 hf
    subst eJ15
    obtain ⟨r6, σ7, h8, hf⟩ := bd_s hf
    refine V_callV (av := [.int (1 : Int32), .int v4]) (st := []) (st1 := [.int r6]) (q := 18) C 0 (by decide) (eM_0 G ad _) rfl rfl (conX7_fails _ _ _ _ _ _ _ _ h8) q_1251 q_114 q_1248 q_1250 q_64 nmX7_fails (by decide) rfl rfl (Nat.le_of_ble_eq_true rfl) dX7_frozenBy_15 rfl rfl ?_
    refine V_if_ne (t := 75) (q := 21) C dX7_frozenBy_18 (by decide) rfl (fun c9 => ?_) (fun c9 => ?_)
    · replace hf := (ite_s hf).2 c9
      refine V_iconst (v := 0) (q := 76) C dX7_frozenBy_75 rfl ic_0 ?_
      obtain ⟨e1, e2⟩ := pr_s hf
      subst e1; subst e2
      exact V_iret C F (by decide) (by decide) dX7_frozenBy_76
    · replace hf := (ite_s hf).1 c9
      refine V_aload_n (q := 22) C dX7_frozenBy_21 rfl rfl 0 rfl ?_
      refine V_iconst (v := 2) (q := 23) C dX7_frozenBy_22 rfl ic_2 ?_
      refine V_aload_n (q := 24) C dX7_frozenBy_23 rfl rfl 0 rfl ?_
      obtain ⟨r10, σ11, h12, hf⟩ := bd_s hf
      refine V_callV (av := []) (st := [.int (2 : Int32), .ref (ad 0)]) (st1 := [.int r10, .int (2 : Int32), .ref (ad 0)]) (q := 27) C 0 (by decide) (eM_0 G ad _) rfl rfl (conX7_isKnown _ _ _  _ _ _ h12) q_1255 q_114 q_1252 q_1254 q_65 nmX7_isKnown (by decide) rfl rfl (Nat.le_of_ble_eq_true rfl) dX7_frozenBy_24 rfl rfl ?_
      obtain ⟨J35, eJ35, hf⟩ := jp_s hf
      have hJ35 : ∀ (v13 : Int32) (σ14 : Sg), J35 v13 σ14 = some (r, σf) → V wM X G ad 2 Q 0 0 σ14 35 [(0, .ref (ad 0)), (1, .int a)] [.int v13, .int (2 : Int32), .ref (ad 0)] := by
        intro v13 σ14 hf
        subst eJ35
        obtain ⟨r15, σ16, h17, hf⟩ := bd_s hf
        refine V_callV (av := [.int (2 : Int32), .int v13]) (st := []) (st1 := [.int r15]) (q := 38) C 0 (by decide) (eM_0 G ad _) rfl rfl (conX7_fails _ _ _ _ _ _ _ _ h17) q_1251 q_114 q_1248 q_1250 q_64 nmX7_fails (by decide) rfl rfl (Nat.le_of_ble_eq_true rfl) dX7_frozenBy_35 rfl rfl ?_
        refine V_if_ne (t := 75) (q := 41) C dX7_frozenBy_38 (by decide) rfl (fun c18 => ?_) (fun c18 => ?_)
        · replace hf := (ite_s hf).2 c18
          refine V_iconst (v := 0) (q := 76) C dX7_frozenBy_75 rfl ic_0 ?_
          obtain ⟨e1, e2⟩ := pr_s hf
          subst e1; subst e2
          exact V_iret C F (by decide) (by decide) dX7_frozenBy_76
        · replace hf := (ite_s hf).1 c18
          refine V_aload_n (q := 42) C dX7_frozenBy_41 rfl rfl 0 rfl ?_
          refine V_iconst (v := 3) (q := 43) C dX7_frozenBy_42 rfl ic_3 ?_
          refine V_aload_n (q := 44) C dX7_frozenBy_43 rfl rfl 0 rfl ?_
          refine V_iload_n (q := 45) C dX7_frozenBy_44 rfl rfl 1 rfl ?_
          obtain ⟨r19, σ20, h21, hf⟩ := bd_s hf
          refine V_callV (av := [.int a]) (st := [.int (3 : Int32), .ref (ad 0)]) (st1 := [.int r19, .int (3 : Int32), .ref (ad 0)]) (q := 48) C 0 (by decide) (eM_0 G ad _) rfl rfl (conX7_stateOf _ _ _ _ _ _ _ h21) q_1460 q_114 q_1457 q_1459 q_93 nmX7_stateOf (by decide) rfl rfl (Nat.le_of_ble_eq_true rfl) dX7_frozenBy_45 rfl rfl ?_
          refine V_iconst (v := 2) (q := 49) C dX7_frozenBy_48 rfl ic_2 ?_
          obtain ⟨J69, eJ69, hf⟩ := jp_s hf
          have hJ69 : ∀ (v22 : Int32) (σ23 : Sg), J69 v22 σ23 = some (r, σf) → V wM X G ad 2 Q 0 0 σ23 69 [(0, .ref (ad 0)), (1, .int a)] [.int v22, .int (3 : Int32), .ref (ad 0)] := by
            intro v22 σ23 hf
            subst eJ69
            obtain ⟨r24, σ25, h26, hf⟩ := bd_s hf
            refine V_callV (av := [.int (3 : Int32), .int v22]) (st := []) (st1 := [.int r24]) (q := 72) C 0 (by decide) (eM_0 G ad _) rfl rfl (conX7_fails _ _ _ _ _ _ _ _ h26) q_1251 q_114 q_1248 q_1250 q_64 nmX7_fails (by decide) rfl rfl (Nat.le_of_ble_eq_true rfl) dX7_frozenBy_69 rfl rfl ?_
            refine V_if_eq (t := 77) (q := 75) C dX7_frozenBy_72 (by decide) rfl (fun c27 => ?_) (fun c27 => ?_)
            · replace hf := (ite_s hf).1 c27
              refine V_aload_n (q := 78) C dX7_frozenBy_77 rfl rfl 0 rfl ?_
              refine GM_0_1 (q := 81) C q_1183 dX7_frozenBy_78 rfl ?_
              refine V_bipush (v := 88) (q := 83) C dX7_frozenBy_81 rfl bc_88 ?_
              refine V_iload_n (q := 84) C dX7_frozenBy_83 rfl rfl 1 rfl ?_
              refine V_iadd (q := 85) C dX7_frozenBy_84 rfl ?_
              obtain ⟨g28, hf⟩ := gd_s hf
              refine RM_1 (z := ((88 : Int32) + a).toNatClampNeg) (q := 86) C rfl (inb_in g28) dX7_frozenBy_85 rfl ?_
              obtain ⟨e1, e2⟩ := pr_s hf
              subst e1; subst e2
              exact V_iret C F (by decide) (by decide) dX7_frozenBy_86
            · replace hf := (ite_s hf).2 c27
              refine V_iconst (v := 0) (q := 76) C dX7_frozenBy_75 rfl ic_0 ?_
              obtain ⟨e1, e2⟩ := pr_s hf
              subst e1; subst e2
              exact V_iret C F (by decide) (by decide) dX7_frozenBy_76
          obtain ⟨J64, eJ64, hf⟩ := jp_s hf
          have hJ64 : ∀ (σ29 : Sg), J64 σ29 = some (r, σf) → V wM X G ad 2 Q 0 0 σ29 64 [(0, .ref (ad 0)), (1, .int a)] [.int (3 : Int32), .ref (ad 0)] := by
            intro σ29 hf
            subst eJ64
            refine V_iconst (v := 1) (q := 65) C dX7_frozenBy_64 rfl ic_1 ?_
            refine V_goto (t := 69) C dX7_frozenBy_65 (by decide) ?_
            exact hJ69 _ _ hf
          refine V_icmp_ne (t := 64) (q := 52) C dX7_frozenBy_49 (by decide) rfl (fun c30 => ?_) (fun c30 => ?_)
          · replace hf := (ite_s hf).2 c30
            exact hJ64 _ hf
          · replace hf := (ite_s hf).1 c30
            refine V_aload_n (q := 53) C dX7_frozenBy_52 rfl rfl 0 rfl ?_
            refine GM_0_1 (q := 56) C q_1183 dX7_frozenBy_53 rfl ?_
            refine V_bipush (v := 88) (q := 58) C dX7_frozenBy_56 rfl bc_88 ?_
            refine V_iload_n (q := 59) C dX7_frozenBy_58 rfl rfl 1 rfl ?_
            refine V_iadd (q := 60) C dX7_frozenBy_59 rfl ?_
            obtain ⟨g31, hf⟩ := gd_s hf
            refine RM_1 (z := ((88 : Int32) + a).toNatClampNeg) (q := 61) C rfl (inb_in g31) dX7_frozenBy_60 rfl ?_
            refine V_if_ge (t := 68) (q := 64) C dX7_frozenBy_61 (by decide) rfl (fun c32 => ?_) (fun c32 => ?_)
            · replace hf := (ite_s hf).1 c32
              refine V_iconst (v := 0) (q := 69) C dX7_frozenBy_68 rfl ic_0 ?_
              exact hJ69 _ _ hf
            · replace hf := (ite_s hf).2 c32
              exact hJ64 _ hf
      refine V_if_ne (t := 34) (q := 30) C dX7_frozenBy_27 (by decide) rfl (fun c33 => ?_) (fun c33 => ?_)
      · replace hf := (ite_s hf).2 c33
        refine V_iconst (v := 0) (q := 35) C dX7_frozenBy_34 rfl ic_0 ?_
        exact hJ35 _ _ hf
      · replace hf := (ite_s hf).1 c33
        refine V_iconst (v := 1) (q := 31) C dX7_frozenBy_30 rfl ic_1 ?_
        refine V_goto (t := 35) C dX7_frozenBy_31 (by decide) ?_
        exact hJ35 _ _ hf
  refine V_if_ne (t := 14) (q := 10) C dX7_frozenBy_7 (by decide) rfl (fun c34 => ?_) (fun c34 => ?_)
  · replace hf := (ite_s hf).2 c34
    refine V_iconst (v := 0) (q := 15) C dX7_frozenBy_14 rfl ic_0 ?_
    exact hJ15 _ _ hf
  · replace hf := (ite_s hf).1 c34
    refine V_iconst (v := 1) (q := 11) C dX7_frozenBy_10 rfl ic_1 ?_
    refine V_goto (t := 15) C dX7_frozenBy_11 (by decide) ?_
    exact hJ15 _ _ hf
def rmX7_goOn : Room := { frames := 23, cells := 0, slots := 0, locals := 600 }
def fX7_goOn_22 (x1 : Int32) (x3 : Int32) (K : Sg → Option (Unit × Sg)) : Nat → Int32 → Sg → Option (Unit × Sg)
  | 0, _, _ => none
  | n + 1, x4, σ5 => if (12 : Int32) ≤ x4 then (K σ5) else (gd (inb (((316 : Int32) + (x1 * (12 : Int32))) + x4) 2764) (gd (inb (((316 : Int32) + ((x1 + (1 : Int32)) * (12 : Int32))) + x4) 2764) (lt' (sup σ5 1 ((((316 : Int32) + ((x1 + (1 : Int32)) * (12 : Int32))) + x4).toNatClampNeg) (σ5 1 ((((316 : Int32) + (x1 * (12 : Int32))) + x4).toNatClampNeg))) (fun (σ9 : Sg) => gd (inb (((1540 : Int32) + (x1 * (12 : Int32))) + x4) 2764) (gd (inb (((1540 : Int32) + ((x1 + (1 : Int32)) * (12 : Int32))) + x4) 2764) (lt' (sup σ9 1 ((((1540 : Int32) + ((x1 + (1 : Int32)) * (12 : Int32))) + x4).toNatClampNeg) (σ9 1 ((((1540 : Int32) + (x1 * (12 : Int32))) + x4).toNatClampNeg))) (fun (σ12 : Sg) => fX7_goOn_22 x1 x3 K n (x4 + (1 : Int32)) σ12)))))))
def fX7_goOn (a : Int32) (σ : Sg) : Option (Unit × Sg) := lt' ((σ 1 3)) (fun (x1 : Int32) => gd (inb ((112 : Int32) + x1) 2764) (lt' (((σ 1 (((112 : Int32) + x1).toNatClampNeg)) - a)) (fun (x3 : Int32) => fX7_goOn_22 x1 x3 (fun (σ13 : Sg) => gd (inb ((214 : Int32) + x1) 2764) (gd (inb (((214 : Int32) + x1) + (1 : Int32)) 2764) (lt' (sup σ13 1 ((((214 : Int32) + x1) + (1 : Int32)).toNatClampNeg) (σ13 1 (((214 : Int32) + x1).toNatClampNeg))) (fun (σ16 : Sg) => jp (fun (v17 : Int32) (σ18 : Sg) => gd (inb (((112 : Int32) + x1) + (1 : Int32)) 2764) (lt' (sup σ18 1 ((((112 : Int32) + x1) + (1 : Int32)).toNatClampNeg) v17) (fun (σ20 : Sg) => lt' (sup σ20 1 3 ((σ20 1 3) + (1 : Int32))) (fun (σ21 : Sg) => bd (fX7_considerAll  σ21) (fun (_ : Unit) (σ22 : Sg) => some ((), σ22)))))) (fun (J144 : Int32 → Sg → Option (Unit × Sg)) => if 0 ≤ x3 then (J144 x3 σ16) else (J144 (0 : Int32) σ16)))))) FU (0 : Int32) σ)))
set_option maxHeartbeats 4000000 in
theorem wlX7_goOn_22 {X : Cx} {G : Gx} {ad : Nat → Nat} {Q : State → Prop} {σf : Sg} (C : OK wM X G ad RX7 cX7_goOn 5 rmX7_goOn) (F : FinR wM X G ad Q 0 0 none none σf) (x1 : Int32) (x3 : Int32) (K : Sg → Option (Unit × Sg)) (hK : ∀ (σk : Sg), K σk = some ((), σf) → V wM X G ad 5 Q 0 0 σk 103 [(0, .ref (ad 0)), (2, .int x1), (3, .int x3)] []) : ∀ (n : Nat) (x4 : Int32) (σ5 : Sg), fX7_goOn_22 x1 x3 K n x4 σ5 = some ((), σf) → V wM X G ad 5 Q 0 0 σ5 22 [(0, .ref (ad 0)), (2, .int x1), (3, .int x3), (4, .int x4)] [] := by
  intro n
  induction n with
  | zero =>
    intro _ _ hf
    exact absurd hf (by simp [fX7_goOn_22])
  | succ n ih =>
    intro x4 σ5 hf
    rw [fX7_goOn_22] at hf
    refine V_iload (q := 24) C dX7_goOn_22 rfl 3 rfl ?_
    refine V_bipush (v := 12) (q := 26) C dX7_goOn_24 rfl bc_12 ?_
    refine V_icmp_ge (t := 103) (q := 29) C dX7_goOn_26 (by decide) rfl (fun c6 => ?_) (fun c6 => ?_)
    · replace hf := (ite_s hf).1 c6
      refine V_sub (L' := [(0, .ref (ad 0)), (2, .int x1), (3, .int x3)]) [0, 1, 2] rfl ?_
      exact hK _ hf
    · replace hf := (ite_s hf).2 c6
      refine V_aload_n (q := 30) C dX7_goOn_29 rfl rfl 0 rfl ?_
      refine GM_0_1 (q := 33) C q_1183 dX7_goOn_30 rfl ?_
      refine V_sipush (v := 316) (q := 36) C dX7_goOn_33 rfl sc_316 ?_
      refine V_iload_n (q := 37) C dX7_goOn_36 rfl rfl 1 rfl ?_
      refine V_iconst (v := 1) (q := 38) C dX7_goOn_37 rfl ic_1 ?_
      refine V_iadd (q := 39) C dX7_goOn_38 rfl ?_
      refine V_bipush (v := 12) (q := 41) C dX7_goOn_39 rfl bc_12 ?_
      refine V_imul (q := 42) C dX7_goOn_41 rfl ?_
      refine V_iadd (q := 43) C dX7_goOn_42 rfl ?_
      refine V_iload (q := 45) C dX7_goOn_43 rfl 3 rfl ?_
      refine V_iadd (q := 46) C dX7_goOn_45 rfl ?_
      refine V_aload_n (q := 47) C dX7_goOn_46 rfl rfl 0 rfl ?_
      refine GM_0_1 (q := 50) C q_1183 dX7_goOn_47 rfl ?_
      refine V_sipush (v := 316) (q := 53) C dX7_goOn_50 rfl sc_316 ?_
      refine V_iload_n (q := 54) C dX7_goOn_53 rfl rfl 1 rfl ?_
      refine V_bipush (v := 12) (q := 56) C dX7_goOn_54 rfl bc_12 ?_
      refine V_imul (q := 57) C dX7_goOn_56 rfl ?_
      refine V_iadd (q := 58) C dX7_goOn_57 rfl ?_
      refine V_iload (q := 60) C dX7_goOn_58 rfl 3 rfl ?_
      refine V_iadd (q := 61) C dX7_goOn_60 rfl ?_
      obtain ⟨g7, hf⟩ := gd_s hf
      refine RM_1 (z := (((316 : Int32) + (x1 * (12 : Int32))) + x4).toNatClampNeg) (q := 62) C rfl (inb_in g7) dX7_goOn_61 rfl ?_
      obtain ⟨g8, hf⟩ := gd_s hf
      refine SM_1 (z := (((316 : Int32) + ((x1 + (1 : Int32)) * (12 : Int32))) + x4).toNatClampNeg) (q := 63) C rfl (inb_in g8) dX7_goOn_62 rfl ?_
      refine V_lets hf (fun σ9 hf => ?_)
      refine V_aload_n (q := 64) C dX7_goOn_63 rfl rfl 0 rfl ?_
      refine GM_0_1 (q := 67) C q_1183 dX7_goOn_64 rfl ?_
      refine V_sipush (v := 1540) (q := 70) C dX7_goOn_67 rfl sc_1540 ?_
      refine V_iload_n (q := 71) C dX7_goOn_70 rfl rfl 1 rfl ?_
      refine V_iconst (v := 1) (q := 72) C dX7_goOn_71 rfl ic_1 ?_
      refine V_iadd (q := 73) C dX7_goOn_72 rfl ?_
      refine V_bipush (v := 12) (q := 75) C dX7_goOn_73 rfl bc_12 ?_
      refine V_imul (q := 76) C dX7_goOn_75 rfl ?_
      refine V_iadd (q := 77) C dX7_goOn_76 rfl ?_
      refine V_iload (q := 79) C dX7_goOn_77 rfl 3 rfl ?_
      refine V_iadd (q := 80) C dX7_goOn_79 rfl ?_
      refine V_aload_n (q := 81) C dX7_goOn_80 rfl rfl 0 rfl ?_
      refine GM_0_1 (q := 84) C q_1183 dX7_goOn_81 rfl ?_
      refine V_sipush (v := 1540) (q := 87) C dX7_goOn_84 rfl sc_1540 ?_
      refine V_iload_n (q := 88) C dX7_goOn_87 rfl rfl 1 rfl ?_
      refine V_bipush (v := 12) (q := 90) C dX7_goOn_88 rfl bc_12 ?_
      refine V_imul (q := 91) C dX7_goOn_90 rfl ?_
      refine V_iadd (q := 92) C dX7_goOn_91 rfl ?_
      refine V_iload (q := 94) C dX7_goOn_92 rfl 3 rfl ?_
      refine V_iadd (q := 95) C dX7_goOn_94 rfl ?_
      obtain ⟨g10, hf⟩ := gd_s hf
      refine RM_1 (z := (((1540 : Int32) + (x1 * (12 : Int32))) + x4).toNatClampNeg) (q := 96) C rfl (inb_in g10) dX7_goOn_95 rfl ?_
      obtain ⟨g11, hf⟩ := gd_s hf
      refine SM_1 (z := (((1540 : Int32) + ((x1 + (1 : Int32)) * (12 : Int32))) + x4).toNatClampNeg) (q := 97) C rfl (inb_in g11) dX7_goOn_96 rfl ?_
      refine V_lets hf (fun σ12 hf => ?_)
      refine V_iinc (L' := [(4, .int (x4 + (1 : Int32))), (0, .ref (ad 0)), (2, .int x1), (3, .int x3)]) (q := 100) C dX7_goOn_97 rfl 3 rfl (congrArg (fun y => x4 + y) ic_1) (by decide) rfl ?_
      refine V_goto (t := 22) C dX7_goOn_100 (by decide) ?_
      refine V_sub (L' := [(0, .ref (ad 0)), (2, .int x1), (3, .int x3), (4, .int (x4 + (1 : Int32)))]) [1, 2, 3, 0] rfl ?_
      exact ih _ _ hf
set_option maxHeartbeats 4000000 in
theorem conX7_goOn (l : Launch) (G : Gx) (ad : Nat → Nat) (a : Int32) (σ : Sg) (σf : Sg)  (hf : fX7_goOn a σ = some ((), σf)) : Con wM l G ad yX7_goOn (Cond.code yX7_goOn cX7_goOn 5 none) rmX7_goOn 0 0 [.ref (ad 0), .int a] σ none σf := by
  refine Con.start (by decide) (Nat.le_of_ble_eq_true rfl) (fun X Q _ C F => ?_)
  refine V_eq (L' := [(0, .ref (ad 0)), (1, .int a)]) (st' := []) rfl rfl rfl ?_
  unfold fX7_goOn at hf
  refine V_aload_n (q := 1) C dX7_goOn_0 rfl rfl 0 rfl ?_
  refine GM_0_1 (q := 4) C q_1183 dX7_goOn_1 rfl ?_
  refine V_iconst (v := 3) (q := 5) C dX7_goOn_4 rfl ic_3 ?_
  refine RM_1 (z := 3) (q := 6) C tn_3 (inb_in (by decide)) dX7_goOn_5 rfl ?_
  refine V_let (cv := Value.int) hf (fun x1 hf => ?_)
  refine V_istore_n (L' := [(2, .int x1), (0, .ref (ad 0)), (1, .int a)]) (q := 7) C dX7_goOn_6 rfl rfl (by decide) rfl ?_
  refine V_aload_n (q := 8) C dX7_goOn_7 rfl rfl 1 rfl ?_
  refine GM_0_1 (q := 11) C q_1183 dX7_goOn_8 rfl ?_
  refine V_bipush (v := 112) (q := 13) C dX7_goOn_11 rfl bc_112 ?_
  refine V_iload_n (q := 14) C dX7_goOn_13 rfl rfl 0 rfl ?_
  refine V_iadd (q := 15) C dX7_goOn_14 rfl ?_
  obtain ⟨g2, hf⟩ := gd_s hf
  refine RM_1 (z := ((112 : Int32) + x1).toNatClampNeg) (q := 16) C rfl (inb_in g2) dX7_goOn_15 rfl ?_
  refine V_iload_n (q := 17) C dX7_goOn_16 rfl rfl 2 rfl ?_
  refine V_isub (q := 18) C dX7_goOn_17 rfl ?_
  refine V_let (cv := Value.int) hf (fun x3 hf => ?_)
  refine V_istore_n (L' := [(3, .int x3), (2, .int x1), (0, .ref (ad 0)), (1, .int a)]) (q := 19) C dX7_goOn_18 rfl rfl (by decide) rfl ?_
  refine V_iconst (v := 0) (q := 20) C dX7_goOn_19 rfl ic_0 ?_
  refine V_istore (L' := [(4, .int (0 : Int32)), (3, .int x3), (2, .int x1), (0, .ref (ad 0)), (1, .int a)]) (q := 22) C dX7_goOn_20 rfl (by decide) rfl ?_
  refine V_sub (L' := [(0, .ref (ad 0)), (2, .int x1), (3, .int x3), (4, .int (0 : Int32))]) [3, 2, 1, 0] rfl ?_
  refine wlX7_goOn_22 C F x1 x3 _ (fun σ13 hf => ?_) FU _ _ hf
  refine V_aload_n (q := 104) C dX7_goOn_103 rfl rfl 0 rfl ?_
  refine GM_0_1 (q := 107) C q_1183 dX7_goOn_104 rfl ?_
  refine V_sipush (v := 214) (q := 110) C dX7_goOn_107 rfl sc_214 ?_
  refine V_iload_n (q := 111) C dX7_goOn_110 rfl rfl 1 rfl ?_
  refine V_iadd (q := 112) C dX7_goOn_111 rfl ?_
  refine V_iconst (v := 1) (q := 113) C dX7_goOn_112 rfl ic_1 ?_
  refine V_iadd (q := 114) C dX7_goOn_113 rfl ?_
  refine V_aload_n (q := 115) C dX7_goOn_114 rfl rfl 0 rfl ?_
  refine GM_0_1 (q := 118) C q_1183 dX7_goOn_115 rfl ?_
  refine V_sipush (v := 214) (q := 121) C dX7_goOn_118 rfl sc_214 ?_
  refine V_iload_n (q := 122) C dX7_goOn_121 rfl rfl 1 rfl ?_
  refine V_iadd (q := 123) C dX7_goOn_122 rfl ?_
  obtain ⟨g14, hf⟩ := gd_s hf
  refine RM_1 (z := ((214 : Int32) + x1).toNatClampNeg) (q := 124) C rfl (inb_in g14) dX7_goOn_123 rfl ?_
  obtain ⟨g15, hf⟩ := gd_s hf
  refine SM_1 (z := (((214 : Int32) + x1) + (1 : Int32)).toNatClampNeg) (q := 125) C rfl (inb_in g15) dX7_goOn_124 rfl ?_
  refine V_lets hf (fun σ16 hf => ?_)
  refine V_aload_n (q := 126) C dX7_goOn_125 rfl rfl 0 rfl ?_
  refine GM_0_1 (q := 129) C q_1183 dX7_goOn_126 rfl ?_
  refine V_bipush (v := 112) (q := 131) C dX7_goOn_129 rfl bc_112 ?_
  refine V_iload_n (q := 132) C dX7_goOn_131 rfl rfl 1 rfl ?_
  refine V_iadd (q := 133) C dX7_goOn_132 rfl ?_
  refine V_iconst (v := 1) (q := 134) C dX7_goOn_133 rfl ic_1 ?_
  refine V_iadd (q := 135) C dX7_goOn_134 rfl ?_
  refine V_iload_n (q := 136) C dX7_goOn_135 rfl rfl 2 rfl ?_
  obtain ⟨J144, eJ144, hf⟩ := jp_s hf
  have hJ144 : ∀ (v17 : Int32) (σ18 : Sg), J144 v17 σ18 = some ((), σf) → V wM X G ad 5 Q 0 0 σ18 144 [(0, .ref (ad 0))] [.int v17, .int (((112 : Int32) + x1) + (1 : Int32)), .ref (ad 1)] := by
    intro v17 σ18 hf
    subst eJ144
    obtain ⟨g19, hf⟩ := gd_s hf
    refine SM_1 (z := (((112 : Int32) + x1) + (1 : Int32)).toNatClampNeg) (q := 145) C rfl (inb_in g19) dX7_goOn_144 rfl ?_
    refine V_lets hf (fun σ20 hf => ?_)
    refine V_aload_n (q := 146) C dX7_goOn_145 rfl rfl 0 rfl ?_
    refine GM_0_1 (q := 149) C q_1183 dX7_goOn_146 rfl ?_
    refine V_iconst (v := 3) (q := 150) C dX7_goOn_149 rfl ic_3 ?_
    refine V_dup2 (q := 151) C dX7_goOn_150 rfl rfl rfl ?_
    refine RM_1 (z := 3) (q := 152) C tn_3 (inb_in (by decide)) dX7_goOn_151 rfl ?_
    refine V_iconst (v := 1) (q := 153) C dX7_goOn_152 rfl ic_1 ?_
    refine V_iadd (q := 154) C dX7_goOn_153 rfl ?_
    refine SM_1 (z := 3) (q := 155) C tn_3 (inb_in (by decide)) dX7_goOn_154 rfl ?_
    refine V_lets hf (fun σ21 hf => ?_)
    refine V_aload_n (q := 156) C dX7_goOn_155 rfl rfl 0 rfl ?_
    obtain ⟨_u, σ22, h23, hf⟩ := bd_s hf
    refine V_callV (av := []) (st := []) (st1 := []) (q := 159) C 0 (by decide) (eM_0 G ad _) rfl rfl (conX7_considerAll _ _ _  _ _ h23) q_1452 q_114 q_1449 q_1451 q_91 nmX7_considerAll (by decide) rfl rfl (Nat.le_of_ble_eq_true rfl) dX7_goOn_156 rfl rfl ?_
    obtain ⟨-, e2⟩ := pr_s hf
    subst e2
    exact V_vret C F (by decide) (by decide) dX7_goOn_159
  refine V_if_ge (t := 143) (q := 139) C dX7_goOn_136 (by decide) rfl (fun c24 => ?_) (fun c24 => ?_)
  · replace hf := (ite_s hf).1 c24
    refine V_iload_n (q := 144) C dX7_goOn_143 rfl rfl 2 rfl ?_
    refine V_sub (L' := [(0, .ref (ad 0))]) [0] rfl ?_
    exact hJ144 _ _ hf
  · replace hf := (ite_s hf).2 c24
    refine V_iconst (v := 0) (q := 140) C dX7_goOn_139 rfl ic_0 ?_
    refine V_goto (t := 144) C dX7_goOn_140 (by decide) ?_
    refine V_sub (L' := [(0, .ref (ad 0))]) [0] rfl ?_
    exact hJ144 _ _ hf
def rmX7_hasConflict : Room := { frames := 2, cells := 0, slots := 0, locals := 43 }
def fX7_hasConflict (a : Int32) (b : Int32) (c : Int32) (σ : Sg) : Option (Int32 × Sg) := bd (fX7_isStation a σ) (fun (r1 : Int32) (σ2 : Sg) => jp (fun (v4 : Int32) (σ5 : Sg) => bd (fX7_fails (1 : Int32) v4 σ5) (fun (r6 : Int32) (σ7 : Sg) => if r6 = 0 then (jp (fun (v10 : Int32) (σ11 : Sg) => bd (fX7_fails (2 : Int32) v10 σ11) (fun (r12 : Int32) (σ13 : Sg) => if r12 = 0 then (jp (fun (v16 : Int32) (σ17 : Sg) => gd (inb (v16 + a) 2764) (gd (b01 (pX7_has (σ17 1 ((v16 + a).toNatClampNeg)) b)) (some ((pX7_has (σ17 1 ((v16 + a).toNatClampNeg)) b), σ17)))) (fun (J68 : Int32 → Sg → Option (Int32 × Sg)) => if c = 0 then (J68 (64 : Int32) σ13) else (J68 (76 : Int32) σ13))) else (some ((0 : Int32), σ13)))) (fun (J45 : Int32 → Sg → Option (Int32 × Sg)) => if (pX7_isBetween c (0 : Int32) (1 : Int32)) = 0 then (J45 (1 : Int32) σ7) else (J45 (0 : Int32) σ7))) else (some ((0 : Int32), σ7)))) (fun (J23 : Int32 → Sg → Option (Int32 × Sg)) => jp (fun (σ22 : Sg) => J23 (1 : Int32) σ22) (fun (J18 : Sg → Option (Int32 × Sg)) => if r1 = 0 then (J18  σ2) else (bd (fX7_isStation b σ2) (fun (r24 : Int32) (σ25 : Sg) => if r24 = 0 then (J18  σ25) else (J23 (0 : Int32) σ25))))))
set_option maxHeartbeats 4000000 in
theorem conX7_hasConflict (l : Launch) (G : Gx) (ad : Nat → Nat) (a : Int32) (b : Int32) (c : Int32) (σ : Sg) (r : Int32) (σf : Sg)  (hf : fX7_hasConflict a b c σ = some (r, σf)) : Con wM l G ad yX7_hasConflict (Cond.code yX7_hasConflict cX7_hasConflict 4 (some .boolean)) rmX7_hasConflict 0 0 [.ref (ad 0), .int a, .int b, .int c] σ (some (.int r)) σf := by
  refine Con.start (by decide) (Nat.le_of_ble_eq_true rfl) (fun X Q _ C F => ?_)
  refine V_eq (L' := [(0, .ref (ad 0)), (1, .int a), (2, .int b), (3, .int c)]) (st' := []) rfl rfl rfl ?_
  unfold fX7_hasConflict at hf
  refine V_aload_n (q := 1) C dX7_hasConflict_0 rfl rfl 0 rfl ?_
  refine V_iconst (v := 1) (q := 2) C dX7_hasConflict_1 rfl ic_1 ?_
  refine V_aload_n (q := 3) C dX7_hasConflict_2 rfl rfl 0 rfl ?_
  refine V_iload_n (q := 4) C dX7_hasConflict_3 rfl rfl 1 rfl ?_
  obtain ⟨r1, σ2, h3, hf⟩ := bd_s hf
  refine V_callV (av := [.int a]) (st := [.int (1 : Int32), .ref (ad 0)]) (st1 := [.int r1, .int (1 : Int32), .ref (ad 0)]) (q := 7) C 0 (by decide) (eM_0 G ad _) rfl rfl (conX7_isStation _ _ _ _ _ _ _ h3) q_1267 q_114 q_1264 q_1266 q_66 nmX7_isStation (by decide) rfl rfl (Nat.le_of_ble_eq_true rfl) dX7_hasConflict_4 rfl rfl ?_
  obtain ⟨J23, eJ23, hf⟩ := jp_s hf
  have hJ23 : ∀ (v4 : Int32) (σ5 : Sg), J23 v4 σ5 = some (r, σf) → V wM X G ad 4 Q 0 0 σ5 23 [(0, .ref (ad 0)), (1, .int a), (2, .int b), (3, .int c)] [.int v4, .int (1 : Int32), .ref (ad 0)] := by
    intro v4 σ5 hf
    subst eJ23
    obtain ⟨r6, σ7, h8, hf⟩ := bd_s hf
    refine V_callV (av := [.int (1 : Int32), .int v4]) (st := []) (st1 := [.int r6]) (q := 26) C 0 (by decide) (eM_0 G ad _) rfl rfl (conX7_fails _ _ _ _ _ _ _ _ h8) q_1251 q_114 q_1248 q_1250 q_64 nmX7_fails (by decide) rfl rfl (Nat.le_of_ble_eq_true rfl) dX7_hasConflict_23 rfl rfl ?_
    refine V_if_ne (t := 51) (q := 29) C dX7_hasConflict_26 (by decide) rfl (fun c9 => ?_) (fun c9 => ?_)
    · replace hf := (ite_s hf).2 c9
      refine V_iconst (v := 0) (q := 52) C dX7_hasConflict_51 rfl ic_0 ?_
      obtain ⟨e1, e2⟩ := pr_s hf
      subst e1; subst e2
      exact V_zret C F (by decide) (by decide) (by decide) dX7_hasConflict_52
    · replace hf := (ite_s hf).1 c9
      refine V_aload_n (q := 30) C dX7_hasConflict_29 rfl rfl 0 rfl ?_
      refine V_iconst (v := 2) (q := 31) C dX7_hasConflict_30 rfl ic_2 ?_
      refine V_iload_n (q := 32) C dX7_hasConflict_31 rfl rfl 3 rfl ?_
      refine V_iconst (v := 0) (q := 33) C dX7_hasConflict_32 rfl ic_0 ?_
      refine V_iconst (v := 1) (q := 34) C dX7_hasConflict_33 rfl ic_1 ?_
      refine V_callS (av := [.int c, .int (0 : Int32), .int (1 : Int32)]) (st := [.int (2 : Int32), .ref (ad 0)]) (st1 := [.int (pX7_isBetween c (0 : Int32) (1 : Int32)), .int (2 : Int32), .ref (ad 0)]) (q := 37) C (conX7_isBetween _ _ _ _ _ _ _ _ rfl) q_1247 q_114 q_1245 q_1246 nmX7_isBetween (by decide) rfl rfl (Nat.le_of_ble_eq_true rfl) dX7_hasConflict_34 rfl rfl ?_
      obtain ⟨J45, eJ45, hf⟩ := jp_s hf
      have hJ45 : ∀ (v10 : Int32) (σ11 : Sg), J45 v10 σ11 = some (r, σf) → V wM X G ad 4 Q 0 0 σ11 45 [(0, .ref (ad 0)), (1, .int a), (2, .int b), (3, .int c)] [.int v10, .int (2 : Int32), .ref (ad 0)] := by
        intro v10 σ11 hf
        subst eJ45
        obtain ⟨r12, σ13, h14, hf⟩ := bd_s hf
        refine V_callV (av := [.int (2 : Int32), .int v10]) (st := []) (st1 := [.int r12]) (q := 48) C 0 (by decide) (eM_0 G ad _) rfl rfl (conX7_fails _ _ _ _ _ _ _ _ h14) q_1251 q_114 q_1248 q_1250 q_64 nmX7_fails (by decide) rfl rfl (Nat.le_of_ble_eq_true rfl) dX7_hasConflict_45 rfl rfl ?_
        refine V_if_eq (t := 53) (q := 51) C dX7_hasConflict_48 (by decide) rfl (fun c15 => ?_) (fun c15 => ?_)
        · replace hf := (ite_s hf).1 c15
          refine V_aload_n (q := 54) C dX7_hasConflict_53 rfl rfl 0 rfl ?_
          refine GM_0_1 (q := 57) C q_1183 dX7_hasConflict_54 rfl ?_
          refine V_iload_n (q := 58) C dX7_hasConflict_57 rfl rfl 3 rfl ?_
          obtain ⟨J68, eJ68, hf⟩ := jp_s hf
          have hJ68 : ∀ (v16 : Int32) (σ17 : Sg), J68 v16 σ17 = some (r, σf) → V wM X G ad 4 Q 0 0 σ17 68 [(1, .int a), (2, .int b)] [.int v16, .ref (ad 1)] := by
            intro v16 σ17 hf
            subst eJ68
            refine V_iload_n (q := 69) C dX7_hasConflict_68 rfl rfl 0 rfl ?_
            refine V_iadd (q := 70) C dX7_hasConflict_69 rfl ?_
            obtain ⟨g18, hf⟩ := gd_s hf
            refine RM_1 (z := (v16 + a).toNatClampNeg) (q := 71) C rfl (inb_in g18) dX7_hasConflict_70 rfl ?_
            refine V_iload_n (q := 72) C dX7_hasConflict_71 rfl rfl 1 rfl ?_
            refine V_callS (av := [.int (σ17 1 ((v16 + a).toNatClampNeg)), .int b]) (st := []) (st1 := [.int (pX7_has (σ17 1 ((v16 + a).toNatClampNeg)) b)]) (q := 75) C (conX7_has _ _ _ _ _ _ _ rfl) q_1314 q_114 q_1312 q_1313 nmX7_has (by decide) rfl rfl (Nat.le_of_ble_eq_true rfl) dX7_hasConflict_72 rfl rfl ?_
            obtain ⟨g19, hf⟩ := gd_s hf
            obtain ⟨e1, e2⟩ := pr_s hf
            subst e1; subst e2
            exact V_zret C F (b01_s g19) (by decide) (by decide) dX7_hasConflict_75
          refine V_if_ne (t := 66) (q := 61) C dX7_hasConflict_58 (by decide) rfl (fun c20 => ?_) (fun c20 => ?_)
          · replace hf := (ite_s hf).2 c20
            refine V_bipush (v := 76) (q := 68) C dX7_hasConflict_66 rfl bc_76 ?_
            refine V_sub (L' := [(1, .int a), (2, .int b)]) [1, 2] rfl ?_
            exact hJ68 _ _ hf
          · replace hf := (ite_s hf).1 c20
            refine V_bipush (v := 64) (q := 63) C dX7_hasConflict_61 rfl bc_64 ?_
            refine V_goto (t := 68) C dX7_hasConflict_63 (by decide) ?_
            refine V_sub (L' := [(1, .int a), (2, .int b)]) [1, 2] rfl ?_
            exact hJ68 _ _ hf
        · replace hf := (ite_s hf).2 c15
          refine V_iconst (v := 0) (q := 52) C dX7_hasConflict_51 rfl ic_0 ?_
          obtain ⟨e1, e2⟩ := pr_s hf
          subst e1; subst e2
          exact V_zret C F (by decide) (by decide) (by decide) dX7_hasConflict_52
      refine V_if_ne (t := 44) (q := 40) C dX7_hasConflict_37 (by decide) rfl (fun c21 => ?_) (fun c21 => ?_)
      · replace hf := (ite_s hf).2 c21
        refine V_iconst (v := 0) (q := 45) C dX7_hasConflict_44 rfl ic_0 ?_
        exact hJ45 _ _ hf
      · replace hf := (ite_s hf).1 c21
        refine V_iconst (v := 1) (q := 41) C dX7_hasConflict_40 rfl ic_1 ?_
        refine V_goto (t := 45) C dX7_hasConflict_41 (by decide) ?_
        exact hJ45 _ _ hf
  obtain ⟨J18, eJ18, hf⟩ := jp_s hf
  have hJ18 : ∀ (σ22 : Sg), J18 σ22 = some (r, σf) → V wM X G ad 4 Q 0 0 σ22 18 [(0, .ref (ad 0)), (1, .int a), (2, .int b), (3, .int c)] [.int (1 : Int32), .ref (ad 0)] := by
    intro σ22 hf
    subst eJ18
    refine V_iconst (v := 1) (q := 19) C dX7_hasConflict_18 rfl ic_1 ?_
    refine V_goto (t := 23) C dX7_hasConflict_19 (by decide) ?_
    exact hJ23 _ _ hf
  refine V_if_eq (t := 18) (q := 10) C dX7_hasConflict_7 (by decide) rfl (fun c23 => ?_) (fun c23 => ?_)
  · replace hf := (ite_s hf).1 c23
    exact hJ18 _ hf
  · replace hf := (ite_s hf).2 c23
    refine V_aload_n (q := 11) C dX7_hasConflict_10 rfl rfl 0 rfl ?_
    refine V_iload_n (q := 12) C dX7_hasConflict_11 rfl rfl 2 rfl ?_
    obtain ⟨r24, σ25, h26, hf⟩ := bd_s hf
    refine V_callV (av := [.int b]) (st := [.int (1 : Int32), .ref (ad 0)]) (st1 := [.int r24, .int (1 : Int32), .ref (ad 0)]) (q := 15) C 0 (by decide) (eM_0 G ad _) rfl rfl (conX7_isStation _ _ _ _ _ _ _ h26) q_1267 q_114 q_1264 q_1266 q_66 nmX7_isStation (by decide) rfl rfl (Nat.le_of_ble_eq_true rfl) dX7_hasConflict_12 rfl rfl ?_
    refine V_if_ne (t := 22) (q := 18) C dX7_hasConflict_15 (by decide) rfl (fun c27 => ?_) (fun c27 => ?_)
    · replace hf := (ite_s hf).2 c27
      refine V_iconst (v := 0) (q := 23) C dX7_hasConflict_22 rfl ic_0 ?_
      exact hJ23 _ _ hf
    · replace hf := (ite_s hf).1 c27
      exact hJ18 _ hf
def rmX7_isDecrement : Room := { frames := 1, cells := 0, slots := 0, locals := 22 }
def pX7_isDecrement (a : Int32) : Int32 := (pX7_isBetween a (10 : Int32) (1000 : Int32))
set_option maxHeartbeats 4000000 in
theorem conX7_isDecrement {T : Type} {w : Wd T} (l : Launch) (G : Gx) (ad : Nat → Nat) (a : Int32) (τ : T) (r : Int32) (hf : pX7_isDecrement a = r) : Con w l G ad yX7_isDecrement (Cond.code yX7_isDecrement cX7_isDecrement 1 (some .boolean)) rmX7_isDecrement 0 0 [.int a] τ (some (.int r)) τ := by
  refine Con.start (by decide) (Nat.le_of_ble_eq_true rfl) (fun X Q _ C F => ?_)
  refine V_eq (L' := [(0, .int a)]) (st' := []) rfl rfl rfl ?_
  unfold pX7_isDecrement at hf
  refine V_iload_n (q := 1) C dX7_isDecrement_0 rfl rfl 0 rfl ?_
  refine V_bipush (v := 10) (q := 3) C dX7_isDecrement_1 rfl bc_10 ?_
  refine V_sipush (v := 1000) (q := 6) C dX7_isDecrement_3 rfl sc_1000 ?_
  refine V_callS (av := [.int a, .int (10 : Int32), .int (1000 : Int32)]) (st := []) (st1 := [.int (pX7_isBetween a (10 : Int32) (1000 : Int32))]) (q := 9) C (conX7_isBetween _ _ _ _ _ _ _ _ rfl) q_1247 q_114 q_1245 q_1246 nmX7_isBetween (by decide) rfl rfl (Nat.le_of_ble_eq_true rfl) dX7_isDecrement_6 rfl rfl ?_
  subst hf
  exact V_zret C F (pX7_isBetween_b _ _ _) (Nat.le_refl 0) (Nat.le_refl 0) dX7_isDecrement_9
theorem pX7_isDecrement_b (a : Int32) : pX7_isDecrement a = 0 ∨ pX7_isDecrement a = 1 := by
  unfold pX7_isDecrement
  try simp only [jp]
  repeat' split
  all_goals first | exact Or.inl rfl | exact Or.inr rfl | exact pX6_contains_b _ _ | exact pX7_isBetween_b _ _ _ | exact pX7_isChannels_b _ | exact pX7_has_b _ _ | exact pJxf58ca_isNaN_12338_b _
def rmX7_isFeasible : Room := { frames := 20, cells := 0, slots := 0, locals := 531 }
def fX7_isFeasible (a : Int32) (σ : Sg) : Option (Int32 × Sg) := bd (fX7_areStations a σ) (fun (r1 : Int32) (σ2 : Sg) => jp (fun (v4 : Int32) (σ5 : Sg) => bd (fX7_fails (1 : Int32) v4 σ5) (fun (r6 : Int32) (σ7 : Sg) => jp (fun (σ9 : Sg) => some ((0 : Int32), σ9)) (fun (J33 : Sg → Option (Int32 × Sg)) => if r6 = 0 then (bd (fX7_isPossible a σ7) (fun (r11 : Int32) (σ12 : Sg) => if r11 = 0 then (J33  σ12) else (some ((1 : Int32), σ12)))) else (J33  σ7)))) (fun (J15 : Int32 → Sg → Option (Int32 × Sg)) => if r1 = 0 then (J15 (1 : Int32) σ2) else (J15 (0 : Int32) σ2)))
set_option maxHeartbeats 4000000 in
theorem conX7_isFeasible (l : Launch) (G : Gx) (ad : Nat → Nat) (a : Int32) (σ : Sg) (r : Int32) (σf : Sg)  (hf : fX7_isFeasible a σ = some (r, σf)) : Con wM l G ad yX7_isFeasible (Cond.code yX7_isFeasible cX7_isFeasible 2 (some .boolean)) rmX7_isFeasible 0 0 [.ref (ad 0), .int a] σ (some (.int r)) σf := by
  refine Con.start (by decide) (Nat.le_of_ble_eq_true rfl) (fun X Q _ C F => ?_)
  refine V_eq (L' := [(0, .ref (ad 0)), (1, .int a)]) (st' := []) rfl rfl rfl ?_
  unfold fX7_isFeasible at hf
  refine V_aload_n (q := 1) C dX7_isFeasible_0 rfl rfl 0 rfl ?_
  refine V_iconst (v := 1) (q := 2) C dX7_isFeasible_1 rfl ic_1 ?_
  refine V_aload_n (q := 3) C dX7_isFeasible_2 rfl rfl 0 rfl ?_
  refine V_iload_n (q := 4) C dX7_isFeasible_3 rfl rfl 1 rfl ?_
  obtain ⟨r1, σ2, h3, hf⟩ := bd_s hf
  refine V_callV (av := [.int a]) (st := [.int (1 : Int32), .ref (ad 0)]) (st1 := [.int r1, .int (1 : Int32), .ref (ad 0)]) (q := 7) C 0 (by decide) (eM_0 G ad _) rfl rfl (conX7_areStations _ _ _ _ _ _ _ h3) q_1376 q_114 q_1373 q_1375 q_78 nmX7_areStations (by decide) rfl rfl (Nat.le_of_ble_eq_true rfl) dX7_isFeasible_4 rfl rfl ?_
  obtain ⟨J15, eJ15, hf⟩ := jp_s hf
  have hJ15 : ∀ (v4 : Int32) (σ5 : Sg), J15 v4 σ5 = some (r, σf) → V wM X G ad 2 Q 0 0 σ5 15 [(0, .ref (ad 0)), (1, .int a)] [.int v4, .int (1 : Int32), .ref (ad 0)] := by
    intro v4 σ5 hf
    subst eJ15
    obtain ⟨r6, σ7, h8, hf⟩ := bd_s hf
    refine V_callV (av := [.int (1 : Int32), .int v4]) (st := []) (st1 := [.int r6]) (q := 18) C 0 (by decide) (eM_0 G ad _) rfl rfl (conX7_fails _ _ _ _ _ _ _ _ h8) q_1251 q_114 q_1248 q_1250 q_64 nmX7_fails (by decide) rfl rfl (Nat.le_of_ble_eq_true rfl) dX7_isFeasible_15 rfl rfl ?_
    obtain ⟨J33, eJ33, hf⟩ := jp_s hf
    have hJ33 : ∀ (σ9 : Sg), J33 σ9 = some (r, σf) → V wM X G ad 2 Q 0 0 σ9 33 [] [] := by
      intro σ9 hf
      subst eJ33
      refine V_iconst (v := 0) (q := 34) C dX7_isFeasible_33 rfl ic_0 ?_
      obtain ⟨e1, e2⟩ := pr_s hf
      subst e1; subst e2
      exact V_zret C F (by decide) (by decide) (by decide) dX7_isFeasible_34
    refine V_if_ne (t := 33) (q := 21) C dX7_isFeasible_18 (by decide) rfl (fun c10 => ?_) (fun c10 => ?_)
    · replace hf := (ite_s hf).2 c10
      refine V_sub (L' := []) [] rfl ?_
      exact hJ33 _ hf
    · replace hf := (ite_s hf).1 c10
      refine V_aload_n (q := 22) C dX7_isFeasible_21 rfl rfl 0 rfl ?_
      refine V_iload_n (q := 23) C dX7_isFeasible_22 rfl rfl 1 rfl ?_
      obtain ⟨r11, σ12, h13, hf⟩ := bd_s hf
      refine V_callV (av := [.int a]) (st := []) (st1 := [.int r11]) (q := 26) C 0 (by decide) (eM_0 G ad _) rfl rfl (conX7_isPossible _ _ _ _ _ _ _ h13) q_1380 q_114 q_1377 q_1379 q_79 nmX7_isPossible (by decide) rfl rfl (Nat.le_of_ble_eq_true rfl) dX7_isFeasible_23 rfl rfl ?_
      refine V_if_eq (t := 33) (q := 29) C dX7_isFeasible_26 (by decide) rfl (fun c14 => ?_) (fun c14 => ?_)
      · replace hf := (ite_s hf).1 c14
        refine V_sub (L' := []) [] rfl ?_
        exact hJ33 _ hf
      · replace hf := (ite_s hf).2 c14
        refine V_iconst (v := 1) (q := 30) C dX7_isFeasible_29 rfl ic_1 ?_
        refine V_goto (t := 34) C dX7_isFeasible_30 (by decide) ?_
        obtain ⟨e1, e2⟩ := pr_s hf
        subst e1; subst e2
        exact V_zret C F (by decide) (by decide) (by decide) dX7_isFeasible_34
  refine V_if_ne (t := 14) (q := 10) C dX7_isFeasible_7 (by decide) rfl (fun c15 => ?_) (fun c15 => ?_)
  · replace hf := (ite_s hf).2 c15
    refine V_iconst (v := 0) (q := 15) C dX7_isFeasible_14 rfl ic_0 ?_
    exact hJ15 _ _ hf
  · replace hf := (ite_s hf).1 c15
    refine V_iconst (v := 1) (q := 11) C dX7_isFeasible_10 rfl ic_1 ?_
    refine V_goto (t := 15) C dX7_isFeasible_11 (by decide) ?_
    exact hJ15 _ _ hf
def rmX7_leastLoss : Room := { frames := 21, cells := 0, slots := 0, locals := 555 }
def fX7_leastLoss  (σ : Sg) : Option (Int32 × Sg) := bd (fX7_outside  σ) (fun (r1 : Int32) (σ2 : Sg) => bd (fX7_isPossible r1 σ2) (fun (r4 : Int32) (σ5 : Sg) => jp (fun (v7 : Int32) (σ8 : Sg) => bd (fX7_fails (1 : Int32) v7 σ8) (fun (r9 : Int32) (σ10 : Sg) => if r9 = 0 then (bd (fX7_findBest  σ10) (fun (r13 : Int32) (σ14 : Sg) => bd (fX7_lossOf r13 σ14) (fun (r16 : Int32) (σ17 : Sg) => some (r16, σ17)))) else (some ((0 : Int32), σ10)))) (fun (J18 : Int32 → Sg → Option (Int32 × Sg)) => if r4 = 0 then (J18 (1 : Int32) σ5) else (J18 (0 : Int32) σ5))))
set_option maxHeartbeats 4000000 in
theorem conX7_leastLoss (l : Launch) (G : Gx) (ad : Nat → Nat)  (σ : Sg) (r : Int32) (σf : Sg)  (hf : fX7_leastLoss  σ = some (r, σf)) : Con wM l G ad yX7_leastLoss (Cond.code yX7_leastLoss cX7_leastLoss 1 (some .int)) rmX7_leastLoss 0 0 [.ref (ad 0)] σ (some (.int r)) σf := by
  refine Con.start (by decide) (Nat.le_of_ble_eq_true rfl) (fun X Q _ C F => ?_)
  refine V_eq (L' := [(0, .ref (ad 0))]) (st' := []) rfl rfl rfl ?_
  unfold fX7_leastLoss at hf
  refine V_aload_n (q := 1) C dX7_leastLoss_0 rfl rfl 0 rfl ?_
  refine V_iconst (v := 1) (q := 2) C dX7_leastLoss_1 rfl ic_1 ?_
  refine V_aload_n (q := 3) C dX7_leastLoss_2 rfl rfl 0 rfl ?_
  refine V_aload_n (q := 4) C dX7_leastLoss_3 rfl rfl 0 rfl ?_
  obtain ⟨r1, σ2, h3, hf⟩ := bd_s hf
  refine V_callV (av := []) (st := [.ref (ad 0), .int (1 : Int32), .ref (ad 0)]) (st1 := [.int r1, .ref (ad 0), .int (1 : Int32), .ref (ad 0)]) (q := 7) C 0 (by decide) (eM_0 G ad _) rfl rfl (conX7_outside _ _ _  _ _ _ h3) q_1444 q_114 q_1441 q_1443 q_89 nmX7_outside (by decide) rfl rfl (Nat.le_of_ble_eq_true rfl) dX7_leastLoss_4 rfl rfl ?_
  obtain ⟨r4, σ5, h6, hf⟩ := bd_s hf
  refine V_callV (av := [.int r1]) (st := [.int (1 : Int32), .ref (ad 0)]) (st1 := [.int r4, .int (1 : Int32), .ref (ad 0)]) (q := 10) C 0 (by decide) (eM_0 G ad _) rfl rfl (conX7_isPossible _ _ _ _ _ _ _ h6) q_1380 q_114 q_1377 q_1379 q_79 nmX7_isPossible (by decide) rfl rfl (Nat.le_of_ble_eq_true rfl) dX7_leastLoss_7 rfl rfl ?_
  obtain ⟨J18, eJ18, hf⟩ := jp_s hf
  have hJ18 : ∀ (v7 : Int32) (σ8 : Sg), J18 v7 σ8 = some (r, σf) → V wM X G ad 1 Q 0 0 σ8 18 [(0, .ref (ad 0))] [.int v7, .int (1 : Int32), .ref (ad 0)] := by
    intro v7 σ8 hf
    subst eJ18
    obtain ⟨r9, σ10, h11, hf⟩ := bd_s hf
    refine V_callV (av := [.int (1 : Int32), .int v7]) (st := []) (st1 := [.int r9]) (q := 21) C 0 (by decide) (eM_0 G ad _) rfl rfl (conX7_fails _ _ _ _ _ _ _ _ h11) q_1251 q_114 q_1248 q_1250 q_64 nmX7_fails (by decide) rfl rfl (Nat.le_of_ble_eq_true rfl) dX7_leastLoss_18 rfl rfl ?_
    refine V_if_eq (t := 28) (q := 24) C dX7_leastLoss_21 (by decide) rfl (fun c12 => ?_) (fun c12 => ?_)
    · replace hf := (ite_s hf).1 c12
      refine V_aload_n (q := 29) C dX7_leastLoss_28 rfl rfl 0 rfl ?_
      refine V_aload_n (q := 30) C dX7_leastLoss_29 rfl rfl 0 rfl ?_
      obtain ⟨r13, σ14, h15, hf⟩ := bd_s hf
      refine V_callV (av := []) (st := [.ref (ad 0)]) (st1 := [.int r13, .ref (ad 0)]) (q := 33) C 0 (by decide) (eM_0 G ad _) rfl rfl (conX7_findBest _ _ _  _ _ _ h15) q_1547 q_114 q_1544 q_1546 q_102 nmX7_findBest (by decide) rfl rfl (Nat.le_of_ble_eq_true rfl) dX7_leastLoss_30 rfl rfl ?_
      obtain ⟨r16, σ17, h18, hf⟩ := bd_s hf
      refine V_callV (av := [.int r13]) (st := []) (st1 := [.int r16]) (q := 36) C 0 (by decide) (eM_0 G ad _) rfl rfl (conX7_lossOf _ _ _ _ _ _ _ h18) q_1555 q_114 q_1552 q_1554 q_103 nmX7_lossOf (by decide) rfl rfl (Nat.le_of_ble_eq_true rfl) dX7_leastLoss_33 rfl rfl ?_
      obtain ⟨e1, e2⟩ := pr_s hf
      subst e1; subst e2
      exact V_iret C F (by decide) (by decide) dX7_leastLoss_36
    · replace hf := (ite_s hf).2 c12
      refine V_iconst (v := 0) (q := 25) C dX7_leastLoss_24 rfl ic_0 ?_
      refine V_goto (t := 36) C dX7_leastLoss_25 (by decide) ?_
      obtain ⟨e1, e2⟩ := pr_s hf
      subst e1; subst e2
      exact V_iret C F (by decide) (by decide) dX7_leastLoss_36
  refine V_if_ne (t := 17) (q := 13) C dX7_leastLoss_10 (by decide) rfl (fun c19 => ?_) (fun c19 => ?_)
  · replace hf := (ite_s hf).2 c19
    refine V_iconst (v := 0) (q := 18) C dX7_leastLoss_17 rfl ic_0 ?_
    exact hJ18 _ _ hf
  · replace hf := (ite_s hf).1 c19
    refine V_iconst (v := 1) (q := 14) C dX7_leastLoss_13 rfl ic_1 ?_
    refine V_goto (t := 18) C dX7_leastLoss_14 (by decide) ?_
    exact hJ18 _ _ hf
def rmJxe99ae_isNaN_b9ae7 : Room := { frames := 0, cells := 0, slots := 0, locals := 0 }
def pJxe99ae_isNaN_b9ae7 (a : UInt64) : Int32 := if (Op.cmpValue (FP.dcmp a a) CmpOp.l) = 0 then ((0 : Int32)) else ((1 : Int32))
set_option maxHeartbeats 4000000 in
theorem conJxe99ae_isNaN_b9ae7 {T : Type} {w : Wd T} (l : Launch) (G : Gx) (ad : Nat → Nat) (a : UInt64) (τ : T) (r : Int32) (hf : pJxe99ae_isNaN_b9ae7 a = r) : Con w l G ad yJxe99ae_isNaN_b9ae7 (Cond.code yJxe99ae_isNaN_b9ae7 cJxe99ae_isNaN_b9ae7 2 (some .boolean)) rmJxe99ae_isNaN_b9ae7 0 0 [.double a] τ (some (.int r)) τ := by
  refine Con.startF (by decide +kernel) (Nat.le_of_ble_eq_true rfl) (fun X Q _ C F => ?_)
  refine V_eq (L' := [(0, .double a)]) (st' := []) rfl rfl rfl ?_
  unfold pJxe99ae_isNaN_b9ae7 at hf
  refine V_dload_n (q := 1) C dJxe99ae_isNaN_b9ae7_0 rfl rfl 0 rfl ?_
  refine V_dload_n (q := 2) C dJxe99ae_isNaN_b9ae7_1 rfl rfl 0 rfl ?_
  refine V_dcmp (q := 3) C dJxe99ae_isNaN_b9ae7_2 rfl ?_
  refine V_if_eq (t := 10) (q := 6) C dJxe99ae_isNaN_b9ae7_3 (by decide) rfl (fun c1 => ?_) (fun c1 => ?_)
  · replace hf := (ite_s hf).1 c1
    refine V_iconst (v := 0) (q := 11) C dJxe99ae_isNaN_b9ae7_10 rfl ic_0 ?_
    subst hf
    exact V_zret C F (by decide) (Nat.le_refl 0) (Nat.le_refl 0) dJxe99ae_isNaN_b9ae7_11
  · replace hf := (ite_s hf).2 c1
    refine V_iconst (v := 1) (q := 7) C dJxe99ae_isNaN_b9ae7_6 rfl ic_1 ?_
    refine V_goto (t := 11) C dJxe99ae_isNaN_b9ae7_7 (by decide) ?_
    subst hf
    exact V_zret C F (by decide) (Nat.le_refl 0) (Nat.le_refl 0) dJxe99ae_isNaN_b9ae7_11
theorem pJxe99ae_isNaN_b9ae7_b (a : UInt64) : pJxe99ae_isNaN_b9ae7 a = 0 ∨ pJxe99ae_isNaN_b9ae7 a = 1 := by
  unfold pJxe99ae_isNaN_b9ae7
  try simp only [jp]
  repeat' split
  all_goals first | exact Or.inl rfl | exact Or.inr rfl | exact pX6_contains_b _ _ | exact pX7_isBetween_b _ _ _ | exact pX7_isChannels_b _ | exact pX7_has_b _ _ | exact pJxf58ca_isNaN_12338_b _ | exact pX7_isDecrement_b _
def rmJxe99ae_doubleToLongBits_ccdee : Room := { frames := 1, cells := 0, slots := 0, locals := 48 }
def pJxe99ae_doubleToLongBits_ccdee (a : UInt64) : Int64 := if (pJxe99ae_isNaN_b9ae7 a) = 0 then (a.toInt64) else ((9221120237041090560 : Int64))
set_option maxHeartbeats 4000000 in
theorem conJxe99ae_doubleToLongBits_ccdee {T : Type} {w : Wd T} (l : Launch) (G : Gx) (ad : Nat → Nat) (a : UInt64) (τ : T) (r : Int64) (hf : pJxe99ae_doubleToLongBits_ccdee a = r) : Con w l G ad yJxe99ae_doubleToLongBits_ccdee (Cond.code yJxe99ae_doubleToLongBits_ccdee cJxe99ae_doubleToLongBits_ccdee 2 (some .long)) rmJxe99ae_doubleToLongBits_ccdee 0 0 [.double a] τ (some (.long r)) τ := by
  refine Con.startF (by decide +kernel) (Nat.le_of_ble_eq_true rfl) (fun X Q _ C F => ?_)
  refine V_eq (L' := [(0, .double a)]) (st' := []) rfl rfl rfl ?_
  unfold pJxe99ae_doubleToLongBits_ccdee at hf
  refine V_dload_n (q := 1) C dJxe99ae_doubleToLongBits_ccdee_0 rfl rfl 0 rfl ?_
  refine V_callS (av := [.double a]) (st := []) (st1 := [.int (pJxe99ae_isNaN_b9ae7 a)]) (q := 4) C (conJxe99ae_isNaN_b9ae7 _ _ _ _ _ _ rfl) q_1569 q_132 q_1567 q_1568 nmJxe99ae_isNaN_b9ae7 (by decide) rfl rfl (Nat.le_of_ble_eq_true rfl) dJxe99ae_doubleToLongBits_ccdee_1 rfl rfl ?_
  refine V_if_ne (t := 12) (q := 7) C dJxe99ae_doubleToLongBits_ccdee_4 (by decide) rfl (fun c1 => ?_) (fun c1 => ?_)
  · replace hf := (ite_s hf).2 c1
    refine V_ldc2 (q := 15) C q_1573 dJxe99ae_doubleToLongBits_ccdee_12 rfl ?_
    subst hf
    exact V_lret C F (Nat.le_refl 0) (Nat.le_refl 0) dJxe99ae_doubleToLongBits_ccdee_15
  · replace hf := (ite_s hf).1 c1
    refine V_dload_n (q := 8) C dJxe99ae_doubleToLongBits_ccdee_7 rfl rfl 0 rfl ?_
    refine V_d2b (q := 11) C q_1570 q_1572 q_1571 q_132 (by decide) (Nat.le_of_ble_eq_true rfl) dJxe99ae_doubleToLongBits_ccdee_8 rfl ?_
    subst hf
    exact V_lret C F (Nat.le_refl 0) (Nat.le_refl 0) dJxe99ae_doubleToLongBits_ccdee_11
def rmX7_meanPriceBits : Room := { frames := 2, cells := 0, slots := 0, locals := 69 }
def fX7_meanPriceBits  (σ : Sg) : Option (Int64 × Sg) := bd (fX7_isKnown  σ) (fun (r1 : Int32) (σ2 : Sg) => jp (fun (v4 : Int32) (σ5 : Sg) => bd (fX7_fails (1 : Int32) v4 σ5) (fun (r6 : Int32) (σ7 : Sg) => if r6 = 0 then (bd (fX7_in (2 : Int32) σ7) (fun (r10 : Int32) (σ11 : Sg) => jp (fun (v13 : Int32) (σ14 : Sg) => bd (fX7_fails (2 : Int32) v13 σ14) (fun (r15 : Int32) (σ16 : Sg) => if r15 = 0 then (bd (fX7_sumPrices  σ16) (fun (r19 : Int32) (σ20 : Sg) => bd (fX7_in (2 : Int32) σ20) (fun (r22 : Int32) (σ23 : Sg) => bd (fX7_countBits r22 σ23) (fun (r25 : Int32) (σ26 : Sg) => gd (n64 (FP.ddiv (FP.i2d r19) (FP.i2d r25))) (some ((pJxe99ae_doubleToLongBits_ccdee (FP.ddiv (FP.i2d r19) (FP.i2d r25))), σ26)))))) else (some ((0 : Int64), σ16)))) (fun (J35 : Int32 → Sg → Option (Int64 × Sg)) => if r10 = 0 then (J35 (1 : Int32) σ11) else (J35 (0 : Int32) σ11)))) else (some ((0 : Int64), σ7)))) (fun (J14 : Int32 → Sg → Option (Int64 × Sg)) => if r1 = 0 then (J14 (1 : Int32) σ2) else (J14 (0 : Int32) σ2)))
set_option maxHeartbeats 4000000 in
theorem conX7_meanPriceBits (l : Launch) (G : Gx) (ad : Nat → Nat)  (σ : Sg) (r : Int64) (σf : Sg)  (hf : fX7_meanPriceBits  σ = some (r, σf)) : Con wM l G ad yX7_meanPriceBits (Cond.code yX7_meanPriceBits cX7_meanPriceBits 1 (some .long)) rmX7_meanPriceBits 0 0 [.ref (ad 0)] σ (some (.long r)) σf := by
  refine Con.start (by decide) (Nat.le_of_ble_eq_true rfl) (fun X Q _ C F => ?_)
  refine V_eq (L' := [(0, .ref (ad 0))]) (st' := []) rfl rfl rfl ?_
  unfold fX7_meanPriceBits at hf
  refine V_aload_n (q := 1) C dX7_meanPriceBits_0 rfl rfl 0 rfl ?_
  refine V_iconst (v := 1) (q := 2) C dX7_meanPriceBits_1 rfl ic_1 ?_
  refine V_aload_n (q := 3) C dX7_meanPriceBits_2 rfl rfl 0 rfl ?_
  obtain ⟨r1, σ2, h3, hf⟩ := bd_s hf
  refine V_callV (av := []) (st := [.int (1 : Int32), .ref (ad 0)]) (st1 := [.int r1, .int (1 : Int32), .ref (ad 0)]) (q := 6) C 0 (by decide) (eM_0 G ad _) rfl rfl (conX7_isKnown _ _ _  _ _ _ h3) q_1255 q_114 q_1252 q_1254 q_65 nmX7_isKnown (by decide) rfl rfl (Nat.le_of_ble_eq_true rfl) dX7_meanPriceBits_3 rfl rfl ?_
  obtain ⟨J14, eJ14, hf⟩ := jp_s hf
  have hJ14 : ∀ (v4 : Int32) (σ5 : Sg), J14 v4 σ5 = some (r, σf) → V wM X G ad 1 Q 0 0 σ5 14 [(0, .ref (ad 0))] [.int v4, .int (1 : Int32), .ref (ad 0)] := by
    intro v4 σ5 hf
    subst eJ14
    obtain ⟨r6, σ7, h8, hf⟩ := bd_s hf
    refine V_callV (av := [.int (1 : Int32), .int v4]) (st := []) (st1 := [.int r6]) (q := 17) C 0 (by decide) (eM_0 G ad _) rfl rfl (conX7_fails _ _ _ _ _ _ _ _ h8) q_1251 q_114 q_1248 q_1250 q_64 nmX7_fails (by decide) rfl rfl (Nat.le_of_ble_eq_true rfl) dX7_meanPriceBits_14 rfl rfl ?_
    refine V_if_ne (t := 41) (q := 20) C dX7_meanPriceBits_17 (by decide) rfl (fun c9 => ?_) (fun c9 => ?_)
    · replace hf := (ite_s hf).2 c9
      refine V_lconst (v := 0) (q := 42) C dX7_meanPriceBits_41 rfl (by decide) ?_
      obtain ⟨e1, e2⟩ := pr_s hf
      subst e1; subst e2
      exact V_lret C F (by decide) (by decide) dX7_meanPriceBits_42
    · replace hf := (ite_s hf).1 c9
      refine V_aload_n (q := 21) C dX7_meanPriceBits_20 rfl rfl 0 rfl ?_
      refine V_iconst (v := 2) (q := 22) C dX7_meanPriceBits_21 rfl ic_2 ?_
      refine V_aload_n (q := 23) C dX7_meanPriceBits_22 rfl rfl 0 rfl ?_
      refine V_iconst (v := 2) (q := 24) C dX7_meanPriceBits_23 rfl ic_2 ?_
      obtain ⟨r10, σ11, h12, hf⟩ := bd_s hf
      refine V_callV (av := [.int (2 : Int32)]) (st := [.int (2 : Int32), .ref (ad 0)]) (st1 := [.int r10, .int (2 : Int32), .ref (ad 0)]) (q := 27) C 0 (by decide) (eM_0 G ad _) rfl rfl (conX7_in _ _ _ _ _ _ _ h12) q_1468 q_114 q_1465 q_1467 q_95 nmX7_in (by decide) rfl rfl (Nat.le_of_ble_eq_true rfl) dX7_meanPriceBits_24 rfl rfl ?_
      obtain ⟨J35, eJ35, hf⟩ := jp_s hf
      have hJ35 : ∀ (v13 : Int32) (σ14 : Sg), J35 v13 σ14 = some (r, σf) → V wM X G ad 1 Q 0 0 σ14 35 [(0, .ref (ad 0))] [.int v13, .int (2 : Int32), .ref (ad 0)] := by
        intro v13 σ14 hf
        subst eJ35
        obtain ⟨r15, σ16, h17, hf⟩ := bd_s hf
        refine V_callV (av := [.int (2 : Int32), .int v13]) (st := []) (st1 := [.int r15]) (q := 38) C 0 (by decide) (eM_0 G ad _) rfl rfl (conX7_fails _ _ _ _ _ _ _ _ h17) q_1251 q_114 q_1248 q_1250 q_64 nmX7_fails (by decide) rfl rfl (Nat.le_of_ble_eq_true rfl) dX7_meanPriceBits_35 rfl rfl ?_
        refine V_if_eq (t := 43) (q := 41) C dX7_meanPriceBits_38 (by decide) rfl (fun c18 => ?_) (fun c18 => ?_)
        · replace hf := (ite_s hf).1 c18
          refine V_aload_n (q := 44) C dX7_meanPriceBits_43 rfl rfl 0 rfl ?_
          obtain ⟨r19, σ20, h21, hf⟩ := bd_s hf
          refine V_callV (av := []) (st := []) (st1 := [.int r19]) (q := 47) C 0 (by decide) (eM_0 G ad _) rfl rfl (conX7_sumPrices _ _ _  _ _ _ h21) q_1527 q_114 q_1524 q_1526 q_100 nmX7_sumPrices (by decide) rfl rfl (Nat.le_of_ble_eq_true rfl) dX7_meanPriceBits_44 rfl rfl ?_
          refine V_i2d (q := 48) C dX7_meanPriceBits_47 rfl ?_
          refine V_aload_n (q := 49) C dX7_meanPriceBits_48 rfl rfl 0 rfl ?_
          refine V_iconst (v := 2) (q := 50) C dX7_meanPriceBits_49 rfl ic_2 ?_
          obtain ⟨r22, σ23, h24, hf⟩ := bd_s hf
          refine V_callV (av := [.int (2 : Int32)]) (st := [.double (FP.i2d r19)]) (st1 := [.int r22, .double (FP.i2d r19)]) (q := 53) C 0 (by decide) (eM_0 G ad _) rfl rfl (conX7_in _ _ _ _ _ _ _ h24) q_1468 q_114 q_1465 q_1467 q_95 nmX7_in (by decide) rfl rfl (Nat.le_of_ble_eq_true rfl) dX7_meanPriceBits_50 rfl rfl ?_
          obtain ⟨r25, σ26, h27, hf⟩ := bd_s hf
          refine V_callS (av := [.int r22]) (st := [.double (FP.i2d r19)]) (st1 := [.int r25, .double (FP.i2d r19)]) (q := 56) C (conX7_countBits _ _ _ _ _ _ _ h27) q_1341 q_114 q_1339 q_1340 nmX7_countBits (by decide) rfl rfl (Nat.le_of_ble_eq_true rfl) dX7_meanPriceBits_53 rfl rfl ?_
          refine V_i2d (q := 57) C dX7_meanPriceBits_56 rfl ?_
          obtain ⟨g28, hf⟩ := gd_s hf
          refine V_ddiv (q := 58) C dX7_meanPriceBits_57 rfl (n64_s g28) ?_
          refine V_callS (av := [.double (FP.ddiv (FP.i2d r19) (FP.i2d r25))]) (st := []) (st1 := [.long (pJxe99ae_doubleToLongBits_ccdee (FP.ddiv (FP.i2d r19) (FP.i2d r25)))]) (q := 61) C (conJxe99ae_doubleToLongBits_ccdee _ _ _ _ _ _ rfl) q_1566 q_132 q_1564 q_1565 nmJxe99ae_doubleToLongBits_ccdee (by decide) rfl rfl (Nat.le_of_ble_eq_true rfl) dX7_meanPriceBits_58 rfl rfl ?_
          obtain ⟨e1, e2⟩ := pr_s hf
          subst e1; subst e2
          exact V_lret C F (by decide) (by decide) dX7_meanPriceBits_61
        · replace hf := (ite_s hf).2 c18
          refine V_lconst (v := 0) (q := 42) C dX7_meanPriceBits_41 rfl (by decide) ?_
          obtain ⟨e1, e2⟩ := pr_s hf
          subst e1; subst e2
          exact V_lret C F (by decide) (by decide) dX7_meanPriceBits_42
      refine V_if_ne (t := 34) (q := 30) C dX7_meanPriceBits_27 (by decide) rfl (fun c29 => ?_) (fun c29 => ?_)
      · replace hf := (ite_s hf).2 c29
        refine V_iconst (v := 0) (q := 35) C dX7_meanPriceBits_34 rfl ic_0 ?_
        exact hJ35 _ _ hf
      · replace hf := (ite_s hf).1 c29
        refine V_iconst (v := 1) (q := 31) C dX7_meanPriceBits_30 rfl ic_1 ?_
        refine V_goto (t := 35) C dX7_meanPriceBits_31 (by decide) ?_
        exact hJ35 _ _ hf
  refine V_if_ne (t := 13) (q := 9) C dX7_meanPriceBits_6 (by decide) rfl (fun c30 => ?_) (fun c30 => ?_)
  · replace hf := (ite_s hf).2 c30
    refine V_iconst (v := 0) (q := 14) C dX7_meanPriceBits_13 rfl ic_0 ?_
    exact hJ14 _ _ hf
  · replace hf := (ite_s hf).1 c30
    refine V_iconst (v := 1) (q := 10) C dX7_meanPriceBits_9 rfl ic_1 ?_
    refine V_goto (t := 14) C dX7_meanPriceBits_10 (by decide) ?_
    exact hJ14 _ _ hf
def rmX7_open : Room := { frames := 23, cells := 0, slots := 0, locals := 600 }
def fX7_open_95 (a : Int32) (K : Sg → Option (Int32 × Sg)) : Nat → Int32 → Sg → Option (Int32 × Sg)
  | 0, _, _ => none
  | n + 1, x30, σ31 => if (σ31 1 0) ≤ x30 then (K σ31) else (gd (inb ((40 : Int32) + x30) 2764) (jp (fun (v34 : Int32) (σ35 : Sg) => bd (fX7_setState x30 v34 σ35) (fun (_ : Unit) (σ36 : Sg) => bd (fX7_priceOf x30 a σ36) (fun (r38 : Int32) (σ39 : Sg) => gd (inb ((1540 : Int32) + x30) 2764) (lt' (sup σ39 1 (((1540 : Int32) + x30).toNatClampNeg) r38) (fun (σ42 : Sg) => fX7_open_95 a K n (x30 + (1 : Int32)) σ42))))) (fun (J125 : Int32 → Sg → Option (Int32 × Sg)) => if (σ31 1 (((40 : Int32) + x30).toNatClampNeg)) = (1 : Int32) then (J125 (1 : Int32) σ31) else (J125 (0 : Int32) σ31))))
def fX7_open (a : Int32) (σ : Sg) : Option (Int32 × Sg) := jp (fun (v1 : Int32) (σ2 : Sg) => bd (fX7_fails (1 : Int32) v1 σ2) (fun (r3 : Int32) (σ4 : Sg) => if r3 = 0 then (bd (fX7_isKnown  σ4) (fun (r7 : Int32) (σ8 : Sg) => bd (fX7_fails (2 : Int32) r7 σ8) (fun (r10 : Int32) (σ11 : Sg) => if r10 = 0 then (bd (fX7_outside  σ11) (fun (r14 : Int32) (σ15 : Sg) => bd (fX7_isPossible r14 σ15) (fun (r17 : Int32) (σ18 : Sg) => jp (fun (v20 : Int32) (σ21 : Sg) => bd (fX7_fails (3 : Int32) v20 σ21) (fun (r22 : Int32) (σ23 : Sg) => if r22 = 0 then (lt' (sup σ23 1 2 (1 : Int32)) (fun (σ26 : Sg) => lt' (sup σ26 1 3 (0 : Int32)) (fun (σ27 : Sg) => lt' (sup σ27 1 112 a) (fun (σ28 : Sg) => lt' (sup σ28 1 214 (0 : Int32)) (fun (σ29 : Sg) => fX7_open_95 a (fun (σ44 : Sg) => bd (fX7_considerAll  σ44) (fun (_ : Unit) (σ45 : Sg) => bd (fX7_in (1 : Int32) σ45) (fun (r47 : Int32) (σ48 : Sg) => bd (fX7_countBits r47 σ48) (fun (r50 : Int32) (σ51 : Sg) => some (r50, σ51))))) FU (0 : Int32) σ29))))) else (some ((0 : Int32), σ23)))) (fun (J54 : Int32 → Sg → Option (Int32 × Sg)) => if r17 = 0 then (J54 (1 : Int32) σ18) else (J54 (0 : Int32) σ18))))) else (some ((0 : Int32), σ11))))) else (some ((0 : Int32), σ4)))) (fun (J18 : Int32 → Sg → Option (Int32 × Sg)) => if (pX7_isBetween a (1 : Int32) (1000 : Int32)) = 0 then (J18 (1 : Int32) σ) else (J18 (0 : Int32) σ))
set_option maxHeartbeats 4000000 in
theorem wlX7_open_95 {X : Cx} {G : Gx} {ad : Nat → Nat} {Q : State → Prop} {r : Int32} {σf : Sg} (C : OK wM X G ad RX7 cX7_open 3 rmX7_open) (F : FinR wM X G ad Q 0 0 (some .int) (some (.int r)) σf) (a : Int32) (K : Sg → Option (Int32 × Sg)) (hK : ∀ (σk : Sg), K σk = some (r, σf) → V wM X G ad 3 Q 0 0 σk 150 [(0, .ref (ad 0))] []) : ∀ (n : Nat) (x30 : Int32) (σ31 : Sg), fX7_open_95 a K n x30 σ31 = some (r, σf) → V wM X G ad 3 Q 0 0 σ31 95 [(0, .ref (ad 0)), (1, .int a), (2, .int x30)] [] := by
  intro n
  induction n with
  | zero =>
    intro _ _ hf
    exact absurd hf (by simp [fX7_open_95])
  | succ n ih =>
    intro x30 σ31 hf
    rw [fX7_open_95] at hf
    refine V_iload_n (q := 96) C dX7_open_95 rfl rfl 2 rfl ?_
    refine V_aload_n (q := 97) C dX7_open_96 rfl rfl 0 rfl ?_
    refine GM_0_1 (q := 100) C q_1183 dX7_open_97 rfl ?_
    refine V_iconst (v := 0) (q := 101) C dX7_open_100 rfl ic_0 ?_
    refine RM_1 (z := 0) (q := 102) C tn_0 (inb_in (by decide)) dX7_open_101 rfl ?_
    refine V_icmp_ge (t := 150) (q := 105) C dX7_open_102 (by decide) rfl (fun c32 => ?_) (fun c32 => ?_)
    · replace hf := (ite_s hf).1 c32
      refine V_sub (L' := [(0, .ref (ad 0))]) [0] rfl ?_
      exact hK _ hf
    · replace hf := (ite_s hf).2 c32
      refine V_aload_n (q := 106) C dX7_open_105 rfl rfl 0 rfl ?_
      refine V_iload_n (q := 107) C dX7_open_106 rfl rfl 2 rfl ?_
      refine V_aload_n (q := 108) C dX7_open_107 rfl rfl 0 rfl ?_
      refine GM_0_1 (q := 111) C q_1183 dX7_open_108 rfl ?_
      refine V_bipush (v := 40) (q := 113) C dX7_open_111 rfl bc_40 ?_
      refine V_iload_n (q := 114) C dX7_open_113 rfl rfl 2 rfl ?_
      refine V_iadd (q := 115) C dX7_open_114 rfl ?_
      obtain ⟨g33, hf⟩ := gd_s hf
      refine RM_1 (z := ((40 : Int32) + x30).toNatClampNeg) (q := 116) C rfl (inb_in g33) dX7_open_115 rfl ?_
      refine V_iconst (v := 1) (q := 117) C dX7_open_116 rfl ic_1 ?_
      obtain ⟨J125, eJ125, hf⟩ := jp_s hf
      have hJ125 : ∀ (v34 : Int32) (σ35 : Sg), J125 v34 σ35 = some (r, σf) → V wM X G ad 3 Q 0 0 σ35 125 [(0, .ref (ad 0)), (1, .int a), (2, .int x30)] [.int v34, .int x30, .ref (ad 0)] := by
        intro v34 σ35 hf
        subst eJ125
        obtain ⟨_u, σ36, h37, hf⟩ := bd_s hf
        refine V_callV (av := [.int x30, .int v34]) (st := []) (st1 := []) (q := 128) C 0 (by decide) (eM_0 G ad _) rfl rfl (conX7_setState _ _ _ _ _ _ _ h37) q_1448 q_114 q_1445 q_1447 q_90 nmX7_setState (by decide) rfl rfl (Nat.le_of_ble_eq_true rfl) dX7_open_125 rfl rfl ?_
        refine V_aload_n (q := 129) C dX7_open_128 rfl rfl 0 rfl ?_
        refine GM_0_1 (q := 132) C q_1183 dX7_open_129 rfl ?_
        refine V_sipush (v := 1540) (q := 135) C dX7_open_132 rfl sc_1540 ?_
        refine V_iload_n (q := 136) C dX7_open_135 rfl rfl 2 rfl ?_
        refine V_iadd (q := 137) C dX7_open_136 rfl ?_
        refine V_aload_n (q := 138) C dX7_open_137 rfl rfl 0 rfl ?_
        refine V_iload_n (q := 139) C dX7_open_138 rfl rfl 2 rfl ?_
        refine V_iload_n (q := 140) C dX7_open_139 rfl rfl 1 rfl ?_
        obtain ⟨r38, σ39, h40, hf⟩ := bd_s hf
        refine V_callV (av := [.int x30, .int a]) (st := [.int ((1540 : Int32) + x30), .ref (ad 1)]) (st1 := [.int r38, .int ((1540 : Int32) + x30), .ref (ad 1)]) (q := 143) C 0 (by decide) (eM_0 G ad _) rfl rfl (conX7_priceOf _ _ _ _ _ _ _ _ h40) q_1368 q_114 q_1365 q_1367 q_77 nmX7_priceOf (by decide) rfl rfl (Nat.le_of_ble_eq_true rfl) dX7_open_140 rfl rfl ?_
        obtain ⟨g41, hf⟩ := gd_s hf
        refine SM_1 (z := ((1540 : Int32) + x30).toNatClampNeg) (q := 144) C rfl (inb_in g41) dX7_open_143 rfl ?_
        refine V_lets hf (fun σ42 hf => ?_)
        refine V_iinc (L' := [(2, .int (x30 + (1 : Int32))), (0, .ref (ad 0)), (1, .int a)]) (q := 147) C dX7_open_144 rfl 2 rfl (congrArg (fun y => x30 + y) ic_1) (by decide) rfl ?_
        refine V_goto (t := 95) C dX7_open_147 (by decide) ?_
        refine V_sub (L' := [(0, .ref (ad 0)), (1, .int a), (2, .int (x30 + (1 : Int32)))]) [1, 2, 0] rfl ?_
        exact ih _ _ hf
      refine V_icmp_ne (t := 124) (q := 120) C dX7_open_117 (by decide) rfl (fun c43 => ?_) (fun c43 => ?_)
      · replace hf := (ite_s hf).2 c43
        refine V_iconst (v := 0) (q := 125) C dX7_open_124 rfl ic_0 ?_
        exact hJ125 _ _ hf
      · replace hf := (ite_s hf).1 c43
        refine V_iconst (v := 1) (q := 121) C dX7_open_120 rfl ic_1 ?_
        refine V_goto (t := 125) C dX7_open_121 (by decide) ?_
        exact hJ125 _ _ hf
set_option maxHeartbeats 4000000 in
theorem conX7_open (l : Launch) (G : Gx) (ad : Nat → Nat) (a : Int32) (σ : Sg) (r : Int32) (σf : Sg)  (hf : fX7_open a σ = some (r, σf)) : Con wM l G ad yX7_open (Cond.code yX7_open cX7_open 3 (some .int)) rmX7_open 0 0 [.ref (ad 0), .int a] σ (some (.int r)) σf := by
  refine Con.start (by decide) (Nat.le_of_ble_eq_true rfl) (fun X Q _ C F => ?_)
  refine V_eq (L' := [(0, .ref (ad 0)), (1, .int a)]) (st' := []) rfl rfl rfl ?_
  unfold fX7_open at hf
  refine V_aload_n (q := 1) C dX7_open_0 rfl rfl 0 rfl ?_
  refine V_iconst (v := 1) (q := 2) C dX7_open_1 rfl ic_1 ?_
  refine V_iload_n (q := 3) C dX7_open_2 rfl rfl 1 rfl ?_
  refine V_iconst (v := 1) (q := 4) C dX7_open_3 rfl ic_1 ?_
  refine V_sipush (v := 1000) (q := 7) C dX7_open_4 rfl sc_1000 ?_
  refine V_callS (av := [.int a, .int (1 : Int32), .int (1000 : Int32)]) (st := [.int (1 : Int32), .ref (ad 0)]) (st1 := [.int (pX7_isBetween a (1 : Int32) (1000 : Int32)), .int (1 : Int32), .ref (ad 0)]) (q := 10) C (conX7_isBetween _ _ _ _ _ _ _ _ rfl) q_1247 q_114 q_1245 q_1246 nmX7_isBetween (by decide) rfl rfl (Nat.le_of_ble_eq_true rfl) dX7_open_7 rfl rfl ?_
  obtain ⟨J18, eJ18, hf⟩ := jp_s hf
  have hJ18 : ∀ (v1 : Int32) (σ2 : Sg), J18 v1 σ2 = some (r, σf) → V wM X G ad 3 Q 0 0 σ2 18 [(0, .ref (ad 0)), (1, .int a)] [.int v1, .int (1 : Int32), .ref (ad 0)] := by
    intro v1 σ2 hf
    subst eJ18
    obtain ⟨r3, σ4, h5, hf⟩ := bd_s hf
    refine V_callV (av := [.int (1 : Int32), .int v1]) (st := []) (st1 := [.int r3]) (q := 21) C 0 (by decide) (eM_0 G ad _) rfl rfl (conX7_fails _ _ _ _ _ _ _ _ h5) q_1251 q_114 q_1248 q_1250 q_64 nmX7_fails (by decide) rfl rfl (Nat.le_of_ble_eq_true rfl) dX7_open_18 rfl rfl ?_
    refine V_if_ne (t := 60) (q := 24) C dX7_open_21 (by decide) rfl (fun c6 => ?_) (fun c6 => ?_)
    · replace hf := (ite_s hf).2 c6
      refine V_iconst (v := 0) (q := 61) C dX7_open_60 rfl ic_0 ?_
      obtain ⟨e1, e2⟩ := pr_s hf
      subst e1; subst e2
      exact V_iret C F (by decide) (by decide) dX7_open_61
    · replace hf := (ite_s hf).1 c6
      refine V_aload_n (q := 25) C dX7_open_24 rfl rfl 0 rfl ?_
      refine V_iconst (v := 2) (q := 26) C dX7_open_25 rfl ic_2 ?_
      refine V_aload_n (q := 27) C dX7_open_26 rfl rfl 0 rfl ?_
      obtain ⟨r7, σ8, h9, hf⟩ := bd_s hf
      refine V_callV (av := []) (st := [.int (2 : Int32), .ref (ad 0)]) (st1 := [.int r7, .int (2 : Int32), .ref (ad 0)]) (q := 30) C 0 (by decide) (eM_0 G ad _) rfl rfl (conX7_isKnown _ _ _  _ _ _ h9) q_1255 q_114 q_1252 q_1254 q_65 nmX7_isKnown (by decide) rfl rfl (Nat.le_of_ble_eq_true rfl) dX7_open_27 rfl rfl ?_
      obtain ⟨r10, σ11, h12, hf⟩ := bd_s hf
      refine V_callV (av := [.int (2 : Int32), .int r7]) (st := []) (st1 := [.int r10]) (q := 33) C 0 (by decide) (eM_0 G ad _) rfl rfl (conX7_fails _ _ _ _ _ _ _ _ h12) q_1251 q_114 q_1248 q_1250 q_64 nmX7_fails (by decide) rfl rfl (Nat.le_of_ble_eq_true rfl) dX7_open_30 rfl rfl ?_
      refine V_if_ne (t := 60) (q := 36) C dX7_open_33 (by decide) rfl (fun c13 => ?_) (fun c13 => ?_)
      · replace hf := (ite_s hf).2 c13
        refine V_iconst (v := 0) (q := 61) C dX7_open_60 rfl ic_0 ?_
        obtain ⟨e1, e2⟩ := pr_s hf
        subst e1; subst e2
        exact V_iret C F (by decide) (by decide) dX7_open_61
      · replace hf := (ite_s hf).1 c13
        refine V_aload_n (q := 37) C dX7_open_36 rfl rfl 0 rfl ?_
        refine V_iconst (v := 3) (q := 38) C dX7_open_37 rfl ic_3 ?_
        refine V_aload_n (q := 39) C dX7_open_38 rfl rfl 0 rfl ?_
        refine V_aload_n (q := 40) C dX7_open_39 rfl rfl 0 rfl ?_
        obtain ⟨r14, σ15, h16, hf⟩ := bd_s hf
        refine V_callV (av := []) (st := [.ref (ad 0), .int (3 : Int32), .ref (ad 0)]) (st1 := [.int r14, .ref (ad 0), .int (3 : Int32), .ref (ad 0)]) (q := 43) C 0 (by decide) (eM_0 G ad _) rfl rfl (conX7_outside _ _ _  _ _ _ h16) q_1444 q_114 q_1441 q_1443 q_89 nmX7_outside (by decide) rfl rfl (Nat.le_of_ble_eq_true rfl) dX7_open_40 rfl rfl ?_
        obtain ⟨r17, σ18, h19, hf⟩ := bd_s hf
        refine V_callV (av := [.int r14]) (st := [.int (3 : Int32), .ref (ad 0)]) (st1 := [.int r17, .int (3 : Int32), .ref (ad 0)]) (q := 46) C 0 (by decide) (eM_0 G ad _) rfl rfl (conX7_isPossible _ _ _ _ _ _ _ h19) q_1380 q_114 q_1377 q_1379 q_79 nmX7_isPossible (by decide) rfl rfl (Nat.le_of_ble_eq_true rfl) dX7_open_43 rfl rfl ?_
        obtain ⟨J54, eJ54, hf⟩ := jp_s hf
        have hJ54 : ∀ (v20 : Int32) (σ21 : Sg), J54 v20 σ21 = some (r, σf) → V wM X G ad 3 Q 0 0 σ21 54 [(0, .ref (ad 0)), (1, .int a)] [.int v20, .int (3 : Int32), .ref (ad 0)] := by
          intro v20 σ21 hf
          subst eJ54
          obtain ⟨r22, σ23, h24, hf⟩ := bd_s hf
          refine V_callV (av := [.int (3 : Int32), .int v20]) (st := []) (st1 := [.int r22]) (q := 57) C 0 (by decide) (eM_0 G ad _) rfl rfl (conX7_fails _ _ _ _ _ _ _ _ h24) q_1251 q_114 q_1248 q_1250 q_64 nmX7_fails (by decide) rfl rfl (Nat.le_of_ble_eq_true rfl) dX7_open_54 rfl rfl ?_
          refine V_if_eq (t := 62) (q := 60) C dX7_open_57 (by decide) rfl (fun c25 => ?_) (fun c25 => ?_)
          · replace hf := (ite_s hf).1 c25
            refine V_aload_n (q := 63) C dX7_open_62 rfl rfl 0 rfl ?_
            refine GM_0_1 (q := 66) C q_1183 dX7_open_63 rfl ?_
            refine V_iconst (v := 2) (q := 67) C dX7_open_66 rfl ic_2 ?_
            refine V_iconst (v := 1) (q := 68) C dX7_open_67 rfl ic_1 ?_
            refine SM_1 (z := 2) (q := 69) C tn_2 (inb_in (by decide)) dX7_open_68 rfl ?_
            refine V_lets hf (fun σ26 hf => ?_)
            refine V_aload_n (q := 70) C dX7_open_69 rfl rfl 0 rfl ?_
            refine GM_0_1 (q := 73) C q_1183 dX7_open_70 rfl ?_
            refine V_iconst (v := 3) (q := 74) C dX7_open_73 rfl ic_3 ?_
            refine V_iconst (v := 0) (q := 75) C dX7_open_74 rfl ic_0 ?_
            refine SM_1 (z := 3) (q := 76) C tn_3 (inb_in (by decide)) dX7_open_75 rfl ?_
            refine V_lets hf (fun σ27 hf => ?_)
            refine V_aload_n (q := 77) C dX7_open_76 rfl rfl 0 rfl ?_
            refine GM_0_1 (q := 80) C q_1183 dX7_open_77 rfl ?_
            refine V_bipush (v := 112) (q := 82) C dX7_open_80 rfl bc_112 ?_
            refine V_iload_n (q := 83) C dX7_open_82 rfl rfl 1 rfl ?_
            refine SM_1 (z := 112) (q := 84) C tn_112 (inb_in (by decide)) dX7_open_83 rfl ?_
            refine V_lets hf (fun σ28 hf => ?_)
            refine V_aload_n (q := 85) C dX7_open_84 rfl rfl 0 rfl ?_
            refine GM_0_1 (q := 88) C q_1183 dX7_open_85 rfl ?_
            refine V_sipush (v := 214) (q := 91) C dX7_open_88 rfl sc_214 ?_
            refine V_iconst (v := 0) (q := 92) C dX7_open_91 rfl ic_0 ?_
            refine SM_1 (z := 214) (q := 93) C tn_214 (inb_in (by decide)) dX7_open_92 rfl ?_
            refine V_lets hf (fun σ29 hf => ?_)
            refine V_iconst (v := 0) (q := 94) C dX7_open_93 rfl ic_0 ?_
            refine V_istore_n (L' := [(2, .int (0 : Int32)), (0, .ref (ad 0)), (1, .int a)]) (q := 95) C dX7_open_94 rfl rfl (by decide) rfl ?_
            refine V_sub (L' := [(0, .ref (ad 0)), (1, .int a), (2, .int (0 : Int32))]) [1, 2, 0] rfl ?_
            refine wlX7_open_95 C F a _ (fun σ44 hf => ?_) FU _ _ hf
            refine V_aload_n (q := 151) C dX7_open_150 rfl rfl 0 rfl ?_
            obtain ⟨_u, σ45, h46, hf⟩ := bd_s hf
            refine V_callV (av := []) (st := []) (st1 := []) (q := 154) C 0 (by decide) (eM_0 G ad _) rfl rfl (conX7_considerAll _ _ _  _ _ h46) q_1452 q_114 q_1449 q_1451 q_91 nmX7_considerAll (by decide) rfl rfl (Nat.le_of_ble_eq_true rfl) dX7_open_151 rfl rfl ?_
            refine V_aload_n (q := 155) C dX7_open_154 rfl rfl 0 rfl ?_
            refine V_iconst (v := 1) (q := 156) C dX7_open_155 rfl ic_1 ?_
            obtain ⟨r47, σ48, h49, hf⟩ := bd_s hf
            refine V_callV (av := [.int (1 : Int32)]) (st := []) (st1 := [.int r47]) (q := 159) C 0 (by decide) (eM_0 G ad _) rfl rfl (conX7_in _ _ _ _ _ _ _ h49) q_1468 q_114 q_1465 q_1467 q_95 nmX7_in (by decide) rfl rfl (Nat.le_of_ble_eq_true rfl) dX7_open_156 rfl rfl ?_
            obtain ⟨r50, σ51, h52, hf⟩ := bd_s hf
            refine V_callS (av := [.int r47]) (st := []) (st1 := [.int r50]) (q := 162) C (conX7_countBits _ _ _ _ _ _ _ h52) q_1341 q_114 q_1339 q_1340 nmX7_countBits (by decide) rfl rfl (Nat.le_of_ble_eq_true rfl) dX7_open_159 rfl rfl ?_
            obtain ⟨e1, e2⟩ := pr_s hf
            subst e1; subst e2
            exact V_iret C F (by decide) (by decide) dX7_open_162
          · replace hf := (ite_s hf).2 c25
            refine V_iconst (v := 0) (q := 61) C dX7_open_60 rfl ic_0 ?_
            obtain ⟨e1, e2⟩ := pr_s hf
            subst e1; subst e2
            exact V_iret C F (by decide) (by decide) dX7_open_61
        refine V_if_ne (t := 53) (q := 49) C dX7_open_46 (by decide) rfl (fun c53 => ?_) (fun c53 => ?_)
        · replace hf := (ite_s hf).2 c53
          refine V_iconst (v := 0) (q := 54) C dX7_open_53 rfl ic_0 ?_
          exact hJ54 _ _ hf
        · replace hf := (ite_s hf).1 c53
          refine V_iconst (v := 1) (q := 50) C dX7_open_49 rfl ic_1 ?_
          refine V_goto (t := 54) C dX7_open_50 (by decide) ?_
          exact hJ54 _ _ hf
  refine V_if_ne (t := 17) (q := 13) C dX7_open_10 (by decide) rfl (fun c54 => ?_) (fun c54 => ?_)
  · replace hf := (ite_s hf).2 c54
    refine V_iconst (v := 0) (q := 18) C dX7_open_17 rfl ic_0 ?_
    exact hJ18 _ _ hf
  · replace hf := (ite_s hf).1 c54
    refine V_iconst (v := 1) (q := 14) C dX7_open_13 rfl ic_1 ?_
    refine V_goto (t := 18) C dX7_open_14 (by decide) ?_
    exact hJ18 _ _ hf
