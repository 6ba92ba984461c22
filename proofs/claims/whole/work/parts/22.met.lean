def rmX6_cancel : Room := { frames := 7, cells := 1, slots := 6, locals := 110 }
def fX6_cancel  (σ : Sg) : Option ((String ⊕ Int32) × Sg) := bx (fX6_requireAuction  σ) (fun E σE => some (.inl E, σE)) (fun (_ : Unit) (σ2 : Sg) => lt' (sup σ2 7 4 (0 : Int32)) (fun (σ7 : Sg) => some (.inr (σ7 7 5), σ7)))
set_option maxHeartbeats 4000000 in
theorem conX6_cancel (l : Launch) (G : Gx) (ad : Nat → Nat)  (σ : Sg) (r : String ⊕ Int32) (σf : Sg) (hf : fX6_cancel  σ = some (r, σf)) : ConX wX l G ad yX6_cancel (Cond.code yX6_cancel cX6_cancel 1 (some .int)) rmX6_cancel 1 6 [.ref (ad 0)] σ (rI r) σf := by
  refine ConX.start (by decide) (Nat.le_of_ble_eq_true rfl) (fun X Q _ C Fr Fx => ?_)
  refine V_eq (L' := [(0, .ref (ad 0))]) (st' := []) rfl rfl rfl ?_
  unfold fX6_cancel at hf
  refine V_aload_n (q := 1) C dX6_cancel_0 rfl rfl 0 rfl ?_
  obtain ⟨z4, σ2, h3, hE, hA⟩ := bx_s hf
  refine V_callVX (av := []) (st := []) (q := 4) (mc := 1) (ms := 6) C 0 (by decide) (eX_0 G ad _) rfl rfl (conX6_requireAuction _ _ _  _ _ _ h3) q_989 q_107 q_986 q_988 q_56 nmX6_requireAuction (by decide) rfl rfl (Nat.le_of_ble_eq_true rfl) dX6_cancel_1 rfl (by decide) (by decide) (fun E hz => by
    obtain rfl := rU_l hz
    obtain ⟨e1, e2⟩ := pr_s (hE _ rfl)
    subst e1; subst e2
    exact Fx _ rfl) (fun w5 h6 => ?_)
  obtain ⟨r1, rfl, rfl⟩ := rU_r h6
  replace hf := hA _ rfl
  refine V_eq (L' := [(0, .ref (ad 0))]) (st' := []) rfl rfl rfl ?_
  refine V_wide (k2 := 1) (n2 := 6) (by decide) (by decide) ?_
  refine V_aload_n (q := 5) C dX6_cancel_4 rfl rfl 0 rfl ?_
  refine GX_0_6 (q := 8) C q_359 dX6_cancel_5 rfl ?_
  refine V_iconst (v := 0) (q := 9) C dX6_cancel_8 rfl ic_0 ?_
  refine PNX_7_4 (q := 12) C (by decide) q_319 dX6_cancel_9 rfl ?_
  refine V_lets hf (fun σ7 hf => ?_)
  refine V_aload_n (q := 13) C dX6_cancel_12 rfl rfl 0 rfl ?_
  refine GX_0_6 (q := 16) C q_359 dX6_cancel_13 rfl ?_
  refine GNX_7_5 (q := 19) C q_321 dX6_cancel_16 rfl ?_
  obtain ⟨e1, e2⟩ := pr_s hf
  subst e1; subst e2
  exact V_iret C (Fr _ rfl) (by decide) (by decide) dX6_cancel_19
def rmX4_fewestChannels : Room := { frames := 18, cells := 0, slots := 0, locals := 543 }
def fX4_fewestChannels_10 (a : Int32) (x1 : Int32) (K : Sg → Option (Int32 × Sg)) : Nat → Int32 → Sg → Option (Int32 × Sg)
  | 0, _, _ => none
  | n + 1, x4, σ5 => if (255 : Int32) < x4 then (K σ5) else (jp (fun (σ7 : Sg) => fX4_fewestChannels_10 a x1 K n (x4 + (1 : Int32)) σ7) (fun (J55 : Sg → Option (Int32 × Sg)) => if (pJ6_bitCount_0f7a4 x4) = x1 then (if (x4 &&& ((σ5 3 8) ^^^ (-1 : Int32))) = 0 then (bd (fX4_allow x4 σ5) (fun (_ : Unit) (σ10 : Sg) => bd (fX4_solutions a (1 : Int32) σ10) (fun (r12 : Int32) (σ13 : Sg) => if r12 ≤ 0 then (J55  σ13) else (some (x1, σ13))))) else (J55  σ5)) else (J55  σ5)))
def fX4_fewestChannels_2 (a : Int32) : Nat → Int32 → Sg → Option (Int32 × Sg)
  | 0, _, _ => none
  | n + 1, x1, σ2 => if (8 : Int32) ≤ x1 then (some ((8 : Int32), σ2)) else (fX4_fewestChannels_10 a x1 (fun (σ16 : Sg) => fX4_fewestChannels_2 a n (x1 + (1 : Int32)) σ16) FU (0 : Int32) σ2)
def fX4_fewestChannels (a : Int32) (σ : Sg) : Option (Int32 × Sg) := fX4_fewestChannels_2 a FU (0 : Int32) σ
set_option maxHeartbeats 4000000 in
theorem wlX4_fewestChannels_10 {X : Cx} {G : Gx} {ad : Nat → Nat} {Q : State → Prop} {r : Int32} {σf : Sg} (C : OK wX X G ad RX4 cX4_fewestChannels 4 rmX4_fewestChannels) (F : FinR wX X G ad Q 0 0 (some .int) (some (.int r)) σf) (a : Int32) (x1 : Int32) (K : Sg → Option (Int32 × Sg)) (hK : ∀ (σk : Sg), K σk = some (r, σf) → V wX X G ad 4 Q 0 0 σk 61 [(0, .ref (ad 2)), (1, .int a), (2, .int x1)] []) : ∀ (n : Nat) (x4 : Int32) (σ5 : Sg), fX4_fewestChannels_10 a x1 K n x4 σ5 = some (r, σf) → V wX X G ad 4 Q 0 0 σ5 10 [(0, .ref (ad 2)), (1, .int a), (2, .int x1), (3, .int x4)] [] := by
  intro n
  induction n with
  | zero =>
    intro _ _ hf
    exact absurd hf (by simp [fX4_fewestChannels_10])
  | succ n ih =>
    intro x4 σ5 hf
    rw [fX4_fewestChannels_10] at hf
    refine V_iload_n (q := 11) C dX4_fewestChannels_10 rfl rfl 3 rfl ?_
    refine V_sipush (v := 255) (q := 14) C dX4_fewestChannels_11 rfl sc_255 ?_
    refine V_icmp_gt (t := 61) (q := 17) C dX4_fewestChannels_14 (by decide) rfl (fun c6 => ?_) (fun c6 => ?_)
    · replace hf := (ite_s hf).1 c6
      refine V_sub (L' := [(0, .ref (ad 2)), (1, .int a), (2, .int x1)]) [0, 1, 2] rfl ?_
      exact hK _ hf
    · replace hf := (ite_s hf).2 c6
      refine V_iload_n (q := 18) C dX4_fewestChannels_17 rfl rfl 3 rfl ?_
      refine V_callS (av := [.int x4]) (st := []) (st1 := [.int (pJ6_bitCount_0f7a4 x4)]) (q := 21) C (conJ6_bitCount_0f7a4 _ _ _ _ _ _ rfl) q_727 q_126 q_799 q_726 nmJ6_bitCount_0f7a4 (by decide) rfl rfl (Nat.le_of_ble_eq_true rfl) dX4_fewestChannels_18 rfl rfl ?_
      refine V_iload_n (q := 22) C dX4_fewestChannels_21 rfl rfl 2 rfl ?_
      obtain ⟨J55, eJ55, hf⟩ := jp_s hf
      have hJ55 : ∀ (σ7 : Sg), J55 σ7 = some (r, σf) → V wX X G ad 4 Q 0 0 σ7 55 [(0, .ref (ad 2)), (1, .int a), (2, .int x1), (3, .int x4)] [] := by
        intro σ7 hf
        subst eJ55
        refine V_iinc (L' := [(3, .int (x4 + (1 : Int32))), (0, .ref (ad 2)), (1, .int a), (2, .int x1)]) (q := 58) C dX4_fewestChannels_55 rfl 3 rfl (congrArg (fun y => x4 + y) ic_1) (by decide) rfl ?_
        refine V_goto (t := 10) C dX4_fewestChannels_58 (by decide) ?_
        refine V_sub (L' := [(0, .ref (ad 2)), (1, .int a), (2, .int x1), (3, .int (x4 + (1 : Int32)))]) [1, 2, 3, 0] rfl ?_
        exact ih _ _ hf
      refine V_icmp_ne (t := 55) (q := 25) C dX4_fewestChannels_22 (by decide) rfl (fun c8 => ?_) (fun c8 => ?_)
      · replace hf := (ite_s hf).2 c8
        exact hJ55 _ hf
      · replace hf := (ite_s hf).1 c8
        refine V_iload_n (q := 26) C dX4_fewestChannels_25 rfl rfl 3 rfl ?_
        refine V_aload_n (q := 27) C dX4_fewestChannels_26 rfl rfl 0 rfl ?_
        refine GX_2_0 (q := 30) C q_212 dX4_fewestChannels_27 rfl ?_
        refine GNX_3_8 (q := 33) C q_188 dX4_fewestChannels_30 rfl ?_
        refine V_iconst (v := (-1)) (q := 34) C dX4_fewestChannels_33 rfl ic_m1 ?_
        refine V_ixor (q := 35) C dX4_fewestChannels_34 rfl ?_
        refine V_iand (q := 36) C dX4_fewestChannels_35 rfl ?_
        refine V_if_ne (t := 55) (q := 39) C dX4_fewestChannels_36 (by decide) rfl (fun c9 => ?_) (fun c9 => ?_)
        · replace hf := (ite_s hf).2 c9
          exact hJ55 _ hf
        · replace hf := (ite_s hf).1 c9
          refine V_aload_n (q := 40) C dX4_fewestChannels_39 rfl rfl 0 rfl ?_
          refine V_iload_n (q := 41) C dX4_fewestChannels_40 rfl rfl 3 rfl ?_
          obtain ⟨_u, σ10, h11, hf⟩ := bd_s hf
          refine V_callV (av := [.int x4]) (st := []) (st1 := []) (q := 44) C 2 (by decide) (eX_2 G ad _) rfl rfl (conX4_allow _ _ _ _ _ _ h11) q_785 q_109 q_782 q_784 q_28 nmX4_allow (by decide) rfl rfl (Nat.le_of_ble_eq_true rfl) dX4_fewestChannels_41 rfl rfl ?_
          refine V_aload_n (q := 45) C dX4_fewestChannels_44 rfl rfl 0 rfl ?_
          refine V_iload_n (q := 46) C dX4_fewestChannels_45 rfl rfl 1 rfl ?_
          refine V_iconst (v := 1) (q := 47) C dX4_fewestChannels_46 rfl ic_1 ?_
          obtain ⟨r12, σ13, h14, hf⟩ := bd_s hf
          refine V_callV (av := [.int a, .int (1 : Int32)]) (st := []) (st1 := [.int r12]) (q := 50) C 2 (by decide) (eX_2 G ad _) rfl rfl (conX4_solutions _ _ _ _ _ _ _ _ h14) q_789 q_109 q_786 q_788 q_29 nmX4_solutions (by decide) rfl rfl (Nat.le_of_ble_eq_true rfl) dX4_fewestChannels_47 rfl rfl ?_
          refine V_if_le (t := 55) (q := 53) C dX4_fewestChannels_50 (by decide) rfl (fun c15 => ?_) (fun c15 => ?_)
          · replace hf := (ite_s hf).1 c15
            exact hJ55 _ hf
          · replace hf := (ite_s hf).2 c15
            refine V_iload_n (q := 54) C dX4_fewestChannels_53 rfl rfl 2 rfl ?_
            obtain ⟨e1, e2⟩ := pr_s hf
            subst e1; subst e2
            exact V_iret C F (by decide) (by decide) dX4_fewestChannels_54
set_option maxHeartbeats 4000000 in
theorem wlX4_fewestChannels_2 {X : Cx} {G : Gx} {ad : Nat → Nat} {Q : State → Prop} {r : Int32} {σf : Sg} (C : OK wX X G ad RX4 cX4_fewestChannels 4 rmX4_fewestChannels) (F : FinR wX X G ad Q 0 0 (some .int) (some (.int r)) σf) (a : Int32) : ∀ (n : Nat) (x1 : Int32) (σ2 : Sg), fX4_fewestChannels_2 a n x1 σ2 = some (r, σf) → V wX X G ad 4 Q 0 0 σ2 2 [(0, .ref (ad 2)), (1, .int a), (2, .int x1)] [] := by
  intro n
  induction n with
  | zero =>
    intro _ _ hf
    exact absurd hf (by simp [fX4_fewestChannels_2])
  | succ n ih =>
    intro x1 σ2 hf
    rw [fX4_fewestChannels_2] at hf
    refine V_iload_n (q := 3) C dX4_fewestChannels_2 rfl rfl 2 rfl ?_
    refine V_bipush (v := 8) (q := 5) C dX4_fewestChannels_3 rfl bc_8 ?_
    refine V_icmp_ge (t := 67) (q := 8) C dX4_fewestChannels_5 (by decide) rfl (fun c3 => ?_) (fun c3 => ?_)
    · replace hf := (ite_s hf).1 c3
      refine V_bipush (v := 8) (q := 69) C dX4_fewestChannels_67 rfl bc_8 ?_
      obtain ⟨e1, e2⟩ := pr_s hf
      subst e1; subst e2
      exact V_iret C F (by decide) (by decide) dX4_fewestChannels_69
    · replace hf := (ite_s hf).2 c3
      refine V_iconst (v := 0) (q := 9) C dX4_fewestChannels_8 rfl ic_0 ?_
      refine V_istore_n (L' := [(3, .int (0 : Int32)), (0, .ref (ad 2)), (1, .int a), (2, .int x1)]) (q := 10) C dX4_fewestChannels_9 rfl rfl (by decide) rfl ?_
      refine V_sub (L' := [(0, .ref (ad 2)), (1, .int a), (2, .int x1), (3, .int (0 : Int32))]) [1, 2, 3, 0] rfl ?_
      refine wlX4_fewestChannels_10 C F a x1 _ (fun σ16 hf => ?_) FU _ _ hf
      refine V_iinc (L' := [(2, .int (x1 + (1 : Int32))), (0, .ref (ad 2)), (1, .int a)]) (q := 64) C dX4_fewestChannels_61 rfl 2 rfl (congrArg (fun y => x1 + y) ic_1) (by decide) rfl ?_
      refine V_goto (t := 2) C dX4_fewestChannels_64 (by decide) ?_
      refine V_sub (L' := [(0, .ref (ad 2)), (1, .int a), (2, .int (x1 + (1 : Int32)))]) [1, 2, 0] rfl ?_
      exact ih _ _ hf
set_option maxHeartbeats 4000000 in
theorem conX4_fewestChannels (l : Launch) (G : Gx) (ad : Nat → Nat) (a : Int32) (σ : Sg) (r : Int32) (σf : Sg)  (hf : fX4_fewestChannels a σ = some (r, σf)) : Con wX l G ad yX4_fewestChannels (Cond.code yX4_fewestChannels cX4_fewestChannels 4 (some .int)) rmX4_fewestChannels 0 0 [.ref (ad 2), .int a] σ (some (.int r)) σf := by
  refine Con.start (by decide) (Nat.le_of_ble_eq_true rfl) (fun X Q _ C F => ?_)
  refine V_eq (L' := [(0, .ref (ad 2)), (1, .int a)]) (st' := []) rfl rfl rfl ?_
  unfold fX4_fewestChannels at hf
  refine V_iconst (v := 0) (q := 1) C dX4_fewestChannels_0 rfl ic_0 ?_
  refine V_istore_n (L' := [(2, .int (0 : Int32)), (0, .ref (ad 2)), (1, .int a)]) (q := 2) C dX4_fewestChannels_1 rfl rfl (by decide) rfl ?_
  refine V_sub (L' := [(0, .ref (ad 2)), (1, .int a), (2, .int (0 : Int32))]) [1, 2, 0] rfl ?_
  refine wlX4_fewestChannels_2 C F a FU _ _ hf
def rmX6_channelsNeeded : Room := { frames := 20, cells := 2, slots := 12, locals := 585 }
def fX6_channelsNeeded (a : Int32) (σ : Sg) : Option ((String ⊕ Int32) × Sg) := bx (fX6_requireSet a σ) (fun E σE => some (.inl E, σE)) (fun (_ : Unit) (σ2 : Sg) => bx (fX6_requireFeasible a σ2) (fun E σE => some (.inl E, σE)) (fun (_ : Unit) (σ8 : Sg) => bd (fX4_fewestChannels a σ8) (fun (r13 : Int32) (σ14 : Sg) => some (.inr r13, σ14))))
set_option maxHeartbeats 4000000 in
theorem conX6_channelsNeeded (l : Launch) (G : Gx) (ad : Nat → Nat) (a : Int32) (σ : Sg) (r : String ⊕ Int32) (σf : Sg) (hf : fX6_channelsNeeded a σ = some (r, σf)) : ConX wX l G ad yX6_channelsNeeded (Cond.code yX6_channelsNeeded cX6_channelsNeeded 2 (some .int)) rmX6_channelsNeeded 2 12 [.ref (ad 0), .int a] σ (rI r) σf := by
  refine ConX.start (by decide) (Nat.le_of_ble_eq_true rfl) (fun X Q _ C Fr Fx => ?_)
  refine V_eq (L' := [(0, .ref (ad 0)), (1, .int a)]) (st' := []) rfl rfl rfl ?_
  unfold fX6_channelsNeeded at hf
  refine V_aload_n (q := 1) C dX6_channelsNeeded_0 rfl rfl 0 rfl ?_
  refine V_iload_n (q := 2) C dX6_channelsNeeded_1 rfl rfl 1 rfl ?_
  obtain ⟨z4, σ2, h3, hE, hA⟩ := bx_s hf
  refine V_callVX (av := [.int a]) (st := []) (q := 5) (mc := 2) (ms := 12) C 0 (by decide) (eX_0 G ad _) rfl rfl (conX6_requireSet _ _ _ _ _ _ _ h3) q_775 q_107 q_772 q_774 q_26 nmX6_requireSet (by decide) rfl rfl (Nat.le_of_ble_eq_true rfl) dX6_channelsNeeded_2 rfl (by decide) (by decide) (fun E hz => by
    obtain rfl := rU_l hz
    obtain ⟨e1, e2⟩ := pr_s (hE _ rfl)
    subst e1; subst e2
    exact Fx _ rfl) (fun w5 h6 => ?_)
  obtain ⟨r1, rfl, rfl⟩ := rU_r h6
  replace hf := hA _ rfl
  refine V_eq (L' := [(0, .ref (ad 0)), (1, .int a)]) (st' := []) rfl rfl rfl ?_
  refine V_wide (k2 := 1) (n2 := 6) (by decide) (by decide) ?_
  refine V_aload_n (q := 6) C dX6_channelsNeeded_5 rfl rfl 0 rfl ?_
  refine V_iload_n (q := 7) C dX6_channelsNeeded_6 rfl rfl 1 rfl ?_
  obtain ⟨z10, σ8, h9, hE, hA⟩ := bx_s hf
  refine V_callVX (av := [.int a]) (st := []) (q := 10) (mc := 2) (ms := 12) C 0 (by decide) (eX_0 G ad _) rfl rfl (conX6_requireFeasible _ _ _ _ _ _ _ h9) q_848 q_107 q_845 q_847 q_38 nmX6_requireFeasible (by decide) rfl rfl (Nat.le_of_ble_eq_true rfl) dX6_channelsNeeded_7 rfl (by decide) (by decide) (fun E hz => by
    obtain rfl := rU_l hz
    obtain ⟨e1, e2⟩ := pr_s (hE _ rfl)
    subst e1; subst e2
    exact Fx _ rfl) (fun w11 h12 => ?_)
  obtain ⟨r7, rfl, rfl⟩ := rU_r h12
  replace hf := hA _ rfl
  refine V_eq (L' := [(0, .ref (ad 0)), (1, .int a)]) (st' := []) rfl rfl rfl ?_
  refine V_wide (k2 := 2) (n2 := 12) (by decide) (by decide) ?_
  refine V_aload_n (q := 11) C dX6_channelsNeeded_10 rfl rfl 0 rfl ?_
  refine GX_0_1 (q := 14) C q_354 dX6_channelsNeeded_11 rfl ?_
  refine V_iload_n (q := 15) C dX6_channelsNeeded_14 rfl rfl 1 rfl ?_
  obtain ⟨r13, σ14, h15, hf⟩ := bd_s hf
  refine V_callVN (av := [.int a]) (st := []) (st1 := [.int r13]) (q := 18) C 2 (by decide) (eX_2 G ad _) rfl rfl (conX4_fewestChannels _ _ _ _ _ _ _ h15) q_893 q_109 q_890 q_892 q_43 nmX4_fewestChannels (by decide) rfl rfl (Nat.le_of_ble_eq_true rfl) dX6_channelsNeeded_15 rfl rfl ?_
  obtain ⟨e1, e2⟩ := pr_s hf
  subst e1; subst e2
  exact V_iret C (Fr _ rfl) (by decide) (by decide) dX6_channelsNeeded_18
def rmX0_isOver : Room := { frames := 0, cells := 0, slots := 0, locals := 0 }
def fX0_isOver  (σ : Sg) : Option (Int32 × Sg) := if (σ 7 7) = 0 then (some ((1 : Int32), σ)) else (some ((0 : Int32), σ))
set_option maxHeartbeats 4000000 in
theorem conX0_isOver (l : Launch) (G : Gx) (ad : Nat → Nat)  (σ : Sg) (r : Int32) (σf : Sg)  (hf : fX0_isOver  σ = some (r, σf)) : Con wX l G ad yX0_isOver (Cond.code yX0_isOver cX0_isOver 1 (some .boolean)) rmX0_isOver 0 0 [.ref (ad 7)] σ (some (.int r)) σf := by
  refine Con.start (by decide) (Nat.le_of_ble_eq_true rfl) (fun X Q _ C F => ?_)
  refine V_eq (L' := [(0, .ref (ad 7))]) (st' := []) rfl rfl rfl ?_
  unfold fX0_isOver at hf
  refine V_aload_n (q := 1) C dX0_isOver_0 rfl rfl 0 rfl ?_
  refine GX_7_7 (q := 4) C q_324 dX0_isOver_1 rfl ?_
  refine V_if_ne (t := 11) (q := 7) C dX0_isOver_4 (by decide) rfl (fun c1 => ?_) (fun c1 => ?_)
  · replace hf := (ite_s hf).2 c1
    refine V_iconst (v := 0) (q := 12) C dX0_isOver_11 rfl ic_0 ?_
    obtain ⟨e1, e2⟩ := pr_s hf
    subst e1; subst e2
    exact V_zret C F (by decide) (by decide) (by decide) dX0_isOver_12
  · replace hf := (ite_s hf).1 c1
    refine V_iconst (v := 1) (q := 8) C dX0_isOver_7 rfl ic_1 ?_
    refine V_goto (t := 12) C dX0_isOver_8 (by decide) ?_
    obtain ⟨e1, e2⟩ := pr_s hf
    subst e1; subst e2
    exact V_zret C F (by decide) (by decide) (by decide) dX0_isOver_12
def rmX6_requireFinished : Room := { frames := 6, cells := 1, slots := 6, locals := 90 }
def fX6_requireFinished  (σ : Sg) : Option ((String ⊕ Unit) × Sg) := jp (fun (σ1 : Sg) => some (.inl "java/lang/IllegalStateException", σ1)) (fun (J20 : Sg → Option ((String ⊕ Unit) × Sg)) => if (σ 7 4) = 0 then (J20  σ) else (bd (fX0_isOver  σ) (fun (r3 : Int32) (σ4 : Sg) => if r3 = 0 then (J20  σ4) else (some (.inr (), σ4)))))
set_option maxHeartbeats 4000000 in
theorem conX6_requireFinished (l : Launch) (G : Gx) (ad : Nat → Nat)  (σ : Sg) (r : String ⊕ Unit) (σf : Sg) (hf : fX6_requireFinished  σ = some (r, σf)) : ConX wX l G ad yX6_requireFinished (Cond.code yX6_requireFinished cX6_requireFinished 1 none) rmX6_requireFinished 1 6 [.ref (ad 0)] σ (rU r) σf := by
  refine ConX.start (by decide) (Nat.le_of_ble_eq_true rfl) (fun X Q _ C Fr Fx => ?_)
  refine V_eq (L' := [(0, .ref (ad 0))]) (st' := []) rfl rfl rfl ?_
  unfold fX6_requireFinished at hf
  refine V_aload_n (q := 1) C dX6_requireFinished_0 rfl rfl 0 rfl ?_
  refine GX_0_6 (q := 4) C q_359 dX6_requireFinished_1 rfl ?_
  refine GNX_7_4 (q := 7) C q_319 dX6_requireFinished_4 rfl ?_
  obtain ⟨J20, eJ20, hf⟩ := jp_s hf
  have hJ20 : ∀ (σ1 : Sg), J20 σ1 = some (r, σf) → V wX X G ad 1 Q 0 0 σ1 20 [] [] := by
    intro σ1 hf
    subst eJ20
    obtain ⟨e1, e2⟩ := pr_s hf
    subst e1; subst e2
    exact V_throwSW (text := "no auction is known or it is not over") C rfl (Fx _ rfl) rfl q_522 q_120 (by decide) xa_100 xg_100 dX6_requireFinished_20 dX6_requireFinished_23 dX6_requireFinished_24 dX6_requireFinished_27 dX6_requireFinished_30 (by decide) (Nat.le_of_ble_eq_true rfl) (by decide) (by decide) (by decide) (by decide)
  refine V_if_eq (t := 20) (q := 10) C dX6_requireFinished_7 (by decide) rfl (fun c2 => ?_) (fun c2 => ?_)
  · replace hf := (ite_s hf).1 c2
    refine V_sub (L' := []) [] rfl ?_
    exact hJ20 _ hf
  · replace hf := (ite_s hf).2 c2
    refine V_aload_n (q := 11) C dX6_requireFinished_10 rfl rfl 0 rfl ?_
    refine GX_0_6 (q := 14) C q_359 dX6_requireFinished_11 rfl ?_
    obtain ⟨r3, σ4, h5, hf⟩ := bd_s hf
    refine V_callVN (av := []) (st := []) (st1 := [.int r3]) (q := 17) C 7 (by decide) (eX_7 G ad _) rfl rfl (conX0_isOver _ _ _  _ _ _ h5) q_994 q_113 q_991 q_993 q_57 nmX0_isOver (by decide) rfl rfl (Nat.le_of_ble_eq_true rfl) dX6_requireFinished_14 rfl rfl ?_
    refine V_if_ne (t := 31) (q := 20) C dX6_requireFinished_17 (by decide) rfl (fun c6 => ?_) (fun c6 => ?_)
    · replace hf := (ite_s hf).2 c6
      obtain ⟨e1, e2⟩ := pr_s hf
      subst e1; subst e2
      exact V_vret C (Fr _ rfl) (by decide) (by decide) dX6_requireFinished_31
    · replace hf := (ite_s hf).1 c6
      refine V_sub (L' := []) [] rfl ?_
      exact hJ20 _ hf
def rmX6_close : Room := { frames := 20, cells := 1, slots := 6, locals := 593 }
def fX6_close  (σ : Sg) : Option ((String ⊕ Int32) × Sg) := bx (fX6_requireFinished  σ) (fun E σE => some (.inl E, σE)) (fun (_ : Unit) (σ2 : Sg) => bd (fX4_settle (σ2 7 6) (0 : Int32) σ2) (fun (_ : Unit) (σ7 : Sg) => bd (fX4_keep (σ7 7 6) σ7) (fun (r9 : Int32) (σ10 : Sg) => lt' (sup σ10 7 4 (0 : Int32)) (fun (σ12 : Sg) => some (.inr (pJ6_bitCount_0f7a4 (σ12 7 6)), σ12)))))
set_option maxHeartbeats 4000000 in
theorem conX6_close (l : Launch) (G : Gx) (ad : Nat → Nat)  (σ : Sg) (r : String ⊕ Int32) (σf : Sg) (hf : fX6_close  σ = some (r, σf)) : ConX wX l G ad yX6_close (Cond.code yX6_close cX6_close 1 (some .int)) rmX6_close 1 6 [.ref (ad 0)] σ (rI r) σf := by
  refine ConX.start (by decide) (Nat.le_of_ble_eq_true rfl) (fun X Q _ C Fr Fx => ?_)
  refine V_eq (L' := [(0, .ref (ad 0))]) (st' := []) rfl rfl rfl ?_
  unfold fX6_close at hf
  refine V_aload_n (q := 1) C dX6_close_0 rfl rfl 0 rfl ?_
  obtain ⟨z4, σ2, h3, hE, hA⟩ := bx_s hf
  refine V_callVX (av := []) (st := []) (q := 4) (mc := 1) (ms := 6) C 0 (by decide) (eX_0 G ad _) rfl rfl (conX6_requireFinished _ _ _  _ _ _ h3) q_1030 q_107 q_1027 q_1029 q_60 nmX6_requireFinished (by decide) rfl rfl (Nat.le_of_ble_eq_true rfl) dX6_close_1 rfl (by decide) (by decide) (fun E hz => by
    obtain rfl := rU_l hz
    obtain ⟨e1, e2⟩ := pr_s (hE _ rfl)
    subst e1; subst e2
    exact Fx _ rfl) (fun w5 h6 => ?_)
  obtain ⟨r1, rfl, rfl⟩ := rU_r h6
  replace hf := hA _ rfl
  refine V_eq (L' := [(0, .ref (ad 0))]) (st' := []) rfl rfl rfl ?_
  refine V_wide (k2 := 1) (n2 := 6) (by decide) (by decide) ?_
  refine V_aload_n (q := 5) C dX6_close_4 rfl rfl 0 rfl ?_
  refine GX_0_1 (q := 8) C q_354 dX6_close_5 rfl ?_
  refine V_aload_n (q := 9) C dX6_close_8 rfl rfl 0 rfl ?_
  refine GX_0_6 (q := 12) C q_359 dX6_close_9 rfl ?_
  refine GNX_7_6 (q := 15) C q_323 dX6_close_12 rfl ?_
  refine V_iconst (v := 0) (q := 16) C dX6_close_15 rfl ic_0 ?_
  obtain ⟨_u, σ7, h8, hf⟩ := bd_s hf
  refine V_callVN (av := [.int (σ2 7 6), .int (0 : Int32)]) (st := []) (st1 := []) (q := 19) C 2 (by decide) (eX_2 G ad _) rfl rfl (conX4_settle _ _ _ _ _ _ _ h8) q_853 q_109 q_850 q_852 q_39 nmX4_settle (by decide) rfl rfl (Nat.le_of_ble_eq_true rfl) dX6_close_16 rfl rfl ?_
  refine V_aload_n (q := 20) C dX6_close_19 rfl rfl 0 rfl ?_
  refine GX_0_1 (q := 23) C q_354 dX6_close_20 rfl ?_
  refine V_aload_n (q := 24) C dX6_close_23 rfl rfl 0 rfl ?_
  refine GX_0_6 (q := 27) C q_359 dX6_close_24 rfl ?_
  refine GNX_7_6 (q := 30) C q_323 dX6_close_27 rfl ?_
  obtain ⟨r9, σ10, h11, hf⟩ := bd_s hf
  refine V_callVN (av := [.int (σ7 7 6)]) (st := []) (st1 := [.int r9]) (q := 33) C 2 (by decide) (eX_2 G ad _) rfl rfl (conX4_keep _ _ _ _ _ _ _ h11) q_861 q_109 q_858 q_860 q_41 nmX4_keep (by decide) rfl rfl (Nat.le_of_ble_eq_true rfl) dX6_close_30 rfl rfl ?_
  refine V_pop (q := 34) C dX6_close_33 rfl rfl ?_
  refine V_aload_n (q := 35) C dX6_close_34 rfl rfl 0 rfl ?_
  refine GX_0_6 (q := 38) C q_359 dX6_close_35 rfl ?_
  refine V_iconst (v := 0) (q := 39) C dX6_close_38 rfl ic_0 ?_
  refine PNX_7_4 (q := 42) C (by decide) q_319 dX6_close_39 rfl ?_
  refine V_lets hf (fun σ12 hf => ?_)
  refine V_aload_n (q := 43) C dX6_close_42 rfl rfl 0 rfl ?_
  refine GX_0_6 (q := 46) C q_359 dX6_close_43 rfl ?_
  refine GNX_7_6 (q := 49) C q_323 dX6_close_46 rfl ?_
  refine V_callS (av := [.int (σ12 7 6)]) (st := []) (st1 := [.int (pJ6_bitCount_0f7a4 (σ12 7 6))]) (q := 52) C (conJ6_bitCount_0f7a4 _ _ _ _ _ _ rfl) q_727 q_126 q_866 q_726 nmJ6_bitCount_0f7a4 (by decide) rfl rfl (Nat.le_of_ble_eq_true rfl) dX6_close_49 rfl rfl ?_
  obtain ⟨e1, e2⟩ := pr_s hf
  subst e1; subst e2
  exact V_iret C (Fr _ rfl) (by decide) (by decide) dX6_close_52
def rmX5_put_6 : Room := { frames := 0, cells := 0, slots := 0, locals := 0 }
def fX5_put_6 (a : Int32) (σ : Sg) : Option (Unit × Sg) := if (420 : Int32) ≤ (σ 6 1) then (some ((), σ)) else (gd (inb (σ 6 1) 420) (lt' (sup σ 26 ((σ 6 1).toNatClampNeg) (vp_nar .char a)) (fun (σ3 : Sg) => lt' (sup σ3 6 1 ((σ3 6 1) + (1 : Int32))) (fun (σ4 : Sg) => some ((), σ4)))))
set_option maxHeartbeats 4000000 in
theorem conX5_put_6 (l : Launch) (G : Gx) (ad : Nat → Nat) (a : Int32) (σ : Sg) (σf : Sg)  (hf : fX5_put_6 a σ = some ((), σf)) : Con wX l G ad yX5_put (Cond.code yX5_put cX5_put 2 none) rmX5_put_6 0 0 [.ref (ad 6), .int a] σ none σf := by
  refine Con.start (by decide) (Nat.le_of_ble_eq_true rfl) (fun X Q _ C F => ?_)
  refine V_eq (L' := [(0, .ref (ad 6)), (1, .int a)]) (st' := []) rfl rfl rfl ?_
  unfold fX5_put_6 at hf
  refine V_aload_n (q := 1) C dX5_put_0 rfl rfl 0 rfl ?_
  refine GX_6_1 (q := 4) C q_269 dX5_put_1 rfl ?_
  refine V_aload_n (q := 5) C dX5_put_4 rfl rfl 0 rfl ?_
  refine GX_6_0 (q := 8) C q_268 dX5_put_5 rfl ?_
  refine LX_26 (q := 9) C dX5_put_8 rfl ?_
  refine V_icmp_ge (t := 32) (q := 12) C dX5_put_9 (by decide) rfl (fun c1 => ?_) (fun c1 => ?_)
  · replace hf := (ite_s hf).1 c1
    obtain ⟨-, e2⟩ := pr_s hf
    subst e2
    exact V_vret C F (by decide) (by decide) dX5_put_32
  · replace hf := (ite_s hf).2 c1
    refine V_aload_n (q := 13) C dX5_put_12 rfl rfl 0 rfl ?_
    refine GX_6_0 (q := 16) C q_268 dX5_put_13 rfl ?_
    refine V_aload_n (q := 17) C dX5_put_16 rfl rfl 0 rfl ?_
    refine GX_6_1 (q := 20) C q_269 dX5_put_17 rfl ?_
    refine V_iload_n (q := 21) C dX5_put_20 rfl rfl 1 rfl ?_
    obtain ⟨g2, hf⟩ := gd_s hf
    refine SX_26 (z := (σ 6 1).toNatClampNeg) (q := 22) C rfl (inb_in g2) dX5_put_21 rfl ?_
    refine V_lets hf (fun σ3 hf => ?_)
    refine V_aload_n (q := 23) C dX5_put_22 rfl rfl 0 rfl ?_
    refine V_dup (q := 24) C dX5_put_23 rfl rfl ?_
    refine GX_6_1 (q := 27) C q_269 dX5_put_24 rfl ?_
    refine V_iconst (v := 1) (q := 28) C dX5_put_27 rfl ic_1 ?_
    refine V_iadd (q := 29) C dX5_put_28 rfl ?_
    refine PX_6_1 (q := 32) C q_269 dX5_put_29 rfl ?_
    refine V_lets hf (fun σ4 hf => ?_)
    obtain ⟨-, e2⟩ := pr_s hf
    subst e2
    exact V_vret C F (by decide) (by decide) dX5_put_32
def rmX5_putNumber_6 : Room := { frames := 1, cells := 0, slots := 0, locals := 21 }
def fX5_putNumber_6 (a : Int32) (σ : Sg) : Option (Unit × Sg) := jp (fun (σ1 : Sg) => bd (fX5_put_6 ((((48 : Int32) + (a - a / (10 : Int32) * (10 : Int32))).toUInt32 % 65536).toInt32) σ1) (fun (_ : Unit) (σ2 : Sg) => some ((), σ2))) (fun (J18 : Sg → Option (Unit × Sg)) => if a < (10 : Int32) then (J18  σ) else (bd (fX5_put_6 ((((48 : Int32) + (a / (10 : Int32))).toUInt32 % 65536).toInt32) σ) (fun (_ : Unit) (σ5 : Sg) => J18  σ5)))
set_option maxHeartbeats 4000000 in
theorem conX5_putNumber_6 (l : Launch) (G : Gx) (ad : Nat → Nat) (a : Int32) (σ : Sg) (σf : Sg)  (hf : fX5_putNumber_6 a σ = some ((), σf)) : Con wX l G ad yX5_putNumber (Cond.code yX5_putNumber cX5_putNumber 2 none) rmX5_putNumber_6 0 0 [.ref (ad 6), .int a] σ none σf := by
  refine Con.start (by decide) (Nat.le_of_ble_eq_true rfl) (fun X Q _ C F => ?_)
  refine V_eq (L' := [(0, .ref (ad 6)), (1, .int a)]) (st' := []) rfl rfl rfl ?_
  unfold fX5_putNumber_6 at hf
  refine V_iload_n (q := 1) C dX5_putNumber_0 rfl rfl 1 rfl ?_
  refine V_bipush (v := 10) (q := 3) C dX5_putNumber_1 rfl bc_10 ?_
  obtain ⟨J18, eJ18, hf⟩ := jp_s hf
  have hJ18 : ∀ (σ1 : Sg), J18 σ1 = some ((), σf) → V wX X G ad 2 Q 0 0 σ1 18 [(0, .ref (ad 6)), (1, .int a)] [] := by
    intro σ1 hf
    subst eJ18
    refine V_aload_n (q := 19) C dX5_putNumber_18 rfl rfl 0 rfl ?_
    refine V_bipush (v := 48) (q := 21) C dX5_putNumber_19 rfl bc_48 ?_
    refine V_iload_n (q := 22) C dX5_putNumber_21 rfl rfl 1 rfl ?_
    refine V_bipush (v := 10) (q := 24) C dX5_putNumber_22 rfl bc_10 ?_
    refine V_irem (q := 25) C dX5_putNumber_24 rfl (by decide) ?_
    refine V_iadd (q := 26) C dX5_putNumber_25 rfl ?_
    refine V_i2c (q := 27) C dX5_putNumber_26 rfl ?_
    obtain ⟨_u, σ2, h3, hf⟩ := bd_s hf
    refine V_callV (av := [.int (((48 : Int32) + (a - a / (10 : Int32) * (10 : Int32))).toUInt32 % 65536).toInt32]) (st := []) (st1 := []) (q := 30) C 6 (by decide) (eX_6 G ad _) rfl rfl (conX5_put_6 _ _ _ _ _ _ h3) q_639 q_112 q_711 q_638 q_11 nmX5_put (by decide) rfl rfl (Nat.le_of_ble_eq_true rfl) dX5_putNumber_27 rfl rfl ?_
    obtain ⟨-, e2⟩ := pr_s hf
    subst e2
    exact V_vret C F (by decide) (by decide) dX5_putNumber_30
  refine V_icmp_lt (t := 18) (q := 6) C dX5_putNumber_3 (by decide) rfl (fun c4 => ?_) (fun c4 => ?_)
  · replace hf := (ite_s hf).1 c4
    exact hJ18 _ hf
  · replace hf := (ite_s hf).2 c4
    refine V_aload_n (q := 7) C dX5_putNumber_6 rfl rfl 0 rfl ?_
    refine V_bipush (v := 48) (q := 9) C dX5_putNumber_7 rfl bc_48 ?_
    refine V_iload_n (q := 10) C dX5_putNumber_9 rfl rfl 1 rfl ?_
    refine V_bipush (v := 10) (q := 12) C dX5_putNumber_10 rfl bc_10 ?_
    refine V_idiv (q := 13) C dX5_putNumber_12 rfl (by decide) ?_
    refine V_iadd (q := 14) C dX5_putNumber_13 rfl ?_
    refine V_i2c (q := 15) C dX5_putNumber_14 rfl ?_
    obtain ⟨_u, σ5, h6, hf⟩ := bd_s hf
    refine V_callV (av := [.int (((48 : Int32) + (a / (10 : Int32))).toUInt32 % 65536).toInt32]) (st := []) (st1 := []) (q := 18) C 6 (by decide) (eX_6 G ad _) rfl rfl (conX5_put_6 _ _ _ _ _ _ h6) q_639 q_112 q_711 q_638 q_11 nmX5_put (by decide) rfl rfl (Nat.le_of_ble_eq_true rfl) dX5_putNumber_15 rfl rfl ?_
    exact hJ18 _ hf
def rmX6_describePair : Room := { frames := 2, cells := 0, slots := 0, locals := 42 }
def fX6_describePair (a : Int32) (b : Int32) (σ : Sg) : Option (Unit × Sg) := gd (inb a 12) (lt' ((pX6_contains (σ 15 a.toNatClampNeg) b)) (fun (x2 : Int32) => gd (inb a 12) (lt' ((pX6_contains (σ 16 a.toNatClampNeg) b)) (fun (x4 : Int32) => jp (fun (σ5 : Sg) => jp (fun (σ6 : Sg) => bd (fX5_putNumber_6 a σ6) (fun (_ : Unit) (σ7 : Sg) => bd (fX5_put_6 (45 : Int32) σ7) (fun (_ : Unit) (σ9 : Sg) => bd (fX5_putNumber_6 b σ9) (fun (_ : Unit) (σ11 : Sg) => jp (fun (σ13 : Sg) => if x4 = 0 then (some ((), σ13)) else (bd (fX5_put_6 (97 : Int32) σ13) (fun (_ : Unit) (σ15 : Sg) => some ((), σ15)))) (fun (J96 : Sg → Option (Unit × Sg)) => if x2 = 0 then (J96  σ11) else (bd (fX5_put_6 (99 : Int32) σ11) (fun (_ : Unit) (σ18 : Sg) => J96  σ18))))))) (fun (J58 : Sg → Option (Unit × Sg)) => if (σ5 6 1) ≤ 0 then (J58  σ5) else (bd (fX5_put_6 (59 : Int32) σ5) (fun (_ : Unit) (σ21 : Sg) => J58  σ21)))) (fun (J39 : Sg → Option (Unit × Sg)) => if x2 = 0 then (if x4 = 0 then (some ((), σ)) else (J39  σ)) else (J39  σ))))))
set_option maxHeartbeats 4000000 in
theorem conX6_describePair (l : Launch) (G : Gx) (ad : Nat → Nat) (a : Int32) (b : Int32) (σ : Sg) (σf : Sg)  (hf : fX6_describePair a b σ = some ((), σf)) : Con wX l G ad yX6_describePair (Cond.code yX6_describePair cX6_describePair 5 none) rmX6_describePair 0 0 [.ref (ad 0), .int a, .int b] σ none σf := by
  refine Con.start (by decide) (Nat.le_of_ble_eq_true rfl) (fun X Q _ C F => ?_)
  refine V_eq (L' := [(0, .ref (ad 0)), (1, .int a), (2, .int b)]) (st' := []) rfl rfl rfl ?_
  unfold fX6_describePair at hf
  refine V_aload_n (q := 1) C dX6_describePair_0 rfl rfl 0 rfl ?_
  refine GX_0_2 (q := 4) C q_355 dX6_describePair_1 rfl ?_
  refine GNX_3_4 (q := 7) C q_172 dX6_describePair_4 rfl ?_
  refine V_iload_n (q := 8) C dX6_describePair_7 rfl rfl 1 rfl ?_
  obtain ⟨g1, hf⟩ := gd_s hf
  refine RX_15 (z := a.toNatClampNeg) (q := 9) C rfl (inb_in g1) dX6_describePair_8 rfl ?_
  refine V_iload_n (q := 10) C dX6_describePair_9 rfl rfl 2 rfl ?_
  refine V_callS (av := [.int (σ 15 a.toNatClampNeg), .int b]) (st := []) (st1 := [.int (pX6_contains (σ 15 a.toNatClampNeg) b)]) (q := 13) C (conX6_contains _ _ _ _ _ _ _ rfl) q_612 q_107 q_610 q_611 nmX6_contains (by decide) rfl rfl (Nat.le_of_ble_eq_true rfl) dX6_describePair_10 rfl rfl ?_
  refine V_let (cv := Value.int) hf (fun x2 hf => ?_)
  refine V_istore_n (L' := [(3, .int x2), (0, .ref (ad 0)), (1, .int a), (2, .int b)]) (q := 14) C dX6_describePair_13 rfl rfl (by decide) rfl ?_
  refine V_aload_n (q := 15) C dX6_describePair_14 rfl rfl 1 rfl ?_
  refine GX_0_2 (q := 18) C q_355 dX6_describePair_15 rfl ?_
  refine GNX_3_5 (q := 21) C q_176 dX6_describePair_18 rfl ?_
  refine V_iload_n (q := 22) C dX6_describePair_21 rfl rfl 2 rfl ?_
  obtain ⟨g3, hf⟩ := gd_s hf
  refine RX_16 (z := a.toNatClampNeg) (q := 23) C rfl (inb_in g3) dX6_describePair_22 rfl ?_
  refine V_iload_n (q := 24) C dX6_describePair_23 rfl rfl 3 rfl ?_
  refine V_callS (av := [.int (σ 16 a.toNatClampNeg), .int b]) (st := []) (st1 := [.int (pX6_contains (σ 16 a.toNatClampNeg) b)]) (q := 27) C (conX6_contains _ _ _ _ _ _ _ rfl) q_612 q_107 q_610 q_611 nmX6_contains (by decide) rfl rfl (Nat.le_of_ble_eq_true rfl) dX6_describePair_24 rfl rfl ?_
  refine V_let (cv := Value.int) hf (fun x4 hf => ?_)
  refine V_istore (L' := [(4, .int x4), (3, .int x2), (0, .ref (ad 0)), (1, .int a), (2, .int b)]) (q := 29) C dX6_describePair_27 rfl (by decide) rfl ?_
  refine V_iload_n (q := 30) C dX6_describePair_29 rfl rfl 1 rfl ?_
  obtain ⟨J39, eJ39, hf⟩ := jp_s hf
  have hJ39 : ∀ (σ5 : Sg), J39 σ5 = some ((), σf) → V wX X G ad 5 Q 0 0 σ5 39 [(0, .ref (ad 0)), (1, .int a), (2, .int b), (3, .int x2), (4, .int x4)] [] := by
    intro σ5 hf
    subst eJ39
    refine V_aload_n (q := 40) C dX6_describePair_39 rfl rfl 0 rfl ?_
    refine GX_0_5 (q := 43) C q_358 dX6_describePair_40 rfl ?_
    refine GNX_6_1 (q := 46) C q_271 dX6_describePair_43 rfl ?_
    obtain ⟨J58, eJ58, hf⟩ := jp_s hf
    have hJ58 : ∀ (σ6 : Sg), J58 σ6 = some ((), σf) → V wX X G ad 5 Q 0 0 σ6 58 [(0, .ref (ad 0)), (1, .int a), (2, .int b), (3, .int x2), (4, .int x4)] [] := by
      intro σ6 hf
      subst eJ58
      refine V_aload_n (q := 59) C dX6_describePair_58 rfl rfl 0 rfl ?_
      refine GX_0_5 (q := 62) C q_358 dX6_describePair_59 rfl ?_
      refine V_iload_n (q := 63) C dX6_describePair_62 rfl rfl 1 rfl ?_
      obtain ⟨_u, σ7, h8, hf⟩ := bd_s hf
      refine V_callVN (av := [.int a]) (st := []) (st1 := []) (q := 66) C 6 (by decide) (eX_6 G ad _) rfl rfl (conX5_putNumber_6 _ _ _ _ _ _ h8) q_710 q_112 q_707 q_709 q_22 nmX5_putNumber (by decide) rfl rfl (Nat.le_of_ble_eq_true rfl) dX6_describePair_63 rfl rfl ?_
      refine V_aload_n (q := 67) C dX6_describePair_66 rfl rfl 0 rfl ?_
      refine GX_0_5 (q := 70) C q_358 dX6_describePair_67 rfl ?_
      refine V_bipush (v := 45) (q := 72) C dX6_describePair_70 rfl bc_45 ?_
      obtain ⟨_u, σ9, h10, hf⟩ := bd_s hf
      refine V_callVN (av := [.int (45 : Int32)]) (st := []) (st1 := []) (q := 75) C 6 (by decide) (eX_6 G ad _) rfl rfl (conX5_put_6 _ _ _ _ _ _ h10) q_639 q_112 q_636 q_638 q_11 nmX5_put (by decide) rfl rfl (Nat.le_of_ble_eq_true rfl) dX6_describePair_72 rfl rfl ?_
      refine V_aload_n (q := 76) C dX6_describePair_75 rfl rfl 0 rfl ?_
      refine GX_0_5 (q := 79) C q_358 dX6_describePair_76 rfl ?_
      refine V_iload_n (q := 80) C dX6_describePair_79 rfl rfl 2 rfl ?_
      obtain ⟨_u, σ11, h12, hf⟩ := bd_s hf
      refine V_callVN (av := [.int b]) (st := []) (st1 := []) (q := 83) C 6 (by decide) (eX_6 G ad _) rfl rfl (conX5_putNumber_6 _ _ _ _ _ _ h12) q_710 q_112 q_707 q_709 q_22 nmX5_putNumber (by decide) rfl rfl (Nat.le_of_ble_eq_true rfl) dX6_describePair_80 rfl rfl ?_
      refine V_iload_n (q := 84) C dX6_describePair_83 rfl rfl 3 rfl ?_
      obtain ⟨J96, eJ96, hf⟩ := jp_s hf
      have hJ96 : ∀ (σ13 : Sg), J96 σ13 = some ((), σf) → V wX X G ad 5 Q 0 0 σ13 96 [(0, .ref (ad 0)), (4, .int x4)] [] := by
        intro σ13 hf
        subst eJ96
        refine V_iload (q := 98) C dX6_describePair_96 rfl 1 rfl ?_
        refine V_if_eq (t := 110) (q := 101) C dX6_describePair_98 (by decide) rfl (fun c14 => ?_) (fun c14 => ?_)
        · replace hf := (ite_s hf).1 c14
          obtain ⟨-, e2⟩ := pr_s hf
          subst e2
          exact V_vret C F (by decide) (by decide) dX6_describePair_110
        · replace hf := (ite_s hf).2 c14
          refine V_aload_n (q := 102) C dX6_describePair_101 rfl rfl 0 rfl ?_
          refine GX_0_5 (q := 105) C q_358 dX6_describePair_102 rfl ?_
          refine V_bipush (v := 97) (q := 107) C dX6_describePair_105 rfl bc_97 ?_
          obtain ⟨_u, σ15, h16, hf⟩ := bd_s hf
          refine V_callVN (av := [.int (97 : Int32)]) (st := []) (st1 := []) (q := 110) C 6 (by decide) (eX_6 G ad _) rfl rfl (conX5_put_6 _ _ _ _ _ _ h16) q_639 q_112 q_636 q_638 q_11 nmX5_put (by decide) rfl rfl (Nat.le_of_ble_eq_true rfl) dX6_describePair_107 rfl rfl ?_
          obtain ⟨-, e2⟩ := pr_s hf
          subst e2
          exact V_vret C F (by decide) (by decide) dX6_describePair_110
      refine V_if_eq (t := 96) (q := 87) C dX6_describePair_84 (by decide) rfl (fun c17 => ?_) (fun c17 => ?_)
      · replace hf := (ite_s hf).1 c17
        refine V_sub (L' := [(0, .ref (ad 0)), (4, .int x4)]) [0, 4] rfl ?_
        exact hJ96 _ hf
      · replace hf := (ite_s hf).2 c17
        refine V_aload_n (q := 88) C dX6_describePair_87 rfl rfl 0 rfl ?_
        refine GX_0_5 (q := 91) C q_358 dX6_describePair_88 rfl ?_
        refine V_bipush (v := 99) (q := 93) C dX6_describePair_91 rfl bc_99 ?_
        obtain ⟨_u, σ18, h19, hf⟩ := bd_s hf
        refine V_callVN (av := [.int (99 : Int32)]) (st := []) (st1 := []) (q := 96) C 6 (by decide) (eX_6 G ad _) rfl rfl (conX5_put_6 _ _ _ _ _ _ h19) q_639 q_112 q_636 q_638 q_11 nmX5_put (by decide) rfl rfl (Nat.le_of_ble_eq_true rfl) dX6_describePair_93 rfl rfl ?_
        refine V_sub (L' := [(0, .ref (ad 0)), (4, .int x4)]) [0, 4] rfl ?_
        exact hJ96 _ hf
    refine V_if_le (t := 58) (q := 49) C dX6_describePair_46 (by decide) rfl (fun c20 => ?_) (fun c20 => ?_)
    · replace hf := (ite_s hf).1 c20
      exact hJ58 _ hf
    · replace hf := (ite_s hf).2 c20
      refine V_aload_n (q := 50) C dX6_describePair_49 rfl rfl 0 rfl ?_
      refine GX_0_5 (q := 53) C q_358 dX6_describePair_50 rfl ?_
      refine V_bipush (v := 59) (q := 55) C dX6_describePair_53 rfl bc_59 ?_
      obtain ⟨_u, σ21, h22, hf⟩ := bd_s hf
      refine V_callVN (av := [.int (59 : Int32)]) (st := []) (st1 := []) (q := 58) C 6 (by decide) (eX_6 G ad _) rfl rfl (conX5_put_6 _ _ _ _ _ _ h22) q_639 q_112 q_636 q_638 q_11 nmX5_put (by decide) rfl rfl (Nat.le_of_ble_eq_true rfl) dX6_describePair_55 rfl rfl ?_
      exact hJ58 _ hf
  refine V_if_ne (t := 39) (q := 33) C dX6_describePair_30 (by decide) rfl (fun c23 => ?_) (fun c23 => ?_)
  · replace hf := (ite_s hf).2 c23
    refine V_sub (L' := [(0, .ref (ad 0)), (1, .int a), (2, .int b), (3, .int x2), (4, .int x4)]) [2, 3, 4, 1, 0] rfl ?_
    exact hJ39 _ hf
  · replace hf := (ite_s hf).1 c23
    refine V_iload (q := 35) C dX6_describePair_33 rfl 0 rfl ?_
    refine V_if_ne (t := 39) (q := 38) C dX6_describePair_35 (by decide) rfl (fun c24 => ?_) (fun c24 => ?_)
    · replace hf := (ite_s hf).2 c24
      refine V_sub (L' := [(0, .ref (ad 0)), (1, .int a), (2, .int b), (3, .int x2), (4, .int x4)]) [2, 3, 4, 1, 0] rfl ?_
      exact hJ39 _ hf
    · replace hf := (ite_s hf).1 c24
      obtain ⟨-, e2⟩ := pr_s hf
      subst e2
      exact V_vret C F (by decide) (by decide) dX6_describePair_38
def rmX6_describeConflicts : Room := { frames := 3, cells := 0, slots := 0, locals := 66 }
def fX6_describeConflicts_25 (x2 : Int32) (K : Sg → Option (Unit × Sg)) : Nat → Int32 → Sg → Option (Unit × Sg)
  | 0, _, _ => none
  | n + 1, x6, σ7 => if (σ7 3 6) ≤ x6 then (K σ7) else (bd (fX6_describePair x2 x6 σ7) (fun (_ : Unit) (σ9 : Sg) => fX6_describeConflicts_25 x2 K n (x6 + (1 : Int32)) σ9))
def fX6_describeConflicts_10 : Nat → Int32 → Sg → Option (Unit × Sg)
  | 0, _, _ => none
  | n + 1, x2, σ3 => if (σ3 3 6) ≤ x2 then (some ((), σ3)) else (lt' ((x2 + (1 : Int32))) (fun (x5 : Int32) => fX6_describeConflicts_25 x2 (fun (σ11 : Sg) => fX6_describeConflicts_10 n (x2 + (1 : Int32)) σ11) FU x5 σ3))
def fX6_describeConflicts  (σ : Sg) : Option (Unit × Sg) := lt' (sup σ 6 1 (0 : Int32)) (fun (σ1 : Sg) => fX6_describeConflicts_10 FU (0 : Int32) σ1)
set_option maxHeartbeats 4000000 in
theorem wlX6_describeConflicts_25 {X : Cx} {G : Gx} {ad : Nat → Nat} {Q : State → Prop} {σf : Sg} (C : OK wX X G ad RX6 cX6_describeConflicts 3 rmX6_describeConflicts) (F : FinR wX X G ad Q 0 0 none none σf) (x2 : Int32) (K : Sg → Option (Unit × Sg)) (hK : ∀ (σk : Sg), K σk = some ((), σf) → V wX X G ad 3 Q 0 0 σk 48 [(0, .ref (ad 0)), (1, .int x2)] []) : ∀ (n : Nat) (x6 : Int32) (σ7 : Sg), fX6_describeConflicts_25 x2 K n x6 σ7 = some ((), σf) → V wX X G ad 3 Q 0 0 σ7 25 [(0, .ref (ad 0)), (1, .int x2), (2, .int x6)] [] := by
  intro n
  induction n with
  | zero =>
    intro _ _ hf
    exact absurd hf (by simp [fX6_describeConflicts_25])
  | succ n ih =>
    intro x6 σ7 hf
    rw [fX6_describeConflicts_25] at hf
    refine V_iload_n (q := 26) C dX6_describeConflicts_25 rfl rfl 2 rfl ?_
    refine V_aload_n (q := 27) C dX6_describeConflicts_26 rfl rfl 0 rfl ?_
    refine GX_0_2 (q := 30) C q_355 dX6_describeConflicts_27 rfl ?_
    refine GNX_3_6 (q := 33) C q_181 dX6_describeConflicts_30 rfl ?_
    refine V_icmp_ge (t := 48) (q := 36) C dX6_describeConflicts_33 (by decide) rfl (fun c8 => ?_) (fun c8 => ?_)
    · replace hf := (ite_s hf).1 c8
      refine V_sub (L' := [(0, .ref (ad 0)), (1, .int x2)]) [0, 1] rfl ?_
      exact hK _ hf
    · replace hf := (ite_s hf).2 c8
      refine V_aload_n (q := 37) C dX6_describeConflicts_36 rfl rfl 0 rfl ?_
      refine V_iload_n (q := 38) C dX6_describeConflicts_37 rfl rfl 1 rfl ?_
      refine V_iload_n (q := 39) C dX6_describeConflicts_38 rfl rfl 2 rfl ?_
      obtain ⟨_u, σ9, h10, hf⟩ := bd_s hf
      refine V_callV (av := [.int x2, .int x6]) (st := []) (st1 := []) (q := 42) C 0 (by decide) (eX_0 G ad _) rfl rfl (conX6_describePair _ _ _ _ _ _ _ h10) q_706 q_107 q_703 q_705 q_21 nmX6_describePair (by decide) rfl rfl (Nat.le_of_ble_eq_true rfl) dX6_describeConflicts_39 rfl rfl ?_
      refine V_iinc (L' := [(2, .int (x6 + (1 : Int32))), (0, .ref (ad 0)), (1, .int x2)]) (q := 45) C dX6_describeConflicts_42 rfl 2 rfl (congrArg (fun y => x6 + y) ic_1) (by decide) rfl ?_
      refine V_goto (t := 25) C dX6_describeConflicts_45 (by decide) ?_
      refine V_sub (L' := [(0, .ref (ad 0)), (1, .int x2), (2, .int (x6 + (1 : Int32)))]) [1, 2, 0] rfl ?_
      exact ih _ _ hf
set_option maxHeartbeats 4000000 in
theorem wlX6_describeConflicts_10 {X : Cx} {G : Gx} {ad : Nat → Nat} {Q : State → Prop} {σf : Sg} (C : OK wX X G ad RX6 cX6_describeConflicts 3 rmX6_describeConflicts) (F : FinR wX X G ad Q 0 0 none none σf) : ∀ (n : Nat) (x2 : Int32) (σ3 : Sg), fX6_describeConflicts_10 n x2 σ3 = some ((), σf) → V wX X G ad 3 Q 0 0 σ3 10 [(0, .ref (ad 0)), (1, .int x2)] [] := by
  intro n
  induction n with
  | zero =>
    intro _ _ hf
    exact absurd hf (by simp [fX6_describeConflicts_10])
  | succ n ih =>
    intro x2 σ3 hf
    rw [fX6_describeConflicts_10] at hf
    refine V_iload_n (q := 11) C dX6_describeConflicts_10 rfl rfl 1 rfl ?_
    refine V_aload_n (q := 12) C dX6_describeConflicts_11 rfl rfl 0 rfl ?_
    refine GX_0_2 (q := 15) C q_355 dX6_describeConflicts_12 rfl ?_
    refine GNX_3_6 (q := 18) C q_181 dX6_describeConflicts_15 rfl ?_
    refine V_icmp_ge (t := 54) (q := 21) C dX6_describeConflicts_18 (by decide) rfl (fun c4 => ?_) (fun c4 => ?_)
    · replace hf := (ite_s hf).1 c4
      obtain ⟨-, e2⟩ := pr_s hf
      subst e2
      exact V_vret C F (by decide) (by decide) dX6_describeConflicts_54
    · replace hf := (ite_s hf).2 c4
      refine V_iload_n (q := 22) C dX6_describeConflicts_21 rfl rfl 1 rfl ?_
      refine V_iconst (v := 1) (q := 23) C dX6_describeConflicts_22 rfl ic_1 ?_
      refine V_iadd (q := 24) C dX6_describeConflicts_23 rfl ?_
      refine V_let (cv := Value.int) hf (fun x5 hf => ?_)
      refine V_istore_n (L' := [(2, .int x5), (0, .ref (ad 0)), (1, .int x2)]) (q := 25) C dX6_describeConflicts_24 rfl rfl (by decide) rfl ?_
      refine V_sub (L' := [(0, .ref (ad 0)), (1, .int x2), (2, .int x5)]) [1, 2, 0] rfl ?_
      refine wlX6_describeConflicts_25 C F x2 _ (fun σ11 hf => ?_) FU _ _ hf
      refine V_iinc (L' := [(1, .int (x2 + (1 : Int32))), (0, .ref (ad 0))]) (q := 51) C dX6_describeConflicts_48 rfl 1 rfl (congrArg (fun y => x2 + y) ic_1) (by decide) rfl ?_
      refine V_goto (t := 10) C dX6_describeConflicts_51 (by decide) ?_
      refine V_sub (L' := [(0, .ref (ad 0)), (1, .int (x2 + (1 : Int32)))]) [1, 0] rfl ?_
      exact ih _ _ hf
set_option maxHeartbeats 4000000 in
theorem conX6_describeConflicts (l : Launch) (G : Gx) (ad : Nat → Nat)  (σ : Sg) (σf : Sg)  (hf : fX6_describeConflicts  σ = some ((), σf)) : Con wX l G ad yX6_describeConflicts (Cond.code yX6_describeConflicts cX6_describeConflicts 3 none) rmX6_describeConflicts 0 0 [.ref (ad 0)] σ none σf := by
  refine Con.start (by decide) (Nat.le_of_ble_eq_true rfl) (fun X Q _ C F => ?_)
  refine V_eq (L' := [(0, .ref (ad 0))]) (st' := []) rfl rfl rfl ?_
  unfold fX6_describeConflicts at hf
  refine V_aload_n (q := 1) C dX6_describeConflicts_0 rfl rfl 0 rfl ?_
  refine GX_0_5 (q := 4) C q_358 dX6_describeConflicts_1 rfl ?_
  refine V_iconst (v := 0) (q := 5) C dX6_describeConflicts_4 rfl ic_0 ?_
  refine PNX_6_1 (q := 8) C q_271 dX6_describeConflicts_5 rfl ?_
  refine V_lets hf (fun σ1 hf => ?_)
  refine V_iconst (v := 0) (q := 9) C dX6_describeConflicts_8 rfl ic_0 ?_
  refine V_istore_n (L' := [(1, .int (0 : Int32)), (0, .ref (ad 0))]) (q := 10) C dX6_describeConflicts_9 rfl rfl (by decide) rfl ?_
  refine V_sub (L' := [(0, .ref (ad 0)), (1, .int (0 : Int32))]) [1, 0] rfl ?_
  refine wlX6_describeConflicts_10 C F FU _ _ hf
def rmX5_at_6 : Room := { frames := 0, cells := 0, slots := 0, locals := 0 }
def fX5_at_6 (a : Int32) (σ : Sg) : Option (Int32 × Sg) := jp (fun (σ1 : Sg) => gd (nch (0 : Int32)) (some ((0 : Int32), σ1))) (fun (J21 : Sg → Option (Int32 × Sg)) => if a < 0 then (J21  σ) else (if (σ 6 1) ≤ a then (J21  σ) else (gd (inb a 420) (gd (nch (σ 26 a.toNatClampNeg)) (some ((σ 26 a.toNatClampNeg), σ))))))
set_option maxHeartbeats 4000000 in
theorem conX5_at_6 (l : Launch) (G : Gx) (ad : Nat → Nat) (a : Int32) (σ : Sg) (r : Int32) (σf : Sg)  (hf : fX5_at_6 a σ = some (r, σf)) : Con wX l G ad yX5_at (Cond.code yX5_at cX5_at 2 (some .char)) rmX5_at_6 0 0 [.ref (ad 6), .int a] σ (some (.int r)) σf := by
  refine Con.start (by decide) (Nat.le_of_ble_eq_true rfl) (fun X Q _ C F => ?_)
  refine V_eq (L' := [(0, .ref (ad 6)), (1, .int a)]) (st' := []) rfl rfl rfl ?_
  unfold fX5_at_6 at hf
  refine V_iload_n (q := 1) C dX5_at_0 rfl rfl 1 rfl ?_
  obtain ⟨J21, eJ21, hf⟩ := jp_s hf
  have hJ21 : ∀ (σ1 : Sg), J21 σ1 = some (r, σf) → V wX X G ad 2 Q 0 0 σ1 21 [] [] := by
    intro σ1 hf
    subst eJ21
    refine V_iconst (v := 0) (q := 22) C dX5_at_21 rfl ic_0 ?_
    obtain ⟨g2, hf⟩ := gd_s hf
    obtain ⟨e1, e2⟩ := pr_s hf
    subst e1; subst e2
    exact V_cret C F (nch_s g2) (by decide) (by decide) dX5_at_22
  refine V_if_lt (t := 21) (q := 4) C dX5_at_1 (by decide) rfl (fun c3 => ?_) (fun c3 => ?_)
  · replace hf := (ite_s hf).1 c3
    refine V_sub (L' := []) [] rfl ?_
    exact hJ21 _ hf
  · replace hf := (ite_s hf).2 c3
    refine V_iload_n (q := 5) C dX5_at_4 rfl rfl 1 rfl ?_
    refine V_aload_n (q := 6) C dX5_at_5 rfl rfl 0 rfl ?_
    refine GX_6_1 (q := 9) C q_269 dX5_at_6 rfl ?_
    refine V_icmp_ge (t := 21) (q := 12) C dX5_at_9 (by decide) rfl (fun c4 => ?_) (fun c4 => ?_)
    · replace hf := (ite_s hf).1 c4
      refine V_sub (L' := []) [] rfl ?_
      exact hJ21 _ hf
    · replace hf := (ite_s hf).2 c4
      refine V_aload_n (q := 13) C dX5_at_12 rfl rfl 0 rfl ?_
      refine GX_6_0 (q := 16) C q_268 dX5_at_13 rfl ?_
      refine V_iload_n (q := 17) C dX5_at_16 rfl rfl 1 rfl ?_
      obtain ⟨g5, hf⟩ := gd_s hf
      refine RX_26 (z := a.toNatClampNeg) (q := 18) C rfl (inb_in g5) dX5_at_17 rfl ?_
      refine V_goto (t := 22) C dX5_at_18 (by decide) ?_
      obtain ⟨g6, hf⟩ := gd_s hf
      obtain ⟨e1, e2⟩ := pr_s hf
      subst e1; subst e2
      exact V_cret C F (nch_s g6) (by decide) (by decide) dX5_at_22
def rmX6_conflicts : Room := { frames := 6, cells := 1, slots := 6, locals := 90 }
def fX6_conflicts (a : Int32) (σ : Sg) : Option ((String ⊕ Int32) × Sg) := bd (fX6_describeConflicts  σ) (fun (_ : Unit) (σ1 : Sg) => if a = (-1 : Int32) then (some (.inr (σ1 6 1), σ1)) else (jp (fun (σ4 : Sg) => some (.inl "java/lang/IndexOutOfBoundsException", σ4)) (fun (J32 : Sg → Option ((String ⊕ Int32) × Sg)) => if a < 0 then (J32  σ1) else (if a < (σ1 6 1) then (bd (fX5_at_6 a σ1) (fun (r7 : Int32) (σ8 : Sg) => some (.inr r7, σ8))) else (J32  σ1)))))
set_option maxHeartbeats 4000000 in
theorem conX6_conflicts (l : Launch) (G : Gx) (ad : Nat → Nat) (a : Int32) (σ : Sg) (r : String ⊕ Int32) (σf : Sg) (hf : fX6_conflicts a σ = some (r, σf)) : ConX wX l G ad yX6_conflicts (Cond.code yX6_conflicts cX6_conflicts 2 (some .int)) rmX6_conflicts 1 6 [.ref (ad 0), .int a] σ (rI r) σf := by
  refine ConX.start (by decide) (Nat.le_of_ble_eq_true rfl) (fun X Q _ C Fr Fx => ?_)
  refine V_eq (L' := [(0, .ref (ad 0)), (1, .int a)]) (st' := []) rfl rfl rfl ?_
  unfold fX6_conflicts at hf
  refine V_aload_n (q := 1) C dX6_conflicts_0 rfl rfl 0 rfl ?_
  obtain ⟨_u, σ1, h2, hf⟩ := bd_s hf
  refine V_callV (av := []) (st := []) (st1 := []) (q := 4) C 0 (by decide) (eX_0 G ad _) rfl rfl (conX6_describeConflicts _ _ _  _ _ h2) q_702 q_107 q_699 q_701 q_20 nmX6_describeConflicts (by decide) rfl rfl (Nat.le_of_ble_eq_true rfl) dX6_conflicts_1 rfl rfl ?_
  refine V_iload_n (q := 5) C dX6_conflicts_4 rfl rfl 1 rfl ?_
  refine V_iconst (v := (-1)) (q := 6) C dX6_conflicts_5 rfl ic_m1 ?_
  refine V_icmp_ne (t := 17) (q := 9) C dX6_conflicts_6 (by decide) rfl (fun c3 => ?_) (fun c3 => ?_)
  · replace hf := (ite_s hf).2 c3
    refine V_iload_n (q := 18) C dX6_conflicts_17 rfl rfl 1 rfl ?_
    obtain ⟨J32, eJ32, hf⟩ := jp_s hf
    have hJ32 : ∀ (σ4 : Sg), J32 σ4 = some (r, σf) → V wX X G ad 2 Q 0 0 σ4 32 [] [] := by
      intro σ4 hf
      subst eJ32
      obtain ⟨e1, e2⟩ := pr_s hf
      subst e1; subst e2
      exact V_throwS (text := "no such index") C rfl (Fx _ rfl) rfl q_597 q_121 (by decide) xa_168 xg_168 dX6_conflicts_32 dX6_conflicts_35 dX6_conflicts_36 dX6_conflicts_38 dX6_conflicts_41 (by decide) (Nat.le_of_ble_eq_true rfl) (by decide) (by decide) (by decide) (by decide)
    refine V_if_lt (t := 32) (q := 21) C dX6_conflicts_18 (by decide) rfl (fun c5 => ?_) (fun c5 => ?_)
    · replace hf := (ite_s hf).1 c5
      refine V_sub (L' := []) [] rfl ?_
      exact hJ32 _ hf
    · replace hf := (ite_s hf).2 c5
      refine V_iload_n (q := 22) C dX6_conflicts_21 rfl rfl 1 rfl ?_
      refine V_aload_n (q := 23) C dX6_conflicts_22 rfl rfl 0 rfl ?_
      refine GX_0_5 (q := 26) C q_358 dX6_conflicts_23 rfl ?_
      refine GNX_6_1 (q := 29) C q_271 dX6_conflicts_26 rfl ?_
      refine V_icmp_lt (t := 42) (q := 32) C dX6_conflicts_29 (by decide) rfl (fun c6 => ?_) (fun c6 => ?_)
      · replace hf := (ite_s hf).1 c6
        refine V_aload_n (q := 43) C dX6_conflicts_42 rfl rfl 0 rfl ?_
        refine GX_0_5 (q := 46) C q_358 dX6_conflicts_43 rfl ?_
        refine V_iload_n (q := 47) C dX6_conflicts_46 rfl rfl 1 rfl ?_
        obtain ⟨r7, σ8, h9, hf⟩ := bd_s hf
        refine V_callVN (av := [.int a]) (st := []) (st1 := [.int r7]) (q := 50) C 6 (by decide) (eX_6 G ad _) rfl rfl (conX5_at_6 _ _ _ _ _ _ _ h9) q_667 q_112 q_713 q_666 q_16 nmX5_at (by decide) rfl rfl (Nat.le_of_ble_eq_true rfl) dX6_conflicts_47 rfl rfl ?_
        obtain ⟨e1, e2⟩ := pr_s hf
        subst e1; subst e2
        exact V_iret C (Fr _ rfl) (by decide) (by decide) dX6_conflicts_50
      · replace hf := (ite_s hf).2 c6
        refine V_sub (L' := []) [] rfl ?_
        exact hJ32 _ hf
  · replace hf := (ite_s hf).1 c3
    refine V_aload_n (q := 10) C dX6_conflicts_9 rfl rfl 0 rfl ?_
    refine GX_0_5 (q := 13) C q_358 dX6_conflicts_10 rfl ?_
    refine GNX_6_1 (q := 16) C q_271 dX6_conflicts_13 rfl ?_
    obtain ⟨e1, e2⟩ := pr_s hf
    subst e1; subst e2
    exact V_iret C (Fr _ rfl) (by decide) (by decide) dX6_conflicts_16
def rmX0_note : Room := { frames := 0, cells := 0, slots := 0, locals := 0 }
def fX0_note (a : Int32) (b : Int32) (σ : Sg) : Option (Unit × Sg) := if (12 : Int32) ≤ (σ 7 9) then (some ((), σ)) else (gd (inb (σ 7 9) 12) (lt' (sup σ 30 ((σ 7 9).toNatClampNeg) ((((1000 : Int32) * (σ 7 5)) + ((10 : Int32) * a)) + b)) (fun (σ3 : Sg) => lt' (sup σ3 7 9 ((σ3 7 9) + (1 : Int32))) (fun (σ4 : Sg) => some ((), σ4)))))
set_option maxHeartbeats 4000000 in
theorem conX0_note (l : Launch) (G : Gx) (ad : Nat → Nat) (a : Int32) (b : Int32) (σ : Sg) (σf : Sg)  (hf : fX0_note a b σ = some ((), σf)) : Con wX l G ad yX0_note (Cond.code yX0_note cX0_note 3 none) rmX0_note 0 0 [.ref (ad 7), .int a, .int b] σ none σf := by
  refine Con.start (by decide) (Nat.le_of_ble_eq_true rfl) (fun X Q _ C F => ?_)
  refine V_eq (L' := [(0, .ref (ad 7)), (1, .int a), (2, .int b)]) (st' := []) rfl rfl rfl ?_
  unfold fX0_note at hf
  refine V_aload_n (q := 1) C dX0_note_0 rfl rfl 0 rfl ?_
  refine GX_7_9 (q := 4) C q_328 dX0_note_1 rfl ?_
  refine V_bipush (v := 12) (q := 6) C dX0_note_4 rfl bc_12 ?_
  refine V_icmp_ge (t := 43) (q := 9) C dX0_note_6 (by decide) rfl (fun c1 => ?_) (fun c1 => ?_)
  · replace hf := (ite_s hf).1 c1
    obtain ⟨-, e2⟩ := pr_s hf
    subst e2
    exact V_vret C F (by decide) (by decide) dX0_note_43
  · replace hf := (ite_s hf).2 c1
    refine V_aload_n (q := 10) C dX0_note_9 rfl rfl 0 rfl ?_
    refine GX_7_3 (q := 13) C q_316 dX0_note_10 rfl ?_
    refine V_aload_n (q := 14) C dX0_note_13 rfl rfl 0 rfl ?_
    refine GX_7_9 (q := 17) C q_328 dX0_note_14 rfl ?_
    refine V_sipush (v := 1000) (q := 20) C dX0_note_17 rfl sc_1000 ?_
    refine V_aload_n (q := 21) C dX0_note_20 rfl rfl 0 rfl ?_
    refine GX_7_5 (q := 24) C q_320 dX0_note_21 rfl ?_
    refine V_imul (q := 25) C dX0_note_24 rfl ?_
    refine V_bipush (v := 10) (q := 27) C dX0_note_25 rfl bc_10 ?_
    refine V_iload_n (q := 28) C dX0_note_27 rfl rfl 1 rfl ?_
    refine V_imul (q := 29) C dX0_note_28 rfl ?_
    refine V_iadd (q := 30) C dX0_note_29 rfl ?_
    refine V_iload_n (q := 31) C dX0_note_30 rfl rfl 2 rfl ?_
    refine V_iadd (q := 32) C dX0_note_31 rfl ?_
    obtain ⟨g2, hf⟩ := gd_s hf
    refine SX_30 (z := (σ 7 9).toNatClampNeg) (q := 33) C rfl (inb_in g2) dX0_note_32 rfl ?_
    refine V_lets hf (fun σ3 hf => ?_)
    refine V_aload_n (q := 34) C dX0_note_33 rfl rfl 0 rfl ?_
    refine V_dup (q := 35) C dX0_note_34 rfl rfl ?_
    refine GX_7_9 (q := 38) C q_328 dX0_note_35 rfl ?_
    refine V_iconst (v := 1) (q := 39) C dX0_note_38 rfl ic_1 ?_
    refine V_iadd (q := 40) C dX0_note_39 rfl ?_
    refine PX_7_9 (q := 43) C q_328 dX0_note_40 rfl ?_
    refine V_lets hf (fun σ4 hf => ?_)
    obtain ⟨-, e2⟩ := pr_s hf
    subst e2
    exact V_vret C F (by decide) (by decide) dX0_note_43
def rmX0_putOnAir : Room := { frames := 1, cells := 0, slots := 0, locals := 22 }
def fX0_putOnAir (a : Int32) (σ : Sg) : Option (Unit × Sg) := lt' (sup σ 7 7 ((σ 7 7) &&& (((1 : Int32) <<< (a &&& 31)) ^^^ (-1 : Int32)))) (fun (σ1 : Sg) => lt' (sup σ1 7 6 ((σ1 7 6) ||| ((1 : Int32) <<< (a &&& 31)))) (fun (σ2 : Sg) => bd (fX0_note a (0 : Int32) σ2) (fun (_ : Unit) (σ3 : Sg) => some ((), σ3))))
set_option maxHeartbeats 4000000 in
theorem conX0_putOnAir (l : Launch) (G : Gx) (ad : Nat → Nat) (a : Int32) (σ : Sg) (σf : Sg)  (hf : fX0_putOnAir a σ = some ((), σf)) : Con wX l G ad yX0_putOnAir (Cond.code yX0_putOnAir cX0_putOnAir 2 none) rmX0_putOnAir 0 0 [.ref (ad 7), .int a] σ none σf := by
  refine Con.start (by decide) (Nat.le_of_ble_eq_true rfl) (fun X Q _ C F => ?_)
  refine V_eq (L' := [(0, .ref (ad 7)), (1, .int a)]) (st' := []) rfl rfl rfl ?_
  unfold fX0_putOnAir at hf
  refine V_aload_n (q := 1) C dX0_putOnAir_0 rfl rfl 0 rfl ?_
  refine V_dup (q := 2) C dX0_putOnAir_1 rfl rfl ?_
  refine GX_7_7 (q := 5) C q_324 dX0_putOnAir_2 rfl ?_
  refine V_iconst (v := 1) (q := 6) C dX0_putOnAir_5 rfl ic_1 ?_
  refine V_iload_n (q := 7) C dX0_putOnAir_6 rfl rfl 1 rfl ?_
  refine V_ishl (q := 8) C dX0_putOnAir_7 rfl ?_
  refine V_iconst (v := (-1)) (q := 9) C dX0_putOnAir_8 rfl ic_m1 ?_
  refine V_ixor (q := 10) C dX0_putOnAir_9 rfl ?_
  refine V_iand (q := 11) C dX0_putOnAir_10 rfl ?_
  refine PX_7_7 (q := 14) C q_324 dX0_putOnAir_11 rfl ?_
  refine V_lets hf (fun σ1 hf => ?_)
  refine V_aload_n (q := 15) C dX0_putOnAir_14 rfl rfl 0 rfl ?_
  refine V_dup (q := 16) C dX0_putOnAir_15 rfl rfl ?_
  refine GX_7_6 (q := 19) C q_322 dX0_putOnAir_16 rfl ?_
  refine V_iconst (v := 1) (q := 20) C dX0_putOnAir_19 rfl ic_1 ?_
  refine V_iload_n (q := 21) C dX0_putOnAir_20 rfl rfl 1 rfl ?_
  refine V_ishl (q := 22) C dX0_putOnAir_21 rfl ?_
  refine V_ior (q := 23) C dX0_putOnAir_22 rfl ?_
  refine PX_7_6 (q := 26) C q_322 dX0_putOnAir_23 rfl ?_
  refine V_lets hf (fun σ2 hf => ?_)
  refine V_aload_n (q := 27) C dX0_putOnAir_26 rfl rfl 0 rfl ?_
  refine V_iload_n (q := 28) C dX0_putOnAir_27 rfl rfl 1 rfl ?_
  refine V_iconst (v := 0) (q := 29) C dX0_putOnAir_28 rfl ic_0 ?_
  obtain ⟨_u, σ3, h4, hf⟩ := bd_s hf
  refine V_callV (av := [.int a, .int (0 : Int32)]) (st := []) (st1 := []) (q := 32) C 7 (by decide) (eX_7 G ad _) rfl rfl (conX0_note _ _ _ _ _ _ _ h4) q_964 q_113 q_961 q_963 q_52 nmX0_note (by decide) rfl rfl (Nat.le_of_ble_eq_true rfl) dX0_putOnAir_29 rfl rfl ?_
  obtain ⟨-, e2⟩ := pr_s hf
  subst e2
  exact V_vret C F (by decide) (by decide) dX0_putOnAir_32
def rmX0_freeze : Room := { frames := 1, cells := 0, slots := 0, locals := 22 }
def fX0_freeze (a : Int32) (b : Int32) (c : Int32) (σ : Sg) : Option (Unit × Sg) := lt' (sup σ 7 7 ((σ 7 7) &&& (((1 : Int32) <<< (a &&& 31)) ^^^ (-1 : Int32)))) (fun (σ1 : Sg) => lt' (sup σ1 7 8 ((σ1 7 8) ||| ((1 : Int32) <<< (a &&& 31)))) (fun (σ2 : Sg) => gd (inb a 12) (lt' (sup σ2 29 a.toNatClampNeg b) (fun (σ4 : Sg) => bd (fX0_note a c σ4) (fun (_ : Unit) (σ5 : Sg) => some ((), σ5))))))
set_option maxHeartbeats 4000000 in
theorem conX0_freeze (l : Launch) (G : Gx) (ad : Nat → Nat) (a : Int32) (b : Int32) (c : Int32) (σ : Sg) (σf : Sg)  (hf : fX0_freeze a b c σ = some ((), σf)) : Con wX l G ad yX0_freeze (Cond.code yX0_freeze cX0_freeze 4 none) rmX0_freeze 0 0 [.ref (ad 7), .int a, .int b, .int c] σ none σf := by
  refine Con.start (by decide) (Nat.le_of_ble_eq_true rfl) (fun X Q _ C F => ?_)
  refine V_eq (L' := [(0, .ref (ad 7)), (1, .int a), (2, .int b), (3, .int c)]) (st' := []) rfl rfl rfl ?_
  unfold fX0_freeze at hf
  refine V_aload_n (q := 1) C dX0_freeze_0 rfl rfl 0 rfl ?_
  refine V_dup (q := 2) C dX0_freeze_1 rfl rfl ?_
  refine GX_7_7 (q := 5) C q_324 dX0_freeze_2 rfl ?_
  refine V_iconst (v := 1) (q := 6) C dX0_freeze_5 rfl ic_1 ?_
  refine V_iload_n (q := 7) C dX0_freeze_6 rfl rfl 1 rfl ?_
  refine V_ishl (q := 8) C dX0_freeze_7 rfl ?_
  refine V_iconst (v := (-1)) (q := 9) C dX0_freeze_8 rfl ic_m1 ?_
  refine V_ixor (q := 10) C dX0_freeze_9 rfl ?_
  refine V_iand (q := 11) C dX0_freeze_10 rfl ?_
  refine PX_7_7 (q := 14) C q_324 dX0_freeze_11 rfl ?_
  refine V_lets hf (fun σ1 hf => ?_)
  refine V_aload_n (q := 15) C dX0_freeze_14 rfl rfl 0 rfl ?_
  refine V_dup (q := 16) C dX0_freeze_15 rfl rfl ?_
  refine GX_7_8 (q := 19) C q_326 dX0_freeze_16 rfl ?_
  refine V_iconst (v := 1) (q := 20) C dX0_freeze_19 rfl ic_1 ?_
  refine V_iload_n (q := 21) C dX0_freeze_20 rfl rfl 1 rfl ?_
  refine V_ishl (q := 22) C dX0_freeze_21 rfl ?_
  refine V_ior (q := 23) C dX0_freeze_22 rfl ?_
  refine PX_7_8 (q := 26) C q_326 dX0_freeze_23 rfl ?_
  refine V_lets hf (fun σ2 hf => ?_)
  refine V_aload_n (q := 27) C dX0_freeze_26 rfl rfl 0 rfl ?_
  refine GX_7_2 (q := 30) C q_314 dX0_freeze_27 rfl ?_
  refine V_iload_n (q := 31) C dX0_freeze_30 rfl rfl 1 rfl ?_
  refine V_iload_n (q := 32) C dX0_freeze_31 rfl rfl 2 rfl ?_
  obtain ⟨g3, hf⟩ := gd_s hf
  refine SX_29 (z := a.toNatClampNeg) (q := 33) C rfl (inb_in g3) dX0_freeze_32 rfl ?_
  refine V_lets hf (fun σ4 hf => ?_)
  refine V_aload_n (q := 34) C dX0_freeze_33 rfl rfl 0 rfl ?_
  refine V_iload_n (q := 35) C dX0_freeze_34 rfl rfl 1 rfl ?_
  refine V_iload_n (q := 36) C dX0_freeze_35 rfl rfl 3 rfl ?_
  obtain ⟨_u, σ5, h6, hf⟩ := bd_s hf
  refine V_callV (av := [.int a, .int c]) (st := []) (st1 := []) (q := 39) C 7 (by decide) (eX_7 G ad _) rfl rfl (conX0_note _ _ _ _ _ _ _ h6) q_964 q_113 q_961 q_963 q_52 nmX0_note (by decide) rfl rfl (Nat.le_of_ble_eq_true rfl) dX0_freeze_36 rfl rfl ?_
  obtain ⟨-, e2⟩ := pr_s hf
  subst e2
  exact V_vret C F (by decide) (by decide) dX0_freeze_39
def rmX6_consider : Room := { frames := 19, cells := 0, slots := 0, locals := 564 }
def fX6_consider (a : Int32) (b : Int32) (σ : Sg) : Option (Unit × Sg) := bd (fX4_fits ((σ 7 6) ||| ((1 : Int32) <<< (a &&& 31))) σ) (fun (r1 : Int32) (σ2 : Sg) => if r1 = 0 then (bd (fX0_freeze a (σ2 7 6) (1 : Int32) σ2) (fun (_ : Unit) (σ14 : Sg) => some ((), σ14))) else (bd (fX3_priceWith a b σ2) (fun (r5 : Int32) (σ6 : Sg) => gd (inb a 12) (if (σ6 12 a.toNatClampNeg) ≤ r5 then (gd (inb a 12) (lt' (sup σ6 28 a.toNatClampNeg r5) (fun (σ11 : Sg) => some ((), σ11)))) else (bd (fX0_putOnAir a σ6) (fun (_ : Unit) (σ12 : Sg) => some ((), σ12)))))))
set_option maxHeartbeats 4000000 in
theorem conX6_consider (l : Launch) (G : Gx) (ad : Nat → Nat) (a : Int32) (b : Int32) (σ : Sg) (σf : Sg)  (hf : fX6_consider a b σ = some ((), σf)) : Con wX l G ad yX6_consider (Cond.code yX6_consider cX6_consider 4 none) rmX6_consider 0 0 [.ref (ad 0), .int a, .int b] σ none σf := by
  refine Con.start (by decide) (Nat.le_of_ble_eq_true rfl) (fun X Q _ C F => ?_)
  refine V_eq (L' := [(0, .ref (ad 0)), (1, .int a), (2, .int b)]) (st' := []) rfl rfl rfl ?_
  unfold fX6_consider at hf
  refine V_aload_n (q := 1) C dX6_consider_0 rfl rfl 0 rfl ?_
  refine GX_0_1 (q := 4) C q_354 dX6_consider_1 rfl ?_
  refine V_aload_n (q := 5) C dX6_consider_4 rfl rfl 0 rfl ?_
  refine GX_0_6 (q := 8) C q_359 dX6_consider_5 rfl ?_
  refine GNX_7_6 (q := 11) C q_323 dX6_consider_8 rfl ?_
  refine V_iconst (v := 1) (q := 12) C dX6_consider_11 rfl ic_1 ?_
  refine V_iload_n (q := 13) C dX6_consider_12 rfl rfl 1 rfl ?_
  refine V_ishl (q := 14) C dX6_consider_13 rfl ?_
  refine V_ior (q := 15) C dX6_consider_14 rfl ?_
  obtain ⟨r1, σ2, h3, hf⟩ := bd_s hf
  refine V_callVN (av := [.int ((σ 7 6) ||| ((1 : Int32) <<< (a &&& 31)))]) (st := []) (st1 := [.int r1]) (q := 18) C 2 (by decide) (eX_2 G ad _) rfl rfl (conX4_fits _ _ _ _ _ _ _ h3) q_781 q_109 q_778 q_780 q_27 nmX4_fits (by decide) rfl rfl (Nat.le_of_ble_eq_true rfl) dX6_consider_15 rfl rfl ?_
  refine V_if_ne (t := 38) (q := 21) C dX6_consider_18 (by decide) rfl (fun c4 => ?_) (fun c4 => ?_)
  · replace hf := (ite_s hf).2 c4
    refine V_aload_n (q := 39) C dX6_consider_38 rfl rfl 0 rfl ?_
    refine GX_0_2 (q := 42) C q_355 dX6_consider_39 rfl ?_
    refine V_iload_n (q := 43) C dX6_consider_42 rfl rfl 1 rfl ?_
    refine V_iload_n (q := 44) C dX6_consider_43 rfl rfl 2 rfl ?_
    obtain ⟨r5, σ6, h7, hf⟩ := bd_s hf
    refine V_callVN (av := [.int a, .int b]) (st := []) (st1 := [.int r5]) (q := 47) C 3 (by decide) (eX_3 G ad _) rfl rfl (conX3_priceWith _ _ _ _ _ _ _ _ h7) q_763 q_110 q_760 q_762 q_25 nmX3_priceWith (by decide) rfl rfl (Nat.le_of_ble_eq_true rfl) dX6_consider_44 rfl rfl ?_
    refine V_istore_n (L' := [(3, .int r5), (0, .ref (ad 0)), (1, .int a), (2, .int b)]) (q := 48) C dX6_consider_47 rfl rfl (by decide) rfl ?_
    refine V_iload_n (q := 49) C dX6_consider_48 rfl rfl 0 rfl ?_
    refine V_aload_n (q := 50) C dX6_consider_49 rfl rfl 1 rfl ?_
    refine GX_0_2 (q := 53) C q_355 dX6_consider_50 rfl ?_
    refine GNX_3_1 (q := 56) C q_164 dX6_consider_53 rfl ?_
    refine V_iload_n (q := 57) C dX6_consider_56 rfl rfl 2 rfl ?_
    obtain ⟨g8, hf⟩ := gd_s hf
    refine RX_12 (z := a.toNatClampNeg) (q := 58) C rfl (inb_in g8) dX6_consider_57 rfl ?_
    refine V_icmp_ge (t := 72) (q := 61) C dX6_consider_58 (by decide) rfl (fun c9 => ?_) (fun c9 => ?_)
    · replace hf := (ite_s hf).1 c9
      refine V_aload_n (q := 73) C dX6_consider_72 rfl rfl 1 rfl ?_
      refine GX_0_6 (q := 76) C q_359 dX6_consider_73 rfl ?_
      refine GNX_7_1 (q := 79) C q_313 dX6_consider_76 rfl ?_
      refine V_iload_n (q := 80) C dX6_consider_79 rfl rfl 2 rfl ?_
      refine V_iload_n (q := 81) C dX6_consider_80 rfl rfl 0 rfl ?_
      obtain ⟨g10, hf⟩ := gd_s hf
      refine SX_28 (z := a.toNatClampNeg) (q := 82) C rfl (inb_in g10) dX6_consider_81 rfl ?_
      refine V_lets hf (fun σ11 hf => ?_)
      obtain ⟨-, e2⟩ := pr_s hf
      subst e2
      exact V_vret C F (by decide) (by decide) dX6_consider_82
    · replace hf := (ite_s hf).2 c9
      refine V_aload_n (q := 62) C dX6_consider_61 rfl rfl 1 rfl ?_
      refine GX_0_6 (q := 65) C q_359 dX6_consider_62 rfl ?_
      refine V_iload_n (q := 66) C dX6_consider_65 rfl rfl 2 rfl ?_
      obtain ⟨_u, σ12, h13, hf⟩ := bd_s hf
      refine V_callVN (av := [.int a]) (st := []) (st1 := []) (q := 69) C 7 (by decide) (eX_7 G ad _) rfl rfl (conX0_putOnAir _ _ _ _ _ _ h13) q_968 q_113 q_965 q_967 q_53 nmX0_putOnAir (by decide) rfl rfl (Nat.le_of_ble_eq_true rfl) dX6_consider_66 rfl rfl ?_
      refine V_goto (t := 82) C dX6_consider_69 (by decide) ?_
      obtain ⟨-, e2⟩ := pr_s hf
      subst e2
      exact V_vret C F (by decide) (by decide) dX6_consider_82
  · replace hf := (ite_s hf).1 c4
    refine V_aload_n (q := 22) C dX6_consider_21 rfl rfl 0 rfl ?_
    refine GX_0_6 (q := 25) C q_359 dX6_consider_22 rfl ?_
    refine V_iload_n (q := 26) C dX6_consider_25 rfl rfl 1 rfl ?_
    refine V_aload_n (q := 27) C dX6_consider_26 rfl rfl 0 rfl ?_
    refine GX_0_6 (q := 30) C q_359 dX6_consider_27 rfl ?_
    refine GNX_7_6 (q := 33) C q_323 dX6_consider_30 rfl ?_
    refine V_iconst (v := 1) (q := 34) C dX6_consider_33 rfl ic_1 ?_
    obtain ⟨_u, σ14, h15, hf⟩ := bd_s hf
    refine V_callVN (av := [.int a, .int (σ2 7 6), .int (1 : Int32)]) (st := []) (st1 := []) (q := 37) C 7 (by decide) (eX_7 G ad _) rfl rfl (conX0_freeze _ _ _ _ _ _ _ _ h15) q_960 q_113 q_957 q_959 q_51 nmX0_freeze (by decide) rfl rfl (Nat.le_of_ble_eq_true rfl) dX6_consider_34 rfl rfl ?_
    obtain ⟨-, e2⟩ := pr_s hf
    subst e2
    exact V_vret C F (by decide) (by decide) dX6_consider_37
def rmX6_requireStation : Room := { frames := 6, cells := 1, slots := 6, locals := 90 }
def fX6_requireStation (a : Int32) (σ : Sg) : Option ((String ⊕ Unit) × Sg) := jp (fun (σ1 : Sg) => some (.inl "java/lang/IndexOutOfBoundsException", σ1)) (fun (J15 : Sg → Option ((String ⊕ Unit) × Sg)) => if a < 0 then (J15  σ) else (if a < (σ 3 6) then (some (.inr (), σ)) else (J15  σ)))
set_option maxHeartbeats 4000000 in
theorem conX6_requireStation (l : Launch) (G : Gx) (ad : Nat → Nat) (a : Int32) (σ : Sg) (r : String ⊕ Unit) (σf : Sg) (hf : fX6_requireStation a σ = some (r, σf)) : ConX wX l G ad yX6_requireStation (Cond.code yX6_requireStation cX6_requireStation 2 none) rmX6_requireStation 1 6 [.ref (ad 0), .int a] σ (rU r) σf := by
  refine ConX.start (by decide) (Nat.le_of_ble_eq_true rfl) (fun X Q _ C Fr Fx => ?_)
  refine V_eq (L' := [(0, .ref (ad 0)), (1, .int a)]) (st' := []) rfl rfl rfl ?_
  unfold fX6_requireStation at hf
  refine V_iload_n (q := 1) C dX6_requireStation_0 rfl rfl 1 rfl ?_
  obtain ⟨J15, eJ15, hf⟩ := jp_s hf
  have hJ15 : ∀ (σ1 : Sg), J15 σ1 = some (r, σf) → V wX X G ad 2 Q 0 0 σ1 15 [] [] := by
    intro σ1 hf
    subst eJ15
    obtain ⟨e1, e2⟩ := pr_s hf
    subst e1; subst e2
    exact V_throwSW (text := "no such station") C rfl (Fx _ rfl) rfl q_597 q_121 (by decide) xa_168 xg_168 dX6_requireStation_15 dX6_requireStation_18 dX6_requireStation_19 dX6_requireStation_22 dX6_requireStation_25 (by decide) (Nat.le_of_ble_eq_true rfl) (by decide) (by decide) (by decide) (by decide)
  refine V_if_lt (t := 15) (q := 4) C dX6_requireStation_1 (by decide) rfl (fun c2 => ?_) (fun c2 => ?_)
  · replace hf := (ite_s hf).1 c2
    refine V_sub (L' := []) [] rfl ?_
    exact hJ15 _ hf
  · replace hf := (ite_s hf).2 c2
    refine V_iload_n (q := 5) C dX6_requireStation_4 rfl rfl 1 rfl ?_
    refine V_aload_n (q := 6) C dX6_requireStation_5 rfl rfl 0 rfl ?_
    refine GX_0_2 (q := 9) C q_355 dX6_requireStation_6 rfl ?_
    refine GNX_3_6 (q := 12) C q_181 dX6_requireStation_9 rfl ?_
    refine V_icmp_lt (t := 26) (q := 15) C dX6_requireStation_12 (by decide) rfl (fun c3 => ?_) (fun c3 => ?_)
    · replace hf := (ite_s hf).1 c3
      obtain ⟨e1, e2⟩ := pr_s hf
      subst e1; subst e2
      exact V_vret C (Fr _ rfl) (by decide) (by decide) dX6_requireStation_26
    · replace hf := (ite_s hf).2 c3
      refine V_sub (L' := []) [] rfl ?_
      exact hJ15 _ hf
def rmX4_smallestReason : Room := { frames := 19, cells := 0, slots := 0, locals := 564 }
def fX4_smallestReason_30 (a : Int32) (x1 : Int32) (x2 : Int32) (x3 : Int32) (K : Sg → Option (Int32 × Sg)) : Nat → Int32 → Int32 → Sg → Option (Int32 × Sg)
  | 0, _, _, _ => none
  | n + 1, x6, x7, σ8 => if ((1 : Int32) <<< (x2 &&& 31)) ≤ x7 then (K σ8) else (jp (fun (σ10 : Sg) => lt' (((x6 - x1) &&& x1)) (fun (x11 : Int32) => fX4_smallestReason_30 a x1 x2 x3 K n x11 (x7 + (1 : Int32)) σ10)) (fun (J65 : Sg → Option (Int32 × Sg)) => if (pJ6_bitCount_0f7a4 x6) = x3 then (bd (fX4_fits (x6 ||| ((1 : Int32) <<< (a &&& 31))) σ8) (fun (r13 : Int32) (σ14 : Sg) => if r13 = 0 then (some (x6, σ14)) else (J65  σ14))) else (J65  σ8)))
def fX4_smallestReason_17 (a : Int32) (x1 : Int32) (x2 : Int32) : Nat → Int32 → Sg → Option (Int32 × Sg)
  | 0, _, _ => none
  | n + 1, x3, σ4 => if x2 ≤ x3 then (some (x1, σ4)) else (fX4_smallestReason_30 a x1 x2 x3 (fun (σ17 : Sg) => fX4_smallestReason_17 a x1 x2 n (x3 + (1 : Int32)) σ17) FU (0 : Int32) (0 : Int32) σ4)
def fX4_smallestReason (a : Int32) (b : Int32) (σ : Sg) : Option (Int32 × Sg) := lt' ((b &&& (((1 : Int32) <<< (a &&& 31)) ^^^ (-1 : Int32)))) (fun (x1 : Int32) => lt' ((pJ6_bitCount_0f7a4 x1)) (fun (x2 : Int32) => fX4_smallestReason_17 a x1 x2 FU (0 : Int32) σ))
set_option maxHeartbeats 4000000 in
theorem wlX4_smallestReason_30 {X : Cx} {G : Gx} {ad : Nat → Nat} {Q : State → Prop} {r : Int32} {σf : Sg} (C : OK wX X G ad RX4 cX4_smallestReason 8 rmX4_smallestReason) (F : FinR wX X G ad Q 0 0 (some .int) (some (.int r)) σf) (a : Int32) (x1 : Int32) (x2 : Int32) (x3 : Int32) (K : Sg → Option (Int32 × Sg)) (hK : ∀ (σk : Sg), K σk = some (r, σf) → V wX X G ad 8 Q 0 0 σk 79 [(0, .ref (ad 2)), (1, .int a), (3, .int x1), (4, .int x2), (5, .int x3)] []) : ∀ (n : Nat) (x6 : Int32) (x7 : Int32) (σ8 : Sg), fX4_smallestReason_30 a x1 x2 x3 K n x6 x7 σ8 = some (r, σf) → V wX X G ad 8 Q 0 0 σ8 30 [(0, .ref (ad 2)), (1, .int a), (3, .int x1), (4, .int x2), (5, .int x3), (6, .int x6), (7, .int x7)] [] := by
  intro n
  induction n with
  | zero =>
    intro _ _ _ hf
    exact absurd hf (by simp [fX4_smallestReason_30])
  | succ n ih =>
    intro x6 x7 σ8 hf
    rw [fX4_smallestReason_30] at hf
    refine V_iload (q := 32) C dX4_smallestReason_30 rfl 6 rfl ?_
    refine V_iconst (v := 1) (q := 33) C dX4_smallestReason_32 rfl ic_1 ?_
    refine V_iload (q := 35) C dX4_smallestReason_33 rfl 3 rfl ?_
    refine V_ishl (q := 36) C dX4_smallestReason_35 rfl ?_
    refine V_icmp_ge (t := 79) (q := 39) C dX4_smallestReason_36 (by decide) rfl (fun c9 => ?_) (fun c9 => ?_)
    · replace hf := (ite_s hf).1 c9
      refine V_sub (L' := [(0, .ref (ad 2)), (1, .int a), (3, .int x1), (4, .int x2), (5, .int x3)]) [0, 1, 2, 3, 4] rfl ?_
      exact hK _ hf
    · replace hf := (ite_s hf).2 c9
      refine V_iload (q := 41) C dX4_smallestReason_39 rfl 5 rfl ?_
      refine V_callS (av := [.int x6]) (st := []) (st1 := [.int (pJ6_bitCount_0f7a4 x6)]) (q := 44) C (conJ6_bitCount_0f7a4 _ _ _ _ _ _ rfl) q_727 q_126 q_799 q_726 nmJ6_bitCount_0f7a4 (by decide) rfl rfl (Nat.le_of_ble_eq_true rfl) dX4_smallestReason_41 rfl rfl ?_
      refine V_iload (q := 46) C dX4_smallestReason_44 rfl 4 rfl ?_
      obtain ⟨J65, eJ65, hf⟩ := jp_s hf
      have hJ65 : ∀ (σ10 : Sg), J65 σ10 = some (r, σf) → V wX X G ad 8 Q 0 0 σ10 65 [(0, .ref (ad 2)), (1, .int a), (3, .int x1), (4, .int x2), (5, .int x3), (6, .int x6), (7, .int x7)] [] := by
        intro σ10 hf
        subst eJ65
        refine V_iload (q := 67) C dX4_smallestReason_65 rfl 5 rfl ?_
        refine V_iload_n (q := 68) C dX4_smallestReason_67 rfl rfl 2 rfl ?_
        refine V_isub (q := 69) C dX4_smallestReason_68 rfl ?_
        refine V_iload_n (q := 70) C dX4_smallestReason_69 rfl rfl 2 rfl ?_
        refine V_iand (q := 71) C dX4_smallestReason_70 rfl ?_
        refine V_let (cv := Value.int) hf (fun x11 hf => ?_)
        refine V_istore (L' := [(6, .int x11), (0, .ref (ad 2)), (1, .int a), (3, .int x1), (4, .int x2), (5, .int x3), (7, .int x7)]) (q := 73) C dX4_smallestReason_71 rfl (by decide) rfl ?_
        refine V_iinc (L' := [(7, .int (x7 + (1 : Int32))), (6, .int x11), (0, .ref (ad 2)), (1, .int a), (3, .int x1), (4, .int x2), (5, .int x3)]) (q := 76) C dX4_smallestReason_73 rfl 6 rfl (congrArg (fun y => x7 + y) ic_1) (by decide) rfl ?_
        refine V_goto (t := 30) C dX4_smallestReason_76 (by decide) ?_
        refine V_sub (L' := [(0, .ref (ad 2)), (1, .int a), (3, .int x1), (4, .int x2), (5, .int x3), (6, .int x11), (7, .int (x7 + (1 : Int32)))]) [2, 3, 4, 5, 6, 1, 0] rfl ?_
        exact ih _ _ _ hf
      refine V_icmp_ne (t := 65) (q := 49) C dX4_smallestReason_46 (by decide) rfl (fun c12 => ?_) (fun c12 => ?_)
      · replace hf := (ite_s hf).2 c12
        exact hJ65 _ hf
      · replace hf := (ite_s hf).1 c12
        refine V_aload_n (q := 50) C dX4_smallestReason_49 rfl rfl 0 rfl ?_
        refine V_iload (q := 52) C dX4_smallestReason_50 rfl 5 rfl ?_
        refine V_iconst (v := 1) (q := 53) C dX4_smallestReason_52 rfl ic_1 ?_
        refine V_iload_n (q := 54) C dX4_smallestReason_53 rfl rfl 1 rfl ?_
        refine V_ishl (q := 55) C dX4_smallestReason_54 rfl ?_
        refine V_ior (q := 56) C dX4_smallestReason_55 rfl ?_
        obtain ⟨r13, σ14, h15, hf⟩ := bd_s hf
        refine V_callV (av := [.int (x6 ||| ((1 : Int32) <<< (a &&& 31)))]) (st := []) (st1 := [.int r13]) (q := 59) C 2 (by decide) (eX_2 G ad _) rfl rfl (conX4_fits _ _ _ _ _ _ _ h15) q_781 q_109 q_922 q_780 q_27 nmX4_fits (by decide) rfl rfl (Nat.le_of_ble_eq_true rfl) dX4_smallestReason_56 rfl rfl ?_
        refine V_if_ne (t := 65) (q := 62) C dX4_smallestReason_59 (by decide) rfl (fun c16 => ?_) (fun c16 => ?_)
        · replace hf := (ite_s hf).2 c16
          exact hJ65 _ hf
        · replace hf := (ite_s hf).1 c16
          refine V_iload (q := 64) C dX4_smallestReason_62 rfl 5 rfl ?_
          obtain ⟨e1, e2⟩ := pr_s hf
          subst e1; subst e2
          exact V_iret C F (by decide) (by decide) dX4_smallestReason_64
set_option maxHeartbeats 4000000 in
theorem wlX4_smallestReason_17 {X : Cx} {G : Gx} {ad : Nat → Nat} {Q : State → Prop} {r : Int32} {σf : Sg} (C : OK wX X G ad RX4 cX4_smallestReason 8 rmX4_smallestReason) (F : FinR wX X G ad Q 0 0 (some .int) (some (.int r)) σf) (a : Int32) (x1 : Int32) (x2 : Int32) : ∀ (n : Nat) (x3 : Int32) (σ4 : Sg), fX4_smallestReason_17 a x1 x2 n x3 σ4 = some (r, σf) → V wX X G ad 8 Q 0 0 σ4 17 [(0, .ref (ad 2)), (1, .int a), (3, .int x1), (4, .int x2), (5, .int x3)] [] := by
  intro n
  induction n with
  | zero =>
    intro _ _ hf
    exact absurd hf (by simp [fX4_smallestReason_17])
  | succ n ih =>
    intro x3 σ4 hf
    rw [fX4_smallestReason_17] at hf
    refine V_iload (q := 19) C dX4_smallestReason_17 rfl 4 rfl ?_
    refine V_iload (q := 21) C dX4_smallestReason_19 rfl 3 rfl ?_
    refine V_icmp_ge (t := 85) (q := 24) C dX4_smallestReason_21 (by decide) rfl (fun c5 => ?_) (fun c5 => ?_)
    · replace hf := (ite_s hf).1 c5
      refine V_iload_n (q := 86) C dX4_smallestReason_85 rfl rfl 2 rfl ?_
      obtain ⟨e1, e2⟩ := pr_s hf
      subst e1; subst e2
      exact V_iret C F (by decide) (by decide) dX4_smallestReason_86
    · replace hf := (ite_s hf).2 c5
      refine V_iconst (v := 0) (q := 25) C dX4_smallestReason_24 rfl ic_0 ?_
      refine V_istore (L' := [(6, .int (0 : Int32)), (0, .ref (ad 2)), (1, .int a), (3, .int x1), (4, .int x2), (5, .int x3)]) (q := 27) C dX4_smallestReason_25 rfl (by decide) rfl ?_
      refine V_iconst (v := 0) (q := 28) C dX4_smallestReason_27 rfl ic_0 ?_
      refine V_istore (L' := [(7, .int (0 : Int32)), (6, .int (0 : Int32)), (0, .ref (ad 2)), (1, .int a), (3, .int x1), (4, .int x2), (5, .int x3)]) (q := 30) C dX4_smallestReason_28 rfl (by decide) rfl ?_
      refine V_sub (L' := [(0, .ref (ad 2)), (1, .int a), (3, .int x1), (4, .int x2), (5, .int x3), (6, .int (0 : Int32)), (7, .int (0 : Int32))]) [2, 3, 4, 5, 6, 1, 0] rfl ?_
      refine wlX4_smallestReason_30 C F a x1 x2 x3 _ (fun σ17 hf => ?_) FU _ _ _ hf
      refine V_iinc (L' := [(5, .int (x3 + (1 : Int32))), (0, .ref (ad 2)), (1, .int a), (3, .int x1), (4, .int x2)]) (q := 82) C dX4_smallestReason_79 rfl 4 rfl (congrArg (fun y => x3 + y) ic_1) (by decide) rfl ?_
      refine V_goto (t := 17) C dX4_smallestReason_82 (by decide) ?_
      refine V_sub (L' := [(0, .ref (ad 2)), (1, .int a), (3, .int x1), (4, .int x2), (5, .int (x3 + (1 : Int32)))]) [1, 2, 3, 4, 0] rfl ?_
      exact ih _ _ hf
set_option maxHeartbeats 4000000 in
theorem conX4_smallestReason (l : Launch) (G : Gx) (ad : Nat → Nat) (a : Int32) (b : Int32) (σ : Sg) (r : Int32) (σf : Sg)  (hf : fX4_smallestReason a b σ = some (r, σf)) : Con wX l G ad yX4_smallestReason (Cond.code yX4_smallestReason cX4_smallestReason 8 (some .int)) rmX4_smallestReason 0 0 [.ref (ad 2), .int a, .int b] σ (some (.int r)) σf := by
  refine Con.start (by decide) (Nat.le_of_ble_eq_true rfl) (fun X Q _ C F => ?_)
  refine V_eq (L' := [(0, .ref (ad 2)), (1, .int a), (2, .int b)]) (st' := []) rfl rfl rfl ?_
  unfold fX4_smallestReason at hf
  refine V_iload_n (q := 1) C dX4_smallestReason_0 rfl rfl 2 rfl ?_
  refine V_iconst (v := 1) (q := 2) C dX4_smallestReason_1 rfl ic_1 ?_
  refine V_iload_n (q := 3) C dX4_smallestReason_2 rfl rfl 1 rfl ?_
  refine V_ishl (q := 4) C dX4_smallestReason_3 rfl ?_
  refine V_iconst (v := (-1)) (q := 5) C dX4_smallestReason_4 rfl ic_m1 ?_
  refine V_ixor (q := 6) C dX4_smallestReason_5 rfl ?_
  refine V_iand (q := 7) C dX4_smallestReason_6 rfl ?_
  refine V_let (cv := Value.int) hf (fun x1 hf => ?_)
  refine V_istore_n (L' := [(3, .int x1), (0, .ref (ad 2)), (1, .int a), (2, .int b)]) (q := 8) C dX4_smallestReason_7 rfl rfl (by decide) rfl ?_
  refine V_iload_n (q := 9) C dX4_smallestReason_8 rfl rfl 0 rfl ?_
  refine V_callS (av := [.int x1]) (st := []) (st1 := [.int (pJ6_bitCount_0f7a4 x1)]) (q := 12) C (conJ6_bitCount_0f7a4 _ _ _ _ _ _ rfl) q_727 q_126 q_799 q_726 nmJ6_bitCount_0f7a4 (by decide) rfl rfl (Nat.le_of_ble_eq_true rfl) dX4_smallestReason_9 rfl rfl ?_
  refine V_let (cv := Value.int) hf (fun x2 hf => ?_)
  refine V_istore (L' := [(4, .int x2), (3, .int x1), (0, .ref (ad 2)), (1, .int a), (2, .int b)]) (q := 14) C dX4_smallestReason_12 rfl (by decide) rfl ?_
  refine V_iconst (v := 0) (q := 15) C dX4_smallestReason_14 rfl ic_0 ?_
  refine V_istore (L' := [(5, .int (0 : Int32)), (4, .int x2), (3, .int x1), (0, .ref (ad 2)), (1, .int a), (2, .int b)]) (q := 17) C dX4_smallestReason_15 rfl (by decide) rfl ?_
  refine V_sub (L' := [(0, .ref (ad 2)), (1, .int a), (3, .int x1), (4, .int x2), (5, .int (0 : Int32))]) [3, 4, 2, 1, 0] rfl ?_
  refine wlX4_smallestReason_17 C F a x1 x2 FU _ _ hf
def rmX6_core : Room := { frames := 20, cells := 3, slots := 18, locals := 591 }
def fX6_core (a : Int32) (b : Int32) (σ : Sg) : Option ((String ⊕ Int32) × Sg) := bx (fX6_requireStation a σ) (fun E σE => some (.inl E, σE)) (fun (_ : Unit) (σ2 : Sg) => bx (fX6_requireSet b σ2) (fun E σE => some (.inl E, σE)) (fun (_ : Unit) (σ8 : Sg) => bd (fX4_fits (b ||| ((1 : Int32) <<< (a &&& 31))) σ8) (fun (r13 : Int32) (σ14 : Sg) => if r13 = 0 then (bd (fX4_smallestReason a b σ14) (fun (r17 : Int32) (σ18 : Sg) => some (.inr r17, σ18))) else (some (.inl "java/util/NoSuchElementException", σ14)))))
set_option maxHeartbeats 4000000 in
theorem conX6_core (l : Launch) (G : Gx) (ad : Nat → Nat) (a : Int32) (b : Int32) (σ : Sg) (r : String ⊕ Int32) (σf : Sg) (hf : fX6_core a b σ = some (r, σf)) : ConX wX l G ad yX6_core (Cond.code yX6_core cX6_core 3 (some .int)) rmX6_core 3 18 [.ref (ad 0), .int a, .int b] σ (rI r) σf := by
  refine ConX.start (by decide) (Nat.le_of_ble_eq_true rfl) (fun X Q _ C Fr Fx => ?_)
  refine V_eq (L' := [(0, .ref (ad 0)), (1, .int a), (2, .int b)]) (st' := []) rfl rfl rfl ?_
  unfold fX6_core at hf
  refine V_aload_n (q := 1) C dX6_core_0 rfl rfl 0 rfl ?_
  refine V_iload_n (q := 2) C dX6_core_1 rfl rfl 1 rfl ?_
  obtain ⟨z4, σ2, h3, hE, hA⟩ := bx_s hf
  refine V_callVX (av := [.int a]) (st := []) (q := 5) (mc := 3) (ms := 18) C 0 (by decide) (eX_0 G ad _) rfl rfl (conX6_requireStation _ _ _ _ _ _ _ h3) q_596 q_107 q_593 q_595 q_10 nmX6_requireStation (by decide) rfl rfl (Nat.le_of_ble_eq_true rfl) dX6_core_2 rfl (by decide) (by decide) (fun E hz => by
    obtain rfl := rU_l hz
    obtain ⟨e1, e2⟩ := pr_s (hE _ rfl)
    subst e1; subst e2
    exact Fx _ rfl) (fun w5 h6 => ?_)
  obtain ⟨r1, rfl, rfl⟩ := rU_r h6
  replace hf := hA _ rfl
  refine V_eq (L' := [(0, .ref (ad 0)), (1, .int a), (2, .int b)]) (st' := []) rfl rfl rfl ?_
  refine V_wide (k2 := 1) (n2 := 6) (by decide) (by decide) ?_
  refine V_aload_n (q := 6) C dX6_core_5 rfl rfl 0 rfl ?_
  refine V_iload_n (q := 7) C dX6_core_6 rfl rfl 2 rfl ?_
  obtain ⟨z10, σ8, h9, hE, hA⟩ := bx_s hf
  refine V_callVX (av := [.int b]) (st := []) (q := 10) (mc := 3) (ms := 18) C 0 (by decide) (eX_0 G ad _) rfl rfl (conX6_requireSet _ _ _ _ _ _ _ h9) q_775 q_107 q_772 q_774 q_26 nmX6_requireSet (by decide) rfl rfl (Nat.le_of_ble_eq_true rfl) dX6_core_7 rfl (by decide) (by decide) (fun E hz => by
    obtain rfl := rU_l hz
    obtain ⟨e1, e2⟩ := pr_s (hE _ rfl)
    subst e1; subst e2
    exact Fx _ rfl) (fun w11 h12 => ?_)
  obtain ⟨r7, rfl, rfl⟩ := rU_r h12
  replace hf := hA _ rfl
  refine V_eq (L' := [(0, .ref (ad 0)), (1, .int a), (2, .int b)]) (st' := []) rfl rfl rfl ?_
  refine V_wide (k2 := 2) (n2 := 12) (by decide) (by decide) ?_
  refine V_aload_n (q := 11) C dX6_core_10 rfl rfl 0 rfl ?_
  refine GX_0_1 (q := 14) C q_354 dX6_core_11 rfl ?_
  refine V_iload_n (q := 15) C dX6_core_14 rfl rfl 2 rfl ?_
  refine V_iconst (v := 1) (q := 16) C dX6_core_15 rfl ic_1 ?_
  refine V_iload_n (q := 17) C dX6_core_16 rfl rfl 1 rfl ?_
  refine V_ishl (q := 18) C dX6_core_17 rfl ?_
  refine V_ior (q := 19) C dX6_core_18 rfl ?_
  obtain ⟨r13, σ14, h15, hf⟩ := bd_s hf
  refine V_callVN (av := [.int (b ||| ((1 : Int32) <<< (a &&& 31)))]) (st := []) (st1 := [.int r13]) (q := 22) C 2 (by decide) (eX_2 G ad _) rfl rfl (conX4_fits _ _ _ _ _ _ _ h15) q_781 q_109 q_778 q_780 q_27 nmX4_fits (by decide) rfl rfl (Nat.le_of_ble_eq_true rfl) dX6_core_19 rfl rfl ?_
  refine V_if_eq (t := 35) (q := 25) C dX6_core_22 (by decide) rfl (fun c16 => ?_) (fun c16 => ?_)
  · replace hf := (ite_s hf).1 c16
    refine V_aload_n (q := 36) C dX6_core_35 rfl rfl 0 rfl ?_
    refine GX_0_1 (q := 39) C q_354 dX6_core_36 rfl ?_
    refine V_iload_n (q := 40) C dX6_core_39 rfl rfl 1 rfl ?_
    refine V_iload_n (q := 41) C dX6_core_40 rfl rfl 2 rfl ?_
    obtain ⟨r17, σ18, h19, hf⟩ := bd_s hf
    refine V_callVN (av := [.int a, .int b]) (st := []) (st1 := [.int r17]) (q := 44) C 2 (by decide) (eX_2 G ad _) rfl rfl (conX4_smallestReason _ _ _ _ _ _ _ _ h19) q_921 q_109 q_918 q_920 q_44 nmX4_smallestReason (by decide) rfl rfl (Nat.le_of_ble_eq_true rfl) dX6_core_41 rfl rfl ?_
    obtain ⟨e1, e2⟩ := pr_s hf
    subst e1; subst e2
    exact V_iret C (Fr _ rfl) (by decide) (by decide) dX6_core_44
  · replace hf := (ite_s hf).2 c16
    obtain ⟨e1, e2⟩ := pr_s hf
    subst e1; subst e2
    exact V_throwN (text := "the station can be added") C rfl (Fx _ rfl) q_902 (by decide) dX6_core_25 dX6_core_28 dX6_core_29 dX6_core_31 dX6_core_34 (by decide) (Nat.le_of_ble_eq_true rfl) (by decide) (by decide) (by decide) (by decide)
def rmX6_pairsIn_15 : Room := { frames := 1, cells := 0, slots := 0, locals := 20 }
def fX6_pairsIn_15_4 (K : Int32 → Sg → Option (Int32 × Sg)) : Nat → Int32 → Int32 → Sg → Option (Int32 × Sg)
  | 0, _, _, _ => none
  | n + 1, x1, x2, σ3 => if (12 : Int32) ≤ x2 then (K x1 σ3) else (gd (inb x2 12) (lt' ((x1 + (pJ6_bitCount_0f7a4 (σ3 15 x2.toNatClampNeg)))) (fun (x7 : Int32) => fX6_pairsIn_15_4 K n x7 (x2 + (1 : Int32)) σ3)))
def fX6_pairsIn_15  (σ : Sg) : Option (Int32 × Sg) := fX6_pairsIn_15_4 (fun (y4 : Int32) (σ8 : Sg) => some ((y4 / (2 : Int32)), σ8)) FU (0 : Int32) (0 : Int32) σ
set_option maxHeartbeats 4000000 in
theorem wlX6_pairsIn_15_4 {X : Cx} {G : Gx} {ad : Nat → Nat} {Q : State → Prop} {r : Int32} {σf : Sg} (C : OK wX X G ad RX6 cX6_pairsIn 3 rmX6_pairsIn_15) (F : FinR wX X G ad Q 0 0 (some .int) (some (.int r)) σf) (K : Int32 → Sg → Option (Int32 × Sg)) (hK : ∀ (y4 : Int32) (σk : Sg), K y4 σk = some (r, σf) → V wX X G ad 3 Q 0 0 σk 25 [(1, .int y4)] []) : ∀ (n : Nat) (x1 : Int32) (x2 : Int32) (σ3 : Sg), fX6_pairsIn_15_4 K n x1 x2 σ3 = some (r, σf) → V wX X G ad 3 Q 0 0 σ3 4 [(0, .ref (ad 15)), (1, .int x1), (2, .int x2)] [] := by
  intro n
  induction n with
  | zero =>
    intro _ _ _ hf
    exact absurd hf (by simp [fX6_pairsIn_15_4])
  | succ n ih =>
    intro x1 x2 σ3 hf
    rw [fX6_pairsIn_15_4] at hf
    refine V_iload_n (q := 5) C dX6_pairsIn_4 rfl rfl 2 rfl ?_
    refine V_aload_n (q := 6) C dX6_pairsIn_5 rfl rfl 0 rfl ?_
    refine LX_15 (q := 7) C dX6_pairsIn_6 rfl ?_
    refine V_icmp_ge (t := 25) (q := 10) C dX6_pairsIn_7 (by decide) rfl (fun c5 => ?_) (fun c5 => ?_)
    · replace hf := (ite_s hf).1 c5
      refine V_sub (L' := [(1, .int x1)]) [1] rfl ?_
      exact hK _ _ hf
    · replace hf := (ite_s hf).2 c5
      refine V_iload_n (q := 11) C dX6_pairsIn_10 rfl rfl 1 rfl ?_
      refine V_aload_n (q := 12) C dX6_pairsIn_11 rfl rfl 0 rfl ?_
      refine V_iload_n (q := 13) C dX6_pairsIn_12 rfl rfl 2 rfl ?_
      obtain ⟨g6, hf⟩ := gd_s hf
      refine RX_15 (z := x2.toNatClampNeg) (q := 14) C rfl (inb_in g6) dX6_pairsIn_13 rfl ?_
      refine V_callS (av := [.int (σ3 15 x2.toNatClampNeg)]) (st := [.int x1]) (st1 := [.int (pJ6_bitCount_0f7a4 (σ3 15 x2.toNatClampNeg)), .int x1]) (q := 17) C (conJ6_bitCount_0f7a4 _ _ _ _ _ _ rfl) q_727 q_126 q_866 q_726 nmJ6_bitCount_0f7a4 (by decide) rfl rfl (Nat.le_of_ble_eq_true rfl) dX6_pairsIn_14 rfl rfl ?_
      refine V_iadd (q := 18) C dX6_pairsIn_17 rfl ?_
      refine V_let (cv := Value.int) hf (fun x7 hf => ?_)
      refine V_istore_n (L' := [(1, .int x7), (0, .ref (ad 15)), (2, .int x2)]) (q := 19) C dX6_pairsIn_18 rfl rfl (by decide) rfl ?_
      refine V_iinc (L' := [(2, .int (x2 + (1 : Int32))), (1, .int x7), (0, .ref (ad 15))]) (q := 22) C dX6_pairsIn_19 rfl 2 rfl (congrArg (fun y => x2 + y) ic_1) (by decide) rfl ?_
      refine V_goto (t := 4) C dX6_pairsIn_22 (by decide) ?_
      refine V_sub (L' := [(0, .ref (ad 15)), (1, .int x7), (2, .int (x2 + (1 : Int32)))]) [2, 1, 0] rfl ?_
      exact ih _ _ _ hf
set_option maxHeartbeats 4000000 in
theorem conX6_pairsIn_15 (l : Launch) (G : Gx) (ad : Nat → Nat)  (σ : Sg) (r : Int32) (σf : Sg)  (hf : fX6_pairsIn_15  σ = some (r, σf)) : Con wX l G ad yX6_pairsIn (Cond.code yX6_pairsIn cX6_pairsIn 3 (some .int)) rmX6_pairsIn_15 0 0 [.ref (ad 15)] σ (some (.int r)) σf := by
  refine Con.start (by decide) (Nat.le_of_ble_eq_true rfl) (fun X Q _ C F => ?_)
  refine V_eq (L' := [(0, .ref (ad 15))]) (st' := []) rfl rfl rfl ?_
  unfold fX6_pairsIn_15 at hf
  refine V_iconst (v := 0) (q := 1) C dX6_pairsIn_0 rfl ic_0 ?_
  refine V_istore_n (L' := [(1, .int (0 : Int32)), (0, .ref (ad 15))]) (q := 2) C dX6_pairsIn_1 rfl rfl (by decide) rfl ?_
  refine V_iconst (v := 0) (q := 3) C dX6_pairsIn_2 rfl ic_0 ?_
  refine V_istore_n (L' := [(2, .int (0 : Int32)), (1, .int (0 : Int32)), (0, .ref (ad 15))]) (q := 4) C dX6_pairsIn_3 rfl rfl (by decide) rfl ?_
  refine V_sub (L' := [(0, .ref (ad 15)), (1, .int (0 : Int32)), (2, .int (0 : Int32))]) [2, 1, 0] rfl ?_
  refine wlX6_pairsIn_15_4 C F _ (fun y4 σ8 hf => ?_) FU _ _ _ hf
  refine V_iload_n (q := 26) C dX6_pairsIn_25 rfl rfl 0 rfl ?_
  refine V_iconst (v := 2) (q := 27) C dX6_pairsIn_26 rfl ic_2 ?_
  refine V_idiv (q := 28) C dX6_pairsIn_27 rfl (by decide) ?_
  obtain ⟨e1, e2⟩ := pr_s hf
  subst e1; subst e2
  exact V_iret C F (by decide) (by decide) dX6_pairsIn_28
def rmX6_pairsIn_16 : Room := { frames := 1, cells := 0, slots := 0, locals := 20 }
def fX6_pairsIn_16_4 (K : Int32 → Sg → Option (Int32 × Sg)) : Nat → Int32 → Int32 → Sg → Option (Int32 × Sg)
  | 0, _, _, _ => none
  | n + 1, x1, x2, σ3 => if (12 : Int32) ≤ x2 then (K x1 σ3) else (gd (inb x2 12) (lt' ((x1 + (pJ6_bitCount_0f7a4 (σ3 16 x2.toNatClampNeg)))) (fun (x7 : Int32) => fX6_pairsIn_16_4 K n x7 (x2 + (1 : Int32)) σ3)))
def fX6_pairsIn_16  (σ : Sg) : Option (Int32 × Sg) := fX6_pairsIn_16_4 (fun (y4 : Int32) (σ8 : Sg) => some ((y4 / (2 : Int32)), σ8)) FU (0 : Int32) (0 : Int32) σ
set_option maxHeartbeats 4000000 in
theorem wlX6_pairsIn_16_4 {X : Cx} {G : Gx} {ad : Nat → Nat} {Q : State → Prop} {r : Int32} {σf : Sg} (C : OK wX X G ad RX6 cX6_pairsIn 3 rmX6_pairsIn_16) (F : FinR wX X G ad Q 0 0 (some .int) (some (.int r)) σf) (K : Int32 → Sg → Option (Int32 × Sg)) (hK : ∀ (y4 : Int32) (σk : Sg), K y4 σk = some (r, σf) → V wX X G ad 3 Q 0 0 σk 25 [(1, .int y4)] []) : ∀ (n : Nat) (x1 : Int32) (x2 : Int32) (σ3 : Sg), fX6_pairsIn_16_4 K n x1 x2 σ3 = some (r, σf) → V wX X G ad 3 Q 0 0 σ3 4 [(0, .ref (ad 16)), (1, .int x1), (2, .int x2)] [] := by
  intro n
  induction n with
  | zero =>
    intro _ _ _ hf
    exact absurd hf (by simp [fX6_pairsIn_16_4])
  | succ n ih =>
    intro x1 x2 σ3 hf
    rw [fX6_pairsIn_16_4] at hf
    refine V_iload_n (q := 5) C dX6_pairsIn_4 rfl rfl 2 rfl ?_
    refine V_aload_n (q := 6) C dX6_pairsIn_5 rfl rfl 0 rfl ?_
    refine LX_16 (q := 7) C dX6_pairsIn_6 rfl ?_
    refine V_icmp_ge (t := 25) (q := 10) C dX6_pairsIn_7 (by decide) rfl (fun c5 => ?_) (fun c5 => ?_)
    · replace hf := (ite_s hf).1 c5
      refine V_sub (L' := [(1, .int x1)]) [1] rfl ?_
      exact hK _ _ hf
    · replace hf := (ite_s hf).2 c5
      refine V_iload_n (q := 11) C dX6_pairsIn_10 rfl rfl 1 rfl ?_
      refine V_aload_n (q := 12) C dX6_pairsIn_11 rfl rfl 0 rfl ?_
      refine V_iload_n (q := 13) C dX6_pairsIn_12 rfl rfl 2 rfl ?_
      obtain ⟨g6, hf⟩ := gd_s hf
      refine RX_16 (z := x2.toNatClampNeg) (q := 14) C rfl (inb_in g6) dX6_pairsIn_13 rfl ?_
      refine V_callS (av := [.int (σ3 16 x2.toNatClampNeg)]) (st := [.int x1]) (st1 := [.int (pJ6_bitCount_0f7a4 (σ3 16 x2.toNatClampNeg)), .int x1]) (q := 17) C (conJ6_bitCount_0f7a4 _ _ _ _ _ _ rfl) q_727 q_126 q_866 q_726 nmJ6_bitCount_0f7a4 (by decide) rfl rfl (Nat.le_of_ble_eq_true rfl) dX6_pairsIn_14 rfl rfl ?_
      refine V_iadd (q := 18) C dX6_pairsIn_17 rfl ?_
      refine V_let (cv := Value.int) hf (fun x7 hf => ?_)
      refine V_istore_n (L' := [(1, .int x7), (0, .ref (ad 16)), (2, .int x2)]) (q := 19) C dX6_pairsIn_18 rfl rfl (by decide) rfl ?_
      refine V_iinc (L' := [(2, .int (x2 + (1 : Int32))), (1, .int x7), (0, .ref (ad 16))]) (q := 22) C dX6_pairsIn_19 rfl 2 rfl (congrArg (fun y => x2 + y) ic_1) (by decide) rfl ?_
      refine V_goto (t := 4) C dX6_pairsIn_22 (by decide) ?_
      refine V_sub (L' := [(0, .ref (ad 16)), (1, .int x7), (2, .int (x2 + (1 : Int32)))]) [2, 1, 0] rfl ?_
      exact ih _ _ _ hf
set_option maxHeartbeats 4000000 in
theorem conX6_pairsIn_16 (l : Launch) (G : Gx) (ad : Nat → Nat)  (σ : Sg) (r : Int32) (σf : Sg)  (hf : fX6_pairsIn_16  σ = some (r, σf)) : Con wX l G ad yX6_pairsIn (Cond.code yX6_pairsIn cX6_pairsIn 3 (some .int)) rmX6_pairsIn_16 0 0 [.ref (ad 16)] σ (some (.int r)) σf := by
  refine Con.start (by decide) (Nat.le_of_ble_eq_true rfl) (fun X Q _ C F => ?_)
  refine V_eq (L' := [(0, .ref (ad 16))]) (st' := []) rfl rfl rfl ?_
  unfold fX6_pairsIn_16 at hf
  refine V_iconst (v := 0) (q := 1) C dX6_pairsIn_0 rfl ic_0 ?_
  refine V_istore_n (L' := [(1, .int (0 : Int32)), (0, .ref (ad 16))]) (q := 2) C dX6_pairsIn_1 rfl rfl (by decide) rfl ?_
  refine V_iconst (v := 0) (q := 3) C dX6_pairsIn_2 rfl ic_0 ?_
  refine V_istore_n (L' := [(2, .int (0 : Int32)), (1, .int (0 : Int32)), (0, .ref (ad 16))]) (q := 4) C dX6_pairsIn_3 rfl rfl (by decide) rfl ?_
  refine V_sub (L' := [(0, .ref (ad 16)), (1, .int (0 : Int32)), (2, .int (0 : Int32))]) [2, 1, 0] rfl ?_
  refine wlX6_pairsIn_16_4 C F _ (fun y4 σ8 hf => ?_) FU _ _ _ hf
  refine V_iload_n (q := 26) C dX6_pairsIn_25 rfl rfl 0 rfl ?_
  refine V_iconst (v := 2) (q := 27) C dX6_pairsIn_26 rfl ic_2 ?_
  refine V_idiv (q := 28) C dX6_pairsIn_27 rfl (by decide) ?_
  obtain ⟨e1, e2⟩ := pr_s hf
  subst e1; subst e2
  exact V_iret C F (by decide) (by decide) dX6_pairsIn_28
def rmX3_placedStations : Room := { frames := 0, cells := 0, slots := 0, locals := 0 }
def fX3_placedStations_4 : Nat → Int32 → Int32 → Sg → Option (Int32 × Sg)
  | 0, _, _, _ => none
  | n + 1, x1, x2, σ3 => if (σ3 3 6) ≤ x2 then (some (x1, σ3)) else (gd (inb x2 12) (jp (fun (y6 : Int32) (σ7 : Sg) => fX3_placedStations_4 n y6 (x2 + (1 : Int32)) σ7) (fun (J25 : Int32 → Sg → Option (Int32 × Sg)) => if (σ3 14 x2.toNatClampNeg) = (-1 : Int32) then (J25 x1 σ3) else (J25 (x1 + (1 : Int32)) σ3))))
def fX3_placedStations  (σ : Sg) : Option (Int32 × Sg) := fX3_placedStations_4 FU (0 : Int32) (0 : Int32) σ
set_option maxHeartbeats 4000000 in
theorem wlX3_placedStations_4 {X : Cx} {G : Gx} {ad : Nat → Nat} {Q : State → Prop} {r : Int32} {σf : Sg} (C : OK wX X G ad RX3 cX3_placedStations 3 rmX3_placedStations) (F : FinR wX X G ad Q 0 0 (some .int) (some (.int r)) σf) : ∀ (n : Nat) (x1 : Int32) (x2 : Int32) (σ3 : Sg), fX3_placedStations_4 n x1 x2 σ3 = some (r, σf) → V wX X G ad 3 Q 0 0 σ3 4 [(0, .ref (ad 3)), (1, .int x1), (2, .int x2)] [] := by
  intro n
  induction n with
  | zero =>
    intro _ _ _ hf
    exact absurd hf (by simp [fX3_placedStations_4])
  | succ n ih =>
    intro x1 x2 σ3 hf
    rw [fX3_placedStations_4] at hf
    refine V_iload_n (q := 5) C dX3_placedStations_4 rfl rfl 2 rfl ?_
    refine V_aload_n (q := 6) C dX3_placedStations_5 rfl rfl 0 rfl ?_
    refine GX_3_6 (q := 9) C q_178 dX3_placedStations_6 rfl ?_
    refine V_icmp_ge (t := 31) (q := 12) C dX3_placedStations_9 (by decide) rfl (fun c4 => ?_) (fun c4 => ?_)
    · replace hf := (ite_s hf).1 c4
      refine V_iload_n (q := 32) C dX3_placedStations_31 rfl rfl 1 rfl ?_
      obtain ⟨e1, e2⟩ := pr_s hf
      subst e1; subst e2
      exact V_iret C F (by decide) (by decide) dX3_placedStations_32
    · replace hf := (ite_s hf).2 c4
      refine V_aload_n (q := 13) C dX3_placedStations_12 rfl rfl 0 rfl ?_
      refine GX_3_3 (q := 16) C q_167 dX3_placedStations_13 rfl ?_
      refine V_iload_n (q := 17) C dX3_placedStations_16 rfl rfl 2 rfl ?_
      obtain ⟨g5, hf⟩ := gd_s hf
      refine RX_14 (z := x2.toNatClampNeg) (q := 18) C rfl (inb_in g5) dX3_placedStations_17 rfl ?_
      refine V_iconst (v := (-1)) (q := 19) C dX3_placedStations_18 rfl ic_m1 ?_
      obtain ⟨J25, eJ25, hf⟩ := jp_s hf
      have hJ25 : ∀ (y6 : Int32) (σ7 : Sg), J25 y6 σ7 = some (r, σf) → V wX X G ad 3 Q 0 0 σ7 25 [(0, .ref (ad 3)), (1, .int y6), (2, .int x2)] [] := by
        intro y6 σ7 hf
        subst eJ25
        refine V_iinc (L' := [(2, .int (x2 + (1 : Int32))), (0, .ref (ad 3)), (1, .int y6)]) (q := 28) C dX3_placedStations_25 rfl 2 rfl (congrArg (fun y => x2 + y) ic_1) (by decide) rfl ?_
        refine V_goto (t := 4) C dX3_placedStations_28 (by decide) ?_
        refine V_sub (L' := [(0, .ref (ad 3)), (1, .int y6), (2, .int (x2 + (1 : Int32)))]) [1, 2, 0] rfl ?_
        exact ih _ _ _ hf
      refine V_icmp_eq (t := 25) (q := 22) C dX3_placedStations_19 (by decide) rfl (fun c8 => ?_) (fun c8 => ?_)
      · replace hf := (ite_s hf).1 c8
        exact hJ25 _ _ hf
      · replace hf := (ite_s hf).2 c8
        refine V_iinc (L' := [(1, .int (x1 + (1 : Int32))), (0, .ref (ad 3)), (2, .int x2)]) (q := 25) C dX3_placedStations_22 rfl 1 rfl (congrArg (fun y => x1 + y) ic_1) (by decide) rfl ?_
        refine V_sub (L' := [(0, .ref (ad 3)), (1, .int (x1 + (1 : Int32))), (2, .int x2)]) [1, 0, 2] rfl ?_
        exact hJ25 _ _ hf
set_option maxHeartbeats 4000000 in
theorem conX3_placedStations (l : Launch) (G : Gx) (ad : Nat → Nat)  (σ : Sg) (r : Int32) (σf : Sg)  (hf : fX3_placedStations  σ = some (r, σf)) : Con wX l G ad yX3_placedStations (Cond.code yX3_placedStations cX3_placedStations 3 (some .int)) rmX3_placedStations 0 0 [.ref (ad 3)] σ (some (.int r)) σf := by
  refine Con.start (by decide) (Nat.le_of_ble_eq_true rfl) (fun X Q _ C F => ?_)
  refine V_eq (L' := [(0, .ref (ad 3))]) (st' := []) rfl rfl rfl ?_
  unfold fX3_placedStations at hf
  refine V_iconst (v := 0) (q := 1) C dX3_placedStations_0 rfl ic_0 ?_
  refine V_istore_n (L' := [(1, .int (0 : Int32)), (0, .ref (ad 3))]) (q := 2) C dX3_placedStations_1 rfl rfl (by decide) rfl ?_
  refine V_iconst (v := 0) (q := 3) C dX3_placedStations_2 rfl ic_0 ?_
  refine V_istore_n (L' := [(2, .int (0 : Int32)), (1, .int (0 : Int32)), (0, .ref (ad 3))]) (q := 4) C dX3_placedStations_3 rfl rfl (by decide) rfl ?_
  refine V_sub (L' := [(0, .ref (ad 3)), (1, .int (0 : Int32)), (2, .int (0 : Int32))]) [2, 1, 0] rfl ?_
  refine wlX3_placedStations_4 C F FU _ _ _ hf
def rmX6_count : Room := { frames := 6, cells := 1, slots := 6, locals := 90 }
def fX6_count (a : Int32) (σ : Sg) : Option ((String ⊕ Int32) × Sg) := if a = (0 : Int32) then (some (.inr (σ 3 6), σ)) else if a = (1 : Int32) then (bd (fX6_pairsIn_15  σ) (fun (r3 : Int32) (σ4 : Sg) => some (.inr r3, σ4))) else if a = (2 : Int32) then (bd (fX6_pairsIn_16  σ) (fun (r7 : Int32) (σ8 : Sg) => some (.inr r7, σ8))) else if a = (3 : Int32) then (some (.inr (pJ6_bitCount_0f7a4 (σ 3 8)), σ)) else if a = (4 : Int32) then (some (.inr (pJ6_bitCount_0f7a4 (σ 3 7)), σ)) else if a = (5 : Int32) then (bd (fX3_placedStations  σ) (fun (r13 : Int32) (σ14 : Sg) => some (.inr r13, σ14))) else if a = (6 : Int32) then (some (.inr (σ 5 1), σ)) else if a = (7 : Int32) then (if (σ 7 4) = 0 then (some (.inr (0 : Int32), σ)) else (some (.inr ((σ 7 5) + (1 : Int32)), σ))) else (some (.inl "java/lang/IllegalArgumentException", σ))
set_option maxHeartbeats 4000000 in
theorem conX6_count (l : Launch) (G : Gx) (ad : Nat → Nat) (a : Int32) (σ : Sg) (r : String ⊕ Int32) (σf : Sg) (hf : fX6_count a σ = some (r, σf)) : ConX wX l G ad yX6_count (Cond.code yX6_count cX6_count 2 (some .int)) rmX6_count 1 6 [.ref (ad 0), .int a] σ (rI r) σf := by
  refine ConX.start (by decide) (Nat.le_of_ble_eq_true rfl) (fun X Q _ C Fr Fx => ?_)
  refine V_eq (L' := [(0, .ref (ad 0)), (1, .int a)]) (st' := []) rfl rfl rfl ?_
  unfold fX6_count at hf
  refine V_iload_n (q := 1) C dX6_count_0 rfl rfl 1 rfl ?_
  by_cases c1 : a = (0 : Int32)
  · replace hf := (ite_s hf).1 c1
    refine V_tabIn (t := 48) C dX6_count_1 (by rw [c1]; decide) (by rw [c1]; decide) (off := 47) (by rw [c1]; decide) (by decide) ?_
    refine V_aload_n (q := 49) C dX6_count_48 rfl rfl 0 rfl ?_
    refine GX_0_2 (q := 52) C q_355 dX6_count_49 rfl ?_
    refine GNX_3_6 (q := 55) C q_181 dX6_count_52 rfl ?_
    obtain ⟨e1, e2⟩ := pr_s hf
    subst e1; subst e2
    exact V_iret C (Fr _ rfl) (by decide) (by decide) dX6_count_55
  · replace hf := (ite_s hf).2 c1
    by_cases c2 : a = (1 : Int32)
    · replace hf := (ite_s hf).1 c2
      refine V_tabIn (t := 56) C dX6_count_1 (by rw [c2]; decide) (by rw [c2]; decide) (off := 55) (by rw [c2]; decide) (by decide) ?_
      refine V_aload_n (q := 57) C dX6_count_56 rfl rfl 0 rfl ?_
      refine GX_0_2 (q := 60) C q_355 dX6_count_57 rfl ?_
      refine GNX_3_4 (q := 63) C q_172 dX6_count_60 rfl ?_
      obtain ⟨r3, σ4, h5, hf⟩ := bd_s hf
      refine V_callS (av := [.ref (ad 15)]) (st := []) (st1 := [.int r3]) (q := 66) C (conX6_pairsIn_15 _ _ _  _ _ _ h5) q_1161 q_107 q_1159 q_1160 nmX6_pairsIn (by decide) rfl rfl (Nat.le_of_ble_eq_true rfl) dX6_count_63 rfl rfl ?_
      obtain ⟨e1, e2⟩ := pr_s hf
      subst e1; subst e2
      exact V_iret C (Fr _ rfl) (by decide) (by decide) dX6_count_66
    · replace hf := (ite_s hf).2 c2
      by_cases c6 : a = (2 : Int32)
      · replace hf := (ite_s hf).1 c6
        refine V_tabIn (t := 67) C dX6_count_1 (by rw [c6]; decide) (by rw [c6]; decide) (off := 66) (by rw [c6]; decide) (by decide) ?_
        refine V_aload_n (q := 68) C dX6_count_67 rfl rfl 0 rfl ?_
        refine GX_0_2 (q := 71) C q_355 dX6_count_68 rfl ?_
        refine GNX_3_5 (q := 74) C q_176 dX6_count_71 rfl ?_
        obtain ⟨r7, σ8, h9, hf⟩ := bd_s hf
        refine V_callS (av := [.ref (ad 16)]) (st := []) (st1 := [.int r7]) (q := 77) C (conX6_pairsIn_16 _ _ _  _ _ _ h9) q_1161 q_107 q_1159 q_1160 nmX6_pairsIn (by decide) rfl rfl (Nat.le_of_ble_eq_true rfl) dX6_count_74 rfl rfl ?_
        obtain ⟨e1, e2⟩ := pr_s hf
        subst e1; subst e2
        exact V_iret C (Fr _ rfl) (by decide) (by decide) dX6_count_77
      · replace hf := (ite_s hf).2 c6
        by_cases c10 : a = (3 : Int32)
        · replace hf := (ite_s hf).1 c10
          refine V_tabIn (t := 78) C dX6_count_1 (by rw [c10]; decide) (by rw [c10]; decide) (off := 77) (by rw [c10]; decide) (by decide) ?_
          refine V_aload_n (q := 79) C dX6_count_78 rfl rfl 0 rfl ?_
          refine GX_0_2 (q := 82) C q_355 dX6_count_79 rfl ?_
          refine GNX_3_8 (q := 85) C q_189 dX6_count_82 rfl ?_
          refine V_callS (av := [.int (σ 3 8)]) (st := []) (st1 := [.int (pJ6_bitCount_0f7a4 (σ 3 8))]) (q := 88) C (conJ6_bitCount_0f7a4 _ _ _ _ _ _ rfl) q_727 q_126 q_866 q_726 nmJ6_bitCount_0f7a4 (by decide) rfl rfl (Nat.le_of_ble_eq_true rfl) dX6_count_85 rfl rfl ?_
          obtain ⟨e1, e2⟩ := pr_s hf
          subst e1; subst e2
          exact V_iret C (Fr _ rfl) (by decide) (by decide) dX6_count_88
        · replace hf := (ite_s hf).2 c10
          by_cases c11 : a = (4 : Int32)
          · replace hf := (ite_s hf).1 c11
            refine V_tabIn (t := 89) C dX6_count_1 (by rw [c11]; decide) (by rw [c11]; decide) (off := 88) (by rw [c11]; decide) (by decide) ?_
            refine V_aload_n (q := 90) C dX6_count_89 rfl rfl 0 rfl ?_
            refine GX_0_2 (q := 93) C q_355 dX6_count_90 rfl ?_
            refine GNX_3_7 (q := 96) C q_186 dX6_count_93 rfl ?_
            refine V_callS (av := [.int (σ 3 7)]) (st := []) (st1 := [.int (pJ6_bitCount_0f7a4 (σ 3 7))]) (q := 99) C (conJ6_bitCount_0f7a4 _ _ _ _ _ _ rfl) q_727 q_126 q_866 q_726 nmJ6_bitCount_0f7a4 (by decide) rfl rfl (Nat.le_of_ble_eq_true rfl) dX6_count_96 rfl rfl ?_
            obtain ⟨e1, e2⟩ := pr_s hf
            subst e1; subst e2
            exact V_iret C (Fr _ rfl) (by decide) (by decide) dX6_count_99
          · replace hf := (ite_s hf).2 c11
            by_cases c12 : a = (5 : Int32)
            · replace hf := (ite_s hf).1 c12
              refine V_tabIn (t := 100) C dX6_count_1 (by rw [c12]; decide) (by rw [c12]; decide) (off := 99) (by rw [c12]; decide) (by decide) ?_
              refine V_aload_n (q := 101) C dX6_count_100 rfl rfl 0 rfl ?_
              refine GX_0_2 (q := 104) C q_355 dX6_count_101 rfl ?_
              obtain ⟨r13, σ14, h15, hf⟩ := bd_s hf
              refine V_callVN (av := []) (st := []) (st1 := [.int r13]) (q := 107) C 3 (by decide) (eX_3 G ad _) rfl rfl (conX3_placedStations _ _ _  _ _ _ h15) q_1165 q_110 q_1162 q_1164 q_63 nmX3_placedStations (by decide) rfl rfl (Nat.le_of_ble_eq_true rfl) dX6_count_104 rfl rfl ?_
              obtain ⟨e1, e2⟩ := pr_s hf
              subst e1; subst e2
              exact V_iret C (Fr _ rfl) (by decide) (by decide) dX6_count_107
            · replace hf := (ite_s hf).2 c12
              by_cases c16 : a = (6 : Int32)
              · replace hf := (ite_s hf).1 c16
                refine V_tabIn (t := 108) C dX6_count_1 (by rw [c16]; decide) (by rw [c16]; decide) (off := 107) (by rw [c16]; decide) (by decide) ?_
                refine V_aload_n (q := 109) C dX6_count_108 rfl rfl 0 rfl ?_
                refine GX_0_4 (q := 112) C q_357 dX6_count_109 rfl ?_
                refine GNX_5_1 (q := 115) C q_271 dX6_count_112 rfl ?_
                obtain ⟨e1, e2⟩ := pr_s hf
                subst e1; subst e2
                exact V_iret C (Fr _ rfl) (by decide) (by decide) dX6_count_115
              · replace hf := (ite_s hf).2 c16
                by_cases c17 : a = (7 : Int32)
                · replace hf := (ite_s hf).1 c17
                  refine V_tabIn (t := 116) C dX6_count_1 (by rw [c17]; decide) (by rw [c17]; decide) (off := 115) (by rw [c17]; decide) (by decide) ?_
                  refine V_aload_n (q := 117) C dX6_count_116 rfl rfl 0 rfl ?_
                  refine GX_0_6 (q := 120) C q_359 dX6_count_117 rfl ?_
                  refine GNX_7_4 (q := 123) C q_319 dX6_count_120 rfl ?_
                  refine V_if_eq (t := 138) (q := 126) C dX6_count_123 (by decide) rfl (fun c18 => ?_) (fun c18 => ?_)
                  · replace hf := (ite_s hf).1 c18
                    refine V_iconst (v := 0) (q := 139) C dX6_count_138 rfl ic_0 ?_
                    obtain ⟨e1, e2⟩ := pr_s hf
                    subst e1; subst e2
                    exact V_iret C (Fr _ rfl) (by decide) (by decide) dX6_count_139
                  · replace hf := (ite_s hf).2 c18
                    refine V_aload_n (q := 127) C dX6_count_126 rfl rfl 0 rfl ?_
                    refine GX_0_6 (q := 130) C q_359 dX6_count_127 rfl ?_
                    refine GNX_7_5 (q := 133) C q_321 dX6_count_130 rfl ?_
                    refine V_iconst (v := 1) (q := 134) C dX6_count_133 rfl ic_1 ?_
                    refine V_iadd (q := 135) C dX6_count_134 rfl ?_
                    refine V_goto (t := 139) C dX6_count_135 (by decide) ?_
                    obtain ⟨e1, e2⟩ := pr_s hf
                    subst e1; subst e2
                    exact V_iret C (Fr _ rfl) (by decide) (by decide) dX6_count_139
                · replace hf := (ite_s hf).2 c17
                  refine V_tabOut (t := 140) C dX6_count_1 (sw_out (h := 7) (by decide) (fun i hi => ?_)) (by decide) ?_
                  · match i, hi with
                    | 0, _ => exact c1
                    | 1, _ => exact c2
                    | 2, _ => exact c6
                    | 3, _ => exact c10
                    | 4, _ => exact c11
                    | 5, _ => exact c12
                    | 6, _ => exact c16
                    | 7, _ => exact c17
                    | i + 8, h => exact absurd h (by omega)
                  · obtain ⟨e1, e2⟩ := pr_s hf
                    subst e1; subst e2
                    exact V_throwSW (text := "no such count") C rfl (Fx _ rfl) rfl q_424 q_118 (by decide) xa_87 xg_87 dX6_count_140 dX6_count_143 dX6_count_144 dX6_count_147 dX6_count_150 (by decide) (Nat.le_of_ble_eq_true rfl) (by decide) (by decide) (by decide) (by decide)
def rmX6_doubleBits : Room := { frames := 1, cells := 0, slots := 0, locals := 26 }
def fX6_doubleBits (a : UInt64) (σ : Sg) : Option (Int64 × Sg) := bd (fX6_bitsOf a (52 : Int32) (1023 : Int32) σ) (fun (r1 : Int64) (σ2 : Sg) => some (r1, σ2))
set_option maxHeartbeats 4000000 in
theorem conX6_doubleBits (l : Launch) (G : Gx) (ad : Nat → Nat) (a : UInt64) (σ : Sg) (r : Int64) (σf : Sg)  (hf : fX6_doubleBits a σ = some (r, σf)) : Con wX l G ad yX6_doubleBits (Cond.code yX6_doubleBits cX6_doubleBits 2 (some .long)) rmX6_doubleBits 0 0 [.double a] σ (some (.long r)) σf := by
  refine Con.start (by decide) (Nat.le_of_ble_eq_true rfl) (fun X Q _ C F => ?_)
  refine V_eq (L' := [(0, .double a)]) (st' := []) rfl rfl rfl ?_
  unfold fX6_doubleBits at hf
  refine V_dload_n (q := 1) C dX6_doubleBits_0 rfl rfl 0 rfl ?_
  refine V_bipush (v := 52) (q := 3) C dX6_doubleBits_1 rfl bc_52 ?_
  refine V_sipush (v := 1023) (q := 6) C dX6_doubleBits_3 rfl sc_1023 ?_
  obtain ⟨r1, σ2, h3, hf⟩ := bd_s hf
  refine V_callS (av := [.double a, .int (52 : Int32), .int (1023 : Int32)]) (st := []) (st1 := [.long r1]) (q := 9) C (conX6_bitsOf _ _ _ _ _ _ _ _ _ h3) q_750 q_107 q_748 q_749 nmX6_bitsOf (by decide) rfl rfl (Nat.le_of_ble_eq_true rfl) dX6_doubleBits_6 rfl rfl ?_
  obtain ⟨e1, e2⟩ := pr_s hf
  subst e1; subst e2
  exact V_lret C F (by decide) (by decide) dX6_doubleBits_9
def rmX6_lossWithout : Room := { frames := 2, cells := 0, slots := 0, locals := 44 }
def fX6_lossWithout (a : Int32) (σ : Sg) : Option (Int32 × Sg) := bd (fX3_everyone  σ) (fun (r1 : Int32) (σ2 : Sg) => bd (fX6_sumOver_12 (r1 &&& (a ^^^ (-1 : Int32))) σ2) (fun (r4 : Int32) (σ5 : Sg) => some (r4, σ5)))
set_option maxHeartbeats 4000000 in
theorem conX6_lossWithout (l : Launch) (G : Gx) (ad : Nat → Nat) (a : Int32) (σ : Sg) (r : Int32) (σf : Sg)  (hf : fX6_lossWithout a σ = some (r, σf)) : Con wX l G ad yX6_lossWithout (Cond.code yX6_lossWithout cX6_lossWithout 2 (some .int)) rmX6_lossWithout 0 0 [.ref (ad 0), .int a] σ (some (.int r)) σf := by
  refine Con.start (by decide) (Nat.le_of_ble_eq_true rfl) (fun X Q _ C F => ?_)
  refine V_eq (L' := [(0, .ref (ad 0)), (1, .int a)]) (st' := []) rfl rfl rfl ?_
  unfold fX6_lossWithout at hf
  refine V_aload_n (q := 1) C dX6_lossWithout_0 rfl rfl 0 rfl ?_
  refine GX_0_2 (q := 4) C q_355 dX6_lossWithout_1 rfl ?_
  refine GNX_3_1 (q := 7) C q_164 dX6_lossWithout_4 rfl ?_
  refine V_aload_n (q := 8) C dX6_lossWithout_7 rfl rfl 0 rfl ?_
  refine GX_0_2 (q := 11) C q_355 dX6_lossWithout_8 rfl ?_
  obtain ⟨r1, σ2, h3, hf⟩ := bd_s hf
  refine V_callVN (av := []) (st := [.ref (ad 12)]) (st1 := [.int r1, .ref (ad 12)]) (q := 14) C 3 (by decide) (eX_3 G ad _) rfl rfl (conX3_everyone _ _ _  _ _ _ h3) q_561 q_110 q_776 q_560 q_9 nmX3_everyone (by decide) rfl rfl (Nat.le_of_ble_eq_true rfl) dX6_lossWithout_11 rfl rfl ?_
  refine V_iload_n (q := 15) C dX6_lossWithout_14 rfl rfl 1 rfl ?_
  refine V_iconst (v := (-1)) (q := 16) C dX6_lossWithout_15 rfl ic_m1 ?_
  refine V_ixor (q := 17) C dX6_lossWithout_16 rfl ?_
  refine V_iand (q := 18) C dX6_lossWithout_17 rfl ?_
  obtain ⟨r4, σ5, h6, hf⟩ := bd_s hf
  refine V_callS (av := [.ref (ad 12), .int (r1 &&& (a ^^^ (-1 : Int32)))]) (st := []) (st1 := [.int r4]) (q := 21) C (conX6_sumOver_12 _ _ _ _ _ _ _ h6) q_1072 q_107 q_1070 q_1071 nmX6_sumOver (by decide) rfl rfl (Nat.le_of_ble_eq_true rfl) dX6_lossWithout_18 rfl rfl ?_
  obtain ⟨e1, e2⟩ := pr_s hf
  subst e1; subst e2
  exact V_iret C F (by decide) (by decide) dX6_lossWithout_21
def rmX6_floatBits : Room := { frames := 1, cells := 0, slots := 0, locals := 26 }
def fX6_floatBits (a : UInt32) (σ : Sg) : Option (Int32 × Sg) := gd (n64 (FP.f2d a)) (bd (fX6_bitsOf (FP.f2d a) (23 : Int32) (127 : Int32) σ) (fun (r2 : Int64) (σ3 : Sg) => some (r2.toInt32, σ3)))
set_option maxHeartbeats 4000000 in
theorem conX6_floatBits (l : Launch) (G : Gx) (ad : Nat → Nat) (a : UInt32) (σ : Sg) (r : Int32) (σf : Sg)  (hf : fX6_floatBits a σ = some (r, σf)) : Con wX l G ad yX6_floatBits (Cond.code yX6_floatBits cX6_floatBits 1 (some .int)) rmX6_floatBits 0 0 [.float a] σ (some (.int r)) σf := by
  refine Con.start (by decide) (Nat.le_of_ble_eq_true rfl) (fun X Q _ C F => ?_)
  refine V_eq (L' := [(0, .float a)]) (st' := []) rfl rfl rfl ?_
  unfold fX6_floatBits at hf
  refine V_fload_n (q := 1) C dX6_floatBits_0 rfl rfl 0 rfl ?_
  obtain ⟨g1, hf⟩ := gd_s hf
  refine V_f2d (q := 2) C dX6_floatBits_1 rfl (n64_s g1) ?_
  refine V_bipush (v := 23) (q := 4) C dX6_floatBits_2 rfl bc_23 ?_
  refine V_bipush (v := 127) (q := 6) C dX6_floatBits_4 rfl bc_127 ?_
  obtain ⟨r2, σ3, h4, hf⟩ := bd_s hf
  refine V_callS (av := [.double (FP.f2d a), .int (23 : Int32), .int (127 : Int32)]) (st := []) (st1 := [.long r2]) (q := 9) C (conX6_bitsOf _ _ _ _ _ _ _ _ _ h4) q_750 q_107 q_748 q_749 nmX6_bitsOf (by decide) rfl rfl (Nat.le_of_ble_eq_true rfl) dX6_floatBits_6 rfl rfl ?_
  refine V_l2i (q := 10) C dX6_floatBits_9 rfl ?_
  obtain ⟨e1, e2⟩ := pr_s hf
  subst e1; subst e2
  exact V_iret C F (by decide) (by decide) dX6_floatBits_10
def rmX6_efficiencyBits : Room := { frames := 35, cells := 1, slots := 6, locals := 989 }
def fX6_efficiencyBits  (σ : Sg) : Option ((String ⊕ Int32) × Sg) := bx (fX6_requireFinished  σ) (fun E σE => some (.inl E, σE)) (fun (_ : Unit) (σ2 : Sg) => bd (fX6_sumOver_12 (σ2 7 8) σ2) (fun (r7 : Int32) (σ8 : Sg) => if r7 = 0 then (bd (fX6_floatBits FP.fconst1 σ8) (fun (r21 : Int32) (σ22 : Sg) => some (.inr r21, σ22))) else (bd (fX1_bestSet  σ8) (fun (r11 : Int32) (σ12 : Sg) => bd (fX6_lossWithout r11 σ12) (fun (r14 : Int32) (σ15 : Sg) => gd (n32 (FP.fdiv (FP.i2f r14) (FP.i2f r7))) (bd (fX6_floatBits (FP.fdiv (FP.i2f r14) (FP.i2f r7)) σ15) (fun (r18 : Int32) (σ19 : Sg) => some (.inr r18, σ19))))))))
set_option maxHeartbeats 4000000 in
theorem conX6_efficiencyBits (l : Launch) (G : Gx) (ad : Nat → Nat)  (σ : Sg) (r : String ⊕ Int32) (σf : Sg) (hf : fX6_efficiencyBits  σ = some (r, σf)) : ConX wX l G ad yX6_efficiencyBits (Cond.code yX6_efficiencyBits cX6_efficiencyBits 2 (some .int)) rmX6_efficiencyBits 1 6 [.ref (ad 0)] σ (rI r) σf := by
  refine ConX.start (by decide) (Nat.le_of_ble_eq_true rfl) (fun X Q _ C Fr Fx => ?_)
  refine V_eq (L' := [(0, .ref (ad 0))]) (st' := []) rfl rfl rfl ?_
  unfold fX6_efficiencyBits at hf
  refine V_aload_n (q := 1) C dX6_efficiencyBits_0 rfl rfl 0 rfl ?_
  obtain ⟨z4, σ2, h3, hE, hA⟩ := bx_s hf
  refine V_callVX (av := []) (st := []) (q := 4) (mc := 1) (ms := 6) C 0 (by decide) (eX_0 G ad _) rfl rfl (conX6_requireFinished _ _ _  _ _ _ h3) q_1030 q_107 q_1027 q_1029 q_60 nmX6_requireFinished (by decide) rfl rfl (Nat.le_of_ble_eq_true rfl) dX6_efficiencyBits_1 rfl (by decide) (by decide) (fun E hz => by
    obtain rfl := rU_l hz
    obtain ⟨e1, e2⟩ := pr_s (hE _ rfl)
    subst e1; subst e2
    exact Fx _ rfl) (fun w5 h6 => ?_)
  obtain ⟨r1, rfl, rfl⟩ := rU_r h6
  replace hf := hA _ rfl
  refine V_eq (L' := [(0, .ref (ad 0))]) (st' := []) rfl rfl rfl ?_
  refine V_wide (k2 := 1) (n2 := 6) (by decide) (by decide) ?_
  refine V_aload_n (q := 5) C dX6_efficiencyBits_4 rfl rfl 0 rfl ?_
  refine GX_0_2 (q := 8) C q_355 dX6_efficiencyBits_5 rfl ?_
  refine GNX_3_1 (q := 11) C q_164 dX6_efficiencyBits_8 rfl ?_
  refine V_aload_n (q := 12) C dX6_efficiencyBits_11 rfl rfl 0 rfl ?_
  refine GX_0_6 (q := 15) C q_359 dX6_efficiencyBits_12 rfl ?_
  refine GNX_7_8 (q := 18) C q_327 dX6_efficiencyBits_15 rfl ?_
  obtain ⟨r7, σ8, h9, hf⟩ := bd_s hf
  refine V_callS (av := [.ref (ad 12), .int (σ2 7 8)]) (st := []) (st1 := [.int r7]) (q := 21) C (conX6_sumOver_12 _ _ _ _ _ _ _ h9) q_1072 q_107 q_1070 q_1071 nmX6_sumOver (by decide) rfl rfl (Nat.le_of_ble_eq_true rfl) dX6_efficiencyBits_18 rfl rfl ?_
  refine V_istore_n (L' := [(1, .int r7), (0, .ref (ad 0))]) (q := 22) C dX6_efficiencyBits_21 rfl rfl (by decide) rfl ?_
  refine V_iload_n (q := 23) C dX6_efficiencyBits_22 rfl rfl 0 rfl ?_
  refine V_if_ne (t := 31) (q := 26) C dX6_efficiencyBits_23 (by decide) rfl (fun c10 => ?_) (fun c10 => ?_)
  · replace hf := (ite_s hf).2 c10
    refine V_aload_n (q := 32) C dX6_efficiencyBits_31 rfl rfl 1 rfl ?_
    refine V_aload_n (q := 33) C dX6_efficiencyBits_32 rfl rfl 1 rfl ?_
    refine GX_0_0 (q := 36) C q_353 dX6_efficiencyBits_33 rfl ?_
    obtain ⟨r11, σ12, h13, hf⟩ := bd_s hf
    refine V_callVN (av := []) (st := [.ref (ad 0)]) (st1 := [.int r11, .ref (ad 0)]) (q := 39) C 1 (by decide) (eX_1 G ad _) rfl rfl (conX1_bestSet _ _ _  _ _ _ h13) q_1099 q_108 q_1096 q_1098 q_61 nmX1_bestSet (by decide) rfl rfl (Nat.le_of_ble_eq_true rfl) dX6_efficiencyBits_36 rfl rfl ?_
    obtain ⟨r14, σ15, h16, hf⟩ := bd_s hf
    refine V_callV (av := [.int r11]) (st := []) (st1 := [.int r14]) (q := 42) C 0 (by decide) (eX_0 G ad _) rfl rfl (conX6_lossWithout _ _ _ _ _ _ _ h16) q_1117 q_107 q_1114 q_1116 q_62 nmX6_lossWithout (by decide) rfl rfl (Nat.le_of_ble_eq_true rfl) dX6_efficiencyBits_39 rfl rfl ?_
    refine V_i2f (q := 43) C dX6_efficiencyBits_42 rfl ?_
    refine V_iload_n (q := 44) C dX6_efficiencyBits_43 rfl rfl 0 rfl ?_
    refine V_i2f (q := 45) C dX6_efficiencyBits_44 rfl ?_
    obtain ⟨g17, hf⟩ := gd_s hf
    refine V_fdiv (q := 46) C dX6_efficiencyBits_45 rfl (n32_s g17) ?_
    obtain ⟨r18, σ19, h20, hf⟩ := bd_s hf
    refine V_callS (av := [.float (FP.fdiv (FP.i2f r14) (FP.i2f r7))]) (st := []) (st1 := [.int r18]) (q := 49) C (conX6_floatBits _ _ _ _ _ _ _ h20) q_747 q_107 q_745 q_746 nmX6_floatBits (by decide) rfl rfl (Nat.le_of_ble_eq_true rfl) dX6_efficiencyBits_46 rfl rfl ?_
    obtain ⟨e1, e2⟩ := pr_s hf
    subst e1; subst e2
    exact V_iret C (Fr _ rfl) (by decide) (by decide) dX6_efficiencyBits_49
  · replace hf := (ite_s hf).1 c10
    refine V_fconst1 (q := 27) C dX6_efficiencyBits_26 rfl ?_
    obtain ⟨r21, σ22, h23, hf⟩ := bd_s hf
    refine V_callS (av := [.float FP.fconst1]) (st := []) (st1 := [.int r21]) (q := 30) C (conX6_floatBits _ _ _ _ _ _ _ h23) q_747 q_107 q_745 q_746 nmX6_floatBits (by decide) rfl rfl (Nat.le_of_ble_eq_true rfl) dX6_efficiencyBits_27 rfl rfl ?_
    obtain ⟨e1, e2⟩ := pr_s hf
    subst e1; subst e2
    exact V_iret C (Fr _ rfl) (by decide) (by decide) dX6_efficiencyBits_30
def rmX6_errorPosition : Room := { frames := 0, cells := 0, slots := 0, locals := 0 }
def fX6_errorPosition  (σ : Sg) : Option (Int32 × Sg) := some ((σ 0 11), σ)
set_option maxHeartbeats 4000000 in
theorem conX6_errorPosition (l : Launch) (G : Gx) (ad : Nat → Nat)  (σ : Sg) (r : Int32) (σf : Sg)  (hf : fX6_errorPosition  σ = some (r, σf)) : Con wX l G ad yX6_errorPosition (Cond.code yX6_errorPosition cX6_errorPosition 1 (some .int)) rmX6_errorPosition 0 0 [.ref (ad 0)] σ (some (.int r)) σf := by
  refine Con.start (by decide) (Nat.le_of_ble_eq_true rfl) (fun X Q _ C F => ?_)
  refine V_eq (L' := [(0, .ref (ad 0))]) (st' := []) rfl rfl rfl ?_
  unfold fX6_errorPosition at hf
  refine V_aload_n (q := 1) C dX6_errorPosition_0 rfl rfl 0 rfl ?_
  refine GX_0_11 (q := 4) C q_364 dX6_errorPosition_1 rfl ?_
  obtain ⟨e1, e2⟩ := pr_s hf
  subst e1; subst e2
  exact V_iret C F (by decide) (by decide) dX6_errorPosition_4
def rmX6_event : Room := { frames := 7, cells := 2, slots := 12, locals := 110 }
def fX6_event (a : Int32) (σ : Sg) : Option ((String ⊕ Int32) × Sg) := bx (fX6_requireAuction  σ) (fun E σE => some (.inl E, σE)) (fun (_ : Unit) (σ2 : Sg) => jp (fun (σ7 : Sg) => some (.inl "java/util/NoSuchElementException", σ7)) (fun (J19 : Sg → Option ((String ⊕ Int32) × Sg)) => if a < 0 then (J19  σ2) else (if a < (σ2 7 9) then (gd (inb a 12) (some (.inr (σ2 30 a.toNatClampNeg), σ2))) else (J19  σ2))))
set_option maxHeartbeats 4000000 in
theorem conX6_event (l : Launch) (G : Gx) (ad : Nat → Nat) (a : Int32) (σ : Sg) (r : String ⊕ Int32) (σf : Sg) (hf : fX6_event a σ = some (r, σf)) : ConX wX l G ad yX6_event (Cond.code yX6_event cX6_event 2 (some .int)) rmX6_event 2 12 [.ref (ad 0), .int a] σ (rI r) σf := by
  refine ConX.start (by decide) (Nat.le_of_ble_eq_true rfl) (fun X Q _ C Fr Fx => ?_)
  refine V_eq (L' := [(0, .ref (ad 0)), (1, .int a)]) (st' := []) rfl rfl rfl ?_
  unfold fX6_event at hf
  refine V_aload_n (q := 1) C dX6_event_0 rfl rfl 0 rfl ?_
  obtain ⟨z4, σ2, h3, hE, hA⟩ := bx_s hf
  refine V_callVX (av := []) (st := []) (q := 4) (mc := 2) (ms := 12) C 0 (by decide) (eX_0 G ad _) rfl rfl (conX6_requireAuction _ _ _  _ _ _ h3) q_989 q_107 q_986 q_988 q_56 nmX6_requireAuction (by decide) rfl rfl (Nat.le_of_ble_eq_true rfl) dX6_event_1 rfl (by decide) (by decide) (fun E hz => by
    obtain rfl := rU_l hz
    obtain ⟨e1, e2⟩ := pr_s (hE _ rfl)
    subst e1; subst e2
    exact Fx _ rfl) (fun w5 h6 => ?_)
  obtain ⟨r1, rfl, rfl⟩ := rU_r h6
  replace hf := hA _ rfl
  refine V_eq (L' := [(0, .ref (ad 0)), (1, .int a)]) (st' := []) rfl rfl rfl ?_
  refine V_wide (k2 := 1) (n2 := 6) (by decide) (by decide) ?_
  refine V_iload_n (q := 5) C dX6_event_4 rfl rfl 1 rfl ?_
  obtain ⟨J19, eJ19, hf⟩ := jp_s hf
  have hJ19 : ∀ (σ7 : Sg), J19 σ7 = some (r, σf) → V wX X G ad 2 Q 1 6 σ7 19 [] [] := by
    intro σ7 hf
    subst eJ19
    obtain ⟨e1, e2⟩ := pr_s hf
    subst e1; subst e2
    exact V_throwNW (text := "no such event") C rfl (Fx _ rfl) q_902 (by decide) dX6_event_19 dX6_event_22 dX6_event_23 dX6_event_26 dX6_event_29 (by decide) (Nat.le_of_ble_eq_true rfl) (by decide) (by decide) (by decide) (by decide)
  refine V_if_lt (t := 19) (q := 8) C dX6_event_5 (by decide) rfl (fun c8 => ?_) (fun c8 => ?_)
  · replace hf := (ite_s hf).1 c8
    refine V_sub (L' := []) [] rfl ?_
    exact hJ19 _ hf
  · replace hf := (ite_s hf).2 c8
    refine V_iload_n (q := 9) C dX6_event_8 rfl rfl 1 rfl ?_
    refine V_aload_n (q := 10) C dX6_event_9 rfl rfl 0 rfl ?_
    refine GX_0_6 (q := 13) C q_359 dX6_event_10 rfl ?_
    refine GNX_7_9 (q := 16) C q_329 dX6_event_13 rfl ?_
    refine V_icmp_lt (t := 30) (q := 19) C dX6_event_16 (by decide) rfl (fun c9 => ?_) (fun c9 => ?_)
    · replace hf := (ite_s hf).1 c9
      refine V_aload_n (q := 31) C dX6_event_30 rfl rfl 0 rfl ?_
      refine GX_0_6 (q := 34) C q_359 dX6_event_31 rfl ?_
      refine GNX_7_3 (q := 37) C q_317 dX6_event_34 rfl ?_
      refine V_iload_n (q := 38) C dX6_event_37 rfl rfl 1 rfl ?_
      obtain ⟨g10, hf⟩ := gd_s hf
      refine RX_30 (z := a.toNatClampNeg) (q := 39) C rfl (inb_in g10) dX6_event_38 rfl ?_
      obtain ⟨e1, e2⟩ := pr_s hf
      subst e1; subst e2
      exact V_iret C (Fr _ rfl) (by decide) (by decide) dX6_event_39
    · replace hf := (ite_s hf).2 c9
      refine V_sub (L' := []) [] rfl ?_
      exact hJ19 _ hf
def rmX6_frozenBy : Room := { frames := 20, cells := 3, slots := 18, locals := 591 }
def fX6_frozenBy (a : Int32) (σ : Sg) : Option ((String ⊕ Int32) × Sg) := bx (fX6_requireStation a σ) (fun E σE => some (.inl E, σE)) (fun (_ : Unit) (σ2 : Sg) => bx (fX6_requireAuction  σ2) (fun E σE => some (.inl E, σE)) (fun (_ : Unit) (σ8 : Sg) => jp (fun (σ13 : Sg) => some (.inl "java/util/NoSuchElementException", σ13)) (fun (J36 : Sg → Option ((String ⊕ Int32) × Sg)) => if (pX6_contains (σ8 7 8) a) = 0 then (J36  σ8) else (gd (inb a 12) (if (σ8 29 a.toNatClampNeg) = (-1 : Int32) then (J36  σ8) else (gd (inb a 12) (bd (fX4_smallestReason a (σ8 29 a.toNatClampNeg) σ8) (fun (r18 : Int32) (σ19 : Sg) => some (.inr r18, σ19)))))))))
set_option maxHeartbeats 4000000 in
theorem conX6_frozenBy (l : Launch) (G : Gx) (ad : Nat → Nat) (a : Int32) (σ : Sg) (r : String ⊕ Int32) (σf : Sg) (hf : fX6_frozenBy a σ = some (r, σf)) : ConX wX l G ad yX6_frozenBy (Cond.code yX6_frozenBy cX6_frozenBy 2 (some .int)) rmX6_frozenBy 3 18 [.ref (ad 0), .int a] σ (rI r) σf := by
  refine ConX.start (by decide) (Nat.le_of_ble_eq_true rfl) (fun X Q _ C Fr Fx => ?_)
  refine V_eq (L' := [(0, .ref (ad 0)), (1, .int a)]) (st' := []) rfl rfl rfl ?_
  unfold fX6_frozenBy at hf
  refine V_aload_n (q := 1) C dX6_frozenBy_0 rfl rfl 0 rfl ?_
  refine V_iload_n (q := 2) C dX6_frozenBy_1 rfl rfl 1 rfl ?_
  obtain ⟨z4, σ2, h3, hE, hA⟩ := bx_s hf
  refine V_callVX (av := [.int a]) (st := []) (q := 5) (mc := 3) (ms := 18) C 0 (by decide) (eX_0 G ad _) rfl rfl (conX6_requireStation _ _ _ _ _ _ _ h3) q_596 q_107 q_593 q_595 q_10 nmX6_requireStation (by decide) rfl rfl (Nat.le_of_ble_eq_true rfl) dX6_frozenBy_2 rfl (by decide) (by decide) (fun E hz => by
    obtain rfl := rU_l hz
    obtain ⟨e1, e2⟩ := pr_s (hE _ rfl)
    subst e1; subst e2
    exact Fx _ rfl) (fun w5 h6 => ?_)
  obtain ⟨r1, rfl, rfl⟩ := rU_r h6
  replace hf := hA _ rfl
  refine V_eq (L' := [(0, .ref (ad 0)), (1, .int a)]) (st' := []) rfl rfl rfl ?_
  refine V_wide (k2 := 1) (n2 := 6) (by decide) (by decide) ?_
  refine V_aload_n (q := 6) C dX6_frozenBy_5 rfl rfl 0 rfl ?_
  obtain ⟨z10, σ8, h9, hE, hA⟩ := bx_s hf
  refine V_callVX (av := []) (st := []) (q := 9) (mc := 3) (ms := 18) C 0 (by decide) (eX_0 G ad _) rfl rfl (conX6_requireAuction _ _ _  _ _ _ h9) q_989 q_107 q_986 q_988 q_56 nmX6_requireAuction (by decide) rfl rfl (Nat.le_of_ble_eq_true rfl) dX6_frozenBy_6 rfl (by decide) (by decide) (fun E hz => by
    obtain rfl := rU_l hz
    obtain ⟨e1, e2⟩ := pr_s (hE _ rfl)
    subst e1; subst e2
    exact Fx _ rfl) (fun w11 h12 => ?_)
  obtain ⟨r7, rfl, rfl⟩ := rU_r h12
  replace hf := hA _ rfl
  refine V_eq (L' := [(0, .ref (ad 0)), (1, .int a)]) (st' := []) rfl rfl rfl ?_
  refine V_wide (k2 := 2) (n2 := 12) (by decide) (by decide) ?_
  refine V_aload_n (q := 10) C dX6_frozenBy_9 rfl rfl 0 rfl ?_
  refine GX_0_6 (q := 13) C q_359 dX6_frozenBy_10 rfl ?_
  refine GNX_7_8 (q := 16) C q_327 dX6_frozenBy_13 rfl ?_
  refine V_iload_n (q := 17) C dX6_frozenBy_16 rfl rfl 1 rfl ?_
  refine V_callS (av := [.int (σ8 7 8), .int a]) (st := []) (st1 := [.int (pX6_contains (σ8 7 8) a)]) (q := 20) C (conX6_contains _ _ _ _ _ _ _ rfl) q_612 q_107 q_610 q_611 nmX6_contains (by decide) rfl rfl (Nat.le_of_ble_eq_true rfl) dX6_frozenBy_17 rfl rfl ?_
  obtain ⟨J36, eJ36, hf⟩ := jp_s hf
  have hJ36 : ∀ (σ13 : Sg), J36 σ13 = some (r, σf) → V wX X G ad 2 Q 2 12 σ13 36 [] [] := by
    intro σ13 hf
    subst eJ36
    obtain ⟨e1, e2⟩ := pr_s hf
    subst e1; subst e2
    exact V_throwNW (text := "no set froze the station") C rfl (Fx _ rfl) q_902 (by decide) dX6_frozenBy_36 dX6_frozenBy_39 dX6_frozenBy_40 dX6_frozenBy_43 dX6_frozenBy_46 (by decide) (Nat.le_of_ble_eq_true rfl) (by decide) (by decide) (by decide) (by decide)
  refine V_if_eq (t := 36) (q := 23) C dX6_frozenBy_20 (by decide) rfl (fun c14 => ?_) (fun c14 => ?_)
  · replace hf := (ite_s hf).1 c14
    refine V_sub (L' := []) [] rfl ?_
    exact hJ36 _ hf
  · replace hf := (ite_s hf).2 c14
    refine V_aload_n (q := 24) C dX6_frozenBy_23 rfl rfl 0 rfl ?_
    refine GX_0_6 (q := 27) C q_359 dX6_frozenBy_24 rfl ?_
    refine GNX_7_2 (q := 30) C q_315 dX6_frozenBy_27 rfl ?_
    refine V_iload_n (q := 31) C dX6_frozenBy_30 rfl rfl 1 rfl ?_
    obtain ⟨g15, hf⟩ := gd_s hf
    refine RX_29 (z := a.toNatClampNeg) (q := 32) C rfl (inb_in g15) dX6_frozenBy_31 rfl ?_
    refine V_iconst (v := (-1)) (q := 33) C dX6_frozenBy_32 rfl ic_m1 ?_
    refine V_icmp_ne (t := 47) (q := 36) C dX6_frozenBy_33 (by decide) rfl (fun c16 => ?_) (fun c16 => ?_)
    · replace hf := (ite_s hf).2 c16
      refine V_aload_n (q := 48) C dX6_frozenBy_47 rfl rfl 0 rfl ?_
      refine GX_0_1 (q := 51) C q_354 dX6_frozenBy_48 rfl ?_
      refine V_iload_n (q := 52) C dX6_frozenBy_51 rfl rfl 1 rfl ?_
      refine V_aload_n (q := 53) C dX6_frozenBy_52 rfl rfl 0 rfl ?_
      refine GX_0_6 (q := 56) C q_359 dX6_frozenBy_53 rfl ?_
      refine GNX_7_2 (q := 59) C q_315 dX6_frozenBy_56 rfl ?_
      refine V_iload_n (q := 60) C dX6_frozenBy_59 rfl rfl 1 rfl ?_
      obtain ⟨g17, hf⟩ := gd_s hf
      refine RX_29 (z := a.toNatClampNeg) (q := 61) C rfl (inb_in g17) dX6_frozenBy_60 rfl ?_
      obtain ⟨r18, σ19, h20, hf⟩ := bd_s hf
      refine V_callVN (av := [.int a, .int (σ8 29 a.toNatClampNeg)]) (st := []) (st1 := [.int r18]) (q := 64) C 2 (by decide) (eX_2 G ad _) rfl rfl (conX4_smallestReason _ _ _ _ _ _ _ _ h20) q_921 q_109 q_918 q_920 q_44 nmX4_smallestReason (by decide) rfl rfl (Nat.le_of_ble_eq_true rfl) dX6_frozenBy_61 rfl rfl ?_
      obtain ⟨e1, e2⟩ := pr_s hf
      subst e1; subst e2
      exact V_iret C (Fr _ rfl) (by decide) (by decide) dX6_frozenBy_64
    · replace hf := (ite_s hf).1 c16
      refine V_sub (L' := []) [] rfl ?_
      exact hJ36 _ hf
