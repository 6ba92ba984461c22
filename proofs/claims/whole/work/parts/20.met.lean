def rmX6_requireChannels : Room := { frames := 6, cells := 1, slots := 6, locals := 90 }
def fX6_requireChannels (a : Int32) (σ : Sg) : Option ((String ⊕ Unit) × Sg) := if (a &&& (-256 : Int32)) = 0 then (some (.inr (), σ)) else (some (.inl "java/lang/IllegalArgumentException", σ))
set_option maxHeartbeats 4000000 in
theorem conX6_requireChannels (l : Launch) (G : Gx) (ad : Nat → Nat) (a : Int32) (σ : Sg) (r : String ⊕ Unit) (σf : Sg) (hf : fX6_requireChannels a σ = some (r, σf)) : ConX wX l G ad yX6_requireChannels (Cond.code yX6_requireChannels cX6_requireChannels 2 none) rmX6_requireChannels 1 6 [.ref (ad 0), .int a] σ (rU r) σf := by
  refine ConX.start (by decide) (Nat.le_of_ble_eq_true rfl) (fun X Q _ C Fr Fx => ?_)
  refine V_eq (L' := [(0, .ref (ad 0)), (1, .int a)]) (st' := []) rfl rfl rfl ?_
  unfold fX6_requireChannels at hf
  refine V_iload_n (q := 1) C dX6_requireChannels_0 rfl rfl 1 rfl ?_
  refine V_sipush (v := (-256)) (q := 4) C dX6_requireChannels_1 rfl sc_m256 ?_
  refine V_iand (q := 5) C dX6_requireChannels_4 rfl ?_
  refine V_if_eq (t := 19) (q := 8) C dX6_requireChannels_5 (by decide) rfl (fun c1 => ?_) (fun c1 => ?_)
  · replace hf := (ite_s hf).1 c1
    obtain ⟨e1, e2⟩ := pr_s hf
    subst e1; subst e2
    exact V_vret C (Fr _ rfl) (by decide) (by decide) dX6_requireChannels_19
  · replace hf := (ite_s hf).2 c1
    obtain ⟨e1, e2⟩ := pr_s hf
    subst e1; subst e2
    exact V_throwSW (text := "a bit is set for no channel") C rfl (Fx _ rfl) rfl q_424 q_118 (by decide) xa_87 xg_87 dX6_requireChannels_8 dX6_requireChannels_11 dX6_requireChannels_12 dX6_requireChannels_15 dX6_requireChannels_18 (by decide) (Nat.le_of_ble_eq_true rfl) (by decide) (by decide) (by decide) (by decide)
def rmX6_requireValue : Room := { frames := 6, cells := 1, slots := 6, locals := 90 }
def fX6_requireValue (a : Int32) (σ : Sg) : Option ((String ⊕ Unit) × Sg) := jp (fun (σ1 : Sg) => some (.inl "java/lang/IllegalArgumentException", σ1)) (fun (J11 : Sg → Option ((String ⊕ Unit) × Sg)) => if a < 0 then (J11  σ) else (if a ≤ (9999 : Int32) then (some (.inr (), σ)) else (J11  σ)))
set_option maxHeartbeats 4000000 in
theorem conX6_requireValue (l : Launch) (G : Gx) (ad : Nat → Nat) (a : Int32) (σ : Sg) (r : String ⊕ Unit) (σf : Sg) (hf : fX6_requireValue a σ = some (r, σf)) : ConX wX l G ad yX6_requireValue (Cond.code yX6_requireValue cX6_requireValue 2 none) rmX6_requireValue 1 6 [.ref (ad 0), .int a] σ (rU r) σf := by
  refine ConX.start (by decide) (Nat.le_of_ble_eq_true rfl) (fun X Q _ C Fr Fx => ?_)
  refine V_eq (L' := [(0, .ref (ad 0)), (1, .int a)]) (st' := []) rfl rfl rfl ?_
  unfold fX6_requireValue at hf
  refine V_iload_n (q := 1) C dX6_requireValue_0 rfl rfl 1 rfl ?_
  obtain ⟨J11, eJ11, hf⟩ := jp_s hf
  have hJ11 : ∀ (σ1 : Sg), J11 σ1 = some (r, σf) → V wX X G ad 2 Q 0 0 σ1 11 [] [] := by
    intro σ1 hf
    subst eJ11
    obtain ⟨e1, e2⟩ := pr_s hf
    subst e1; subst e2
    exact V_throwSW (text := "value out of range") C rfl (Fx _ rfl) rfl q_424 q_118 (by decide) xa_87 xg_87 dX6_requireValue_11 dX6_requireValue_14 dX6_requireValue_15 dX6_requireValue_18 dX6_requireValue_21 (by decide) (Nat.le_of_ble_eq_true rfl) (by decide) (by decide) (by decide) (by decide)
  refine V_if_lt (t := 11) (q := 4) C dX6_requireValue_1 (by decide) rfl (fun c2 => ?_) (fun c2 => ?_)
  · replace hf := (ite_s hf).1 c2
    refine V_sub (L' := []) [] rfl ?_
    exact hJ11 _ hf
  · replace hf := (ite_s hf).2 c2
    refine V_iload_n (q := 5) C dX6_requireValue_4 rfl rfl 1 rfl ?_
    refine V_sipush (v := 9999) (q := 8) C dX6_requireValue_5 rfl sc_9999 ?_
    refine V_icmp_le (t := 22) (q := 11) C dX6_requireValue_8 (by decide) rfl (fun c3 => ?_) (fun c3 => ?_)
    · replace hf := (ite_s hf).1 c3
      obtain ⟨e1, e2⟩ := pr_s hf
      subst e1; subst e2
      exact V_vret C (Fr _ rfl) (by decide) (by decide) dX6_requireValue_22
    · replace hf := (ite_s hf).2 c3
      refine V_sub (L' := []) [] rfl ?_
      exact hJ11 _ hf
def rmX6_requireNoAuction : Room := { frames := 6, cells := 1, slots := 6, locals := 90 }
def fX6_requireNoAuction  (σ : Sg) : Option ((String ⊕ Unit) × Sg) := if (σ 7 4) = 0 then (some (.inr (), σ)) else (some (.inl "java/lang/UnsupportedOperationException", σ))
set_option maxHeartbeats 4000000 in
theorem conX6_requireNoAuction (l : Launch) (G : Gx) (ad : Nat → Nat)  (σ : Sg) (r : String ⊕ Unit) (σf : Sg) (hf : fX6_requireNoAuction  σ = some (r, σf)) : ConX wX l G ad yX6_requireNoAuction (Cond.code yX6_requireNoAuction cX6_requireNoAuction 1 none) rmX6_requireNoAuction 1 6 [.ref (ad 0)] σ (rU r) σf := by
  refine ConX.start (by decide) (Nat.le_of_ble_eq_true rfl) (fun X Q _ C Fr Fx => ?_)
  refine V_eq (L' := [(0, .ref (ad 0))]) (st' := []) rfl rfl rfl ?_
  unfold fX6_requireNoAuction at hf
  refine V_aload_n (q := 1) C dX6_requireNoAuction_0 rfl rfl 0 rfl ?_
  refine GX_0_6 (q := 4) C q_359 dX6_requireNoAuction_1 rfl ?_
  refine GNX_7_4 (q := 7) C q_319 dX6_requireNoAuction_4 rfl ?_
  refine V_if_eq (t := 21) (q := 10) C dX6_requireNoAuction_7 (by decide) rfl (fun c1 => ?_) (fun c1 => ?_)
  · replace hf := (ite_s hf).1 c1
    obtain ⟨e1, e2⟩ := pr_s hf
    subst e1; subst e2
    exact V_vret C (Fr _ rfl) (by decide) (by decide) dX6_requireNoAuction_21
  · replace hf := (ite_s hf).2 c1
    obtain ⟨e1, e2⟩ := pr_s hf
    subst e1; subst e2
    exact V_throwSW (text := "an auction is known") C rfl (Fx _ rfl) rfl q_506 q_119 (by decide) xa_377 xg_377 dX6_requireNoAuction_10 dX6_requireNoAuction_13 dX6_requireNoAuction_14 dX6_requireNoAuction_17 dX6_requireNoAuction_20 (by decide) (Nat.le_of_ble_eq_true rfl) (by decide) (by decide) (by decide) (by decide)
def rmX3_enter : Room := { frames := 0, cells := 0, slots := 0, locals := 0 }
def fX3_enter (a : Int32) (b : Int32) (c : Int32) (σ : Sg) : Option (Unit × Sg) := if (σ 3 6) < (12 : Int32) then (gd (inb (σ 3 6) 12) (lt' (sup σ 11 ((σ 3 6).toNatClampNeg) a) (fun (σ3 : Sg) => gd (inb (σ3 3 6) 12) (lt' (sup σ3 12 ((σ3 3 6).toNatClampNeg) b) (fun (σ5 : Sg) => gd (inb (σ5 3 6) 12) (lt' (sup σ5 13 ((σ5 3 6).toNatClampNeg) c) (fun (σ7 : Sg) => gd (inb (σ7 3 6) 12) (lt' (sup σ7 14 ((σ7 3 6).toNatClampNeg) (-1 : Int32)) (fun (σ9 : Sg) => lt' (sup σ9 3 7 ((σ9 3 7) ||| ((1 : Int32) <<< ((σ9 3 6) &&& 31)))) (fun (σ10 : Sg) => lt' (sup σ10 3 6 ((σ10 3 6) + (1 : Int32))) (fun (σ11 : Sg) => some ((), σ11)))))))))))) else (some ((), σ))
set_option maxHeartbeats 4000000 in
theorem conX3_enter (l : Launch) (G : Gx) (ad : Nat → Nat) (a : Int32) (b : Int32) (c : Int32) (σ : Sg) (σf : Sg)  (hf : fX3_enter a b c σ = some ((), σf)) : Con wX l G ad yX3_enter (Cond.code yX3_enter cX3_enter 4 none) rmX3_enter 0 0 [.ref (ad 3), .int a, .int b, .int c] σ none σf := by
  refine Con.start (by decide) (Nat.le_of_ble_eq_true rfl) (fun X Q _ C F => ?_)
  refine V_eq (L' := [(0, .ref (ad 3)), (1, .int a), (2, .int b), (3, .int c)]) (st' := []) rfl rfl rfl ?_
  unfold fX3_enter at hf
  refine V_aload_n (q := 1) C dX3_enter_0 rfl rfl 0 rfl ?_
  refine GX_3_6 (q := 4) C q_178 dX3_enter_1 rfl ?_
  refine V_bipush (v := 12) (q := 6) C dX3_enter_4 rfl bc_12 ?_
  refine V_icmp_lt (t := 10) (q := 9) C dX3_enter_6 (by decide) rfl (fun c1 => ?_) (fun c1 => ?_)
  · replace hf := (ite_s hf).1 c1
    refine V_aload_n (q := 11) C dX3_enter_10 rfl rfl 0 rfl ?_
    refine GX_3_0 (q := 14) C q_159 dX3_enter_11 rfl ?_
    refine V_aload_n (q := 15) C dX3_enter_14 rfl rfl 0 rfl ?_
    refine GX_3_6 (q := 18) C q_178 dX3_enter_15 rfl ?_
    refine V_iload_n (q := 19) C dX3_enter_18 rfl rfl 1 rfl ?_
    obtain ⟨g2, hf⟩ := gd_s hf
    refine SX_11 (z := (σ 3 6).toNatClampNeg) (q := 20) C rfl (inb_in g2) dX3_enter_19 rfl ?_
    refine V_lets hf (fun σ3 hf => ?_)
    refine V_aload_n (q := 21) C dX3_enter_20 rfl rfl 0 rfl ?_
    refine GX_3_1 (q := 24) C q_162 dX3_enter_21 rfl ?_
    refine V_aload_n (q := 25) C dX3_enter_24 rfl rfl 0 rfl ?_
    refine GX_3_6 (q := 28) C q_178 dX3_enter_25 rfl ?_
    refine V_iload_n (q := 29) C dX3_enter_28 rfl rfl 2 rfl ?_
    obtain ⟨g4, hf⟩ := gd_s hf
    refine SX_12 (z := (σ3 3 6).toNatClampNeg) (q := 30) C rfl (inb_in g4) dX3_enter_29 rfl ?_
    refine V_lets hf (fun σ5 hf => ?_)
    refine V_aload_n (q := 31) C dX3_enter_30 rfl rfl 0 rfl ?_
    refine GX_3_2 (q := 34) C q_165 dX3_enter_31 rfl ?_
    refine V_aload_n (q := 35) C dX3_enter_34 rfl rfl 0 rfl ?_
    refine GX_3_6 (q := 38) C q_178 dX3_enter_35 rfl ?_
    refine V_iload_n (q := 39) C dX3_enter_38 rfl rfl 3 rfl ?_
    obtain ⟨g6, hf⟩ := gd_s hf
    refine SX_13 (z := (σ5 3 6).toNatClampNeg) (q := 40) C rfl (inb_in g6) dX3_enter_39 rfl ?_
    refine V_lets hf (fun σ7 hf => ?_)
    refine V_aload_n (q := 41) C dX3_enter_40 rfl rfl 0 rfl ?_
    refine GX_3_3 (q := 44) C q_167 dX3_enter_41 rfl ?_
    refine V_aload_n (q := 45) C dX3_enter_44 rfl rfl 0 rfl ?_
    refine GX_3_6 (q := 48) C q_178 dX3_enter_45 rfl ?_
    refine V_iconst (v := (-1)) (q := 49) C dX3_enter_48 rfl ic_m1 ?_
    obtain ⟨g8, hf⟩ := gd_s hf
    refine SX_14 (z := (σ7 3 6).toNatClampNeg) (q := 50) C rfl (inb_in g8) dX3_enter_49 rfl ?_
    refine V_lets hf (fun σ9 hf => ?_)
    refine V_aload_n (q := 51) C dX3_enter_50 rfl rfl 0 rfl ?_
    refine V_dup (q := 52) C dX3_enter_51 rfl rfl ?_
    refine GX_3_7 (q := 55) C q_183 dX3_enter_52 rfl ?_
    refine V_iconst (v := 1) (q := 56) C dX3_enter_55 rfl ic_1 ?_
    refine V_aload_n (q := 57) C dX3_enter_56 rfl rfl 0 rfl ?_
    refine GX_3_6 (q := 60) C q_178 dX3_enter_57 rfl ?_
    refine V_ishl (q := 61) C dX3_enter_60 rfl ?_
    refine V_ior (q := 62) C dX3_enter_61 rfl ?_
    refine PX_3_7 (q := 65) C q_183 dX3_enter_62 rfl ?_
    refine V_lets hf (fun σ10 hf => ?_)
    refine V_aload_n (q := 66) C dX3_enter_65 rfl rfl 0 rfl ?_
    refine V_dup (q := 67) C dX3_enter_66 rfl rfl ?_
    refine GX_3_6 (q := 70) C q_178 dX3_enter_67 rfl ?_
    refine V_iconst (v := 1) (q := 71) C dX3_enter_70 rfl ic_1 ?_
    refine V_iadd (q := 72) C dX3_enter_71 rfl ?_
    refine PX_3_6 (q := 75) C q_178 dX3_enter_72 rfl ?_
    refine V_lets hf (fun σ11 hf => ?_)
    obtain ⟨-, e2⟩ := pr_s hf
    subst e2
    exact V_vret C F (by decide) (by decide) dX3_enter_75
  · replace hf := (ite_s hf).2 c1
    obtain ⟨-, e2⟩ := pr_s hf
    subst e2
    exact V_vret C F (by decide) (by decide) dX3_enter_9
def rmX4_forget : Room := { frames := 0, cells := 0, slots := 0, locals := 0 }
def fX4_forget  (σ : Sg) : Option (Unit × Sg) := lt' (sup σ 2 8 ((σ 2 8) + (1 : Int32))) (fun (σ1 : Sg) => some ((), σ1))
set_option maxHeartbeats 4000000 in
theorem conX4_forget (l : Launch) (G : Gx) (ad : Nat → Nat)  (σ : Sg) (σf : Sg)  (hf : fX4_forget  σ = some ((), σf)) : Con wX l G ad yX4_forget (Cond.code yX4_forget cX4_forget 1 none) rmX4_forget 0 0 [.ref (ad 2)] σ none σf := by
  refine Con.start (by decide) (Nat.le_of_ble_eq_true rfl) (fun X Q _ C F => ?_)
  refine V_eq (L' := [(0, .ref (ad 2))]) (st' := []) rfl rfl rfl ?_
  unfold fX4_forget at hf
  refine V_aload_n (q := 1) C dX4_forget_0 rfl rfl 0 rfl ?_
  refine V_dup (q := 2) C dX4_forget_1 rfl rfl ?_
  refine GX_2_8 (q := 5) C q_222 dX4_forget_2 rfl ?_
  refine V_iconst (v := 1) (q := 6) C dX4_forget_5 rfl ic_1 ?_
  refine V_iadd (q := 7) C dX4_forget_6 rfl ?_
  refine PX_2_8 (q := 10) C q_222 dX4_forget_7 rfl ?_
  refine V_lets hf (fun σ1 hf => ?_)
  obtain ⟨-, e2⟩ := pr_s hf
  subst e2
  exact V_vret C F (by decide) (by decide) dX4_forget_10
def rmX6_addStation : Room := { frames := 7, cells := 4, slots := 24, locals := 111 }
def fX6_addStation (a : Int32) (b : Int32) (c : Int32) (σ : Sg) : Option ((String ⊕ Int32) × Sg) := bx (fX6_requireChannels a σ) (fun E σE => some (.inl E, σE)) (fun (_ : Unit) (σ2 : Sg) => bx (fX6_requireValue b σ2) (fun E σE => some (.inl E, σE)) (fun (_ : Unit) (σ8 : Sg) => jp (fun (σ13 : Sg) => some (.inl "java/lang/IllegalArgumentException", σ13)) (fun (J21 : Sg → Option ((String ⊕ Int32) × Sg)) => if c < (1 : Int32) then (J21  σ8) else (if c ≤ (99 : Int32) then (bx (fX6_requireNoAuction  σ8) (fun E σE => some (.inl E, σE)) (fun (_ : Unit) (σ17 : Sg) => if (σ17 3 6) < (12 : Int32) then (bd (fX3_enter a b c σ17) (fun (_ : Unit) (σ23 : Sg) => bd (fX4_forget  σ23) (fun (_ : Unit) (σ25 : Sg) => some (.inr ((σ25 3 6) - (1 : Int32)), σ25)))) else (some (.inl "java/lang/IllegalStateException", σ17)))) else (J21  σ8)))))
set_option maxHeartbeats 4000000 in
theorem conX6_addStation (l : Launch) (G : Gx) (ad : Nat → Nat) (a : Int32) (b : Int32) (c : Int32) (σ : Sg) (r : String ⊕ Int32) (σf : Sg) (hf : fX6_addStation a b c σ = some (r, σf)) : ConX wX l G ad yX6_addStation (Cond.code yX6_addStation cX6_addStation 4 (some .int)) rmX6_addStation 4 24 [.ref (ad 0), .int a, .int b, .int c] σ (rI r) σf := by
  refine ConX.start (by decide) (Nat.le_of_ble_eq_true rfl) (fun X Q _ C Fr Fx => ?_)
  refine V_eq (L' := [(0, .ref (ad 0)), (1, .int a), (2, .int b), (3, .int c)]) (st' := []) rfl rfl rfl ?_
  unfold fX6_addStation at hf
  refine V_aload_n (q := 1) C dX6_addStation_0 rfl rfl 0 rfl ?_
  refine V_iload_n (q := 2) C dX6_addStation_1 rfl rfl 1 rfl ?_
  obtain ⟨z4, σ2, h3, hE, hA⟩ := bx_s hf
  refine V_callVX (av := [.int a]) (st := []) (q := 5) (mc := 4) (ms := 24) C 0 (by decide) (eX_0 G ad _) rfl rfl (conX6_requireChannels _ _ _ _ _ _ _ h3) q_423 q_107 q_420 q_422 q_2 nmX6_requireChannels (by decide) rfl rfl (Nat.le_of_ble_eq_true rfl) dX6_addStation_2 rfl (by decide) (by decide) (fun E hz => by
    obtain rfl := rU_l hz
    obtain ⟨e1, e2⟩ := pr_s (hE _ rfl)
    subst e1; subst e2
    exact Fx _ rfl) (fun w5 h6 => ?_)
  obtain ⟨r1, rfl, rfl⟩ := rU_r h6
  replace hf := hA _ rfl
  refine V_eq (L' := [(0, .ref (ad 0)), (1, .int a), (2, .int b), (3, .int c)]) (st' := []) rfl rfl rfl ?_
  refine V_wide (k2 := 1) (n2 := 6) (by decide) (by decide) ?_
  refine V_aload_n (q := 6) C dX6_addStation_5 rfl rfl 0 rfl ?_
  refine V_iload_n (q := 7) C dX6_addStation_6 rfl rfl 2 rfl ?_
  obtain ⟨z10, σ8, h9, hE, hA⟩ := bx_s hf
  refine V_callVX (av := [.int b]) (st := []) (q := 10) (mc := 4) (ms := 24) C 0 (by decide) (eX_0 G ad _) rfl rfl (conX6_requireValue _ _ _ _ _ _ _ h9) q_499 q_107 q_496 q_498 q_4 nmX6_requireValue (by decide) rfl rfl (Nat.le_of_ble_eq_true rfl) dX6_addStation_7 rfl (by decide) (by decide) (fun E hz => by
    obtain rfl := rU_l hz
    obtain ⟨e1, e2⟩ := pr_s (hE _ rfl)
    subst e1; subst e2
    exact Fx _ rfl) (fun w11 h12 => ?_)
  obtain ⟨r7, rfl, rfl⟩ := rU_r h12
  replace hf := hA _ rfl
  refine V_eq (L' := [(0, .ref (ad 0)), (1, .int a), (2, .int b), (3, .int c)]) (st' := []) rfl rfl rfl ?_
  refine V_wide (k2 := 2) (n2 := 12) (by decide) (by decide) ?_
  refine V_iload_n (q := 11) C dX6_addStation_10 rfl rfl 3 rfl ?_
  refine V_iconst (v := 1) (q := 12) C dX6_addStation_11 rfl ic_1 ?_
  obtain ⟨J21, eJ21, hf⟩ := jp_s hf
  have hJ21 : ∀ (σ13 : Sg), J21 σ13 = some (r, σf) → V wX X G ad 4 Q 2 12 σ13 21 [] [] := by
    intro σ13 hf
    subst eJ21
    obtain ⟨e1, e2⟩ := pr_s hf
    subst e1; subst e2
    exact V_throwS (text := "weight out of range") C rfl (Fx _ rfl) rfl q_424 q_118 (by decide) xa_87 xg_87 dX6_addStation_21 dX6_addStation_24 dX6_addStation_25 dX6_addStation_27 dX6_addStation_30 (by decide) (Nat.le_of_ble_eq_true rfl) (by decide) (by decide) (by decide) (by decide)
  refine V_icmp_lt (t := 21) (q := 15) C dX6_addStation_12 (by decide) rfl (fun c14 => ?_) (fun c14 => ?_)
  · replace hf := (ite_s hf).1 c14
    refine V_sub (L' := []) [] rfl ?_
    exact hJ21 _ hf
  · replace hf := (ite_s hf).2 c14
    refine V_iload_n (q := 16) C dX6_addStation_15 rfl rfl 3 rfl ?_
    refine V_bipush (v := 99) (q := 18) C dX6_addStation_16 rfl bc_99 ?_
    refine V_icmp_le (t := 31) (q := 21) C dX6_addStation_18 (by decide) rfl (fun c15 => ?_) (fun c15 => ?_)
    · replace hf := (ite_s hf).1 c15
      refine V_aload_n (q := 32) C dX6_addStation_31 rfl rfl 0 rfl ?_
      obtain ⟨z19, σ17, h18, hE, hA⟩ := bx_s hf
      refine V_callVX (av := []) (st := []) (q := 35) (mc := 4) (ms := 24) C 0 (by decide) (eX_0 G ad _) rfl rfl (conX6_requireNoAuction _ _ _  _ _ _ h18) q_505 q_107 q_502 q_504 q_5 nmX6_requireNoAuction (by decide) rfl rfl (Nat.le_of_ble_eq_true rfl) dX6_addStation_32 rfl (by decide) (by decide) (fun E hz => by
        obtain rfl := rU_l hz
        obtain ⟨e1, e2⟩ := pr_s (hE _ rfl)
        subst e1; subst e2
        exact Fx _ rfl) (fun w20 h21 => ?_)
      obtain ⟨r16, rfl, rfl⟩ := rU_r h21
      replace hf := hA _ rfl
      refine V_eq (L' := [(0, .ref (ad 0)), (1, .int a), (2, .int b), (3, .int c)]) (st' := []) rfl rfl rfl ?_
      refine V_wide (k2 := 3) (n2 := 18) (by decide) (by decide) ?_
      refine V_aload_n (q := 36) C dX6_addStation_35 rfl rfl 0 rfl ?_
      refine GX_0_2 (q := 39) C q_355 dX6_addStation_36 rfl ?_
      refine GNX_3_6 (q := 42) C q_181 dX6_addStation_39 rfl ?_
      refine V_bipush (v := 12) (q := 44) C dX6_addStation_42 rfl bc_12 ?_
      refine V_icmp_lt (t := 57) (q := 47) C dX6_addStation_44 (by decide) rfl (fun c22 => ?_) (fun c22 => ?_)
      · replace hf := (ite_s hf).1 c22
        refine V_aload_n (q := 58) C dX6_addStation_57 rfl rfl 0 rfl ?_
        refine GX_0_2 (q := 61) C q_355 dX6_addStation_58 rfl ?_
        refine V_iload_n (q := 62) C dX6_addStation_61 rfl rfl 1 rfl ?_
        refine V_iload_n (q := 63) C dX6_addStation_62 rfl rfl 2 rfl ?_
        refine V_iload_n (q := 64) C dX6_addStation_63 rfl rfl 3 rfl ?_
        obtain ⟨_u, σ23, h24, hf⟩ := bd_s hf
        refine V_callVN (av := [.int a, .int b, .int c]) (st := []) (st1 := []) (q := 67) C 3 (by decide) (eX_3 G ad _) rfl rfl (conX3_enter _ _ _ _ _ _ _ _ h24) q_541 q_110 q_538 q_540 q_6 nmX3_enter (by decide) rfl rfl (Nat.le_of_ble_eq_true rfl) dX6_addStation_64 rfl rfl ?_
        refine V_aload_n (q := 68) C dX6_addStation_67 rfl rfl 0 rfl ?_
        refine GX_0_1 (q := 71) C q_354 dX6_addStation_68 rfl ?_
        obtain ⟨_u, σ25, h26, hf⟩ := bd_s hf
        refine V_callVN (av := []) (st := []) (st1 := []) (q := 74) C 2 (by decide) (eX_2 G ad _) rfl rfl (conX4_forget _ _ _  _ _ h26) q_545 q_109 q_542 q_544 q_7 nmX4_forget (by decide) rfl rfl (Nat.le_of_ble_eq_true rfl) dX6_addStation_71 rfl rfl ?_
        refine V_aload_n (q := 75) C dX6_addStation_74 rfl rfl 0 rfl ?_
        refine GX_0_2 (q := 78) C q_355 dX6_addStation_75 rfl ?_
        refine GNX_3_6 (q := 81) C q_181 dX6_addStation_78 rfl ?_
        refine V_iconst (v := 1) (q := 82) C dX6_addStation_81 rfl ic_1 ?_
        refine V_isub (q := 83) C dX6_addStation_82 rfl ?_
        obtain ⟨e1, e2⟩ := pr_s hf
        subst e1; subst e2
        exact V_iret C (Fr _ rfl) (by decide) (by decide) dX6_addStation_83
      · replace hf := (ite_s hf).2 c22
        obtain ⟨e1, e2⟩ := pr_s hf
        subst e1; subst e2
        exact V_throwS (text := "too many stations") C rfl (Fx _ rfl) rfl q_522 q_120 (by decide) xa_100 xg_100 dX6_addStation_47 dX6_addStation_50 dX6_addStation_51 dX6_addStation_53 dX6_addStation_56 (by decide) (Nat.le_of_ble_eq_true rfl) (by decide) (by decide) (by decide) (by decide)
    · replace hf := (ite_s hf).2 c15
      refine V_sub (L' := []) [] rfl ?_
      exact hJ21 _ hf
def rmX5_put : Room := { frames := 0, cells := 0, slots := 0, locals := 0 }
def fX5_put (a : Int32) (σ : Sg) : Option (Unit × Sg) := if (420 : Int32) ≤ (σ 5 1) then (some ((), σ)) else (gd (inb (σ 5 1) 420) (lt' (sup σ 25 ((σ 5 1).toNatClampNeg) (vp_nar .char a)) (fun (σ3 : Sg) => lt' (sup σ3 5 1 ((σ3 5 1) + (1 : Int32))) (fun (σ4 : Sg) => some ((), σ4)))))
set_option maxHeartbeats 4000000 in
theorem conX5_put (l : Launch) (G : Gx) (ad : Nat → Nat) (a : Int32) (σ : Sg) (σf : Sg)  (hf : fX5_put a σ = some ((), σf)) : Con wX l G ad yX5_put (Cond.code yX5_put cX5_put 2 none) rmX5_put 0 0 [.ref (ad 5), .int a] σ none σf := by
  refine Con.start (by decide) (Nat.le_of_ble_eq_true rfl) (fun X Q _ C F => ?_)
  refine V_eq (L' := [(0, .ref (ad 5)), (1, .int a)]) (st' := []) rfl rfl rfl ?_
  unfold fX5_put at hf
  refine V_aload_n (q := 1) C dX5_put_0 rfl rfl 0 rfl ?_
  refine GX_5_1 (q := 4) C q_269 dX5_put_1 rfl ?_
  refine V_aload_n (q := 5) C dX5_put_4 rfl rfl 0 rfl ?_
  refine GX_5_0 (q := 8) C q_268 dX5_put_5 rfl ?_
  refine LX_25 (q := 9) C dX5_put_8 rfl ?_
  refine V_icmp_ge (t := 32) (q := 12) C dX5_put_9 (by decide) rfl (fun c1 => ?_) (fun c1 => ?_)
  · replace hf := (ite_s hf).1 c1
    obtain ⟨-, e2⟩ := pr_s hf
    subst e2
    exact V_vret C F (by decide) (by decide) dX5_put_32
  · replace hf := (ite_s hf).2 c1
    refine V_aload_n (q := 13) C dX5_put_12 rfl rfl 0 rfl ?_
    refine GX_5_0 (q := 16) C q_268 dX5_put_13 rfl ?_
    refine V_aload_n (q := 17) C dX5_put_16 rfl rfl 0 rfl ?_
    refine GX_5_1 (q := 20) C q_269 dX5_put_17 rfl ?_
    refine V_iload_n (q := 21) C dX5_put_20 rfl rfl 1 rfl ?_
    obtain ⟨g2, hf⟩ := gd_s hf
    refine SX_25 (z := (σ 5 1).toNatClampNeg) (q := 22) C rfl (inb_in g2) dX5_put_21 rfl ?_
    refine V_lets hf (fun σ3 hf => ?_)
    refine V_aload_n (q := 23) C dX5_put_22 rfl rfl 0 rfl ?_
    refine V_dup (q := 24) C dX5_put_23 rfl rfl ?_
    refine GX_5_1 (q := 27) C q_269 dX5_put_24 rfl ?_
    refine V_iconst (v := 1) (q := 28) C dX5_put_27 rfl ic_1 ?_
    refine V_iadd (q := 29) C dX5_put_28 rfl ?_
    refine PX_5_1 (q := 32) C q_269 dX5_put_29 rfl ?_
    refine V_lets hf (fun σ4 hf => ?_)
    obtain ⟨-, e2⟩ := pr_s hf
    subst e2
    exact V_vret C F (by decide) (by decide) dX5_put_32
def rmX6_append : Room := { frames := 6, cells := 1, slots := 6, locals := 90 }
def fX6_append_5 (a : Int32) (K0 : Sg → Option ((String ⊕ Int32) × Sg)) (K1 : Int32 → Sg → Option ((String ⊕ Int32) × Sg)) : Nat → Int32 → Int32 → Sg → Option ((String ⊕ Int32) × Sg)
  | 0, _, _, _ => none
  | n + 1, x1, x2, σ3 => if x2 < 0 then (K1 x1 σ3) else (lt' ((((a.toUInt32 >>> (x2.toUInt32 &&& Int32.toUInt32 31)).toInt32) &&& (255 : Int32))) (fun (x6 : Int32) => jp (fun (y7 : Int32) (σ8 : Sg) => fX6_append_5 a K0 K1 n y7 (x2 + (-8 : Int32)) σ8) (fun (J50 : Int32 → Sg → Option ((String ⊕ Int32) × Sg)) => if x6 = 0 then (J50 x1 σ3) else (if x6 < (33 : Int32) then (K0 σ3) else (if x6 ≤ (126 : Int32) then (J50 (x1 + (1 : Int32)) σ3) else (K0 σ3))))))
def fX6_append_83 (a : Int32) (K : Sg → Option ((String ⊕ Int32) × Sg)) : Nat → Int32 → Sg → Option ((String ⊕ Int32) × Sg)
  | 0, _, _ => none
  | n + 1, x15, σ16 => if x15 < 0 then (K σ16) else (lt' ((((a.toUInt32 >>> (x15.toUInt32 &&& Int32.toUInt32 31)).toInt32) &&& (255 : Int32))) (fun (x18 : Int32) => jp (fun (σ19 : Sg) => fX6_append_83 a K n (x15 + (-8 : Int32)) σ19) (fun (J111 : Sg → Option ((String ⊕ Int32) × Sg)) => if x18 = 0 then (J111  σ16) else (bd (fX5_put ((x18.toUInt32 % 65536).toInt32) σ16) (fun (_ : Unit) (σ21 : Sg) => J111  σ21)))))
def fX6_append (a : Int32) (σ : Sg) : Option ((String ⊕ Int32) × Sg) := fX6_append_5 a (fun (σ12 : Sg) => some (.inl "java/lang/IllegalArgumentException", σ12)) (fun (y4 : Int32) (σ13 : Sg) => if ((σ13 5 1) + y4) ≤ (40 : Int32) then (fX6_append_83 a (fun (σ23 : Sg) => some (.inr (σ23 5 1), σ23)) FU (24 : Int32) σ13) else (some (.inl "java/lang/IllegalStateException", σ13))) FU (0 : Int32) (24 : Int32) σ
set_option maxHeartbeats 4000000 in
theorem wlX6_append_5 {X : Cx} {G : Gx} {ad : Nat → Nat} {Q : State → Prop} {r : String ⊕ Int32} {σf : Sg} (C : OK wX X G ad RX6 cX6_append 5 rmX6_append) (Fr : ∀ v, rI r = .inr v → FinR wX X G ad Q 1 6 (some .int) v σf) (Fx : ∀ E, rI r = .inl E → FinX wX X G ad Q 1 6 E σf) (a : Int32) (K0 : Sg → Option ((String ⊕ Int32) × Sg)) (K1 : Int32 → Sg → Option ((String ⊕ Int32) × Sg)) (hK0 : ∀ (σk : Sg), K0 σk = some (r, σf) → V wX X G ad 5 Q 0 0 σk 37 [] []) (hK1 : ∀ (y4 : Int32) (σk : Sg), K1 y4 σk = some (r, σf) → V wX X G ad 5 Q 0 0 σk 56 [(0, .ref (ad 0)), (1, .int a), (2, .int y4)] []) : ∀ (n : Nat) (x1 : Int32) (x2 : Int32) (σ3 : Sg), fX6_append_5 a K0 K1 n x1 x2 σ3 = some (r, σf) → V wX X G ad 5 Q 0 0 σ3 5 [(0, .ref (ad 0)), (1, .int a), (2, .int x1), (3, .int x2)] [] := by
  intro n
  induction n with
  | zero =>
    intro _ _ _ hf
    exact absurd hf (by simp [fX6_append_5])
  | succ n ih =>
    intro x1 x2 σ3 hf
    rw [fX6_append_5] at hf
    refine V_iload_n (q := 6) C dX6_append_5 rfl rfl 3 rfl ?_
    refine V_if_lt (t := 56) (q := 9) C dX6_append_6 (by decide) rfl (fun c5 => ?_) (fun c5 => ?_)
    · replace hf := (ite_s hf).1 c5
      refine V_sub (L' := [(0, .ref (ad 0)), (1, .int a), (2, .int x1)]) [0, 1, 2] rfl ?_
      exact hK1 _ _ hf
    · replace hf := (ite_s hf).2 c5
      refine V_iload_n (q := 10) C dX6_append_9 rfl rfl 1 rfl ?_
      refine V_iload_n (q := 11) C dX6_append_10 rfl rfl 3 rfl ?_
      refine V_iushr (q := 12) C dX6_append_11 rfl ?_
      refine V_sipush (v := 255) (q := 15) C dX6_append_12 rfl sc_255 ?_
      refine V_iand (q := 16) C dX6_append_15 rfl ?_
      refine V_let (cv := Value.int) hf (fun x6 hf => ?_)
      refine V_istore (L' := [(4, .int x6), (0, .ref (ad 0)), (1, .int a), (2, .int x1), (3, .int x2)]) (q := 18) C dX6_append_16 rfl (by decide) rfl ?_
      refine V_iload (q := 20) C dX6_append_18 rfl 0 rfl ?_
      obtain ⟨J50, eJ50, hf⟩ := jp_s hf
      have hJ50 : ∀ (y7 : Int32) (σ8 : Sg), J50 y7 σ8 = some (r, σf) → V wX X G ad 5 Q 0 0 σ8 50 [(0, .ref (ad 0)), (1, .int a), (2, .int y7), (3, .int x2)] [] := by
        intro y7 σ8 hf
        subst eJ50
        refine V_iinc (L' := [(3, .int (x2 + (-8 : Int32))), (0, .ref (ad 0)), (1, .int a), (2, .int y7)]) (q := 53) C dX6_append_50 rfl 3 rfl (congrArg (fun y => x2 + y) ic_m8) (by decide) rfl ?_
        refine V_goto (t := 5) C dX6_append_53 (by decide) ?_
        refine V_sub (L' := [(0, .ref (ad 0)), (1, .int a), (2, .int y7), (3, .int (x2 + (-8 : Int32)))]) [1, 2, 3, 0] rfl ?_
        exact ih _ _ _ hf
      refine V_if_eq (t := 50) (q := 23) C dX6_append_20 (by decide) rfl (fun c9 => ?_) (fun c9 => ?_)
      · replace hf := (ite_s hf).1 c9
        refine V_sub (L' := [(0, .ref (ad 0)), (1, .int a), (2, .int x1), (3, .int x2)]) [1, 2, 3, 4] rfl ?_
        exact hJ50 _ _ hf
      · replace hf := (ite_s hf).2 c9
        refine V_iload (q := 25) C dX6_append_23 rfl 0 rfl ?_
        refine V_bipush (v := 33) (q := 27) C dX6_append_25 rfl bc_33 ?_
        refine V_icmp_lt (t := 37) (q := 30) C dX6_append_27 (by decide) rfl (fun c10 => ?_) (fun c10 => ?_)
        · replace hf := (ite_s hf).1 c10
          refine V_sub (L' := []) [] rfl ?_
          exact hK0 _ hf
        · replace hf := (ite_s hf).2 c10
          refine V_iload (q := 32) C dX6_append_30 rfl 0 rfl ?_
          refine V_bipush (v := 126) (q := 34) C dX6_append_32 rfl bc_126 ?_
          refine V_icmp_le (t := 47) (q := 37) C dX6_append_34 (by decide) rfl (fun c11 => ?_) (fun c11 => ?_)
          · replace hf := (ite_s hf).1 c11
            refine V_iinc (L' := [(2, .int (x1 + (1 : Int32))), (4, .int x6), (0, .ref (ad 0)), (1, .int a), (3, .int x2)]) (q := 50) C dX6_append_47 rfl 3 rfl (congrArg (fun y => x1 + y) ic_1) (by decide) rfl ?_
            refine V_sub (L' := [(0, .ref (ad 0)), (1, .int a), (2, .int (x1 + (1 : Int32))), (3, .int x2)]) [2, 3, 0, 4] rfl ?_
            exact hJ50 _ _ hf
          · replace hf := (ite_s hf).2 c11
            refine V_sub (L' := []) [] rfl ?_
            exact hK0 _ hf
set_option maxHeartbeats 4000000 in
theorem wlX6_append_83 {X : Cx} {G : Gx} {ad : Nat → Nat} {Q : State → Prop} {r : String ⊕ Int32} {σf : Sg} (C : OK wX X G ad RX6 cX6_append 5 rmX6_append) (Fr : ∀ v, rI r = .inr v → FinR wX X G ad Q 1 6 (some .int) v σf) (Fx : ∀ E, rI r = .inl E → FinX wX X G ad Q 1 6 E σf) (a : Int32) (K : Sg → Option ((String ⊕ Int32) × Sg)) (hK : ∀ (σk : Sg), K σk = some (r, σf) → V wX X G ad 5 Q 0 0 σk 117 [(0, .ref (ad 0))] []) : ∀ (n : Nat) (x15 : Int32) (σ16 : Sg), fX6_append_83 a K n x15 σ16 = some (r, σf) → V wX X G ad 5 Q 0 0 σ16 83 [(0, .ref (ad 0)), (1, .int a), (3, .int x15)] [] := by
  intro n
  induction n with
  | zero =>
    intro _ _ hf
    exact absurd hf (by simp [fX6_append_83])
  | succ n ih =>
    intro x15 σ16 hf
    rw [fX6_append_83] at hf
    refine V_iload_n (q := 84) C dX6_append_83 rfl rfl 2 rfl ?_
    refine V_if_lt (t := 117) (q := 87) C dX6_append_84 (by decide) rfl (fun c17 => ?_) (fun c17 => ?_)
    · replace hf := (ite_s hf).1 c17
      refine V_sub (L' := [(0, .ref (ad 0))]) [0] rfl ?_
      exact hK _ hf
    · replace hf := (ite_s hf).2 c17
      refine V_iload_n (q := 88) C dX6_append_87 rfl rfl 1 rfl ?_
      refine V_iload_n (q := 89) C dX6_append_88 rfl rfl 2 rfl ?_
      refine V_iushr (q := 90) C dX6_append_89 rfl ?_
      refine V_sipush (v := 255) (q := 93) C dX6_append_90 rfl sc_255 ?_
      refine V_iand (q := 94) C dX6_append_93 rfl ?_
      refine V_let (cv := Value.int) hf (fun x18 hf => ?_)
      refine V_istore (L' := [(4, .int x18), (0, .ref (ad 0)), (1, .int a), (3, .int x15)]) (q := 96) C dX6_append_94 rfl (by decide) rfl ?_
      refine V_iload (q := 98) C dX6_append_96 rfl 0 rfl ?_
      obtain ⟨J111, eJ111, hf⟩ := jp_s hf
      have hJ111 : ∀ (σ19 : Sg), J111 σ19 = some (r, σf) → V wX X G ad 5 Q 0 0 σ19 111 [(0, .ref (ad 0)), (1, .int a), (3, .int x15)] [] := by
        intro σ19 hf
        subst eJ111
        refine V_iinc (L' := [(3, .int (x15 + (-8 : Int32))), (0, .ref (ad 0)), (1, .int a)]) (q := 114) C dX6_append_111 rfl 2 rfl (congrArg (fun y => x15 + y) ic_m8) (by decide) rfl ?_
        refine V_goto (t := 83) C dX6_append_114 (by decide) ?_
        refine V_sub (L' := [(0, .ref (ad 0)), (1, .int a), (3, .int (x15 + (-8 : Int32)))]) [1, 2, 0] rfl ?_
        exact ih _ _ hf
      refine V_if_eq (t := 111) (q := 101) C dX6_append_98 (by decide) rfl (fun c20 => ?_) (fun c20 => ?_)
      · replace hf := (ite_s hf).1 c20
        refine V_sub (L' := [(0, .ref (ad 0)), (1, .int a), (3, .int x15)]) [1, 2, 3] rfl ?_
        exact hJ111 _ hf
      · replace hf := (ite_s hf).2 c20
        refine V_aload_n (q := 102) C dX6_append_101 rfl rfl 1 rfl ?_
        refine GX_0_4 (q := 105) C q_357 dX6_append_102 rfl ?_
        refine V_iload (q := 107) C dX6_append_105 rfl 0 rfl ?_
        refine V_i2c (q := 108) C dX6_append_107 rfl ?_
        obtain ⟨_u, σ21, h22, hf⟩ := bd_s hf
        refine V_callVN (av := [.int (x18.toUInt32 % 65536).toInt32]) (st := []) (st1 := []) (q := 111) C 5 (by decide) (eX_5 G ad _) rfl rfl (conX5_put _ _ _ _ _ _ h22) q_639 q_112 q_636 q_638 q_11 nmX5_put (by decide) rfl rfl (Nat.le_of_ble_eq_true rfl) dX6_append_108 rfl rfl ?_
        refine V_sub (L' := [(0, .ref (ad 0)), (1, .int a), (3, .int x15)]) [1, 2, 3] rfl ?_
        exact hJ111 _ hf
set_option maxHeartbeats 4000000 in
theorem conX6_append (l : Launch) (G : Gx) (ad : Nat → Nat) (a : Int32) (σ : Sg) (r : String ⊕ Int32) (σf : Sg) (hf : fX6_append a σ = some (r, σf)) : ConX wX l G ad yX6_append (Cond.code yX6_append cX6_append 5 (some .int)) rmX6_append 1 6 [.ref (ad 0), .int a] σ (rI r) σf := by
  refine ConX.start (by decide) (Nat.le_of_ble_eq_true rfl) (fun X Q _ C Fr Fx => ?_)
  refine V_eq (L' := [(0, .ref (ad 0)), (1, .int a)]) (st' := []) rfl rfl rfl ?_
  unfold fX6_append at hf
  refine V_iconst (v := 0) (q := 1) C dX6_append_0 rfl ic_0 ?_
  refine V_istore_n (L' := [(2, .int (0 : Int32)), (0, .ref (ad 0)), (1, .int a)]) (q := 2) C dX6_append_1 rfl rfl (by decide) rfl ?_
  refine V_bipush (v := 24) (q := 4) C dX6_append_2 rfl bc_24 ?_
  refine V_istore_n (L' := [(3, .int (24 : Int32)), (2, .int (0 : Int32)), (0, .ref (ad 0)), (1, .int a)]) (q := 5) C dX6_append_4 rfl rfl (by decide) rfl ?_
  refine V_sub (L' := [(0, .ref (ad 0)), (1, .int a), (2, .int (0 : Int32)), (3, .int (24 : Int32))]) [2, 3, 1, 0] rfl ?_
  refine wlX6_append_5 C Fr Fx a _ _ (fun σ12 hf => ?_) (fun y4 σ13 hf => ?_) FU _ _ _ hf
  · obtain ⟨e1, e2⟩ := pr_s hf
    subst e1; subst e2
    exact V_throwS (text := "character not allowed") C rfl (Fx _ rfl) rfl q_424 q_118 (by decide) xa_87 xg_87 dX6_append_37 dX6_append_40 dX6_append_41 dX6_append_43 dX6_append_46 (by decide) (Nat.le_of_ble_eq_true rfl) (by decide) (by decide) (by decide) (by decide)
  · refine V_aload_n (q := 57) C dX6_append_56 rfl rfl 0 rfl ?_
    refine GX_0_4 (q := 60) C q_357 dX6_append_57 rfl ?_
    refine GNX_5_1 (q := 63) C q_271 dX6_append_60 rfl ?_
    refine V_iload_n (q := 64) C dX6_append_63 rfl rfl 2 rfl ?_
    refine V_iadd (q := 65) C dX6_append_64 rfl ?_
    refine V_bipush (v := 40) (q := 67) C dX6_append_65 rfl bc_40 ?_
    refine V_icmp_le (t := 80) (q := 70) C dX6_append_67 (by decide) rfl (fun c14 => ?_) (fun c14 => ?_)
    · replace hf := (ite_s hf).1 c14
      refine V_bipush (v := 24) (q := 82) C dX6_append_80 rfl bc_24 ?_
      refine V_istore_n (L' := [(3, .int (24 : Int32)), (0, .ref (ad 0)), (1, .int a), (2, .int y4)]) (q := 83) C dX6_append_82 rfl rfl (by decide) rfl ?_
      refine V_sub (L' := [(0, .ref (ad 0)), (1, .int a), (3, .int (24 : Int32))]) [1, 2, 0] rfl ?_
      refine wlX6_append_83 C Fr Fx a _ (fun σ23 hf => ?_) FU _ _ hf
      refine V_aload_n (q := 118) C dX6_append_117 rfl rfl 0 rfl ?_
      refine GX_0_4 (q := 121) C q_357 dX6_append_118 rfl ?_
      refine GNX_5_1 (q := 124) C q_271 dX6_append_121 rfl ?_
      obtain ⟨e1, e2⟩ := pr_s hf
      subst e1; subst e2
      exact V_iret C (Fr _ rfl) (by decide) (by decide) dX6_append_124
    · replace hf := (ite_s hf).2 c14
      obtain ⟨e1, e2⟩ := pr_s hf
      subst e1; subst e2
      exact V_throwS (text := "buffer too long") C rfl (Fx _ rfl) rfl q_522 q_120 (by decide) xa_100 xg_100 dX6_append_70 dX6_append_73 dX6_append_74 dX6_append_76 dX6_append_79 (by decide) (Nat.le_of_ble_eq_true rfl) (by decide) (by decide) (by decide) (by decide)
def rmX3_everyone : Room := { frames := 0, cells := 0, slots := 0, locals := 0 }
def fX3_everyone  (σ : Sg) : Option (Int32 × Sg) := some ((((1 : Int32) <<< ((σ 3 6) &&& 31)) - (1 : Int32)), σ)
set_option maxHeartbeats 4000000 in
theorem conX3_everyone (l : Launch) (G : Gx) (ad : Nat → Nat)  (σ : Sg) (r : Int32) (σf : Sg)  (hf : fX3_everyone  σ = some (r, σf)) : Con wX l G ad yX3_everyone (Cond.code yX3_everyone cX3_everyone 1 (some .int)) rmX3_everyone 0 0 [.ref (ad 3)] σ (some (.int r)) σf := by
  refine Con.start (by decide) (Nat.le_of_ble_eq_true rfl) (fun X Q _ C F => ?_)
  refine V_eq (L' := [(0, .ref (ad 3))]) (st' := []) rfl rfl rfl ?_
  unfold fX3_everyone at hf
  refine V_iconst (v := 1) (q := 1) C dX3_everyone_0 rfl ic_1 ?_
  refine V_aload_n (q := 2) C dX3_everyone_1 rfl rfl 0 rfl ?_
  refine GX_3_6 (q := 5) C q_178 dX3_everyone_2 rfl ?_
  refine V_ishl (q := 6) C dX3_everyone_5 rfl ?_
  refine V_iconst (v := 1) (q := 7) C dX3_everyone_6 rfl ic_1 ?_
  refine V_isub (q := 8) C dX3_everyone_7 rfl ?_
  obtain ⟨e1, e2⟩ := pr_s hf
  subst e1; subst e2
  exact V_iret C F (by decide) (by decide) dX3_everyone_8
def rmX6_requireSet : Room := { frames := 6, cells := 1, slots := 6, locals := 90 }
def fX6_requireSet (a : Int32) (σ : Sg) : Option ((String ⊕ Unit) × Sg) := bd (fX3_everyone  σ) (fun (r1 : Int32) (σ2 : Sg) => if (a &&& (r1 ^^^ (-1 : Int32))) = 0 then (some (.inr (), σ2)) else (some (.inl "java/lang/IllegalArgumentException", σ2)))
set_option maxHeartbeats 4000000 in
theorem conX6_requireSet (l : Launch) (G : Gx) (ad : Nat → Nat) (a : Int32) (σ : Sg) (r : String ⊕ Unit) (σf : Sg) (hf : fX6_requireSet a σ = some (r, σf)) : ConX wX l G ad yX6_requireSet (Cond.code yX6_requireSet cX6_requireSet 2 none) rmX6_requireSet 1 6 [.ref (ad 0), .int a] σ (rU r) σf := by
  refine ConX.start (by decide) (Nat.le_of_ble_eq_true rfl) (fun X Q _ C Fr Fx => ?_)
  refine V_eq (L' := [(0, .ref (ad 0)), (1, .int a)]) (st' := []) rfl rfl rfl ?_
  unfold fX6_requireSet at hf
  refine V_iload_n (q := 1) C dX6_requireSet_0 rfl rfl 1 rfl ?_
  refine V_aload_n (q := 2) C dX6_requireSet_1 rfl rfl 0 rfl ?_
  refine GX_0_2 (q := 5) C q_355 dX6_requireSet_2 rfl ?_
  obtain ⟨r1, σ2, h3, hf⟩ := bd_s hf
  refine V_callVN (av := []) (st := [.int a]) (st1 := [.int r1, .int a]) (q := 8) C 3 (by decide) (eX_3 G ad _) rfl rfl (conX3_everyone _ _ _  _ _ _ h3) q_561 q_110 q_776 q_560 q_9 nmX3_everyone (by decide) rfl rfl (Nat.le_of_ble_eq_true rfl) dX6_requireSet_5 rfl rfl ?_
  refine V_iconst (v := (-1)) (q := 9) C dX6_requireSet_8 rfl ic_m1 ?_
  refine V_ixor (q := 10) C dX6_requireSet_9 rfl ?_
  refine V_iand (q := 11) C dX6_requireSet_10 rfl ?_
  refine V_if_eq (t := 25) (q := 14) C dX6_requireSet_11 (by decide) rfl (fun c4 => ?_) (fun c4 => ?_)
  · replace hf := (ite_s hf).1 c4
    obtain ⟨e1, e2⟩ := pr_s hf
    subst e1; subst e2
    exact V_vret C (Fr _ rfl) (by decide) (by decide) dX6_requireSet_25
  · replace hf := (ite_s hf).2 c4
    obtain ⟨e1, e2⟩ := pr_s hf
    subst e1; subst e2
    exact V_throwSW (text := "a bit is set for no station") C rfl (Fx _ rfl) rfl q_424 q_118 (by decide) xa_87 xg_87 dX6_requireSet_14 dX6_requireSet_17 dX6_requireSet_18 dX6_requireSet_21 dX6_requireSet_24 (by decide) (Nat.le_of_ble_eq_true rfl) (by decide) (by decide) (by decide) (by decide)
def rmX4_allow : Room := { frames := 0, cells := 0, slots := 0, locals := 0 }
def fX4_allow_2 (a : Int32) : Nat → Int32 → Sg → Option (Unit × Sg)
  | 0, _, _ => none
  | n + 1, x1, σ2 => if (σ2 3 6) ≤ x1 then (some ((), σ2)) else (gd (inb x1 12) (gd (inb x1 12) (lt' (sup σ2 35 x1.toNatClampNeg ((σ2 11 x1.toNatClampNeg) &&& a)) (fun (σ6 : Sg) => fX4_allow_2 a n (x1 + (1 : Int32)) σ6))))
def fX4_allow (a : Int32) (σ : Sg) : Option (Unit × Sg) := fX4_allow_2 a FU (0 : Int32) σ
set_option maxHeartbeats 4000000 in
theorem wlX4_allow_2 {X : Cx} {G : Gx} {ad : Nat → Nat} {Q : State → Prop} {σf : Sg} (C : OK wX X G ad RX4 cX4_allow 3 rmX4_allow) (F : FinR wX X G ad Q 0 0 none none σf) (a : Int32) : ∀ (n : Nat) (x1 : Int32) (σ2 : Sg), fX4_allow_2 a n x1 σ2 = some ((), σf) → V wX X G ad 3 Q 0 0 σ2 2 [(0, .ref (ad 2)), (1, .int a), (2, .int x1)] [] := by
  intro n
  induction n with
  | zero =>
    intro _ _ hf
    exact absurd hf (by simp [fX4_allow_2])
  | succ n ih =>
    intro x1 σ2 hf
    rw [fX4_allow_2] at hf
    refine V_iload_n (q := 3) C dX4_allow_2 rfl rfl 2 rfl ?_
    refine V_aload_n (q := 4) C dX4_allow_3 rfl rfl 0 rfl ?_
    refine GX_2_0 (q := 7) C q_212 dX4_allow_4 rfl ?_
    refine GNX_3_6 (q := 10) C q_182 dX4_allow_7 rfl ?_
    refine V_icmp_ge (t := 36) (q := 13) C dX4_allow_10 (by decide) rfl (fun c3 => ?_) (fun c3 => ?_)
    · replace hf := (ite_s hf).1 c3
      obtain ⟨-, e2⟩ := pr_s hf
      subst e2
      exact V_vret C F (by decide) (by decide) dX4_allow_36
    · replace hf := (ite_s hf).2 c3
      refine V_aload_n (q := 14) C dX4_allow_13 rfl rfl 0 rfl ?_
      refine GX_2_1 (q := 17) C q_215 dX4_allow_14 rfl ?_
      refine V_iload_n (q := 18) C dX4_allow_17 rfl rfl 2 rfl ?_
      refine V_aload_n (q := 19) C dX4_allow_18 rfl rfl 0 rfl ?_
      refine GX_2_0 (q := 22) C q_212 dX4_allow_19 rfl ?_
      refine GNX_3_0 (q := 25) C q_160 dX4_allow_22 rfl ?_
      refine V_iload_n (q := 26) C dX4_allow_25 rfl rfl 2 rfl ?_
      obtain ⟨g4, hf⟩ := gd_s hf
      refine RX_11 (z := x1.toNatClampNeg) (q := 27) C rfl (inb_in g4) dX4_allow_26 rfl ?_
      refine V_iload_n (q := 28) C dX4_allow_27 rfl rfl 1 rfl ?_
      refine V_iand (q := 29) C dX4_allow_28 rfl ?_
      obtain ⟨g5, hf⟩ := gd_s hf
      refine SX_35 (z := x1.toNatClampNeg) (q := 30) C rfl (inb_in g5) dX4_allow_29 rfl ?_
      refine V_lets hf (fun σ6 hf => ?_)
      refine V_iinc (L' := [(2, .int (x1 + (1 : Int32))), (0, .ref (ad 2)), (1, .int a)]) (q := 33) C dX4_allow_30 rfl 2 rfl (congrArg (fun y => x1 + y) ic_1) (by decide) rfl ?_
      refine V_goto (t := 2) C dX4_allow_33 (by decide) ?_
      refine V_sub (L' := [(0, .ref (ad 2)), (1, .int a), (2, .int (x1 + (1 : Int32)))]) [1, 2, 0] rfl ?_
      exact ih _ _ hf
set_option maxHeartbeats 4000000 in
theorem conX4_allow (l : Launch) (G : Gx) (ad : Nat → Nat) (a : Int32) (σ : Sg) (σf : Sg)  (hf : fX4_allow a σ = some ((), σf)) : Con wX l G ad yX4_allow (Cond.code yX4_allow cX4_allow 3 none) rmX4_allow 0 0 [.ref (ad 2), .int a] σ none σf := by
  refine Con.start (by decide) (Nat.le_of_ble_eq_true rfl) (fun X Q _ C F => ?_)
  refine V_eq (L' := [(0, .ref (ad 2)), (1, .int a)]) (st' := []) rfl rfl rfl ?_
  unfold fX4_allow at hf
  refine V_iconst (v := 0) (q := 1) C dX4_allow_0 rfl ic_0 ?_
  refine V_istore_n (L' := [(2, .int (0 : Int32)), (0, .ref (ad 2)), (1, .int a)]) (q := 2) C dX4_allow_1 rfl rfl (by decide) rfl ?_
  refine V_sub (L' := [(0, .ref (ad 2)), (1, .int a), (2, .int (0 : Int32))]) [1, 2, 0] rfl ?_
  refine wlX4_allow_2 C F a FU _ _ hf
def rmX6_contains : Room := { frames := 0, cells := 0, slots := 0, locals := 0 }
def pX6_contains (a : Int32) (b : Int32) : Int32 := if ((a >>> (b &&& 31)) &&& (1 : Int32)) = 0 then ((0 : Int32)) else ((1 : Int32))
set_option maxHeartbeats 4000000 in
theorem conX6_contains {T : Type} {w : Wd T} (l : Launch) (G : Gx) (ad : Nat → Nat) (a : Int32) (b : Int32) (τ : T) (r : Int32) (hf : pX6_contains a b = r) : Con w l G ad yX6_contains (Cond.code yX6_contains cX6_contains 2 (some .boolean)) rmX6_contains 0 0 [.int a, .int b] τ (some (.int r)) τ := by
  refine Con.start (by decide) (Nat.le_of_ble_eq_true rfl) (fun X Q _ C F => ?_)
  refine V_eq (L' := [(0, .int a), (1, .int b)]) (st' := []) rfl rfl rfl ?_
  unfold pX6_contains at hf
  refine V_iload_n (q := 1) C dX6_contains_0 rfl rfl 0 rfl ?_
  refine V_iload_n (q := 2) C dX6_contains_1 rfl rfl 1 rfl ?_
  refine V_ishr (q := 3) C dX6_contains_2 rfl ?_
  refine V_iconst (v := 1) (q := 4) C dX6_contains_3 rfl ic_1 ?_
  refine V_iand (q := 5) C dX6_contains_4 rfl ?_
  refine V_if_eq (t := 12) (q := 8) C dX6_contains_5 (by decide) rfl (fun c1 => ?_) (fun c1 => ?_)
  · replace hf := (ite_s hf).1 c1
    refine V_iconst (v := 0) (q := 13) C dX6_contains_12 rfl ic_0 ?_
    subst hf
    exact V_zret C F (by decide) (Nat.le_refl 0) (Nat.le_refl 0) dX6_contains_13
  · replace hf := (ite_s hf).2 c1
    refine V_iconst (v := 1) (q := 9) C dX6_contains_8 rfl ic_1 ?_
    refine V_goto (t := 13) C dX6_contains_9 (by decide) ?_
    subst hf
    exact V_zret C F (by decide) (Nat.le_refl 0) (Nat.le_refl 0) dX6_contains_13
theorem pX6_contains_b (a : Int32) (b : Int32) : pX6_contains a b = 0 ∨ pX6_contains a b = 1 := by
  unfold pX6_contains
  try simp only [jp]
  repeat' split
  all_goals first | exact Or.inl rfl | exact Or.inr rfl
def rmJ6_bitCount_0f7a4 : Room := { frames := 0, cells := 0, slots := 0, locals := 0 }
def pJ6_bitCount_0f7a4 (a : Int32) : Int32 := lt' ((a - (((a.toUInt32 >>> ((1 : Int32).toUInt32 &&& Int32.toUInt32 31)).toInt32) &&& (1431655765 : Int32)))) (fun (x1 : Int32) => lt' (((x1 &&& (858993459 : Int32)) + (((x1.toUInt32 >>> ((2 : Int32).toUInt32 &&& Int32.toUInt32 31)).toInt32) &&& (858993459 : Int32)))) (fun (x2 : Int32) => lt' (((x2 + ((x2.toUInt32 >>> ((4 : Int32).toUInt32 &&& Int32.toUInt32 31)).toInt32)) &&& (252645135 : Int32))) (fun (x3 : Int32) => lt' ((x3 + ((x3.toUInt32 >>> ((8 : Int32).toUInt32 &&& Int32.toUInt32 31)).toInt32))) (fun (x4 : Int32) => lt' ((x4 + ((x4.toUInt32 >>> ((16 : Int32).toUInt32 &&& Int32.toUInt32 31)).toInt32))) (fun (x5 : Int32) => (x5 &&& (63 : Int32)))))))
set_option maxHeartbeats 4000000 in
theorem conJ6_bitCount_0f7a4 {T : Type} {w : Wd T} (l : Launch) (G : Gx) (ad : Nat → Nat) (a : Int32) (τ : T) (r : Int32) (hf : pJ6_bitCount_0f7a4 a = r) : Con w l G ad yJ6_bitCount_0f7a4 (Cond.code yJ6_bitCount_0f7a4 cJ6_bitCount_0f7a4 1 (some .int)) rmJ6_bitCount_0f7a4 0 0 [.int a] τ (some (.int r)) τ := by
  refine Con.start (by decide) (Nat.le_of_ble_eq_true rfl) (fun X Q _ C F => ?_)
  refine V_eq (L' := [(0, .int a)]) (st' := []) rfl rfl rfl ?_
  unfold pJ6_bitCount_0f7a4 at hf
  refine V_iload_n (q := 1) C dJ6_bitCount_0f7a4_0 rfl rfl 0 rfl ?_
  refine V_iload_n (q := 2) C dJ6_bitCount_0f7a4_1 rfl rfl 0 rfl ?_
  refine V_iconst (v := 1) (q := 3) C dJ6_bitCount_0f7a4_2 rfl ic_1 ?_
  refine V_iushr (q := 4) C dJ6_bitCount_0f7a4_3 rfl ?_
  refine V_ldcw (q := 7) C q_728 dJ6_bitCount_0f7a4_4 rfl ?_
  refine V_iand (q := 8) C dJ6_bitCount_0f7a4_7 rfl ?_
  refine V_isub (q := 9) C dJ6_bitCount_0f7a4_8 rfl ?_
  refine V_let (cv := Value.int) hf (fun x1 hf => ?_)
  refine V_istore_n (L' := [(0, .int x1)]) (q := 10) C dJ6_bitCount_0f7a4_9 rfl rfl (by decide) rfl ?_
  refine V_iload_n (q := 11) C dJ6_bitCount_0f7a4_10 rfl rfl 0 rfl ?_
  refine V_ldcw (q := 14) C q_729 dJ6_bitCount_0f7a4_11 rfl ?_
  refine V_iand (q := 15) C dJ6_bitCount_0f7a4_14 rfl ?_
  refine V_iload_n (q := 16) C dJ6_bitCount_0f7a4_15 rfl rfl 0 rfl ?_
  refine V_iconst (v := 2) (q := 17) C dJ6_bitCount_0f7a4_16 rfl ic_2 ?_
  refine V_iushr (q := 18) C dJ6_bitCount_0f7a4_17 rfl ?_
  refine V_ldcw (q := 21) C q_729 dJ6_bitCount_0f7a4_18 rfl ?_
  refine V_iand (q := 22) C dJ6_bitCount_0f7a4_21 rfl ?_
  refine V_iadd (q := 23) C dJ6_bitCount_0f7a4_22 rfl ?_
  refine V_let (cv := Value.int) hf (fun x2 hf => ?_)
  refine V_istore_n (L' := [(0, .int x2)]) (q := 24) C dJ6_bitCount_0f7a4_23 rfl rfl (by decide) rfl ?_
  refine V_iload_n (q := 25) C dJ6_bitCount_0f7a4_24 rfl rfl 0 rfl ?_
  refine V_iload_n (q := 26) C dJ6_bitCount_0f7a4_25 rfl rfl 0 rfl ?_
  refine V_iconst (v := 4) (q := 27) C dJ6_bitCount_0f7a4_26 rfl ic_4 ?_
  refine V_iushr (q := 28) C dJ6_bitCount_0f7a4_27 rfl ?_
  refine V_iadd (q := 29) C dJ6_bitCount_0f7a4_28 rfl ?_
  refine V_ldcw (q := 32) C q_730 dJ6_bitCount_0f7a4_29 rfl ?_
  refine V_iand (q := 33) C dJ6_bitCount_0f7a4_32 rfl ?_
  refine V_let (cv := Value.int) hf (fun x3 hf => ?_)
  refine V_istore_n (L' := [(0, .int x3)]) (q := 34) C dJ6_bitCount_0f7a4_33 rfl rfl (by decide) rfl ?_
  refine V_iload_n (q := 35) C dJ6_bitCount_0f7a4_34 rfl rfl 0 rfl ?_
  refine V_iload_n (q := 36) C dJ6_bitCount_0f7a4_35 rfl rfl 0 rfl ?_
  refine V_bipush (v := 8) (q := 38) C dJ6_bitCount_0f7a4_36 rfl bc_8 ?_
  refine V_iushr (q := 39) C dJ6_bitCount_0f7a4_38 rfl ?_
  refine V_iadd (q := 40) C dJ6_bitCount_0f7a4_39 rfl ?_
  refine V_let (cv := Value.int) hf (fun x4 hf => ?_)
  refine V_istore_n (L' := [(0, .int x4)]) (q := 41) C dJ6_bitCount_0f7a4_40 rfl rfl (by decide) rfl ?_
  refine V_iload_n (q := 42) C dJ6_bitCount_0f7a4_41 rfl rfl 0 rfl ?_
  refine V_iload_n (q := 43) C dJ6_bitCount_0f7a4_42 rfl rfl 0 rfl ?_
  refine V_bipush (v := 16) (q := 45) C dJ6_bitCount_0f7a4_43 rfl bc_16 ?_
  refine V_iushr (q := 46) C dJ6_bitCount_0f7a4_45 rfl ?_
  refine V_iadd (q := 47) C dJ6_bitCount_0f7a4_46 rfl ?_
  refine V_let (cv := Value.int) hf (fun x5 hf => ?_)
  refine V_istore_n (L' := [(0, .int x5)]) (q := 48) C dJ6_bitCount_0f7a4_47 rfl rfl (by decide) rfl ?_
  refine V_iload_n (q := 49) C dJ6_bitCount_0f7a4_48 rfl rfl 0 rfl ?_
  refine V_bipush (v := 63) (q := 51) C dJ6_bitCount_0f7a4_49 rfl bc_63 ?_
  refine V_iand (q := 52) C dJ6_bitCount_0f7a4_51 rfl ?_
  subst hf
  exact V_iret C F (Nat.le_refl 0) (Nat.le_refl 0) dJ6_bitCount_0f7a4_52
def rmX4_tightest : Room := { frames := 1, cells := 0, slots := 0, locals := 21 }
def fX4_tightest_12 (a : Int32) (b : Int32) : Nat → Int32 → Int32 → Int32 → Int32 → Sg → Option (Int32 × Sg)
  | 0, _, _, _, _, _ => none
  | n + 1, x1, x2, x3, x4, σ5 => if (σ5 3 6) ≤ x4 then (some (x1, σ5)) else (jp (fun (y7 : Int32) (y8 : Int32) (y9 : Int32) (σ10 : Sg) => fX4_tightest_12 a b n y7 y8 y9 (x4 + (1 : Int32)) σ10) (fun (J108 : Int32 → Int32 → Int32 → Sg → Option (Int32 × Sg)) => if (pX6_contains b x4) = 0 then (J108 x1 x2 x3 σ5) else (gd (inb a 12) (gd (inb x4 12) (lt' ((pJ6_bitCount_0f7a4 (σ5 (41 + a.toNatClampNeg) x4.toNatClampNeg))) (fun (x14 : Int32) => gd (inb x4 12) (gd (inb x4 12) (lt' ((((1 : Int32) + (pJ6_bitCount_0f7a4 ((σ5 15 x4.toNatClampNeg) &&& b))) + ((2 : Int32) * (pJ6_bitCount_0f7a4 ((σ5 16 x4.toNatClampNeg) &&& b))))) (fun (x17 : Int32) => if (x2 * x17) ≤ (x14 * x3) then (J108 x1 x2 x3 σ5) else (J108 x4 x14 x17 σ5))))))))))
def fX4_tightest (a : Int32) (b : Int32) (σ : Sg) : Option (Int32 × Sg) := fX4_tightest_12 a b FU (0 : Int32) (9 : Int32) (1 : Int32) (0 : Int32) σ
set_option maxHeartbeats 4000000 in
theorem wlX4_tightest_12 {X : Cx} {G : Gx} {ad : Nat → Nat} {Q : State → Prop} {r : Int32} {σf : Sg} (C : OK wX X G ad RX4 cX4_tightest 9 rmX4_tightest) (F : FinR wX X G ad Q 0 0 (some .int) (some (.int r)) σf) (a : Int32) (b : Int32) : ∀ (n : Nat) (x1 : Int32) (x2 : Int32) (x3 : Int32) (x4 : Int32) (σ5 : Sg), fX4_tightest_12 a b n x1 x2 x3 x4 σ5 = some (r, σf) → V wX X G ad 9 Q 0 0 σ5 12 [(0, .ref (ad 2)), (1, .int a), (2, .int b), (3, .int x1), (4, .int x2), (5, .int x3), (6, .int x4)] [] := by
  intro n
  induction n with
  | zero =>
    intro _ _ _ _ _ hf
    exact absurd hf (by simp [fX4_tightest_12])
  | succ n ih =>
    intro x1 x2 x3 x4 σ5 hf
    rw [fX4_tightest_12] at hf
    refine V_iload (q := 14) C dX4_tightest_12 rfl 6 rfl ?_
    refine V_aload_n (q := 15) C dX4_tightest_14 rfl rfl 0 rfl ?_
    refine GX_2_0 (q := 18) C q_212 dX4_tightest_15 rfl ?_
    refine GNX_3_6 (q := 21) C q_182 dX4_tightest_18 rfl ?_
    refine V_icmp_ge (t := 114) (q := 24) C dX4_tightest_21 (by decide) rfl (fun c6 => ?_) (fun c6 => ?_)
    · replace hf := (ite_s hf).1 c6
      refine V_iload_n (q := 115) C dX4_tightest_114 rfl rfl 3 rfl ?_
      obtain ⟨e1, e2⟩ := pr_s hf
      subst e1; subst e2
      exact V_iret C F (by decide) (by decide) dX4_tightest_115
    · replace hf := (ite_s hf).2 c6
      refine V_iload_n (q := 25) C dX4_tightest_24 rfl rfl 2 rfl ?_
      refine V_iload (q := 27) C dX4_tightest_25 rfl 6 rfl ?_
      refine V_callSN (av := [.int b, .int x4]) (st := []) (st1 := [.int (pX6_contains b x4)]) (q := 30) C (conX6_contains _ _ _ _ _ _ _ rfl) q_612 q_107 q_798 q_611 nmX6_contains (by decide) rfl rfl (Nat.le_of_ble_eq_true rfl) dX4_tightest_27 rfl rfl ?_
      obtain ⟨J108, eJ108, hf⟩ := jp_s hf
      have hJ108 : ∀ (y7 : Int32) (y8 : Int32) (y9 : Int32) (σ10 : Sg), J108 y7 y8 y9 σ10 = some (r, σf) → V wX X G ad 9 Q 0 0 σ10 108 [(0, .ref (ad 2)), (1, .int a), (2, .int b), (3, .int y7), (4, .int y8), (5, .int y9), (6, .int x4)] [] := by
        intro y7 y8 y9 σ10 hf
        subst eJ108
        refine V_iinc (L' := [(6, .int (x4 + (1 : Int32))), (0, .ref (ad 2)), (1, .int a), (2, .int b), (3, .int y7), (4, .int y8), (5, .int y9)]) (q := 111) C dX4_tightest_108 rfl 6 rfl (congrArg (fun y => x4 + y) ic_1) (by decide) rfl ?_
        refine V_goto (t := 12) C dX4_tightest_111 (by decide) ?_
        refine V_sub (L' := [(0, .ref (ad 2)), (1, .int a), (2, .int b), (3, .int y7), (4, .int y8), (5, .int y9), (6, .int (x4 + (1 : Int32)))]) [1, 2, 3, 4, 5, 6, 0] rfl ?_
        exact ih _ _ _ _ _ hf
      refine V_if_eq (t := 108) (q := 33) C dX4_tightest_30 (by decide) rfl (fun c11 => ?_) (fun c11 => ?_)
      · replace hf := (ite_s hf).1 c11
        exact hJ108 _ _ _ _ hf
      · replace hf := (ite_s hf).2 c11
        refine V_aload_n (q := 34) C dX4_tightest_33 rfl rfl 0 rfl ?_
        refine GX_2_2 (q := 37) C q_216 dX4_tightest_34 rfl ?_
        refine V_iload_n (q := 38) C dX4_tightest_37 rfl rfl 1 rfl ?_
        obtain ⟨g12, hf⟩ := gd_s hf
        refine AX_36 (z := 41 + a.toNatClampNeg) (q := 39) C rfl (inb_in g12) dX4_tightest_38 rfl ?_
        refine V_iload (q := 41) C dX4_tightest_39 rfl 6 rfl ?_
        obtain ⟨g13, hf⟩ := gd_s hf
        refine RXr0 (z := x4.toNatClampNeg) (q := 42) C (hXr0 (inb_in g12)).1 (hXr0 (inb_in g12)).2 rfl (inb_in g13) dX4_tightest_41 rfl ?_
        refine V_callS (av := [.int (σ5 (41 + a.toNatClampNeg) x4.toNatClampNeg)]) (st := []) (st1 := [.int (pJ6_bitCount_0f7a4 (σ5 (41 + a.toNatClampNeg) x4.toNatClampNeg))]) (q := 45) C (conJ6_bitCount_0f7a4 _ _ _ _ _ _ rfl) q_727 q_126 q_799 q_726 nmJ6_bitCount_0f7a4 (by decide) rfl rfl (Nat.le_of_ble_eq_true rfl) dX4_tightest_42 rfl rfl ?_
        refine V_let (cv := Value.int) hf (fun x14 hf => ?_)
        refine V_istore (L' := [(7, .int x14), (0, .ref (ad 2)), (1, .int a), (2, .int b), (3, .int x1), (4, .int x2), (5, .int x3), (6, .int x4)]) (q := 47) C dX4_tightest_45 rfl (by decide) rfl ?_
        refine V_iconst (v := 1) (q := 48) C dX4_tightest_47 rfl ic_1 ?_
        refine V_aload_n (q := 49) C dX4_tightest_48 rfl rfl 1 rfl ?_
        refine GX_2_0 (q := 52) C q_212 dX4_tightest_49 rfl ?_
        refine GNX_3_4 (q := 55) C q_173 dX4_tightest_52 rfl ?_
        refine V_iload (q := 57) C dX4_tightest_55 rfl 7 rfl ?_
        obtain ⟨g15, hf⟩ := gd_s hf
        refine RX_15 (z := x4.toNatClampNeg) (q := 58) C rfl (inb_in g15) dX4_tightest_57 rfl ?_
        refine V_iload_n (q := 59) C dX4_tightest_58 rfl rfl 3 rfl ?_
        refine V_iand (q := 60) C dX4_tightest_59 rfl ?_
        refine V_callS (av := [.int ((σ5 15 x4.toNatClampNeg) &&& b)]) (st := [.int (1 : Int32)]) (st1 := [.int (pJ6_bitCount_0f7a4 ((σ5 15 x4.toNatClampNeg) &&& b)), .int (1 : Int32)]) (q := 63) C (conJ6_bitCount_0f7a4 _ _ _ _ _ _ rfl) q_727 q_126 q_799 q_726 nmJ6_bitCount_0f7a4 (by decide) rfl rfl (Nat.le_of_ble_eq_true rfl) dX4_tightest_60 rfl rfl ?_
        refine V_iadd (q := 64) C dX4_tightest_63 rfl ?_
        refine V_iconst (v := 2) (q := 65) C dX4_tightest_64 rfl ic_2 ?_
        refine V_aload_n (q := 66) C dX4_tightest_65 rfl rfl 1 rfl ?_
        refine GX_2_0 (q := 69) C q_212 dX4_tightest_66 rfl ?_
        refine GNX_3_5 (q := 72) C q_177 dX4_tightest_69 rfl ?_
        refine V_iload (q := 74) C dX4_tightest_72 rfl 7 rfl ?_
        obtain ⟨g16, hf⟩ := gd_s hf
        refine RX_16 (z := x4.toNatClampNeg) (q := 75) C rfl (inb_in g16) dX4_tightest_74 rfl ?_
        refine V_iload_n (q := 76) C dX4_tightest_75 rfl rfl 3 rfl ?_
        refine V_iand (q := 77) C dX4_tightest_76 rfl ?_
        refine V_callS (av := [.int ((σ5 16 x4.toNatClampNeg) &&& b)]) (st := [.int (2 : Int32), .int ((1 : Int32) + (pJ6_bitCount_0f7a4 ((σ5 15 x4.toNatClampNeg) &&& b)))]) (st1 := [.int (pJ6_bitCount_0f7a4 ((σ5 16 x4.toNatClampNeg) &&& b)), .int (2 : Int32), .int ((1 : Int32) + (pJ6_bitCount_0f7a4 ((σ5 15 x4.toNatClampNeg) &&& b)))]) (q := 80) C (conJ6_bitCount_0f7a4 _ _ _ _ _ _ rfl) q_727 q_126 q_799 q_726 nmJ6_bitCount_0f7a4 (by decide) rfl rfl (Nat.le_of_ble_eq_true rfl) dX4_tightest_77 rfl rfl ?_
        refine V_imul (q := 81) C dX4_tightest_80 rfl ?_
        refine V_iadd (q := 82) C dX4_tightest_81 rfl ?_
        refine V_let (cv := Value.int) hf (fun x17 hf => ?_)
        refine V_istore (L' := [(8, .int x17), (7, .int x14), (0, .ref (ad 2)), (1, .int a), (2, .int b), (3, .int x1), (4, .int x2), (5, .int x3), (6, .int x4)]) (q := 84) C dX4_tightest_82 rfl (by decide) rfl ?_
        refine V_iload (q := 86) C dX4_tightest_84 rfl 1 rfl ?_
        refine V_iload (q := 88) C dX4_tightest_86 rfl 7 rfl ?_
        refine V_imul (q := 89) C dX4_tightest_88 rfl ?_
        refine V_iload (q := 91) C dX4_tightest_89 rfl 6 rfl ?_
        refine V_iload (q := 93) C dX4_tightest_91 rfl 0 rfl ?_
        refine V_imul (q := 94) C dX4_tightest_93 rfl ?_
        refine V_icmp_ge (t := 108) (q := 97) C dX4_tightest_94 (by decide) rfl (fun c18 => ?_) (fun c18 => ?_)
        · replace hf := (ite_s hf).1 c18
          refine V_sub (L' := [(0, .ref (ad 2)), (1, .int a), (2, .int b), (3, .int x1), (4, .int x2), (5, .int x3), (6, .int x4)]) [2, 3, 4, 5, 6, 7, 8] rfl ?_
          exact hJ108 _ _ _ _ hf
        · replace hf := (ite_s hf).2 c18
          refine V_iload (q := 99) C dX4_tightest_97 rfl 8 rfl ?_
          refine V_istore_n (L' := [(3, .int x4), (8, .int x17), (7, .int x14), (0, .ref (ad 2)), (1, .int a), (2, .int b), (4, .int x2), (5, .int x3), (6, .int x4)]) (q := 100) C dX4_tightest_99 rfl rfl (by decide) rfl ?_
          refine V_iload (q := 102) C dX4_tightest_100 rfl 2 rfl ?_
          refine V_istore (L' := [(4, .int x14), (3, .int x4), (8, .int x17), (7, .int x14), (0, .ref (ad 2)), (1, .int a), (2, .int b), (5, .int x3), (6, .int x4)]) (q := 104) C dX4_tightest_102 rfl (by decide) rfl ?_
          refine V_iload (q := 106) C dX4_tightest_104 rfl 2 rfl ?_
          refine V_istore (L' := [(5, .int x17), (4, .int x14), (3, .int x4), (8, .int x17), (7, .int x14), (0, .ref (ad 2)), (1, .int a), (2, .int b), (6, .int x4)]) (q := 108) C dX4_tightest_106 rfl (by decide) rfl ?_
          refine V_sub (L' := [(0, .ref (ad 2)), (1, .int a), (2, .int b), (3, .int x4), (4, .int x14), (5, .int x17), (6, .int x4)]) [5, 6, 7, 2, 1, 0, 8] rfl ?_
          exact hJ108 _ _ _ _ hf
set_option maxHeartbeats 4000000 in
theorem conX4_tightest (l : Launch) (G : Gx) (ad : Nat → Nat) (a : Int32) (b : Int32) (σ : Sg) (r : Int32) (σf : Sg)  (hf : fX4_tightest a b σ = some (r, σf)) : Con wX l G ad yX4_tightest (Cond.code yX4_tightest cX4_tightest 9 (some .int)) rmX4_tightest 0 0 [.ref (ad 2), .int a, .int b] σ (some (.int r)) σf := by
  refine Con.start (by decide) (Nat.le_of_ble_eq_true rfl) (fun X Q _ C F => ?_)
  refine V_eq (L' := [(0, .ref (ad 2)), (1, .int a), (2, .int b)]) (st' := []) rfl rfl rfl ?_
  unfold fX4_tightest at hf
  refine V_iconst (v := 0) (q := 1) C dX4_tightest_0 rfl ic_0 ?_
  refine V_istore_n (L' := [(3, .int (0 : Int32)), (0, .ref (ad 2)), (1, .int a), (2, .int b)]) (q := 2) C dX4_tightest_1 rfl rfl (by decide) rfl ?_
  refine V_bipush (v := 9) (q := 4) C dX4_tightest_2 rfl bc_9 ?_
  refine V_istore (L' := [(4, .int (9 : Int32)), (3, .int (0 : Int32)), (0, .ref (ad 2)), (1, .int a), (2, .int b)]) (q := 6) C dX4_tightest_4 rfl (by decide) rfl ?_
  refine V_iconst (v := 1) (q := 7) C dX4_tightest_6 rfl ic_1 ?_
  refine V_istore (L' := [(5, .int (1 : Int32)), (4, .int (9 : Int32)), (3, .int (0 : Int32)), (0, .ref (ad 2)), (1, .int a), (2, .int b)]) (q := 9) C dX4_tightest_7 rfl (by decide) rfl ?_
  refine V_iconst (v := 0) (q := 10) C dX4_tightest_9 rfl ic_0 ?_
  refine V_istore (L' := [(6, .int (0 : Int32)), (5, .int (1 : Int32)), (4, .int (9 : Int32)), (3, .int (0 : Int32)), (0, .ref (ad 2)), (1, .int a), (2, .int b)]) (q := 12) C dX4_tightest_10 rfl (by decide) rfl ?_
  refine V_sub (L' := [(0, .ref (ad 2)), (1, .int a), (2, .int b), (3, .int (0 : Int32)), (4, .int (9 : Int32)), (5, .int (1 : Int32)), (6, .int (0 : Int32))]) [4, 5, 6, 3, 2, 1, 0] rfl ?_
  refine wlX4_tightest_12 C F a b FU _ _ _ _ _ hf
def rmJ7_fill_53178_r1 : Room := { frames := 0, cells := 0, slots := 0, locals := 0 }
def fJ7_fill_53178_r1_5 (a : Int32) (c0 : Nat) : Nat → Int32 → Sg → Option (Unit × Sg)
  | 0, _, _ => none
  | n + 1, x1, σ2 => if (8 : Int32) ≤ x1 then (some ((), σ2)) else (gd (inb x1 8) (lt' (sup σ2 c0 x1.toNatClampNeg a) (fun (σ5 : Sg) => fJ7_fill_53178_r1_5 a c0 n (x1 + (1 : Int32)) σ5)))
def fJ7_fill_53178_r1 (c0 : Nat) (a : Int32) (σ : Sg) : Option (Unit × Sg) := fJ7_fill_53178_r1_5 a c0 FU (0 : Int32) σ
set_option maxHeartbeats 4000000 in
theorem wlJ7_fill_53178_r1_5 {X : Cx} {G : Gx} {ad : Nat → Nat} {Q : State → Prop} {σf : Sg} (C : OK wX X G ad RJ7 cJ7_fill_53178 4 rmJ7_fill_53178_r1) (F : FinR wX X G ad Q 0 0 none none σf) (a : Int32) (c0 : Nat) (hc1 : 53 ≤ c0) (hc2 : c0 < 65) : ∀ (n : Nat) (x1 : Int32) (σ2 : Sg), fJ7_fill_53178_r1_5 a c0 n x1 σ2 = some ((), σf) → V wX X G ad 4 Q 0 0 σ2 5 [(0, .ref (ad c0)), (1, .int a), (2, .int x1), (3, .int (8 : Int32))] [] := by
  intro n
  induction n with
  | zero =>
    intro _ _ hf
    exact absurd hf (by simp [fJ7_fill_53178_r1_5])
  | succ n ih =>
    intro x1 σ2 hf
    rw [fJ7_fill_53178_r1_5] at hf
    refine V_iload_n (q := 6) C dJ7_fill_53178_5 rfl rfl 2 rfl ?_
    refine V_iload_n (q := 7) C dJ7_fill_53178_6 rfl rfl 3 rfl ?_
    refine V_icmp_ge (t := 20) (q := 10) C dJ7_fill_53178_7 (by decide) rfl (fun c3 => ?_) (fun c3 => ?_)
    · replace hf := (ite_s hf).1 c3
      obtain ⟨-, e2⟩ := pr_s hf
      subst e2
      exact V_vret C F (by decide) (by decide) dJ7_fill_53178_20
    · replace hf := (ite_s hf).2 c3
      refine V_aload_n (q := 11) C dJ7_fill_53178_10 rfl rfl 0 rfl ?_
      refine V_iload_n (q := 12) C dJ7_fill_53178_11 rfl rfl 2 rfl ?_
      refine V_iload_n (q := 13) C dJ7_fill_53178_12 rfl rfl 1 rfl ?_
      obtain ⟨g4, hf⟩ := gd_s hf
      refine SXr1 (z := x1.toNatClampNeg) (q := 14) C hc1 hc2 rfl (inb_in g4) dJ7_fill_53178_13 rfl ?_
      refine V_lets hf (fun σ5 hf => ?_)
      refine V_iinc (L' := [(2, .int (x1 + (1 : Int32))), (0, .ref (ad c0)), (1, .int a), (3, .int (8 : Int32))]) (q := 17) C dJ7_fill_53178_14 rfl 2 rfl (congrArg (fun y => x1 + y) ic_1) (by decide) rfl ?_
      refine V_goto (t := 5) C dJ7_fill_53178_17 (by decide) ?_
      refine V_sub (L' := [(0, .ref (ad c0)), (1, .int a), (2, .int (x1 + (1 : Int32))), (3, .int (8 : Int32))]) [1, 2, 0, 3] rfl ?_
      exact ih _ _ hf
set_option maxHeartbeats 4000000 in
theorem conJ7_fill_53178_r1 (l : Launch) (G : Gx) (ad : Nat → Nat) (c0 : Nat) (a : Int32) (σ : Sg) (σf : Sg) (hc1 : 53 ≤ c0) (hc2 : c0 < 65) (hf : fJ7_fill_53178_r1 c0 a σ = some ((), σf)) : Con wX l G ad yJ7_fill_53178 (Cond.code yJ7_fill_53178 cJ7_fill_53178 4 none) rmJ7_fill_53178_r1 0 0 [.ref (ad c0), .int a] σ none σf := by
  refine Con.start (by decide) (Nat.le_of_ble_eq_true rfl) (fun X Q _ C F => ?_)
  refine V_eq (L' := [(0, .ref (ad c0)), (1, .int a)]) (st' := []) rfl rfl rfl ?_
  unfold fJ7_fill_53178_r1 at hf
  refine V_iconst (v := 0) (q := 1) C dJ7_fill_53178_0 rfl ic_0 ?_
  refine V_istore_n (L' := [(2, .int (0 : Int32)), (0, .ref (ad c0)), (1, .int a)]) (q := 2) C dJ7_fill_53178_1 rfl rfl (by decide) rfl ?_
  refine V_aload_n (q := 3) C dJ7_fill_53178_2 rfl rfl 1 rfl ?_
  refine LXr1 (q := 4) C hc1 hc2 dJ7_fill_53178_3 rfl ?_
  refine V_istore_n (L' := [(3, .int (8 : Int32)), (2, .int (0 : Int32)), (0, .ref (ad c0)), (1, .int a)]) (q := 5) C dJ7_fill_53178_4 rfl rfl (by decide) rfl ?_
  refine V_sub (L' := [(0, .ref (ad c0)), (1, .int a), (2, .int (0 : Int32)), (3, .int (8 : Int32))]) [2, 3, 1, 0] rfl ?_
  refine wlJ7_fill_53178_r1_5 C F a c0 hc1 hc2 FU _ _ hf
def rmX4_listUsers : Room := { frames := 1, cells := 0, slots := 0, locals := 23 }
def fX4_listUsers_34 (a : Int32) (b : Int32) (x4 : Int32) (K : Sg → Option (Unit × Sg)) : Nat → Int32 → Sg → Option (Unit × Sg)
  | 0, _, _ => none
  | n + 1, x9, σ10 => if (8 : Int32) ≤ x9 then (K σ10) else (gd (inb a 12) (gd (inb x9 8) (gd (inb a 12) (gd (inb x4 12) (gd (inb x9 8) (lt' (sup σ10 (53 + a.toNatClampNeg) x9.toNatClampNeg ((σ10 (53 + a.toNatClampNeg) x9.toNatClampNeg) ||| ((((σ10 (41 + a.toNatClampNeg) x4.toNatClampNeg) >>> (x9 &&& 31)) &&& (1 : Int32)) <<< (x4 &&& 31)))) (fun (σ17 : Sg) => fX4_listUsers_34 a b x4 K n (x9 + (1 : Int32)) σ17)))))))
def fX4_listUsers_12 (a : Int32) (b : Int32) : Nat → Int32 → Sg → Option (Unit × Sg)
  | 0, _, _ => none
  | n + 1, x4, σ5 => if (σ5 3 6) ≤ x4 then (some ((), σ5)) else (jp (fun (σ7 : Sg) => fX4_listUsers_12 a b n (x4 + (1 : Int32)) σ7) (fun (J74 : Sg → Option (Unit × Sg)) => if (pX6_contains b x4) = 0 then (J74  σ5) else (fX4_listUsers_34 a b x4 (fun (σ18 : Sg) => J74  σ18) FU (0 : Int32) σ5)))
def fX4_listUsers (a : Int32) (b : Int32) (σ : Sg) : Option (Unit × Sg) := gd (inb a 12) (bd (fJ7_fill_53178_r1 (53 + a.toNatClampNeg) (0 : Int32) σ) (fun (_ : Unit) (σ2 : Sg) => fX4_listUsers_12 a b FU (0 : Int32) σ2))
set_option maxHeartbeats 4000000 in
theorem wlX4_listUsers_34 {X : Cx} {G : Gx} {ad : Nat → Nat} {Q : State → Prop} {σf : Sg} (C : OK wX X G ad RX4 cX4_listUsers 5 rmX4_listUsers) (F : FinR wX X G ad Q 0 0 none none σf) (a : Int32) (b : Int32) (x4 : Int32) (K : Sg → Option (Unit × Sg)) (hK : ∀ (σk : Sg), K σk = some ((), σf) → V wX X G ad 5 Q 0 0 σk 74 [(0, .ref (ad 2)), (1, .int a), (2, .int b), (3, .int x4)] []) : ∀ (n : Nat) (x9 : Int32) (σ10 : Sg), fX4_listUsers_34 a b x4 K n x9 σ10 = some ((), σf) → V wX X G ad 5 Q 0 0 σ10 34 [(0, .ref (ad 2)), (1, .int a), (2, .int b), (3, .int x4), (4, .int x9)] [] := by
  intro n
  induction n with
  | zero =>
    intro _ _ hf
    exact absurd hf (by simp [fX4_listUsers_34])
  | succ n ih =>
    intro x9 σ10 hf
    rw [fX4_listUsers_34] at hf
    refine V_iload (q := 36) C dX4_listUsers_34 rfl 4 rfl ?_
    refine V_bipush (v := 8) (q := 38) C dX4_listUsers_36 rfl bc_8 ?_
    refine V_icmp_ge (t := 74) (q := 41) C dX4_listUsers_38 (by decide) rfl (fun c11 => ?_) (fun c11 => ?_)
    · replace hf := (ite_s hf).1 c11
      refine V_sub (L' := [(0, .ref (ad 2)), (1, .int a), (2, .int b), (3, .int x4)]) [0, 1, 2, 3] rfl ?_
      exact hK _ hf
    · replace hf := (ite_s hf).2 c11
      refine V_aload_n (q := 42) C dX4_listUsers_41 rfl rfl 0 rfl ?_
      refine GX_2_3 (q := 45) C q_217 dX4_listUsers_42 rfl ?_
      refine V_iload_n (q := 46) C dX4_listUsers_45 rfl rfl 1 rfl ?_
      obtain ⟨g12, hf⟩ := gd_s hf
      refine AX_37 (z := 53 + a.toNatClampNeg) (q := 47) C rfl (inb_in g12) dX4_listUsers_46 rfl ?_
      refine V_iload (q := 49) C dX4_listUsers_47 rfl 4 rfl ?_
      refine V_dup2 (q := 50) C dX4_listUsers_49 rfl rfl rfl ?_
      obtain ⟨g13, hf⟩ := gd_s hf
      refine RXr1 (z := x9.toNatClampNeg) (q := 51) C (hXr1 (inb_in g12)).1 (hXr1 (inb_in g12)).2 rfl (inb_in g13) dX4_listUsers_50 rfl ?_
      refine V_aload_n (q := 52) C dX4_listUsers_51 rfl rfl 0 rfl ?_
      refine GX_2_2 (q := 55) C q_216 dX4_listUsers_52 rfl ?_
      refine V_iload_n (q := 56) C dX4_listUsers_55 rfl rfl 1 rfl ?_
      obtain ⟨g14, hf⟩ := gd_s hf
      refine AX_36 (z := 41 + a.toNatClampNeg) (q := 57) C rfl (inb_in g14) dX4_listUsers_56 rfl ?_
      refine V_iload_n (q := 58) C dX4_listUsers_57 rfl rfl 3 rfl ?_
      obtain ⟨g15, hf⟩ := gd_s hf
      refine RXr0 (z := x4.toNatClampNeg) (q := 59) C (hXr0 (inb_in g14)).1 (hXr0 (inb_in g14)).2 rfl (inb_in g15) dX4_listUsers_58 rfl ?_
      refine V_iload (q := 61) C dX4_listUsers_59 rfl 4 rfl ?_
      refine V_ishr (q := 62) C dX4_listUsers_61 rfl ?_
      refine V_iconst (v := 1) (q := 63) C dX4_listUsers_62 rfl ic_1 ?_
      refine V_iand (q := 64) C dX4_listUsers_63 rfl ?_
      refine V_iload_n (q := 65) C dX4_listUsers_64 rfl rfl 3 rfl ?_
      refine V_ishl (q := 66) C dX4_listUsers_65 rfl ?_
      refine V_ior (q := 67) C dX4_listUsers_66 rfl ?_
      obtain ⟨g16, hf⟩ := gd_s hf
      refine SXr1 (z := x9.toNatClampNeg) (q := 68) C (hXr1 (inb_in g12)).1 (hXr1 (inb_in g12)).2 rfl (inb_in g16) dX4_listUsers_67 rfl ?_
      refine V_lets hf (fun σ17 hf => ?_)
      refine V_iinc (L' := [(4, .int (x9 + (1 : Int32))), (0, .ref (ad 2)), (1, .int a), (2, .int b), (3, .int x4)]) (q := 71) C dX4_listUsers_68 rfl 4 rfl (congrArg (fun y => x9 + y) ic_1) (by decide) rfl ?_
      refine V_goto (t := 34) C dX4_listUsers_71 (by decide) ?_
      refine V_sub (L' := [(0, .ref (ad 2)), (1, .int a), (2, .int b), (3, .int x4), (4, .int (x9 + (1 : Int32)))]) [1, 2, 3, 4, 0] rfl ?_
      exact ih _ _ hf
set_option maxHeartbeats 4000000 in
theorem wlX4_listUsers_12 {X : Cx} {G : Gx} {ad : Nat → Nat} {Q : State → Prop} {σf : Sg} (C : OK wX X G ad RX4 cX4_listUsers 5 rmX4_listUsers) (F : FinR wX X G ad Q 0 0 none none σf) (a : Int32) (b : Int32) : ∀ (n : Nat) (x4 : Int32) (σ5 : Sg), fX4_listUsers_12 a b n x4 σ5 = some ((), σf) → V wX X G ad 5 Q 0 0 σ5 12 [(0, .ref (ad 2)), (1, .int a), (2, .int b), (3, .int x4)] [] := by
  intro n
  induction n with
  | zero =>
    intro _ _ hf
    exact absurd hf (by simp [fX4_listUsers_12])
  | succ n ih =>
    intro x4 σ5 hf
    rw [fX4_listUsers_12] at hf
    refine V_iload_n (q := 13) C dX4_listUsers_12 rfl rfl 3 rfl ?_
    refine V_aload_n (q := 14) C dX4_listUsers_13 rfl rfl 0 rfl ?_
    refine GX_2_0 (q := 17) C q_212 dX4_listUsers_14 rfl ?_
    refine GNX_3_6 (q := 20) C q_182 dX4_listUsers_17 rfl ?_
    refine V_icmp_ge (t := 80) (q := 23) C dX4_listUsers_20 (by decide) rfl (fun c6 => ?_) (fun c6 => ?_)
    · replace hf := (ite_s hf).1 c6
      obtain ⟨-, e2⟩ := pr_s hf
      subst e2
      exact V_vret C F (by decide) (by decide) dX4_listUsers_80
    · replace hf := (ite_s hf).2 c6
      refine V_iload_n (q := 24) C dX4_listUsers_23 rfl rfl 2 rfl ?_
      refine V_iload_n (q := 25) C dX4_listUsers_24 rfl rfl 3 rfl ?_
      refine V_callSN (av := [.int b, .int x4]) (st := []) (st1 := [.int (pX6_contains b x4)]) (q := 28) C (conX6_contains _ _ _ _ _ _ _ rfl) q_612 q_107 q_798 q_611 nmX6_contains (by decide) rfl rfl (Nat.le_of_ble_eq_true rfl) dX4_listUsers_25 rfl rfl ?_
      obtain ⟨J74, eJ74, hf⟩ := jp_s hf
      have hJ74 : ∀ (σ7 : Sg), J74 σ7 = some ((), σf) → V wX X G ad 5 Q 0 0 σ7 74 [(0, .ref (ad 2)), (1, .int a), (2, .int b), (3, .int x4)] [] := by
        intro σ7 hf
        subst eJ74
        refine V_iinc (L' := [(3, .int (x4 + (1 : Int32))), (0, .ref (ad 2)), (1, .int a), (2, .int b)]) (q := 77) C dX4_listUsers_74 rfl 3 rfl (congrArg (fun y => x4 + y) ic_1) (by decide) rfl ?_
        refine V_goto (t := 12) C dX4_listUsers_77 (by decide) ?_
        refine V_sub (L' := [(0, .ref (ad 2)), (1, .int a), (2, .int b), (3, .int (x4 + (1 : Int32)))]) [1, 2, 3, 0] rfl ?_
        exact ih _ _ hf
      refine V_if_eq (t := 74) (q := 31) C dX4_listUsers_28 (by decide) rfl (fun c8 => ?_) (fun c8 => ?_)
      · replace hf := (ite_s hf).1 c8
        exact hJ74 _ hf
      · replace hf := (ite_s hf).2 c8
        refine V_iconst (v := 0) (q := 32) C dX4_listUsers_31 rfl ic_0 ?_
        refine V_istore (L' := [(4, .int (0 : Int32)), (0, .ref (ad 2)), (1, .int a), (2, .int b), (3, .int x4)]) (q := 34) C dX4_listUsers_32 rfl (by decide) rfl ?_
        refine V_sub (L' := [(0, .ref (ad 2)), (1, .int a), (2, .int b), (3, .int x4), (4, .int (0 : Int32))]) [1, 2, 3, 4, 0] rfl ?_
        refine wlX4_listUsers_34 C F a b x4 _ (fun σ18 hf => ?_) FU _ _ hf
        exact hJ74 _ hf
set_option maxHeartbeats 4000000 in
theorem conX4_listUsers (l : Launch) (G : Gx) (ad : Nat → Nat) (a : Int32) (b : Int32) (σ : Sg) (σf : Sg)  (hf : fX4_listUsers a b σ = some ((), σf)) : Con wX l G ad yX4_listUsers (Cond.code yX4_listUsers cX4_listUsers 5 none) rmX4_listUsers 0 0 [.ref (ad 2), .int a, .int b] σ none σf := by
  refine Con.start (by decide) (Nat.le_of_ble_eq_true rfl) (fun X Q _ C F => ?_)
  refine V_eq (L' := [(0, .ref (ad 2)), (1, .int a), (2, .int b)]) (st' := []) rfl rfl rfl ?_
  unfold fX4_listUsers at hf
  refine V_aload_n (q := 1) C dX4_listUsers_0 rfl rfl 0 rfl ?_
  refine GX_2_3 (q := 4) C q_217 dX4_listUsers_1 rfl ?_
  refine V_iload_n (q := 5) C dX4_listUsers_4 rfl rfl 1 rfl ?_
  obtain ⟨g1, hf⟩ := gd_s hf
  refine AX_37 (z := 53 + a.toNatClampNeg) (q := 6) C rfl (inb_in g1) dX4_listUsers_5 rfl ?_
  refine V_iconst (v := 0) (q := 7) C dX4_listUsers_6 rfl ic_0 ?_
  obtain ⟨_u, σ2, h3, hf⟩ := bd_s hf
  refine V_callS (av := [.ref (ad (53 + a.toNatClampNeg)), .int (0 : Int32)]) (st := []) (st1 := []) (q := 10) C (conJ7_fill_53178_r1 _ _ _ _ _ _ _ (hXr1 (inb_in g1)).1 (hXr1 (inb_in g1)).2 h3) q_813 q_129 q_811 q_812 nmJ7_fill_53178 (by decide) rfl rfl (Nat.le_of_ble_eq_true rfl) dX4_listUsers_7 rfl rfl ?_
  refine V_iconst (v := 0) (q := 11) C dX4_listUsers_10 rfl ic_0 ?_
  refine V_istore_n (L' := [(3, .int (0 : Int32)), (0, .ref (ad 2)), (1, .int a), (2, .int b)]) (q := 12) C dX4_listUsers_11 rfl rfl (by decide) rfl ?_
  refine V_sub (L' := [(0, .ref (ad 2)), (1, .int a), (2, .int b), (3, .int (0 : Int32))]) [1, 2, 3, 0] rfl ?_
  refine wlX4_listUsers_12 C F a b FU _ _ hf
def rmX4_lacksRoom : Room := { frames := 1, cells := 0, slots := 0, locals := 20 }
def fX4_lacksRoom_5 (a : Int32) (b : Int32) (K : Int32 → Sg → Option (Int32 × Sg)) : Nat → Int32 → Int32 → Sg → Option (Int32 × Sg)
  | 0, _, _, _ => none
  | n + 1, x1, x2, σ3 => if (8 : Int32) ≤ x2 then (K x1 σ3) else (gd (inb a 12) (gd (inb x2 8) (gd (inb (σ3 (53 + a.toNatClampNeg) x2.toNatClampNeg) 4096) (lt' ((x1 + (σ3 39 ((σ3 (53 + a.toNatClampNeg) x2.toNatClampNeg).toNatClampNeg)))) (fun (x9 : Int32) => fX4_lacksRoom_5 a b K n x9 (x2 + (1 : Int32)) σ3)))))
def fX4_lacksRoom (a : Int32) (b : Int32) (σ : Sg) : Option (Int32 × Sg) := fX4_lacksRoom_5 a b (fun (y4 : Int32) (σ10 : Sg) => if (pJ6_bitCount_0f7a4 b) ≤ y4 then (some ((0 : Int32), σ10)) else (some ((1 : Int32), σ10))) FU (0 : Int32) (0 : Int32) σ
set_option maxHeartbeats 4000000 in
theorem wlX4_lacksRoom_5 {X : Cx} {G : Gx} {ad : Nat → Nat} {Q : State → Prop} {r : Int32} {σf : Sg} (C : OK wX X G ad RX4 cX4_lacksRoom 5 rmX4_lacksRoom) (F : FinR wX X G ad Q 0 0 (some .boolean) (some (.int r)) σf) (a : Int32) (b : Int32) (K : Int32 → Sg → Option (Int32 × Sg)) (hK : ∀ (y4 : Int32) (σk : Sg), K y4 σk = some (r, σf) → V wX X G ad 5 Q 0 0 σk 35 [(2, .int b), (3, .int y4)] []) : ∀ (n : Nat) (x1 : Int32) (x2 : Int32) (σ3 : Sg), fX4_lacksRoom_5 a b K n x1 x2 σ3 = some (r, σf) → V wX X G ad 5 Q 0 0 σ3 5 [(0, .ref (ad 2)), (1, .int a), (2, .int b), (3, .int x1), (4, .int x2)] [] := by
  intro n
  induction n with
  | zero =>
    intro _ _ _ hf
    exact absurd hf (by simp [fX4_lacksRoom_5])
  | succ n ih =>
    intro x1 x2 σ3 hf
    rw [fX4_lacksRoom_5] at hf
    refine V_iload (q := 7) C dX4_lacksRoom_5 rfl 4 rfl ?_
    refine V_bipush (v := 8) (q := 9) C dX4_lacksRoom_7 rfl bc_8 ?_
    refine V_icmp_ge (t := 35) (q := 12) C dX4_lacksRoom_9 (by decide) rfl (fun c5 => ?_) (fun c5 => ?_)
    · replace hf := (ite_s hf).1 c5
      refine V_sub (L' := [(2, .int b), (3, .int x1)]) [2, 3] rfl ?_
      exact hK _ _ hf
    · replace hf := (ite_s hf).2 c5
      refine V_iload_n (q := 13) C dX4_lacksRoom_12 rfl rfl 3 rfl ?_
      refine V_aload_n (q := 14) C dX4_lacksRoom_13 rfl rfl 0 rfl ?_
      refine GX_2_5 (q := 17) C q_219 dX4_lacksRoom_14 rfl ?_
      refine V_aload_n (q := 18) C dX4_lacksRoom_17 rfl rfl 0 rfl ?_
      refine GX_2_3 (q := 21) C q_217 dX4_lacksRoom_18 rfl ?_
      refine V_iload_n (q := 22) C dX4_lacksRoom_21 rfl rfl 1 rfl ?_
      obtain ⟨g6, hf⟩ := gd_s hf
      refine AX_37 (z := 53 + a.toNatClampNeg) (q := 23) C rfl (inb_in g6) dX4_lacksRoom_22 rfl ?_
      refine V_iload (q := 25) C dX4_lacksRoom_23 rfl 4 rfl ?_
      obtain ⟨g7, hf⟩ := gd_s hf
      refine RXr1 (z := x2.toNatClampNeg) (q := 26) C (hXr1 (inb_in g6)).1 (hXr1 (inb_in g6)).2 rfl (inb_in g7) dX4_lacksRoom_25 rfl ?_
      obtain ⟨g8, hf⟩ := gd_s hf
      refine RX_39 (z := (σ3 (53 + a.toNatClampNeg) x2.toNatClampNeg).toNatClampNeg) (q := 27) C rfl (inb_in g8) dX4_lacksRoom_26 rfl ?_
      refine V_iadd (q := 28) C dX4_lacksRoom_27 rfl ?_
      refine V_let (cv := Value.int) hf (fun x9 hf => ?_)
      refine V_istore_n (L' := [(3, .int x9), (0, .ref (ad 2)), (1, .int a), (2, .int b), (4, .int x2)]) (q := 29) C dX4_lacksRoom_28 rfl rfl (by decide) rfl ?_
      refine V_iinc (L' := [(4, .int (x2 + (1 : Int32))), (3, .int x9), (0, .ref (ad 2)), (1, .int a), (2, .int b)]) (q := 32) C dX4_lacksRoom_29 rfl 4 rfl (congrArg (fun y => x2 + y) ic_1) (by decide) rfl ?_
      refine V_goto (t := 5) C dX4_lacksRoom_32 (by decide) ?_
      refine V_sub (L' := [(0, .ref (ad 2)), (1, .int a), (2, .int b), (3, .int x9), (4, .int (x2 + (1 : Int32)))]) [2, 3, 4, 1, 0] rfl ?_
      exact ih _ _ _ hf
set_option maxHeartbeats 4000000 in
theorem conX4_lacksRoom (l : Launch) (G : Gx) (ad : Nat → Nat) (a : Int32) (b : Int32) (σ : Sg) (r : Int32) (σf : Sg)  (hf : fX4_lacksRoom a b σ = some (r, σf)) : Con wX l G ad yX4_lacksRoom (Cond.code yX4_lacksRoom cX4_lacksRoom 5 (some .boolean)) rmX4_lacksRoom 0 0 [.ref (ad 2), .int a, .int b] σ (some (.int r)) σf := by
  refine Con.start (by decide) (Nat.le_of_ble_eq_true rfl) (fun X Q _ C F => ?_)
  refine V_eq (L' := [(0, .ref (ad 2)), (1, .int a), (2, .int b)]) (st' := []) rfl rfl rfl ?_
  unfold fX4_lacksRoom at hf
  refine V_iconst (v := 0) (q := 1) C dX4_lacksRoom_0 rfl ic_0 ?_
  refine V_istore_n (L' := [(3, .int (0 : Int32)), (0, .ref (ad 2)), (1, .int a), (2, .int b)]) (q := 2) C dX4_lacksRoom_1 rfl rfl (by decide) rfl ?_
  refine V_iconst (v := 0) (q := 3) C dX4_lacksRoom_2 rfl ic_0 ?_
  refine V_istore (L' := [(4, .int (0 : Int32)), (3, .int (0 : Int32)), (0, .ref (ad 2)), (1, .int a), (2, .int b)]) (q := 5) C dX4_lacksRoom_3 rfl (by decide) rfl ?_
  refine V_sub (L' := [(0, .ref (ad 2)), (1, .int a), (2, .int b), (3, .int (0 : Int32)), (4, .int (0 : Int32))]) [2, 3, 4, 1, 0] rfl ?_
  refine wlX4_lacksRoom_5 C F a b _ (fun y4 σ10 hf => ?_) FU _ _ _ hf
  refine V_iload_n (q := 36) C dX4_lacksRoom_35 rfl rfl 1 rfl ?_
  refine V_iload_n (q := 37) C dX4_lacksRoom_36 rfl rfl 0 rfl ?_
  refine V_callS (av := [.int b]) (st := [.int y4]) (st1 := [.int (pJ6_bitCount_0f7a4 b), .int y4]) (q := 40) C (conJ6_bitCount_0f7a4 _ _ _ _ _ _ rfl) q_727 q_126 q_799 q_726 nmJ6_bitCount_0f7a4 (by decide) rfl rfl (Nat.le_of_ble_eq_true rfl) dX4_lacksRoom_37 rfl rfl ?_
  refine V_icmp_ge (t := 47) (q := 43) C dX4_lacksRoom_40 (by decide) rfl (fun c11 => ?_) (fun c11 => ?_)
  · replace hf := (ite_s hf).1 c11
    refine V_iconst (v := 0) (q := 48) C dX4_lacksRoom_47 rfl ic_0 ?_
    obtain ⟨e1, e2⟩ := pr_s hf
    subst e1; subst e2
    exact V_zret C F (by decide) (by decide) (by decide) dX4_lacksRoom_48
  · replace hf := (ite_s hf).2 c11
    refine V_iconst (v := 1) (q := 44) C dX4_lacksRoom_43 rfl ic_1 ?_
    refine V_goto (t := 48) C dX4_lacksRoom_44 (by decide) ?_
    obtain ⟨e1, e2⟩ := pr_s hf
    subst e1; subst e2
    exact V_zret C F (by decide) (by decide) (by decide) dX4_lacksRoom_48
def rmX3_hasNextIn : Room := { frames := 1, cells := 0, slots := 0, locals := 21 }
def fX3_hasNextIn_2 (a : Int32) : Nat → Int32 → Sg → Option (Int32 × Sg)
  | 0, _, _ => none
  | n + 1, x1, σ2 => if (σ2 3 6) ≤ x1 then (some ((0 : Int32), σ2)) else (jp (fun (σ4 : Sg) => fX3_hasNextIn_2 a n (x1 + (1 : Int32)) σ4) (fun (J31 : Sg → Option (Int32 × Sg)) => if (pX6_contains a x1) = 0 then (J31  σ2) else (gd (inb x1 12) (if ((σ2 16 x1.toNatClampNeg) &&& a) = 0 then (J31  σ2) else (some ((1 : Int32), σ2))))))
def fX3_hasNextIn (a : Int32) (σ : Sg) : Option (Int32 × Sg) := fX3_hasNextIn_2 a FU (0 : Int32) σ
set_option maxHeartbeats 4000000 in
theorem wlX3_hasNextIn_2 {X : Cx} {G : Gx} {ad : Nat → Nat} {Q : State → Prop} {r : Int32} {σf : Sg} (C : OK wX X G ad RX3 cX3_hasNextIn 3 rmX3_hasNextIn) (F : FinR wX X G ad Q 0 0 (some .boolean) (some (.int r)) σf) (a : Int32) : ∀ (n : Nat) (x1 : Int32) (σ2 : Sg), fX3_hasNextIn_2 a n x1 σ2 = some (r, σf) → V wX X G ad 3 Q 0 0 σ2 2 [(0, .ref (ad 3)), (1, .int a), (2, .int x1)] [] := by
  intro n
  induction n with
  | zero =>
    intro _ _ hf
    exact absurd hf (by simp [fX3_hasNextIn_2])
  | succ n ih =>
    intro x1 σ2 hf
    rw [fX3_hasNextIn_2] at hf
    refine V_iload_n (q := 3) C dX3_hasNextIn_2 rfl rfl 2 rfl ?_
    refine V_aload_n (q := 4) C dX3_hasNextIn_3 rfl rfl 0 rfl ?_
    refine GX_3_6 (q := 7) C q_178 dX3_hasNextIn_4 rfl ?_
    refine V_icmp_ge (t := 37) (q := 10) C dX3_hasNextIn_7 (by decide) rfl (fun c3 => ?_) (fun c3 => ?_)
    · replace hf := (ite_s hf).1 c3
      refine V_iconst (v := 0) (q := 38) C dX3_hasNextIn_37 rfl ic_0 ?_
      obtain ⟨e1, e2⟩ := pr_s hf
      subst e1; subst e2
      exact V_zret C F (by decide) (by decide) (by decide) dX3_hasNextIn_38
    · replace hf := (ite_s hf).2 c3
      refine V_iload_n (q := 11) C dX3_hasNextIn_10 rfl rfl 1 rfl ?_
      refine V_iload_n (q := 12) C dX3_hasNextIn_11 rfl rfl 2 rfl ?_
      refine V_callSN (av := [.int a, .int x1]) (st := []) (st1 := [.int (pX6_contains a x1)]) (q := 15) C (conX6_contains _ _ _ _ _ _ _ rfl) q_612 q_107 q_829 q_611 nmX6_contains (by decide) rfl rfl (Nat.le_of_ble_eq_true rfl) dX3_hasNextIn_12 rfl rfl ?_
      obtain ⟨J31, eJ31, hf⟩ := jp_s hf
      have hJ31 : ∀ (σ4 : Sg), J31 σ4 = some (r, σf) → V wX X G ad 3 Q 0 0 σ4 31 [(0, .ref (ad 3)), (1, .int a), (2, .int x1)] [] := by
        intro σ4 hf
        subst eJ31
        refine V_iinc (L' := [(2, .int (x1 + (1 : Int32))), (0, .ref (ad 3)), (1, .int a)]) (q := 34) C dX3_hasNextIn_31 rfl 2 rfl (congrArg (fun y => x1 + y) ic_1) (by decide) rfl ?_
        refine V_goto (t := 2) C dX3_hasNextIn_34 (by decide) ?_
        refine V_sub (L' := [(0, .ref (ad 3)), (1, .int a), (2, .int (x1 + (1 : Int32)))]) [1, 2, 0] rfl ?_
        exact ih _ _ hf
      refine V_if_eq (t := 31) (q := 18) C dX3_hasNextIn_15 (by decide) rfl (fun c5 => ?_) (fun c5 => ?_)
      · replace hf := (ite_s hf).1 c5
        exact hJ31 _ hf
      · replace hf := (ite_s hf).2 c5
        refine V_aload_n (q := 19) C dX3_hasNextIn_18 rfl rfl 0 rfl ?_
        refine GX_3_5 (q := 22) C q_174 dX3_hasNextIn_19 rfl ?_
        refine V_iload_n (q := 23) C dX3_hasNextIn_22 rfl rfl 2 rfl ?_
        obtain ⟨g6, hf⟩ := gd_s hf
        refine RX_16 (z := x1.toNatClampNeg) (q := 24) C rfl (inb_in g6) dX3_hasNextIn_23 rfl ?_
        refine V_iload_n (q := 25) C dX3_hasNextIn_24 rfl rfl 1 rfl ?_
        refine V_iand (q := 26) C dX3_hasNextIn_25 rfl ?_
        refine V_if_eq (t := 31) (q := 29) C dX3_hasNextIn_26 (by decide) rfl (fun c7 => ?_) (fun c7 => ?_)
        · replace hf := (ite_s hf).1 c7
          exact hJ31 _ hf
        · replace hf := (ite_s hf).2 c7
          refine V_iconst (v := 1) (q := 30) C dX3_hasNextIn_29 rfl ic_1 ?_
          obtain ⟨e1, e2⟩ := pr_s hf
          subst e1; subst e2
          exact V_zret C F (by decide) (by decide) (by decide) dX3_hasNextIn_30
set_option maxHeartbeats 4000000 in
theorem conX3_hasNextIn (l : Launch) (G : Gx) (ad : Nat → Nat) (a : Int32) (σ : Sg) (r : Int32) (σf : Sg)  (hf : fX3_hasNextIn a σ = some (r, σf)) : Con wX l G ad yX3_hasNextIn (Cond.code yX3_hasNextIn cX3_hasNextIn 3 (some .boolean)) rmX3_hasNextIn 0 0 [.ref (ad 3), .int a] σ (some (.int r)) σf := by
  refine Con.start (by decide) (Nat.le_of_ble_eq_true rfl) (fun X Q _ C F => ?_)
  refine V_eq (L' := [(0, .ref (ad 3)), (1, .int a)]) (st' := []) rfl rfl rfl ?_
  unfold fX3_hasNextIn at hf
  refine V_iconst (v := 0) (q := 1) C dX3_hasNextIn_0 rfl ic_0 ?_
  refine V_istore_n (L' := [(2, .int (0 : Int32)), (0, .ref (ad 3)), (1, .int a)]) (q := 2) C dX3_hasNextIn_1 rfl rfl (by decide) rfl ?_
  refine V_sub (L' := [(0, .ref (ad 3)), (1, .int a), (2, .int (0 : Int32))]) [1, 2, 0] rfl ?_
  refine wlX3_hasNextIn_2 C F a FU _ _ hf
def rmX4_give : Room := { frames := 1, cells := 0, slots := 0, locals := 21 }
def fX4_give_17 (b : Int32) (c : Int32) (x2 : Int32) : Nat → Int32 → Sg → Option (Unit × Sg)
  | 0, _, _ => none
  | n + 1, x3, σ4 => if (σ4 3 6) ≤ x3 then (some ((), σ4)) else (gd (inb b 12) (jp (fun (v7 : Int32) (σ8 : Sg) => gd (inb b 12) (jp (fun (y10 : Int32) (σ11 : Sg) => gd (inb (c + (1 : Int32)) 12) (gd (inb c 12) (gd (inb x3 12) (gd (inb x3 12) (lt' (sup σ11 (41 + (c + (1 : Int32)).toNatClampNeg) x3.toNatClampNeg ((σ11 (41 + c.toNatClampNeg) x3.toNatClampNeg) &&& (y10 ^^^ (-1 : Int32)))) (fun (σ16 : Sg) => fX4_give_17 b c x2 n (x3 + (1 : Int32)) σ16)))))) (fun (J85 : Int32 → Sg → Option (Unit × Sg)) => if (pX6_contains (σ8 16 b.toNatClampNeg) x3) = 0 then (J85 v7 σ8) else (lt' ((v7 ||| ((x2 <<< ((1 : Int32) &&& 31)) ||| (x2 >>> ((1 : Int32) &&& 31))))) (fun (x18 : Int32) => J85 x18 σ8))))) (fun (J52 : Int32 → Sg → Option (Unit × Sg)) => if (pX6_contains (σ4 15 b.toNatClampNeg) x3) = 0 then (J52 (0 : Int32) σ4) else (J52 x2 σ4))))
def fX4_give (a : Int32) (b : Int32) (c : Int32) (σ : Sg) : Option (Unit × Sg) := if (c + (1 : Int32)) < (12 : Int32) then (lt' (((1 : Int32) <<< (a &&& 31))) (fun (x2 : Int32) => fX4_give_17 b c x2 FU (0 : Int32) σ)) else (some ((), σ))
set_option maxHeartbeats 4000000 in
theorem wlX4_give_17 {X : Cx} {G : Gx} {ad : Nat → Nat} {Q : State → Prop} {σf : Sg} (C : OK wX X G ad RX4 cX4_give 7 rmX4_give) (F : FinR wX X G ad Q 0 0 none none σf) (b : Int32) (c : Int32) (x2 : Int32) : ∀ (n : Nat) (x3 : Int32) (σ4 : Sg), fX4_give_17 b c x2 n x3 σ4 = some ((), σf) → V wX X G ad 7 Q 0 0 σ4 17 [(0, .ref (ad 2)), (2, .int b), (3, .int c), (4, .int x2), (5, .int x3)] [] := by
  intro n
  induction n with
  | zero =>
    intro _ _ hf
    exact absurd hf (by simp [fX4_give_17])
  | succ n ih =>
    intro x3 σ4 hf
    rw [fX4_give_17] at hf
    refine V_iload (q := 19) C dX4_give_17 rfl 4 rfl ?_
    refine V_aload_n (q := 20) C dX4_give_19 rfl rfl 0 rfl ?_
    refine GX_2_0 (q := 23) C q_212 dX4_give_20 rfl ?_
    refine GNX_3_6 (q := 26) C q_182 dX4_give_23 rfl ?_
    refine V_icmp_ge (t := 116) (q := 29) C dX4_give_26 (by decide) rfl (fun c5 => ?_) (fun c5 => ?_)
    · replace hf := (ite_s hf).1 c5
      obtain ⟨-, e2⟩ := pr_s hf
      subst e2
      exact V_vret C F (by decide) (by decide) dX4_give_116
    · replace hf := (ite_s hf).2 c5
      refine V_aload_n (q := 30) C dX4_give_29 rfl rfl 0 rfl ?_
      refine GX_2_0 (q := 33) C q_212 dX4_give_30 rfl ?_
      refine GNX_3_4 (q := 36) C q_173 dX4_give_33 rfl ?_
      refine V_iload_n (q := 37) C dX4_give_36 rfl rfl 1 rfl ?_
      obtain ⟨g6, hf⟩ := gd_s hf
      refine RX_15 (z := b.toNatClampNeg) (q := 38) C rfl (inb_in g6) dX4_give_37 rfl ?_
      refine V_iload (q := 40) C dX4_give_38 rfl 4 rfl ?_
      refine V_callSN (av := [.int (σ4 15 b.toNatClampNeg), .int x3]) (st := []) (st1 := [.int (pX6_contains (σ4 15 b.toNatClampNeg) x3)]) (q := 43) C (conX6_contains _ _ _ _ _ _ _ rfl) q_612 q_107 q_798 q_611 nmX6_contains (by decide) rfl rfl (Nat.le_of_ble_eq_true rfl) dX4_give_40 rfl rfl ?_
      obtain ⟨J52, eJ52, hf⟩ := jp_s hf
      have hJ52 : ∀ (v7 : Int32) (σ8 : Sg), J52 v7 σ8 = some ((), σf) → V wX X G ad 7 Q 0 0 σ8 52 [(0, .ref (ad 2)), (2, .int b), (3, .int c), (4, .int x2), (5, .int x3)] [.int v7] := by
        intro v7 σ8 hf
        subst eJ52
        refine V_istore (L' := [(6, .int v7), (0, .ref (ad 2)), (2, .int b), (3, .int c), (4, .int x2), (5, .int x3)]) (q := 54) C dX4_give_52 rfl (by decide) rfl ?_
        refine V_aload_n (q := 55) C dX4_give_54 rfl rfl 1 rfl ?_
        refine GX_2_0 (q := 58) C q_212 dX4_give_55 rfl ?_
        refine GNX_3_5 (q := 61) C q_177 dX4_give_58 rfl ?_
        refine V_iload_n (q := 62) C dX4_give_61 rfl rfl 2 rfl ?_
        obtain ⟨g9, hf⟩ := gd_s hf
        refine RX_16 (z := b.toNatClampNeg) (q := 63) C rfl (inb_in g9) dX4_give_62 rfl ?_
        refine V_iload (q := 65) C dX4_give_63 rfl 5 rfl ?_
        refine V_callSN (av := [.int (σ8 16 b.toNatClampNeg), .int x3]) (st := []) (st1 := [.int (pX6_contains (σ8 16 b.toNatClampNeg) x3)]) (q := 68) C (conX6_contains _ _ _ _ _ _ _ rfl) q_612 q_107 q_798 q_611 nmX6_contains (by decide) rfl rfl (Nat.le_of_ble_eq_true rfl) dX4_give_65 rfl rfl ?_
        obtain ⟨J85, eJ85, hf⟩ := jp_s hf
        have hJ85 : ∀ (y10 : Int32) (σ11 : Sg), J85 y10 σ11 = some ((), σf) → V wX X G ad 7 Q 0 0 σ11 85 [(0, .ref (ad 2)), (2, .int b), (3, .int c), (4, .int x2), (5, .int x3), (6, .int y10)] [] := by
          intro y10 σ11 hf
          subst eJ85
          refine V_aload_n (q := 86) C dX4_give_85 rfl rfl 0 rfl ?_
          refine GX_2_2 (q := 89) C q_216 dX4_give_86 rfl ?_
          refine V_iload_n (q := 90) C dX4_give_89 rfl rfl 2 rfl ?_
          refine V_iconst (v := 1) (q := 91) C dX4_give_90 rfl ic_1 ?_
          refine V_iadd (q := 92) C dX4_give_91 rfl ?_
          obtain ⟨g12, hf⟩ := gd_s hf
          refine AX_36 (z := 41 + (c + (1 : Int32)).toNatClampNeg) (q := 93) C rfl (inb_in g12) dX4_give_92 rfl ?_
          refine V_iload (q := 95) C dX4_give_93 rfl 4 rfl ?_
          refine V_aload_n (q := 96) C dX4_give_95 rfl rfl 0 rfl ?_
          refine GX_2_2 (q := 99) C q_216 dX4_give_96 rfl ?_
          refine V_iload_n (q := 100) C dX4_give_99 rfl rfl 2 rfl ?_
          obtain ⟨g13, hf⟩ := gd_s hf
          refine AX_36 (z := 41 + c.toNatClampNeg) (q := 101) C rfl (inb_in g13) dX4_give_100 rfl ?_
          refine V_iload (q := 103) C dX4_give_101 rfl 4 rfl ?_
          obtain ⟨g14, hf⟩ := gd_s hf
          refine RXr0 (z := x3.toNatClampNeg) (q := 104) C (hXr0 (inb_in g13)).1 (hXr0 (inb_in g13)).2 rfl (inb_in g14) dX4_give_103 rfl ?_
          refine V_iload (q := 106) C dX4_give_104 rfl 5 rfl ?_
          refine V_iconst (v := (-1)) (q := 107) C dX4_give_106 rfl ic_m1 ?_
          refine V_ixor (q := 108) C dX4_give_107 rfl ?_
          refine V_iand (q := 109) C dX4_give_108 rfl ?_
          obtain ⟨g15, hf⟩ := gd_s hf
          refine SXr0 (z := x3.toNatClampNeg) (q := 110) C (hXr0 (inb_in g12)).1 (hXr0 (inb_in g12)).2 rfl (inb_in g15) dX4_give_109 rfl ?_
          refine V_lets hf (fun σ16 hf => ?_)
          refine V_iinc (L' := [(5, .int (x3 + (1 : Int32))), (0, .ref (ad 2)), (2, .int b), (3, .int c), (4, .int x2), (6, .int y10)]) (q := 113) C dX4_give_110 rfl 4 rfl (congrArg (fun y => x3 + y) ic_1) (by decide) rfl ?_
          refine V_goto (t := 17) C dX4_give_113 (by decide) ?_
          refine V_sub (L' := [(0, .ref (ad 2)), (2, .int b), (3, .int c), (4, .int x2), (5, .int (x3 + (1 : Int32)))]) [1, 2, 3, 4, 0] rfl ?_
          exact ih _ _ hf
        refine V_if_eq (t := 85) (q := 71) C dX4_give_68 (by decide) rfl (fun c17 => ?_) (fun c17 => ?_)
        · replace hf := (ite_s hf).1 c17
          refine V_sub (L' := [(0, .ref (ad 2)), (2, .int b), (3, .int c), (4, .int x2), (5, .int x3), (6, .int v7)]) [1, 2, 3, 4, 5, 0] rfl ?_
          exact hJ85 _ _ hf
        · replace hf := (ite_s hf).2 c17
          refine V_iload (q := 73) C dX4_give_71 rfl 0 rfl ?_
          refine V_iload (q := 75) C dX4_give_73 rfl 4 rfl ?_
          refine V_iconst (v := 1) (q := 76) C dX4_give_75 rfl ic_1 ?_
          refine V_ishl (q := 77) C dX4_give_76 rfl ?_
          refine V_iload (q := 79) C dX4_give_77 rfl 4 rfl ?_
          refine V_iconst (v := 1) (q := 80) C dX4_give_79 rfl ic_1 ?_
          refine V_ishr (q := 81) C dX4_give_80 rfl ?_
          refine V_ior (q := 82) C dX4_give_81 rfl ?_
          refine V_ior (q := 83) C dX4_give_82 rfl ?_
          refine V_let (cv := Value.int) hf (fun x18 hf => ?_)
          refine V_istore (L' := [(6, .int x18), (0, .ref (ad 2)), (2, .int b), (3, .int c), (4, .int x2), (5, .int x3)]) (q := 85) C dX4_give_83 rfl (by decide) rfl ?_
          refine V_sub (L' := [(0, .ref (ad 2)), (2, .int b), (3, .int c), (4, .int x2), (5, .int x3), (6, .int x18)]) [1, 2, 3, 4, 5, 0] rfl ?_
          exact hJ85 _ _ hf
      refine V_if_eq (t := 51) (q := 46) C dX4_give_43 (by decide) rfl (fun c19 => ?_) (fun c19 => ?_)
      · replace hf := (ite_s hf).1 c19
        refine V_iconst (v := 0) (q := 52) C dX4_give_51 rfl ic_0 ?_
        exact hJ52 _ _ hf
      · replace hf := (ite_s hf).2 c19
        refine V_iload (q := 48) C dX4_give_46 rfl 3 rfl ?_
        refine V_goto (t := 52) C dX4_give_48 (by decide) ?_
        exact hJ52 _ _ hf
set_option maxHeartbeats 4000000 in
theorem conX4_give (l : Launch) (G : Gx) (ad : Nat → Nat) (a : Int32) (b : Int32) (c : Int32) (σ : Sg) (σf : Sg)  (hf : fX4_give a b c σ = some ((), σf)) : Con wX l G ad yX4_give (Cond.code yX4_give cX4_give 7 none) rmX4_give 0 0 [.ref (ad 2), .int a, .int b, .int c] σ none σf := by
  refine Con.start (by decide) (Nat.le_of_ble_eq_true rfl) (fun X Q _ C F => ?_)
  refine V_eq (L' := [(0, .ref (ad 2)), (1, .int a), (2, .int b), (3, .int c)]) (st' := []) rfl rfl rfl ?_
  unfold fX4_give at hf
  refine V_iload_n (q := 1) C dX4_give_0 rfl rfl 3 rfl ?_
  refine V_iconst (v := 1) (q := 2) C dX4_give_1 rfl ic_1 ?_
  refine V_iadd (q := 3) C dX4_give_2 rfl ?_
  refine V_bipush (v := 12) (q := 5) C dX4_give_3 rfl bc_12 ?_
  refine V_icmp_lt (t := 9) (q := 8) C dX4_give_5 (by decide) rfl (fun c1 => ?_) (fun c1 => ?_)
  · replace hf := (ite_s hf).1 c1
    refine V_iconst (v := 1) (q := 10) C dX4_give_9 rfl ic_1 ?_
    refine V_iload_n (q := 11) C dX4_give_10 rfl rfl 1 rfl ?_
    refine V_ishl (q := 12) C dX4_give_11 rfl ?_
    refine V_let (cv := Value.int) hf (fun x2 hf => ?_)
    refine V_istore (L' := [(4, .int x2), (0, .ref (ad 2)), (1, .int a), (2, .int b), (3, .int c)]) (q := 14) C dX4_give_12 rfl (by decide) rfl ?_
    refine V_iconst (v := 0) (q := 15) C dX4_give_14 rfl ic_0 ?_
    refine V_istore (L' := [(5, .int (0 : Int32)), (4, .int x2), (0, .ref (ad 2)), (1, .int a), (2, .int b), (3, .int c)]) (q := 17) C dX4_give_15 rfl (by decide) rfl ?_
    refine V_sub (L' := [(0, .ref (ad 2)), (2, .int b), (3, .int c), (4, .int x2), (5, .int (0 : Int32))]) [2, 4, 5, 1, 0] rfl ?_
    refine wlX4_give_17 C F b c x2 FU _ _ hf
  · replace hf := (ite_s hf).2 c1
    obtain ⟨-, e2⟩ := pr_s hf
    subst e2
    exact V_vret C F (by decide) (by decide) dX4_give_8
def rmX4_twinOf : Room := { frames := 1, cells := 0, slots := 0, locals := 21 }
def fX4_twinOf_3 (a : Int32) (b : Int32) (c : Int32) : Nat → Int32 → Sg → Option (Int32 × Sg)
  | 0, _, _ => none
  | n + 1, x1, σ2 => if a ≤ x1 then (some ((-1 : Int32), σ2)) else (jp (fun (σ4 : Sg) => fX4_twinOf_3 a b c n (x1 + (1 : Int32)) σ4) (fun (J41 : Sg → Option (Int32 × Sg)) => if (pX6_contains b x1) = 0 then (J41  σ2) else (gd (inb c 12) (gd (inb x1 8) (gd (inb c 12) (gd (inb a 8) (if (σ2 (53 + c.toNatClampNeg) x1.toNatClampNeg) = (σ2 (53 + c.toNatClampNeg) a.toNatClampNeg) then (some (x1, σ2)) else (J41  σ2))))))))
def fX4_twinOf (a : Int32) (b : Int32) (c : Int32) (σ : Sg) : Option (Int32 × Sg) := fX4_twinOf_3 a b c FU (0 : Int32) σ
set_option maxHeartbeats 4000000 in
theorem wlX4_twinOf_3 {X : Cx} {G : Gx} {ad : Nat → Nat} {Q : State → Prop} {r : Int32} {σf : Sg} (C : OK wX X G ad RX4 cX4_twinOf 5 rmX4_twinOf) (F : FinR wX X G ad Q 0 0 (some .int) (some (.int r)) σf) (a : Int32) (b : Int32) (c : Int32) : ∀ (n : Nat) (x1 : Int32) (σ2 : Sg), fX4_twinOf_3 a b c n x1 σ2 = some (r, σf) → V wX X G ad 5 Q 0 0 σ2 3 [(0, .ref (ad 2)), (1, .int a), (2, .int b), (3, .int c), (4, .int x1)] [] := by
  intro n
  induction n with
  | zero =>
    intro _ _ hf
    exact absurd hf (by simp [fX4_twinOf_3])
  | succ n ih =>
    intro x1 σ2 hf
    rw [fX4_twinOf_3] at hf
    refine V_iload (q := 5) C dX4_twinOf_3 rfl 4 rfl ?_
    refine V_iload_n (q := 6) C dX4_twinOf_5 rfl rfl 1 rfl ?_
    refine V_icmp_ge (t := 47) (q := 9) C dX4_twinOf_6 (by decide) rfl (fun c3 => ?_) (fun c3 => ?_)
    · replace hf := (ite_s hf).1 c3
      refine V_iconst (v := (-1)) (q := 48) C dX4_twinOf_47 rfl ic_m1 ?_
      obtain ⟨e1, e2⟩ := pr_s hf
      subst e1; subst e2
      exact V_iret C F (by decide) (by decide) dX4_twinOf_48
    · replace hf := (ite_s hf).2 c3
      refine V_iload_n (q := 10) C dX4_twinOf_9 rfl rfl 2 rfl ?_
      refine V_iload (q := 12) C dX4_twinOf_10 rfl 4 rfl ?_
      refine V_callSN (av := [.int b, .int x1]) (st := []) (st1 := [.int (pX6_contains b x1)]) (q := 15) C (conX6_contains _ _ _ _ _ _ _ rfl) q_612 q_107 q_798 q_611 nmX6_contains (by decide) rfl rfl (Nat.le_of_ble_eq_true rfl) dX4_twinOf_12 rfl rfl ?_
      obtain ⟨J41, eJ41, hf⟩ := jp_s hf
      have hJ41 : ∀ (σ4 : Sg), J41 σ4 = some (r, σf) → V wX X G ad 5 Q 0 0 σ4 41 [(0, .ref (ad 2)), (1, .int a), (2, .int b), (3, .int c), (4, .int x1)] [] := by
        intro σ4 hf
        subst eJ41
        refine V_iinc (L' := [(4, .int (x1 + (1 : Int32))), (0, .ref (ad 2)), (1, .int a), (2, .int b), (3, .int c)]) (q := 44) C dX4_twinOf_41 rfl 4 rfl (congrArg (fun y => x1 + y) ic_1) (by decide) rfl ?_
        refine V_goto (t := 3) C dX4_twinOf_44 (by decide) ?_
        refine V_sub (L' := [(0, .ref (ad 2)), (1, .int a), (2, .int b), (3, .int c), (4, .int (x1 + (1 : Int32)))]) [1, 2, 3, 4, 0] rfl ?_
        exact ih _ _ hf
      refine V_if_eq (t := 41) (q := 18) C dX4_twinOf_15 (by decide) rfl (fun c5 => ?_) (fun c5 => ?_)
      · replace hf := (ite_s hf).1 c5
        exact hJ41 _ hf
      · replace hf := (ite_s hf).2 c5
        refine V_aload_n (q := 19) C dX4_twinOf_18 rfl rfl 0 rfl ?_
        refine GX_2_3 (q := 22) C q_217 dX4_twinOf_19 rfl ?_
        refine V_iload_n (q := 23) C dX4_twinOf_22 rfl rfl 3 rfl ?_
        obtain ⟨g6, hf⟩ := gd_s hf
        refine AX_37 (z := 53 + c.toNatClampNeg) (q := 24) C rfl (inb_in g6) dX4_twinOf_23 rfl ?_
        refine V_iload (q := 26) C dX4_twinOf_24 rfl 4 rfl ?_
        obtain ⟨g7, hf⟩ := gd_s hf
        refine RXr1 (z := x1.toNatClampNeg) (q := 27) C (hXr1 (inb_in g6)).1 (hXr1 (inb_in g6)).2 rfl (inb_in g7) dX4_twinOf_26 rfl ?_
        refine V_aload_n (q := 28) C dX4_twinOf_27 rfl rfl 0 rfl ?_
        refine GX_2_3 (q := 31) C q_217 dX4_twinOf_28 rfl ?_
        refine V_iload_n (q := 32) C dX4_twinOf_31 rfl rfl 3 rfl ?_
        obtain ⟨g8, hf⟩ := gd_s hf
        refine AX_37 (z := 53 + c.toNatClampNeg) (q := 33) C rfl (inb_in g8) dX4_twinOf_32 rfl ?_
        refine V_iload_n (q := 34) C dX4_twinOf_33 rfl rfl 1 rfl ?_
        obtain ⟨g9, hf⟩ := gd_s hf
        refine RXr1 (z := a.toNatClampNeg) (q := 35) C (hXr1 (inb_in g8)).1 (hXr1 (inb_in g8)).2 rfl (inb_in g9) dX4_twinOf_34 rfl ?_
        refine V_icmp_ne (t := 41) (q := 38) C dX4_twinOf_35 (by decide) rfl (fun c10 => ?_) (fun c10 => ?_)
        · replace hf := (ite_s hf).2 c10
          exact hJ41 _ hf
        · replace hf := (ite_s hf).1 c10
          refine V_iload (q := 40) C dX4_twinOf_38 rfl 4 rfl ?_
          obtain ⟨e1, e2⟩ := pr_s hf
          subst e1; subst e2
          exact V_iret C F (by decide) (by decide) dX4_twinOf_40
set_option maxHeartbeats 4000000 in
theorem conX4_twinOf (l : Launch) (G : Gx) (ad : Nat → Nat) (a : Int32) (b : Int32) (c : Int32) (σ : Sg) (r : Int32) (σf : Sg)  (hf : fX4_twinOf a b c σ = some (r, σf)) : Con wX l G ad yX4_twinOf (Cond.code yX4_twinOf cX4_twinOf 5 (some .int)) rmX4_twinOf 0 0 [.ref (ad 2), .int a, .int b, .int c] σ (some (.int r)) σf := by
  refine Con.start (by decide) (Nat.le_of_ble_eq_true rfl) (fun X Q _ C F => ?_)
  refine V_eq (L' := [(0, .ref (ad 2)), (1, .int a), (2, .int b), (3, .int c)]) (st' := []) rfl rfl rfl ?_
  unfold fX4_twinOf at hf
  refine V_iconst (v := 0) (q := 1) C dX4_twinOf_0 rfl ic_0 ?_
  refine V_istore (L' := [(4, .int (0 : Int32)), (0, .ref (ad 2)), (1, .int a), (2, .int b), (3, .int c)]) (q := 3) C dX4_twinOf_1 rfl (by decide) rfl ?_
  refine V_sub (L' := [(0, .ref (ad 2)), (1, .int a), (2, .int b), (3, .int c), (4, .int (0 : Int32))]) [1, 2, 3, 4, 0] rfl ?_
  refine wlX4_twinOf_3 C F a b c FU _ _ hf
def rmX4_measureSharing : Room := { frames := 1, cells := 0, slots := 0, locals := 48 }
def fX4_measureSharing_35 (x2 : Int32) (x6 : Int32) (K : Sg → Option (Unit × Sg)) : Nat → Int32 → Sg → Option (Unit × Sg)
  | 0, _, _ => none
  | n + 1, x7, σ8 => if ((1 : Int32) <<< (x2 &&& 31)) ≤ x7 then (K σ8) else (gd (inb x7 4096) (gd (inb (x7 &&& x6) 4096) (gd (inb (x7 ||| ((1 : Int32) <<< (x2 &&& 31))) 4096) (lt' (sup σ8 39 ((x7 ||| ((1 : Int32) <<< (x2 &&& 31))).toNatClampNeg) (if (σ8 39 x7.toNatClampNeg) < ((1 : Int32) + (σ8 39 ((x7 &&& x6).toNatClampNeg))) then ((1 : Int32) + (σ8 39 ((x7 &&& x6).toNatClampNeg))) else (σ8 39 x7.toNatClampNeg))) (fun (σ13 : Sg) => fX4_measureSharing_35 x2 x6 K n (x7 + (1 : Int32)) σ13)))))
def fX4_measureSharing_10 : Nat → Int32 → Sg → Option (Unit × Sg)
  | 0, _, _ => none
  | n + 1, x2, σ3 => if (σ3 3 6) ≤ x2 then (some ((), σ3)) else (gd (inb x2 12) (lt' (((σ3 15 x2.toNatClampNeg) ^^^ (-1 : Int32))) (fun (x6 : Int32) => fX4_measureSharing_35 x2 x6 (fun (σ14 : Sg) => fX4_measureSharing_10 n (x2 + (1 : Int32)) σ14) FU (0 : Int32) σ3)))
def fX4_measureSharing  (σ : Sg) : Option (Unit × Sg) := lt' (sup σ 2 6 (σ 2 8)) (fun (σ1 : Sg) => fX4_measureSharing_10 FU (0 : Int32) σ1)
set_option maxHeartbeats 4000000 in
theorem wlX4_measureSharing_35 {X : Cx} {G : Gx} {ad : Nat → Nat} {Q : State → Prop} {σf : Sg} (C : OK wX X G ad RX4 cX4_measureSharing 4 rmX4_measureSharing) (F : FinR wX X G ad Q 0 0 none none σf) (x2 : Int32) (x6 : Int32) (K : Sg → Option (Unit × Sg)) (hK : ∀ (σk : Sg), K σk = some ((), σf) → V wX X G ad 4 Q 0 0 σk 77 [(0, .ref (ad 2)), (1, .int x2)] []) : ∀ (n : Nat) (x7 : Int32) (σ8 : Sg), fX4_measureSharing_35 x2 x6 K n x7 σ8 = some ((), σf) → V wX X G ad 4 Q 0 0 σ8 35 [(0, .ref (ad 2)), (1, .int x2), (2, .int x6), (3, .int x7)] [] := by
  intro n
  induction n with
  | zero =>
    intro _ _ hf
    exact absurd hf (by simp [fX4_measureSharing_35])
  | succ n ih =>
    intro x7 σ8 hf
    rw [fX4_measureSharing_35] at hf
    refine V_iload_n (q := 36) C dX4_measureSharing_35 rfl rfl 3 rfl ?_
    refine V_iconst (v := 1) (q := 37) C dX4_measureSharing_36 rfl ic_1 ?_
    refine V_iload_n (q := 38) C dX4_measureSharing_37 rfl rfl 1 rfl ?_
    refine V_ishl (q := 39) C dX4_measureSharing_38 rfl ?_
    refine V_icmp_ge (t := 77) (q := 42) C dX4_measureSharing_39 (by decide) rfl (fun c9 => ?_) (fun c9 => ?_)
    · replace hf := (ite_s hf).1 c9
      refine V_sub (L' := [(0, .ref (ad 2)), (1, .int x2)]) [0, 1] rfl ?_
      exact hK _ hf
    · replace hf := (ite_s hf).2 c9
      refine V_aload_n (q := 43) C dX4_measureSharing_42 rfl rfl 0 rfl ?_
      refine GX_2_5 (q := 46) C q_219 dX4_measureSharing_43 rfl ?_
      refine V_iload_n (q := 47) C dX4_measureSharing_46 rfl rfl 3 rfl ?_
      refine V_iconst (v := 1) (q := 48) C dX4_measureSharing_47 rfl ic_1 ?_
      refine V_iload_n (q := 49) C dX4_measureSharing_48 rfl rfl 1 rfl ?_
      refine V_ishl (q := 50) C dX4_measureSharing_49 rfl ?_
      refine V_ior (q := 51) C dX4_measureSharing_50 rfl ?_
      refine V_aload_n (q := 52) C dX4_measureSharing_51 rfl rfl 0 rfl ?_
      refine GX_2_5 (q := 55) C q_219 dX4_measureSharing_52 rfl ?_
      refine V_iload_n (q := 56) C dX4_measureSharing_55 rfl rfl 3 rfl ?_
      obtain ⟨g10, hf⟩ := gd_s hf
      refine RX_39 (z := x7.toNatClampNeg) (q := 57) C rfl (inb_in g10) dX4_measureSharing_56 rfl ?_
      refine V_iconst (v := 1) (q := 58) C dX4_measureSharing_57 rfl ic_1 ?_
      refine V_aload_n (q := 59) C dX4_measureSharing_58 rfl rfl 0 rfl ?_
      refine GX_2_5 (q := 62) C q_219 dX4_measureSharing_59 rfl ?_
      refine V_iload_n (q := 63) C dX4_measureSharing_62 rfl rfl 3 rfl ?_
      refine V_iload_n (q := 64) C dX4_measureSharing_63 rfl rfl 2 rfl ?_
      refine V_iand (q := 65) C dX4_measureSharing_64 rfl ?_
      obtain ⟨g11, hf⟩ := gd_s hf
      refine RX_39 (z := (x7 &&& x6).toNatClampNeg) (q := 66) C rfl (inb_in g11) dX4_measureSharing_65 rfl ?_
      refine V_iadd (q := 67) C dX4_measureSharing_66 rfl ?_
      refine V_mmax (q := 70) C (q_818) (q_819) q_128 (mc_max) (by decide) (Nat.le_of_ble_eq_true rfl) (by decide) (by decide) dX4_measureSharing_67 rfl ?_
      obtain ⟨g12, hf⟩ := gd_s hf
      refine SX_39 (z := (x7 ||| ((1 : Int32) <<< (x2 &&& 31))).toNatClampNeg) (q := 71) C rfl (inb_in g12) dX4_measureSharing_70 rfl ?_
      refine V_lets hf (fun σ13 hf => ?_)
      refine V_iinc (L' := [(3, .int (x7 + (1 : Int32))), (0, .ref (ad 2)), (1, .int x2), (2, .int x6)]) (q := 74) C dX4_measureSharing_71 rfl 3 rfl (congrArg (fun y => x7 + y) ic_1) (by decide) rfl ?_
      refine V_goto (t := 35) C dX4_measureSharing_74 (by decide) ?_
      refine V_sub (L' := [(0, .ref (ad 2)), (1, .int x2), (2, .int x6), (3, .int (x7 + (1 : Int32)))]) [1, 2, 3, 0] rfl ?_
      exact ih _ _ hf
set_option maxHeartbeats 4000000 in
theorem wlX4_measureSharing_10 {X : Cx} {G : Gx} {ad : Nat → Nat} {Q : State → Prop} {σf : Sg} (C : OK wX X G ad RX4 cX4_measureSharing 4 rmX4_measureSharing) (F : FinR wX X G ad Q 0 0 none none σf) : ∀ (n : Nat) (x2 : Int32) (σ3 : Sg), fX4_measureSharing_10 n x2 σ3 = some ((), σf) → V wX X G ad 4 Q 0 0 σ3 10 [(0, .ref (ad 2)), (1, .int x2)] [] := by
  intro n
  induction n with
  | zero =>
    intro _ _ hf
    exact absurd hf (by simp [fX4_measureSharing_10])
  | succ n ih =>
    intro x2 σ3 hf
    rw [fX4_measureSharing_10] at hf
    refine V_iload_n (q := 11) C dX4_measureSharing_10 rfl rfl 1 rfl ?_
    refine V_aload_n (q := 12) C dX4_measureSharing_11 rfl rfl 0 rfl ?_
    refine GX_2_0 (q := 15) C q_212 dX4_measureSharing_12 rfl ?_
    refine GNX_3_6 (q := 18) C q_182 dX4_measureSharing_15 rfl ?_
    refine V_icmp_ge (t := 83) (q := 21) C dX4_measureSharing_18 (by decide) rfl (fun c4 => ?_) (fun c4 => ?_)
    · replace hf := (ite_s hf).1 c4
      obtain ⟨-, e2⟩ := pr_s hf
      subst e2
      exact V_vret C F (by decide) (by decide) dX4_measureSharing_83
    · replace hf := (ite_s hf).2 c4
      refine V_aload_n (q := 22) C dX4_measureSharing_21 rfl rfl 0 rfl ?_
      refine GX_2_0 (q := 25) C q_212 dX4_measureSharing_22 rfl ?_
      refine GNX_3_4 (q := 28) C q_173 dX4_measureSharing_25 rfl ?_
      refine V_iload_n (q := 29) C dX4_measureSharing_28 rfl rfl 1 rfl ?_
      obtain ⟨g5, hf⟩ := gd_s hf
      refine RX_15 (z := x2.toNatClampNeg) (q := 30) C rfl (inb_in g5) dX4_measureSharing_29 rfl ?_
      refine V_iconst (v := (-1)) (q := 31) C dX4_measureSharing_30 rfl ic_m1 ?_
      refine V_ixor (q := 32) C dX4_measureSharing_31 rfl ?_
      refine V_let (cv := Value.int) hf (fun x6 hf => ?_)
      refine V_istore_n (L' := [(2, .int x6), (0, .ref (ad 2)), (1, .int x2)]) (q := 33) C dX4_measureSharing_32 rfl rfl (by decide) rfl ?_
      refine V_iconst (v := 0) (q := 34) C dX4_measureSharing_33 rfl ic_0 ?_
      refine V_istore_n (L' := [(3, .int (0 : Int32)), (2, .int x6), (0, .ref (ad 2)), (1, .int x2)]) (q := 35) C dX4_measureSharing_34 rfl rfl (by decide) rfl ?_
      refine V_sub (L' := [(0, .ref (ad 2)), (1, .int x2), (2, .int x6), (3, .int (0 : Int32))]) [2, 3, 1, 0] rfl ?_
      refine wlX4_measureSharing_35 C F x2 x6 _ (fun σ14 hf => ?_) FU _ _ hf
      refine V_iinc (L' := [(1, .int (x2 + (1 : Int32))), (0, .ref (ad 2))]) (q := 80) C dX4_measureSharing_77 rfl 1 rfl (congrArg (fun y => x2 + y) ic_1) (by decide) rfl ?_
      refine V_goto (t := 10) C dX4_measureSharing_80 (by decide) ?_
      refine V_sub (L' := [(0, .ref (ad 2)), (1, .int (x2 + (1 : Int32)))]) [1, 0] rfl ?_
      exact ih _ _ hf
set_option maxHeartbeats 4000000 in
theorem conX4_measureSharing (l : Launch) (G : Gx) (ad : Nat → Nat)  (σ : Sg) (σf : Sg)  (hf : fX4_measureSharing  σ = some ((), σf)) : Con wX l G ad yX4_measureSharing (Cond.code yX4_measureSharing cX4_measureSharing 4 none) rmX4_measureSharing 0 0 [.ref (ad 2)] σ none σf := by
  refine Con.start (by decide) (Nat.le_of_ble_eq_true rfl) (fun X Q _ C F => ?_)
  refine V_eq (L' := [(0, .ref (ad 2))]) (st' := []) rfl rfl rfl ?_
  unfold fX4_measureSharing at hf
  refine V_aload_n (q := 1) C dX4_measureSharing_0 rfl rfl 0 rfl ?_
  refine V_aload_n (q := 2) C dX4_measureSharing_1 rfl rfl 0 rfl ?_
  refine GX_2_8 (q := 5) C q_222 dX4_measureSharing_2 rfl ?_
  refine PX_2_6 (q := 8) C q_220 dX4_measureSharing_5 rfl ?_
  refine V_lets hf (fun σ1 hf => ?_)
  refine V_iconst (v := 0) (q := 9) C dX4_measureSharing_8 rfl ic_0 ?_
  refine V_istore_n (L' := [(1, .int (0 : Int32)), (0, .ref (ad 2))]) (q := 10) C dX4_measureSharing_9 rfl rfl (by decide) rfl ?_
  refine V_sub (L' := [(0, .ref (ad 2)), (1, .int (0 : Int32))]) [1, 0] rfl ?_
  refine wlX4_measureSharing_10 C F FU _ _ hf
def rmX4_withoutEasy : Room := { frames := 1, cells := 0, slots := 0, locals := 21 }
def fX4_withoutEasy_5 (a : Int32) : Nat → Int32 → Int32 → Sg → Option (Int32 × Sg)
  | 0, _, _, _ => none
  | n + 1, x1, x2, σ3 => if (σ3 3 6) ≤ x2 then (some (x1, σ3)) else (jp (fun (y5 : Int32) (σ6 : Sg) => fX4_withoutEasy_5 a n y5 (x2 + (1 : Int32)) σ6) (fun (J87 : Int32 → Sg → Option (Int32 × Sg)) => if (pX6_contains x1 x2) = 0 then (J87 x1 σ3) else (gd (inb x2 12) (gd (inb x2 12) (lt' (((pJ6_bitCount_0f7a4 ((σ3 15 x2.toNatClampNeg) &&& x1)) + ((2 : Int32) * (pJ6_bitCount_0f7a4 ((σ3 16 x2.toNatClampNeg) &&& x1))))) (fun (x10 : Int32) => gd (inb a 12) (gd (inb x2 12) (if (pJ6_bitCount_0f7a4 (σ3 (41 + a.toNatClampNeg) x2.toNatClampNeg)) ≤ x10 then (J87 x1 σ3) else (lt' ((x1 &&& (((1 : Int32) <<< (x2 &&& 31)) ^^^ (-1 : Int32)))) (fun (x14 : Int32) => J87 x14 σ3))))))))))
def fX4_withoutEasy (a : Int32) (b : Int32) (σ : Sg) : Option (Int32 × Sg) := fX4_withoutEasy_5 a FU b (0 : Int32) σ
set_option maxHeartbeats 4000000 in
theorem wlX4_withoutEasy_5 {X : Cx} {G : Gx} {ad : Nat → Nat} {Q : State → Prop} {r : Int32} {σf : Sg} (C : OK wX X G ad RX4 cX4_withoutEasy 6 rmX4_withoutEasy) (F : FinR wX X G ad Q 0 0 (some .int) (some (.int r)) σf) (a : Int32) : ∀ (n : Nat) (x1 : Int32) (x2 : Int32) (σ3 : Sg), fX4_withoutEasy_5 a n x1 x2 σ3 = some (r, σf) → V wX X G ad 6 Q 0 0 σ3 5 [(0, .ref (ad 2)), (1, .int a), (3, .int x1), (4, .int x2)] [] := by
  intro n
  induction n with
  | zero =>
    intro _ _ _ hf
    exact absurd hf (by simp [fX4_withoutEasy_5])
  | succ n ih =>
    intro x1 x2 σ3 hf
    rw [fX4_withoutEasy_5] at hf
    refine V_iload (q := 7) C dX4_withoutEasy_5 rfl 3 rfl ?_
    refine V_aload_n (q := 8) C dX4_withoutEasy_7 rfl rfl 0 rfl ?_
    refine GX_2_0 (q := 11) C q_212 dX4_withoutEasy_8 rfl ?_
    refine GNX_3_6 (q := 14) C q_182 dX4_withoutEasy_11 rfl ?_
    refine V_icmp_ge (t := 93) (q := 17) C dX4_withoutEasy_14 (by decide) rfl (fun c4 => ?_) (fun c4 => ?_)
    · replace hf := (ite_s hf).1 c4
      refine V_iload_n (q := 94) C dX4_withoutEasy_93 rfl rfl 2 rfl ?_
      obtain ⟨e1, e2⟩ := pr_s hf
      subst e1; subst e2
      exact V_iret C F (by decide) (by decide) dX4_withoutEasy_94
    · replace hf := (ite_s hf).2 c4
      refine V_iload_n (q := 18) C dX4_withoutEasy_17 rfl rfl 2 rfl ?_
      refine V_iload (q := 20) C dX4_withoutEasy_18 rfl 3 rfl ?_
      refine V_callSN (av := [.int x1, .int x2]) (st := []) (st1 := [.int (pX6_contains x1 x2)]) (q := 23) C (conX6_contains _ _ _ _ _ _ _ rfl) q_612 q_107 q_798 q_611 nmX6_contains (by decide) rfl rfl (Nat.le_of_ble_eq_true rfl) dX4_withoutEasy_20 rfl rfl ?_
      obtain ⟨J87, eJ87, hf⟩ := jp_s hf
      have hJ87 : ∀ (y5 : Int32) (σ6 : Sg), J87 y5 σ6 = some (r, σf) → V wX X G ad 6 Q 0 0 σ6 87 [(0, .ref (ad 2)), (1, .int a), (3, .int y5), (4, .int x2)] [] := by
        intro y5 σ6 hf
        subst eJ87
        refine V_iinc (L' := [(4, .int (x2 + (1 : Int32))), (0, .ref (ad 2)), (1, .int a), (3, .int y5)]) (q := 90) C dX4_withoutEasy_87 rfl 3 rfl (congrArg (fun y => x2 + y) ic_1) (by decide) rfl ?_
        refine V_goto (t := 5) C dX4_withoutEasy_90 (by decide) ?_
        refine V_sub (L' := [(0, .ref (ad 2)), (1, .int a), (3, .int y5), (4, .int (x2 + (1 : Int32)))]) [1, 2, 3, 0] rfl ?_
        exact ih _ _ _ hf
      refine V_if_eq (t := 87) (q := 26) C dX4_withoutEasy_23 (by decide) rfl (fun c7 => ?_) (fun c7 => ?_)
      · replace hf := (ite_s hf).1 c7
        exact hJ87 _ _ hf
      · replace hf := (ite_s hf).2 c7
        refine V_aload_n (q := 27) C dX4_withoutEasy_26 rfl rfl 0 rfl ?_
        refine GX_2_0 (q := 30) C q_212 dX4_withoutEasy_27 rfl ?_
        refine GNX_3_4 (q := 33) C q_173 dX4_withoutEasy_30 rfl ?_
        refine V_iload (q := 35) C dX4_withoutEasy_33 rfl 3 rfl ?_
        obtain ⟨g8, hf⟩ := gd_s hf
        refine RX_15 (z := x2.toNatClampNeg) (q := 36) C rfl (inb_in g8) dX4_withoutEasy_35 rfl ?_
        refine V_iload_n (q := 37) C dX4_withoutEasy_36 rfl rfl 2 rfl ?_
        refine V_iand (q := 38) C dX4_withoutEasy_37 rfl ?_
        refine V_callS (av := [.int ((σ3 15 x2.toNatClampNeg) &&& x1)]) (st := []) (st1 := [.int (pJ6_bitCount_0f7a4 ((σ3 15 x2.toNatClampNeg) &&& x1))]) (q := 41) C (conJ6_bitCount_0f7a4 _ _ _ _ _ _ rfl) q_727 q_126 q_799 q_726 nmJ6_bitCount_0f7a4 (by decide) rfl rfl (Nat.le_of_ble_eq_true rfl) dX4_withoutEasy_38 rfl rfl ?_
        refine V_iconst (v := 2) (q := 42) C dX4_withoutEasy_41 rfl ic_2 ?_
        refine V_aload_n (q := 43) C dX4_withoutEasy_42 rfl rfl 0 rfl ?_
        refine GX_2_0 (q := 46) C q_212 dX4_withoutEasy_43 rfl ?_
        refine GNX_3_5 (q := 49) C q_177 dX4_withoutEasy_46 rfl ?_
        refine V_iload (q := 51) C dX4_withoutEasy_49 rfl 3 rfl ?_
        obtain ⟨g9, hf⟩ := gd_s hf
        refine RX_16 (z := x2.toNatClampNeg) (q := 52) C rfl (inb_in g9) dX4_withoutEasy_51 rfl ?_
        refine V_iload_n (q := 53) C dX4_withoutEasy_52 rfl rfl 2 rfl ?_
        refine V_iand (q := 54) C dX4_withoutEasy_53 rfl ?_
        refine V_callS (av := [.int ((σ3 16 x2.toNatClampNeg) &&& x1)]) (st := [.int (2 : Int32), .int (pJ6_bitCount_0f7a4 ((σ3 15 x2.toNatClampNeg) &&& x1))]) (st1 := [.int (pJ6_bitCount_0f7a4 ((σ3 16 x2.toNatClampNeg) &&& x1)), .int (2 : Int32), .int (pJ6_bitCount_0f7a4 ((σ3 15 x2.toNatClampNeg) &&& x1))]) (q := 57) C (conJ6_bitCount_0f7a4 _ _ _ _ _ _ rfl) q_727 q_126 q_799 q_726 nmJ6_bitCount_0f7a4 (by decide) rfl rfl (Nat.le_of_ble_eq_true rfl) dX4_withoutEasy_54 rfl rfl ?_
        refine V_imul (q := 58) C dX4_withoutEasy_57 rfl ?_
        refine V_iadd (q := 59) C dX4_withoutEasy_58 rfl ?_
        refine V_let (cv := Value.int) hf (fun x10 hf => ?_)
        refine V_istore (L' := [(5, .int x10), (0, .ref (ad 2)), (1, .int a), (3, .int x1), (4, .int x2)]) (q := 61) C dX4_withoutEasy_59 rfl (by decide) rfl ?_
        refine V_aload_n (q := 62) C dX4_withoutEasy_61 rfl rfl 1 rfl ?_
        refine GX_2_2 (q := 65) C q_216 dX4_withoutEasy_62 rfl ?_
        refine V_iload_n (q := 66) C dX4_withoutEasy_65 rfl rfl 2 rfl ?_
        obtain ⟨g11, hf⟩ := gd_s hf
        refine AX_36 (z := 41 + a.toNatClampNeg) (q := 67) C rfl (inb_in g11) dX4_withoutEasy_66 rfl ?_
        refine V_iload (q := 69) C dX4_withoutEasy_67 rfl 4 rfl ?_
        obtain ⟨g12, hf⟩ := gd_s hf
        refine RXr0 (z := x2.toNatClampNeg) (q := 70) C (hXr0 (inb_in g11)).1 (hXr0 (inb_in g11)).2 rfl (inb_in g12) dX4_withoutEasy_69 rfl ?_
        refine V_callS (av := [.int (σ3 (41 + a.toNatClampNeg) x2.toNatClampNeg)]) (st := []) (st1 := [.int (pJ6_bitCount_0f7a4 (σ3 (41 + a.toNatClampNeg) x2.toNatClampNeg))]) (q := 73) C (conJ6_bitCount_0f7a4 _ _ _ _ _ _ rfl) q_727 q_126 q_799 q_726 nmJ6_bitCount_0f7a4 (by decide) rfl rfl (Nat.le_of_ble_eq_true rfl) dX4_withoutEasy_70 rfl rfl ?_
        refine V_iload (q := 75) C dX4_withoutEasy_73 rfl 0 rfl ?_
        refine V_icmp_le (t := 87) (q := 78) C dX4_withoutEasy_75 (by decide) rfl (fun c13 => ?_) (fun c13 => ?_)
        · replace hf := (ite_s hf).1 c13
          refine V_sub (L' := [(0, .ref (ad 2)), (1, .int a), (3, .int x1), (4, .int x2)]) [1, 2, 3, 4] rfl ?_
          exact hJ87 _ _ hf
        · replace hf := (ite_s hf).2 c13
          refine V_iload_n (q := 79) C dX4_withoutEasy_78 rfl rfl 3 rfl ?_
          refine V_iconst (v := 1) (q := 80) C dX4_withoutEasy_79 rfl ic_1 ?_
          refine V_iload (q := 82) C dX4_withoutEasy_80 rfl 4 rfl ?_
          refine V_ishl (q := 83) C dX4_withoutEasy_82 rfl ?_
          refine V_iconst (v := (-1)) (q := 84) C dX4_withoutEasy_83 rfl ic_m1 ?_
          refine V_ixor (q := 85) C dX4_withoutEasy_84 rfl ?_
          refine V_iand (q := 86) C dX4_withoutEasy_85 rfl ?_
          refine V_let (cv := Value.int) hf (fun x14 hf => ?_)
          refine V_istore_n (L' := [(3, .int x14), (5, .int x10), (0, .ref (ad 2)), (1, .int a), (4, .int x2)]) (q := 87) C dX4_withoutEasy_86 rfl rfl (by decide) rfl ?_
          refine V_sub (L' := [(0, .ref (ad 2)), (1, .int a), (3, .int x14), (4, .int x2)]) [2, 3, 0, 4] rfl ?_
          exact hJ87 _ _ hf
set_option maxHeartbeats 4000000 in
theorem conX4_withoutEasy (l : Launch) (G : Gx) (ad : Nat → Nat) (a : Int32) (b : Int32) (σ : Sg) (r : Int32) (σf : Sg)  (hf : fX4_withoutEasy a b σ = some (r, σf)) : Con wX l G ad yX4_withoutEasy (Cond.code yX4_withoutEasy cX4_withoutEasy 6 (some .int)) rmX4_withoutEasy 0 0 [.ref (ad 2), .int a, .int b] σ (some (.int r)) σf := by
  refine Con.start (by decide) (Nat.le_of_ble_eq_true rfl) (fun X Q _ C F => ?_)
  refine V_eq (L' := [(0, .ref (ad 2)), (1, .int a), (2, .int b)]) (st' := []) rfl rfl rfl ?_
  unfold fX4_withoutEasy at hf
  refine V_iload_n (q := 1) C dX4_withoutEasy_0 rfl rfl 2 rfl ?_
  refine V_istore_n (L' := [(3, .int b), (0, .ref (ad 2)), (1, .int a), (2, .int b)]) (q := 2) C dX4_withoutEasy_1 rfl rfl (by decide) rfl ?_
  refine V_iconst (v := 0) (q := 3) C dX4_withoutEasy_2 rfl ic_0 ?_
  refine V_istore (L' := [(4, .int (0 : Int32)), (3, .int b), (0, .ref (ad 2)), (1, .int a), (2, .int b)]) (q := 5) C dX4_withoutEasy_3 rfl (by decide) rfl ?_
  refine V_sub (L' := [(0, .ref (ad 2)), (1, .int a), (3, .int b), (4, .int (0 : Int32))]) [2, 3, 1, 0] rfl ?_
  refine wlX4_withoutEasy_5 C F a FU _ _ _ hf
def rmX4_search (m : Nat) : Room := { frames := 2 + m, cells := 0, slots := 0, locals := 71 + 30 * m }
def fX4_search_138 (a : Int32) (c : Int32) (v2 : Int32) (r5 : Int32) (x10 : Int32) (v22 : Int32) (self : Int32 → Int32 → Int32 → Sg → Option (Int32 × Sg)) (K : Int32 → Sg → Option (Int32 × Sg)) : Nat → Int32 → Int32 → Sg → Option (Int32 × Sg)
  | 0, _, _, _ => none
  | n + 1, x24, x25, σ26 => if (8 : Int32) ≤ x25 then (K x24 σ26) else (if c ≤ x24 then (K x24 σ26) else (jp (fun (y30 : Int32) (σ31 : Sg) => fX4_search_138 a c v2 r5 x10 v22 self K n y30 (x25 + (1 : Int32)) σ31) (fun (J260 : Int32 → Sg → Option (Int32 × Sg)) => if (pX6_contains x10 x25) = 0 then (J260 x24 σ26) else (jp (fun (v33 : Int32) (σ34 : Sg) => jp (fun (σ35 : Sg) => gd (inb a 12) (gd (inb x25 8) (lt' ((x24 + (σ35 (65 + a.toNatClampNeg) x25.toNatClampNeg))) (fun (x38 : Int32) => J260 x38 σ35)))) (fun (J246 : Sg → Option (Int32 × Sg)) => if v33 = (-1 : Int32) then (bd (fX4_give x25 r5 a σ34) (fun (_ : Unit) (σ40 : Sg) => gd (inb a 12) (bd (self (a + (1 : Int32)) (v2 &&& (((1 : Int32) <<< (r5 &&& 31)) ^^^ (-1 : Int32))) (c - x24) σ40) (fun (r43 : Int32) (σ44 : Sg) => gd (inb x25 8) (lt' (sup σ44 (65 + a.toNatClampNeg) x25.toNatClampNeg r43) (fun (σ47 : Sg) => J246  σ47)))))) else (gd (inb a 12) (gd (inb a 12) (gd (inb v33 8) (gd (inb x25 8) (lt' (sup σ34 (65 + a.toNatClampNeg) x25.toNatClampNeg (σ34 (65 + a.toNatClampNeg) v33.toNatClampNeg)) (fun (σ52 : Sg) => J246  σ52)))))))) (fun (J179 : Int32 → Sg → Option (Int32 × Sg)) => if v22 = 0 then (J179 (-1 : Int32) σ26) else (bd (fX4_twinOf x25 x10 a σ26) (fun (r54 : Int32) (σ55 : Sg) => J179 r54 σ55)))))))
def fX4_searchB (self : Int32 → Int32 → Int32 → Sg → Option (Int32 × Sg)) (a : Int32) (b : Int32) (c : Int32) (σ : Sg) : Option (Int32 × Sg) := if a < (12 : Int32) then (jp (fun (v2 : Int32) (σ3 : Sg) => if v2 = 0 then (some ((1 : Int32), σ3)) else (bd (fX4_tightest a v2 σ3) (fun (r5 : Int32) (σ6 : Sg) => gd (inb a 12) (gd (inb r5 12) (lt' ((σ6 (41 + a.toNatClampNeg) r5.toNatClampNeg)) (fun (x10 : Int32) => if v2 = ((1 : Int32) <<< (r5 &&& 31)) then (some ((if (pJ6_bitCount_0f7a4 x10) < c then (pJ6_bitCount_0f7a4 x10) else c), σ6)) else (bd (fX4_listUsers a v2 σ6) (fun (_ : Unit) (σ12 : Sg) => jp (fun (σ14 : Sg) => bd (fX4_lacksRoom a v2 σ14) (fun (r15 : Int32) (σ16 : Sg) => if r15 = 0 then (bd (fX3_hasNextIn v2 σ16) (fun (r19 : Int32) (σ20 : Sg) => jp (fun (v22 : Int32) (σ23 : Sg) => fX4_search_138 a c v2 r5 x10 v22 self (fun (y27 : Int32) (σ57 : Sg) => some ((if c < y27 then c else y27), σ57)) FU (0 : Int32) (0 : Int32) σ23) (fun (J130 : Int32 → Sg → Option (Int32 × Sg)) => if r19 = 0 then (J130 (1 : Int32) σ20) else (J130 (0 : Int32) σ20)))) else (some ((0 : Int32), σ16)))) (fun (J101 : Sg → Option (Int32 × Sg)) => if (σ12 2 6) = (σ12 2 8) then (J101  σ12) else (bd (fX4_measureSharing  σ12) (fun (_ : Unit) (σ60 : Sg) => J101  σ60))))))))))) (fun (J31 : Int32 → Sg → Option (Int32 × Sg)) => if c = (1 : Int32) then (bd (fX4_withoutEasy a b σ) (fun (r63 : Int32) (σ64 : Sg) => J31 r63 σ64)) else (J31 b σ))) else (if b = 0 then (some ((1 : Int32), σ)) else (some ((0 : Int32), σ)))
def fX4_search : Nat → Int32 → Int32 → Int32 → Sg → Option (Int32 × Sg)
  | 0, _, _, _, _ => none
  | m + 1, a, b, c, σ => fX4_searchB (fun a b c σ => fX4_search m a b c σ) a b c σ
set_option maxHeartbeats 4000000 in
theorem wlX4_search_138 {X : Cx} {m : Nat} {G : Gx} {ad : Nat → Nat} {Q : State → Prop} {r : Int32} {σf : Sg} (C : OK wX X G ad RX4 cX4_search 11 (rmX4_search (m + 1))) (F : FinR wX X G ad Q 0 0 (some .int) (some (.int r)) σf) (a : Int32) (c : Int32) (v2 : Int32) (r5 : Int32) (x10 : Int32) (v22 : Int32) (self : Int32 → Int32 → Int32 → Sg → Option (Int32 × Sg)) (hself : ∀ (a : Int32) (b : Int32) (c : Int32) (σ : Sg) (r : Int32) (σf : Sg), self a b c σ = some (r, σf) → Con wX (x_l X) G ad yX4_search (Cond.code yX4_search cX4_search 11 (some .int)) (rmX4_search m) 0 0 [.ref (ad 2), .int a, .int b, .int c] σ (some (.int r)) σf) (K : Int32 → Sg → Option (Int32 × Sg)) (hK : ∀ (y27 : Int32) (σk : Sg), K y27 σk = some (r, σf) → V wX X G ad 11 Q 0 0 σk 266 [(3, .int c), (8, .int y27)] []) : ∀ (n : Nat) (x24 : Int32) (x25 : Int32) (σ26 : Sg), fX4_search_138 a c v2 r5 x10 v22 self K n x24 x25 σ26 = some (r, σf) → V wX X G ad 11 Q 0 0 σ26 138 [(0, .ref (ad 2)), (1, .int a), (3, .int c), (4, .int v2), (5, .int r5), (6, .int x10), (7, .int v22), (8, .int x24), (9, .int x25)] [] := by
  intro n
  induction n with
  | zero =>
    intro _ _ _ hf
    exact absurd hf (by simp [fX4_search_138])
  | succ n ih =>
    intro x24 x25 σ26 hf
    rw [fX4_search_138] at hf
    refine V_iload (q := 140) C dX4_search_138 rfl 8 rfl ?_
    refine V_bipush (v := 8) (q := 142) C dX4_search_140 rfl bc_8 ?_
    refine V_icmp_ge (t := 266) (q := 145) C dX4_search_142 (by decide) rfl (fun c28 => ?_) (fun c28 => ?_)
    · replace hf := (ite_s hf).1 c28
      refine V_sub (L' := [(3, .int c), (8, .int x24)]) [2, 7] rfl ?_
      exact hK _ _ hf
    · replace hf := (ite_s hf).2 c28
      refine V_iload (q := 147) C dX4_search_145 rfl 7 rfl ?_
      refine V_iload_n (q := 148) C dX4_search_147 rfl rfl 2 rfl ?_
      refine V_icmp_ge (t := 266) (q := 151) C dX4_search_148 (by decide) rfl (fun c29 => ?_) (fun c29 => ?_)
      · replace hf := (ite_s hf).1 c29
        refine V_sub (L' := [(3, .int c), (8, .int x24)]) [2, 7] rfl ?_
        exact hK _ _ hf
      · replace hf := (ite_s hf).2 c29
        refine V_iload (q := 153) C dX4_search_151 rfl 5 rfl ?_
        refine V_iload (q := 155) C dX4_search_153 rfl 8 rfl ?_
        refine V_callSN (av := [.int x10, .int x25]) (st := []) (st1 := [.int (pX6_contains x10 x25)]) (q := 158) C (conX6_contains _ _ _ _ _ _ _ rfl) q_612 q_107 q_798 q_611 nmX6_contains (rmk (by simp only [rmX4_search, rmX6_contains]; try omega) (by simp only [rmX4_search, rmX6_contains]; try omega) (by simp only [rmX4_search, rmX6_contains]; try omega) (by simp only [rmX4_search, rmX6_contains]; try omega) (by simp only [rmX4_search, rmX6_contains]; try omega) (by simp only [rmX4_search, rmX6_contains]; try omega)) rfl rfl (Nat.le_of_ble_eq_true rfl) dX4_search_155 rfl rfl ?_
        obtain ⟨J260, eJ260, hf⟩ := jp_s hf
        have hJ260 : ∀ (y30 : Int32) (σ31 : Sg), J260 y30 σ31 = some (r, σf) → V wX X G ad 11 Q 0 0 σ31 260 [(0, .ref (ad 2)), (1, .int a), (3, .int c), (4, .int v2), (5, .int r5), (6, .int x10), (7, .int v22), (8, .int y30), (9, .int x25)] [] := by
          intro y30 σ31 hf
          subst eJ260
          refine V_iinc (L' := [(9, .int (x25 + (1 : Int32))), (0, .ref (ad 2)), (1, .int a), (3, .int c), (4, .int v2), (5, .int r5), (6, .int x10), (7, .int v22), (8, .int y30)]) (q := 263) C dX4_search_260 rfl 8 rfl (congrArg (fun y => x25 + y) ic_1) (by decide) rfl ?_
          refine V_goto (t := 138) C dX4_search_263 (by decide) ?_
          refine V_sub (L' := [(0, .ref (ad 2)), (1, .int a), (3, .int c), (4, .int v2), (5, .int r5), (6, .int x10), (7, .int v22), (8, .int y30), (9, .int (x25 + (1 : Int32)))]) [1, 2, 3, 4, 5, 6, 7, 8, 0] rfl ?_
          exact ih _ _ _ hf
        refine V_if_eq (t := 260) (q := 161) C dX4_search_158 (by decide) rfl (fun c32 => ?_) (fun c32 => ?_)
        · replace hf := (ite_s hf).1 c32
          exact hJ260 _ _ hf
        · replace hf := (ite_s hf).2 c32
          refine V_iload (q := 163) C dX4_search_161 rfl 6 rfl ?_
          obtain ⟨J179, eJ179, hf⟩ := jp_s hf
          have hJ179 : ∀ (v33 : Int32) (σ34 : Sg), J179 v33 σ34 = some (r, σf) → V wX X G ad 11 Q 0 0 σ34 179 [(0, .ref (ad 2)), (1, .int a), (3, .int c), (4, .int v2), (5, .int r5), (6, .int x10), (7, .int v22), (8, .int x24), (9, .int x25)] [.int v33] := by
            intro v33 σ34 hf
            subst eJ179
            refine V_istore (L' := [(10, .int v33), (0, .ref (ad 2)), (1, .int a), (3, .int c), (4, .int v2), (5, .int r5), (6, .int x10), (7, .int v22), (8, .int x24), (9, .int x25)]) (q := 181) C dX4_search_179 rfl (by decide) rfl ?_
            refine V_iload (q := 183) C dX4_search_181 rfl 0 rfl ?_
            refine V_iconst (v := (-1)) (q := 184) C dX4_search_183 rfl ic_m1 ?_
            obtain ⟨J246, eJ246, hf⟩ := jp_s hf
            have hJ246 : ∀ (σ35 : Sg), J246 σ35 = some (r, σf) → V wX X G ad 11 Q 0 0 σ35 246 [(0, .ref (ad 2)), (1, .int a), (3, .int c), (4, .int v2), (5, .int r5), (6, .int x10), (7, .int v22), (8, .int x24), (9, .int x25)] [] := by
              intro σ35 hf
              subst eJ246
              refine V_iload (q := 248) C dX4_search_246 rfl 7 rfl ?_
              refine V_aload_n (q := 249) C dX4_search_248 rfl rfl 0 rfl ?_
              refine GX_2_4 (q := 252) C q_218 dX4_search_249 rfl ?_
              refine V_iload_n (q := 253) C dX4_search_252 rfl rfl 1 rfl ?_
              obtain ⟨g36, hf⟩ := gd_s hf
              refine AX_38 (z := 65 + a.toNatClampNeg) (q := 254) C rfl (inb_in g36) dX4_search_253 rfl ?_
              refine V_iload (q := 256) C dX4_search_254 rfl 8 rfl ?_
              obtain ⟨g37, hf⟩ := gd_s hf
              refine RXr2 (z := x25.toNatClampNeg) (q := 257) C (hXr2 (inb_in g36)).1 (hXr2 (inb_in g36)).2 rfl (inb_in g37) dX4_search_256 rfl ?_
              refine V_iadd (q := 258) C dX4_search_257 rfl ?_
              refine V_let (cv := Value.int) hf (fun x38 hf => ?_)
              refine V_istore (L' := [(8, .int x38), (0, .ref (ad 2)), (1, .int a), (3, .int c), (4, .int v2), (5, .int r5), (6, .int x10), (7, .int v22), (9, .int x25)]) (q := 260) C dX4_search_258 rfl (by decide) rfl ?_
              refine V_sub (L' := [(0, .ref (ad 2)), (1, .int a), (3, .int c), (4, .int v2), (5, .int r5), (6, .int x10), (7, .int v22), (8, .int x38), (9, .int x25)]) [1, 2, 3, 4, 5, 6, 7, 0, 8] rfl ?_
              exact hJ260 _ _ hf
            refine V_icmp_eq (t := 208) (q := 187) C dX4_search_184 (by decide) rfl (fun c39 => ?_) (fun c39 => ?_)
            · replace hf := (ite_s hf).1 c39
              refine V_aload_n (q := 209) C dX4_search_208 rfl rfl 1 rfl ?_
              refine V_iload (q := 211) C dX4_search_209 rfl 9 rfl ?_
              refine V_iload (q := 213) C dX4_search_211 rfl 5 rfl ?_
              refine V_iload_n (q := 214) C dX4_search_213 rfl rfl 2 rfl ?_
              obtain ⟨_u, σ40, h41, hf⟩ := bd_s hf
              refine V_callV (av := [.int x25, .int r5, .int a]) (st := []) (st1 := []) (q := 217) C 2 (by decide) (eX_2 G ad _) rfl rfl (conX4_give _ _ _ _ _ _ _ _ h41) q_837 q_109 q_834 q_836 q_37 nmX4_give (rmk (by simp only [rmX4_search, rmX4_give]; try omega) (by simp only [rmX4_search, rmX4_give]; try omega) (by simp only [rmX4_search, rmX4_give]; try omega) (by simp only [rmX4_search, rmX4_give]; try omega) (by simp only [rmX4_search, rmX4_give]; try omega) (by simp only [rmX4_search, rmX4_give]; try omega)) rfl rfl (Nat.le_of_ble_eq_true rfl) dX4_search_214 rfl rfl ?_
              refine V_aload_n (q := 218) C dX4_search_217 rfl rfl 1 rfl ?_
              refine GX_2_4 (q := 221) C q_218 dX4_search_218 rfl ?_
              refine V_iload_n (q := 222) C dX4_search_221 rfl rfl 2 rfl ?_
              obtain ⟨g42, hf⟩ := gd_s hf
              refine AX_38 (z := 65 + a.toNatClampNeg) (q := 223) C rfl (inb_in g42) dX4_search_222 rfl ?_
              refine V_iload (q := 225) C dX4_search_223 rfl 9 rfl ?_
              refine V_aload_n (q := 226) C dX4_search_225 rfl rfl 1 rfl ?_
              refine V_iload_n (q := 227) C dX4_search_226 rfl rfl 2 rfl ?_
              refine V_iconst (v := 1) (q := 228) C dX4_search_227 rfl ic_1 ?_
              refine V_iadd (q := 229) C dX4_search_228 rfl ?_
              refine V_iload (q := 231) C dX4_search_229 rfl 4 rfl ?_
              refine V_iconst (v := 1) (q := 232) C dX4_search_231 rfl ic_1 ?_
              refine V_iload (q := 234) C dX4_search_232 rfl 5 rfl ?_
              refine V_ishl (q := 235) C dX4_search_234 rfl ?_
              refine V_iconst (v := (-1)) (q := 236) C dX4_search_235 rfl ic_m1 ?_
              refine V_ixor (q := 237) C dX4_search_236 rfl ?_
              refine V_iand (q := 238) C dX4_search_237 rfl ?_
              refine V_iload_n (q := 239) C dX4_search_238 rfl rfl 3 rfl ?_
              refine V_iload (q := 241) C dX4_search_239 rfl 8 rfl ?_
              refine V_isub (q := 242) C dX4_search_241 rfl ?_
              obtain ⟨r43, σ44, h45, hf⟩ := bd_s hf
              refine V_callS (av := [.ref (ad 2), .int (a + (1 : Int32)), .int (v2 &&& (((1 : Int32) <<< (r5 &&& 31)) ^^^ (-1 : Int32))), .int (c - x24)]) (st := [.int x25, .ref (ad (65 + a.toNatClampNeg))]) (st1 := [.int r43, .int x25, .ref (ad (65 + a.toNatClampNeg))]) (q := 245) C (hself _ _ _ _ _ _ h45) q_793 q_109 q_791 q_792 nmX4_search (rmk (by simp only [rmX4_search]; try omega) (by simp only [rmX4_search]; try omega) (by simp only [rmX4_search]; try omega) (by simp only [rmX4_search]; try omega) (by simp only [rmX4_search]; try omega) (by simp only [rmX4_search]; try omega)) rfl rfl (Nat.le_of_ble_eq_true rfl) dX4_search_242 rfl rfl ?_
              obtain ⟨g46, hf⟩ := gd_s hf
              refine SXr2 (z := x25.toNatClampNeg) (q := 246) C (hXr2 (inb_in g42)).1 (hXr2 (inb_in g42)).2 rfl (inb_in g46) dX4_search_245 rfl ?_
              refine V_lets hf (fun σ47 hf => ?_)
              refine V_sub (L' := [(0, .ref (ad 2)), (1, .int a), (3, .int c), (4, .int v2), (5, .int r5), (6, .int x10), (7, .int v22), (8, .int x24), (9, .int x25)]) [1, 2, 3, 4, 5, 6, 7, 8, 9] rfl ?_
              exact hJ246 _ hf
            · replace hf := (ite_s hf).2 c39
              refine V_aload_n (q := 188) C dX4_search_187 rfl rfl 1 rfl ?_
              refine GX_2_4 (q := 191) C q_218 dX4_search_188 rfl ?_
              refine V_iload_n (q := 192) C dX4_search_191 rfl rfl 2 rfl ?_
              obtain ⟨g48, hf⟩ := gd_s hf
              refine AX_38 (z := 65 + a.toNatClampNeg) (q := 193) C rfl (inb_in g48) dX4_search_192 rfl ?_
              refine V_iload (q := 195) C dX4_search_193 rfl 9 rfl ?_
              refine V_aload_n (q := 196) C dX4_search_195 rfl rfl 1 rfl ?_
              refine GX_2_4 (q := 199) C q_218 dX4_search_196 rfl ?_
              refine V_iload_n (q := 200) C dX4_search_199 rfl rfl 2 rfl ?_
              obtain ⟨g49, hf⟩ := gd_s hf
              refine AX_38 (z := 65 + a.toNatClampNeg) (q := 201) C rfl (inb_in g49) dX4_search_200 rfl ?_
              refine V_iload (q := 203) C dX4_search_201 rfl 0 rfl ?_
              obtain ⟨g50, hf⟩ := gd_s hf
              refine RXr2 (z := v33.toNatClampNeg) (q := 204) C (hXr2 (inb_in g49)).1 (hXr2 (inb_in g49)).2 rfl (inb_in g50) dX4_search_203 rfl ?_
              obtain ⟨g51, hf⟩ := gd_s hf
              refine SXr2 (z := x25.toNatClampNeg) (q := 205) C (hXr2 (inb_in g48)).1 (hXr2 (inb_in g48)).2 rfl (inb_in g51) dX4_search_204 rfl ?_
              refine V_lets hf (fun σ52 hf => ?_)
              refine V_goto (t := 246) C dX4_search_205 (by decide) ?_
              refine V_sub (L' := [(0, .ref (ad 2)), (1, .int a), (3, .int c), (4, .int v2), (5, .int r5), (6, .int x10), (7, .int v22), (8, .int x24), (9, .int x25)]) [1, 2, 3, 4, 5, 6, 7, 8, 9] rfl ?_
              exact hJ246 _ hf
          refine V_if_eq (t := 178) (q := 166) C dX4_search_163 (by decide) rfl (fun c53 => ?_) (fun c53 => ?_)
          · replace hf := (ite_s hf).1 c53
            refine V_iconst (v := (-1)) (q := 179) C dX4_search_178 rfl ic_m1 ?_
            exact hJ179 _ _ hf
          · replace hf := (ite_s hf).2 c53
            refine V_aload_n (q := 167) C dX4_search_166 rfl rfl 0 rfl ?_
            refine V_iload (q := 169) C dX4_search_167 rfl 8 rfl ?_
            refine V_iload (q := 171) C dX4_search_169 rfl 5 rfl ?_
            refine V_iload_n (q := 172) C dX4_search_171 rfl rfl 1 rfl ?_
            obtain ⟨r54, σ55, h56, hf⟩ := bd_s hf
            refine V_callV (av := [.int x25, .int x10, .int a]) (st := []) (st1 := [.int r54]) (q := 175) C 2 (by decide) (eX_2 G ad _) rfl rfl (conX4_twinOf _ _ _ _ _ _ _ _ _ h56) q_833 q_109 q_830 q_832 q_36 nmX4_twinOf (rmk (by simp only [rmX4_search, rmX4_twinOf]; try omega) (by simp only [rmX4_search, rmX4_twinOf]; try omega) (by simp only [rmX4_search, rmX4_twinOf]; try omega) (by simp only [rmX4_search, rmX4_twinOf]; try omega) (by simp only [rmX4_search, rmX4_twinOf]; try omega) (by simp only [rmX4_search, rmX4_twinOf]; try omega)) rfl rfl (Nat.le_of_ble_eq_true rfl) dX4_search_172 rfl rfl ?_
            refine V_goto (t := 179) C dX4_search_175 (by decide) ?_
            exact hJ179 _ _ hf
set_option maxHeartbeats 4000000 in
theorem conX4_search (l : Launch) (G : Gx) (ad : Nat → Nat) : ∀ (m : Nat) (a : Int32) (b : Int32) (c : Int32) (σ : Sg) (r : Int32) (σf : Sg), fX4_search m a b c σ = some (r, σf) → Con wX l G ad yX4_search (Cond.code yX4_search cX4_search 11 (some .int)) (rmX4_search m) 0 0 [.ref (ad 2), .int a, .int b, .int c] σ (some (.int r)) σf := by
  intro m
  induction m with
  | zero =>
    intro a b c σ r σf hf
    exact absurd hf (by simp [fX4_search])
  | succ m ihm =>
    intro a b c σ r σf hf
    rw [fX4_search] at hf
    refine Con.start (by decide) (Nat.le_of_ble_eq_true rfl) (fun X Q hX C F => ?_)
    refine V_eq (L' := [(0, .ref (ad 2)), (1, .int a), (2, .int b), (3, .int c)]) (st' := []) rfl rfl rfl ?_
    have hself : ∀ (a : Int32) (b : Int32) (c : Int32) (σ : Sg) (r : Int32) (σf : Sg), fX4_search m a b c σ = some (r, σf) → Con wX (x_l X) G ad yX4_search (Cond.code yX4_search cX4_search 11 (some .int)) (rmX4_search m) 0 0 [.ref (ad 2), .int a, .int b, .int c] σ (some (.int r)) σf := by
      rw [hX]
      exact ihm
    unfold fX4_searchB at hf
    refine V_iload_n (q := 1) C dX4_search_0 rfl rfl 1 rfl ?_
    refine V_bipush (v := 12) (q := 3) C dX4_search_1 rfl bc_12 ?_
    refine V_icmp_lt (t := 16) (q := 6) C dX4_search_3 (by decide) rfl (fun c1 => ?_) (fun c1 => ?_)
    · replace hf := (ite_s hf).1 c1
      refine V_iload_n (q := 17) C dX4_search_16 rfl rfl 3 rfl ?_
      refine V_iconst (v := 1) (q := 18) C dX4_search_17 rfl ic_1 ?_
      obtain ⟨J31, eJ31, hf⟩ := jp_s hf
      have hJ31 : ∀ (v2 : Int32) (σ3 : Sg), J31 v2 σ3 = some (r, σf) → V wX X G ad 11 Q 0 0 σ3 31 [(0, .ref (ad 2)), (1, .int a), (3, .int c)] [.int v2] := by
        intro v2 σ3 hf
        subst eJ31
        refine V_istore (L' := [(4, .int v2), (0, .ref (ad 2)), (1, .int a), (3, .int c)]) (q := 33) C dX4_search_31 rfl (by decide) rfl ?_
        refine V_iload (q := 35) C dX4_search_33 rfl 0 rfl ?_
        refine V_if_ne (t := 40) (q := 38) C dX4_search_35 (by decide) rfl (fun c4 => ?_) (fun c4 => ?_)
        · replace hf := (ite_s hf).2 c4
          refine V_aload_n (q := 41) C dX4_search_40 rfl rfl 1 rfl ?_
          refine V_iload_n (q := 42) C dX4_search_41 rfl rfl 2 rfl ?_
          refine V_iload (q := 44) C dX4_search_42 rfl 0 rfl ?_
          obtain ⟨r5, σ6, h7, hf⟩ := bd_s hf
          refine V_callV (av := [.int a, .int v2]) (st := []) (st1 := [.int r5]) (q := 47) C 2 (by decide) (eX_2 G ad _) rfl rfl (conX4_tightest _ _ _ _ _ _ _ _ h7) q_803 q_109 q_800 q_802 q_31 nmX4_tightest (rmk (by simp only [rmX4_search, rmX4_tightest]; try omega) (by simp only [rmX4_search, rmX4_tightest]; try omega) (by simp only [rmX4_search, rmX4_tightest]; try omega) (by simp only [rmX4_search, rmX4_tightest]; try omega) (by simp only [rmX4_search, rmX4_tightest]; try omega) (by simp only [rmX4_search, rmX4_tightest]; try omega)) rfl rfl (Nat.le_of_ble_eq_true rfl) dX4_search_44 rfl rfl ?_
          refine V_istore (L' := [(5, .int r5), (4, .int v2), (0, .ref (ad 2)), (1, .int a), (3, .int c)]) (q := 49) C dX4_search_47 rfl (by decide) rfl ?_
          refine V_aload_n (q := 50) C dX4_search_49 rfl rfl 2 rfl ?_
          refine GX_2_2 (q := 53) C q_216 dX4_search_50 rfl ?_
          refine V_iload_n (q := 54) C dX4_search_53 rfl rfl 3 rfl ?_
          obtain ⟨g8, hf⟩ := gd_s hf
          refine AX_36 (z := 41 + a.toNatClampNeg) (q := 55) C rfl (inb_in g8) dX4_search_54 rfl ?_
          refine V_iload (q := 57) C dX4_search_55 rfl 0 rfl ?_
          obtain ⟨g9, hf⟩ := gd_s hf
          refine RXr0 (z := r5.toNatClampNeg) (q := 58) C (hXr0 (inb_in g8)).1 (hXr0 (inb_in g8)).2 rfl (inb_in g9) dX4_search_57 rfl ?_
          refine V_let (cv := Value.int) hf (fun x10 hf => ?_)
          refine V_istore (L' := [(6, .int x10), (5, .int r5), (4, .int v2), (0, .ref (ad 2)), (1, .int a), (3, .int c)]) (q := 60) C dX4_search_58 rfl (by decide) rfl ?_
          refine V_iload (q := 62) C dX4_search_60 rfl 2 rfl ?_
          refine V_iconst (v := 1) (q := 63) C dX4_search_62 rfl ic_1 ?_
          refine V_iload (q := 65) C dX4_search_63 rfl 1 rfl ?_
          refine V_ishl (q := 66) C dX4_search_65 rfl ?_
          refine V_icmp_ne (t := 79) (q := 69) C dX4_search_66 (by decide) rfl (fun c11 => ?_) (fun c11 => ?_)
          · replace hf := (ite_s hf).2 c11
            refine V_aload_n (q := 80) C dX4_search_79 rfl rfl 3 rfl ?_
            refine V_iload_n (q := 81) C dX4_search_80 rfl rfl 4 rfl ?_
            refine V_iload (q := 83) C dX4_search_81 rfl 2 rfl ?_
            obtain ⟨_u, σ12, h13, hf⟩ := bd_s hf
            refine V_callV (av := [.int a, .int v2]) (st := []) (st1 := []) (q := 86) C 2 (by decide) (eX_2 G ad _) rfl rfl (conX4_listUsers _ _ _ _ _ _ _ h13) q_810 q_109 q_807 q_809 q_32 nmX4_listUsers (rmk (by simp only [rmX4_search, rmX4_listUsers]; try omega) (by simp only [rmX4_search, rmX4_listUsers]; try omega) (by simp only [rmX4_search, rmX4_listUsers]; try omega) (by simp only [rmX4_search, rmX4_listUsers]; try omega) (by simp only [rmX4_search, rmX4_listUsers]; try omega) (by simp only [rmX4_search, rmX4_listUsers]; try omega)) rfl rfl (Nat.le_of_ble_eq_true rfl) dX4_search_83 rfl rfl ?_
            refine V_aload_n (q := 87) C dX4_search_86 rfl rfl 3 rfl ?_
            refine GX_2_6 (q := 90) C q_220 dX4_search_87 rfl ?_
            refine V_aload_n (q := 91) C dX4_search_90 rfl rfl 3 rfl ?_
            refine GX_2_8 (q := 94) C q_222 dX4_search_91 rfl ?_
            obtain ⟨J101, eJ101, hf⟩ := jp_s hf
            have hJ101 : ∀ (σ14 : Sg), J101 σ14 = some (r, σf) → V wX X G ad 11 Q 0 0 σ14 101 [(0, .ref (ad 2)), (1, .int a), (3, .int c), (4, .int v2), (5, .int r5), (6, .int x10)] [] := by
              intro σ14 hf
              subst eJ101
              refine V_aload_n (q := 102) C dX4_search_101 rfl rfl 0 rfl ?_
              refine V_iload_n (q := 103) C dX4_search_102 rfl rfl 1 rfl ?_
              refine V_iload (q := 105) C dX4_search_103 rfl 3 rfl ?_
              obtain ⟨r15, σ16, h17, hf⟩ := bd_s hf
              refine V_callV (av := [.int a, .int v2]) (st := []) (st1 := [.int r15]) (q := 108) C 2 (by decide) (eX_2 G ad _) rfl rfl (conX4_lacksRoom _ _ _ _ _ _ _ _ h17) q_824 q_109 q_821 q_823 q_34 nmX4_lacksRoom (rmk (by simp only [rmX4_search, rmX4_lacksRoom]; try omega) (by simp only [rmX4_search, rmX4_lacksRoom]; try omega) (by simp only [rmX4_search, rmX4_lacksRoom]; try omega) (by simp only [rmX4_search, rmX4_lacksRoom]; try omega) (by simp only [rmX4_search, rmX4_lacksRoom]; try omega) (by simp only [rmX4_search, rmX4_lacksRoom]; try omega)) rfl rfl (Nat.le_of_ble_eq_true rfl) dX4_search_105 rfl rfl ?_
              refine V_if_eq (t := 113) (q := 111) C dX4_search_108 (by decide) rfl (fun c18 => ?_) (fun c18 => ?_)
              · replace hf := (ite_s hf).1 c18
                refine V_aload_n (q := 114) C dX4_search_113 rfl rfl 0 rfl ?_
                refine GX_2_0 (q := 117) C q_212 dX4_search_114 rfl ?_
                refine V_iload (q := 119) C dX4_search_117 rfl 3 rfl ?_
                obtain ⟨r19, σ20, h21, hf⟩ := bd_s hf
                refine V_callVN (av := [.int v2]) (st := []) (st1 := [.int r19]) (q := 122) C 3 (by decide) (eX_3 G ad _) rfl rfl (conX3_hasNextIn _ _ _ _ _ _ _ h21) q_828 q_110 q_825 q_827 q_35 nmX3_hasNextIn (rmk (by simp only [rmX4_search, rmX3_hasNextIn]; try omega) (by simp only [rmX4_search, rmX3_hasNextIn]; try omega) (by simp only [rmX4_search, rmX3_hasNextIn]; try omega) (by simp only [rmX4_search, rmX3_hasNextIn]; try omega) (by simp only [rmX4_search, rmX3_hasNextIn]; try omega) (by simp only [rmX4_search, rmX3_hasNextIn]; try omega)) rfl rfl (Nat.le_of_ble_eq_true rfl) dX4_search_119 rfl rfl ?_
                obtain ⟨J130, eJ130, hf⟩ := jp_s hf
                have hJ130 : ∀ (v22 : Int32) (σ23 : Sg), J130 v22 σ23 = some (r, σf) → V wX X G ad 11 Q 0 0 σ23 130 [(0, .ref (ad 2)), (1, .int a), (3, .int c), (4, .int v2), (5, .int r5), (6, .int x10)] [.int v22] := by
                  intro v22 σ23 hf
                  subst eJ130
                  refine V_istore (L' := [(7, .int v22), (0, .ref (ad 2)), (1, .int a), (3, .int c), (4, .int v2), (5, .int r5), (6, .int x10)]) (q := 132) C dX4_search_130 rfl (by decide) rfl ?_
                  refine V_iconst (v := 0) (q := 133) C dX4_search_132 rfl ic_0 ?_
                  refine V_istore (L' := [(8, .int (0 : Int32)), (7, .int v22), (0, .ref (ad 2)), (1, .int a), (3, .int c), (4, .int v2), (5, .int r5), (6, .int x10)]) (q := 135) C dX4_search_133 rfl (by decide) rfl ?_
                  refine V_iconst (v := 0) (q := 136) C dX4_search_135 rfl ic_0 ?_
                  refine V_istore (L' := [(9, .int (0 : Int32)), (8, .int (0 : Int32)), (7, .int v22), (0, .ref (ad 2)), (1, .int a), (3, .int c), (4, .int v2), (5, .int r5), (6, .int x10)]) (q := 138) C dX4_search_136 rfl (by decide) rfl ?_
                  refine V_sub (L' := [(0, .ref (ad 2)), (1, .int a), (3, .int c), (4, .int v2), (5, .int r5), (6, .int x10), (7, .int v22), (8, .int (0 : Int32)), (9, .int (0 : Int32))]) [3, 4, 5, 6, 7, 8, 2, 1, 0] rfl ?_
                  refine wlX4_search_138 C F a c v2 r5 x10 v22 _ hself _ (fun y27 σ57 hf => ?_) FU _ _ _ hf
                  refine V_iload (q := 268) C dX4_search_266 rfl 1 rfl ?_
                  refine V_iload_n (q := 269) C dX4_search_268 rfl rfl 0 rfl ?_
                  refine V_mmin (q := 272) C (q_804) (q_805) q_128 (mc_min) (by simp only [rmX4_search]; try omega) (Nat.le_trans (Nat.le_of_ble_eq_true rfl : _ ≤ 40) (by simp only [rmX4_search]; try omega)) (by simp only [rmX4_search]; try omega) (by simp only [rmX4_search]; try omega) dX4_search_269 rfl ?_
                  obtain ⟨e1, e2⟩ := pr_s hf
                  subst e1; subst e2
                  exact V_iret C F (by decide) (by decide) dX4_search_272
                refine V_if_ne (t := 129) (q := 125) C dX4_search_122 (by decide) rfl (fun c58 => ?_) (fun c58 => ?_)
                · replace hf := (ite_s hf).2 c58
                  refine V_iconst (v := 0) (q := 130) C dX4_search_129 rfl ic_0 ?_
                  exact hJ130 _ _ hf
                · replace hf := (ite_s hf).1 c58
                  refine V_iconst (v := 1) (q := 126) C dX4_search_125 rfl ic_1 ?_
                  refine V_goto (t := 130) C dX4_search_126 (by decide) ?_
                  exact hJ130 _ _ hf
              · replace hf := (ite_s hf).2 c18
                refine V_iconst (v := 0) (q := 112) C dX4_search_111 rfl ic_0 ?_
                obtain ⟨e1, e2⟩ := pr_s hf
                subst e1; subst e2
                exact V_iret C F (by decide) (by decide) dX4_search_112
            refine V_icmp_eq (t := 101) (q := 97) C dX4_search_94 (by decide) rfl (fun c59 => ?_) (fun c59 => ?_)
            · replace hf := (ite_s hf).1 c59
              refine V_sub (L' := [(0, .ref (ad 2)), (1, .int a), (3, .int c), (4, .int v2), (5, .int r5), (6, .int x10)]) [3, 4, 5, 2, 1, 0] rfl ?_
              exact hJ101 _ hf
            · replace hf := (ite_s hf).2 c59
              refine V_aload_n (q := 98) C dX4_search_97 rfl rfl 3 rfl ?_
              obtain ⟨_u, σ60, h61, hf⟩ := bd_s hf
              refine V_callV (av := []) (st := []) (st1 := []) (q := 101) C 2 (by decide) (eX_2 G ad _) rfl rfl (conX4_measureSharing _ _ _  _ _ h61) q_817 q_109 q_814 q_816 q_33 nmX4_measureSharing (rmk (by simp only [rmX4_search, rmX4_measureSharing]; try omega) (by simp only [rmX4_search, rmX4_measureSharing]; try omega) (by simp only [rmX4_search, rmX4_measureSharing]; try omega) (by simp only [rmX4_search, rmX4_measureSharing]; try omega) (by simp only [rmX4_search, rmX4_measureSharing]; try omega) (by simp only [rmX4_search, rmX4_measureSharing]; try omega)) rfl rfl (Nat.le_of_ble_eq_true rfl) dX4_search_98 rfl rfl ?_
              refine V_sub (L' := [(0, .ref (ad 2)), (1, .int a), (3, .int c), (4, .int v2), (5, .int r5), (6, .int x10)]) [3, 4, 5, 2, 1, 0] rfl ?_
              exact hJ101 _ hf
          · replace hf := (ite_s hf).1 c11
            refine V_iload_n (q := 70) C dX4_search_69 rfl rfl 5 rfl ?_
            refine V_iload (q := 72) C dX4_search_70 rfl 0 rfl ?_
            refine V_callS (av := [.int x10]) (st := [.int c]) (st1 := [.int (pJ6_bitCount_0f7a4 x10), .int c]) (q := 75) C (conJ6_bitCount_0f7a4 _ _ _ _ _ _ rfl) q_727 q_126 q_799 q_726 nmJ6_bitCount_0f7a4 (rmk (by simp only [rmX4_search, rmJ6_bitCount_0f7a4]; try omega) (by simp only [rmX4_search, rmJ6_bitCount_0f7a4]; try omega) (by simp only [rmX4_search, rmJ6_bitCount_0f7a4]; try omega) (by simp only [rmX4_search, rmJ6_bitCount_0f7a4]; try omega) (by simp only [rmX4_search, rmJ6_bitCount_0f7a4]; try omega) (by simp only [rmX4_search, rmJ6_bitCount_0f7a4]; try omega)) rfl rfl (Nat.le_of_ble_eq_true rfl) dX4_search_72 rfl rfl ?_
            refine V_mmin (q := 78) C (q_804) (q_805) q_128 (mc_min) (by simp only [rmX4_search]; try omega) (Nat.le_trans (Nat.le_of_ble_eq_true rfl : _ ≤ 40) (by simp only [rmX4_search]; try omega)) (by simp only [rmX4_search]; try omega) (by simp only [rmX4_search]; try omega) dX4_search_75 rfl ?_
            obtain ⟨e1, e2⟩ := pr_s hf
            subst e1; subst e2
            exact V_iret C F (by decide) (by decide) dX4_search_78
        · replace hf := (ite_s hf).1 c4
          refine V_iconst (v := 1) (q := 39) C dX4_search_38 rfl ic_1 ?_
          obtain ⟨e1, e2⟩ := pr_s hf
          subst e1; subst e2
          exact V_iret C F (by decide) (by decide) dX4_search_39
      refine V_icmp_ne (t := 30) (q := 21) C dX4_search_18 (by decide) rfl (fun c62 => ?_) (fun c62 => ?_)
      · replace hf := (ite_s hf).2 c62
        refine V_iload_n (q := 31) C dX4_search_30 rfl rfl 2 rfl ?_
        refine V_sub (L' := [(0, .ref (ad 2)), (1, .int a), (3, .int c)]) [0, 1, 3] rfl ?_
        exact hJ31 _ _ hf
      · replace hf := (ite_s hf).1 c62
        refine V_aload_n (q := 22) C dX4_search_21 rfl rfl 0 rfl ?_
        refine V_iload_n (q := 23) C dX4_search_22 rfl rfl 1 rfl ?_
        refine V_iload_n (q := 24) C dX4_search_23 rfl rfl 2 rfl ?_
        obtain ⟨r63, σ64, h65, hf⟩ := bd_s hf
        refine V_callV (av := [.int a, .int b]) (st := []) (st1 := [.int r63]) (q := 27) C 2 (by decide) (eX_2 G ad _) rfl rfl (conX4_withoutEasy _ _ _ _ _ _ _ _ h65) q_797 q_109 q_794 q_796 q_30 nmX4_withoutEasy (rmk (by simp only [rmX4_search, rmX4_withoutEasy]; try omega) (by simp only [rmX4_search, rmX4_withoutEasy]; try omega) (by simp only [rmX4_search, rmX4_withoutEasy]; try omega) (by simp only [rmX4_search, rmX4_withoutEasy]; try omega) (by simp only [rmX4_search, rmX4_withoutEasy]; try omega) (by simp only [rmX4_search, rmX4_withoutEasy]; try omega)) rfl rfl (Nat.le_of_ble_eq_true rfl) dX4_search_24 rfl rfl ?_
        refine V_goto (t := 31) C dX4_search_27 (by decide) ?_
        refine V_sub (L' := [(0, .ref (ad 2)), (1, .int a), (3, .int c)]) [0, 1, 3] rfl ?_
        exact hJ31 _ _ hf
    · replace hf := (ite_s hf).2 c1
      refine V_iload_n (q := 7) C dX4_search_6 rfl rfl 2 rfl ?_
      refine V_if_ne (t := 14) (q := 10) C dX4_search_7 (by decide) rfl (fun c66 => ?_) (fun c66 => ?_)
      · replace hf := (ite_s hf).2 c66
        refine V_iconst (v := 0) (q := 15) C dX4_search_14 rfl ic_0 ?_
        obtain ⟨e1, e2⟩ := pr_s hf
        subst e1; subst e2
        exact V_iret C F (by decide) (by decide) dX4_search_15
      · replace hf := (ite_s hf).1 c66
        refine V_iconst (v := 1) (q := 11) C dX4_search_10 rfl ic_1 ?_
        refine V_goto (t := 15) C dX4_search_11 (by decide) ?_
        obtain ⟨e1, e2⟩ := pr_s hf
        subst e1; subst e2
        exact V_iret C F (by decide) (by decide) dX4_search_15
