def rmL_addStation : Room := { frames := 8, cells := 4, slots := 24, locals := 134 }
def fL_addStation (a : Int32) (b : Int32) (c : Int32) (σ : LT) : Option (Int32 × LT) := bx (fX6_addStation a b c σ.1) (fun E σE => if E = "java/lang/IllegalArgumentException" then (lt' (σE, σ.2) (fun (σ8 : LT) => some ((1 : Int32), σ8))) else if E = "java/lang/UnsupportedOperationException" then (lt' (σE, σ.2) (fun (σ10 : LT) => some ((2 : Int32), σ10))) else if E = "java/lang/IllegalStateException" then (lt' (σE, σ.2) (fun (σ12 : LT) => some ((3 : Int32), σ12))) else none) (fun (r1 : Int32) (σ2 : Sg) => lt' (σ2, σ.2) (fun (σ13 : LT) => lt' (σ13.1, σ13.2.1, vp_updL σ13.2.2 0 r1.toInt64) (fun (σ14 : LT) => some ((0 : Int32), σ14))))
set_option maxHeartbeats 4000000 in
theorem conL_addStation (l : Launch) (G : Gx) (ad : Nat → Nat) (a : Int32) (b : Int32) (c : Int32) (σ : LT) (r : Int32) (σf : LT) (hf : fL_addStation a b c σ = some (r, σf)) : Con wL l G ad yL_addStation (Cond.codeWith yL_addStation cL_addStation 6 (some .int) [(0, 12, 15, 13), (0, 12, 19, 15), (0, 12, 23, 17)]) rmL_addStation 4 24 [.ref (ad 0), .int a, .int b, .int c, .ref (ad 100)] σ (some (.int r)) σf := by
  refine Con.startH (by decide) (Nat.le_of_ble_eq_true rfl) (fun X Q _ hT C F => ?_)
  refine V_eq (L' := [(0, .ref (ad 0)), (1, .int a), (2, .int b), (3, .int c), (4, .ref (ad 100))]) (st' := []) rfl rfl rfl ?_
  unfold fL_addStation at hf
  refine V_aload (q := 2) C dL_addStation_0 rfl 4 rfl ?_
  refine V_iconst (v := 0) (q := 3) C dL_addStation_2 rfl ic_0 ?_
  refine V_aload_n (q := 4) C dL_addStation_3 rfl rfl 0 rfl ?_
  refine V_iload_n (q := 5) C dL_addStation_4 rfl rfl 1 rfl ?_
  refine V_iload_n (q := 6) C dL_addStation_5 rfl rfl 2 rfl ?_
  refine V_iload_n (q := 7) C dL_addStation_6 rfl rfl 3 rfl ?_
  obtain ⟨z4, σ2, h3, hE, hA⟩ := bx_s hf
  refine V_callVXs (av := [.int a, .int b, .int c]) (st := [.int (0 : Int32), .ref (ad 100)]) (q := 10) (subX (τ := σ)) C 0 (by decide) (eX_0 G ad _) rfl rfl (conX6_addStation _ _ _ _ _ _ _ _ _ h3) q_419 q_107 q_416 q_417 q_418 nmX6_addStation (by decide) rfl rfl (Nat.le_of_ble_eq_true rfl) dL_addStation_7 rfl (fun E hz => ?_) (fun w5 h6 => ?_)
  · obtain rfl := rI_l hz
    replace hf := hE _ rfl
    by_cases e7 : E = "java/lang/IllegalArgumentException"
    · replace hf := (ite_s hf).1 e7
      subst e7
      refine VX_catch C hT [] ⟨0, 12, 15, 13⟩ [⟨0, 12, 19, 15⟩, ⟨0, 12, 23, 17⟩] rfl (fun z hz => by cases hz) (by decide) (by decide) (by decide) q_413 q_426 (fun qe => ?_)
      refine V_lets hf (fun σ8 hf => ?_)
      refine V_astore (L' := [(5, .ref qe), (0, .ref (ad 0)), (1, .int a), (2, .int b), (3, .int c), (4, .ref (ad 100))]) (q := 17) C dL_addStation_15 rfl (by decide) rfl ?_
      refine V_iconst (v := 1) (q := 18) C dL_addStation_17 rfl ic_1 ?_
      obtain ⟨e1, e2⟩ := pr_s hf
      subst e1; subst e2
      exact V_iret C F (by decide) (by decide) dL_addStation_18
    · replace hf := (ite_s hf).2 e7
      by_cases e9 : E = "java/lang/UnsupportedOperationException"
      · replace hf := (ite_s hf).1 e9
        subst e9
        refine VX_catch C hT [⟨0, 12, 15, 13⟩] ⟨0, 12, 19, 15⟩ [⟨0, 12, 23, 17⟩] rfl (fun z hz => by
          simp only [List.mem_cons, List.not_mem_nil, or_false] at hz
          rcases hz with rfl
          · exact ⟨by decide, "java/lang/IllegalArgumentException", q_413, by decide, by decide⟩
          ) (by decide) (by decide) (by decide) q_414 q_508 (fun qe => ?_)
        refine V_lets hf (fun σ10 hf => ?_)
        refine V_astore (L' := [(5, .ref qe), (0, .ref (ad 0)), (1, .int a), (2, .int b), (3, .int c), (4, .ref (ad 100))]) (q := 21) C dL_addStation_19 rfl (by decide) rfl ?_
        refine V_iconst (v := 2) (q := 22) C dL_addStation_21 rfl ic_2 ?_
        obtain ⟨e1, e2⟩ := pr_s hf
        subst e1; subst e2
        exact V_iret C F (by decide) (by decide) dL_addStation_22
      · replace hf := (ite_s hf).2 e9
        by_cases e11 : E = "java/lang/IllegalStateException"
        · replace hf := (ite_s hf).1 e11
          subst e11
          refine VX_catch C hT [⟨0, 12, 15, 13⟩, ⟨0, 12, 19, 15⟩] ⟨0, 12, 23, 17⟩ [] rfl (fun z hz => by
            simp only [List.mem_cons, List.not_mem_nil, or_false] at hz
            rcases hz with rfl | rfl
            · exact ⟨by decide, "java/lang/IllegalArgumentException", q_413, by decide, by decide⟩
            · exact ⟨by decide, "java/lang/UnsupportedOperationException", q_414, by decide, by decide⟩
            ) (by decide) (by decide) (by decide) q_415 q_524 (fun qe => ?_)
          refine V_lets hf (fun σ12 hf => ?_)
          refine V_astore (L' := [(5, .ref qe), (0, .ref (ad 0)), (1, .int a), (2, .int b), (3, .int c), (4, .ref (ad 100))]) (q := 25) C dL_addStation_23 rfl (by decide) rfl ?_
          refine V_iconst (v := 3) (q := 26) C dL_addStation_25 rfl ic_3 ?_
          obtain ⟨e1, e2⟩ := pr_s hf
          subst e1; subst e2
          exact V_iret C F (by decide) (by decide) dL_addStation_26
        · replace hf := (ite_s hf).2 e11
          cases hf
  · obtain ⟨r1, rfl, rfl⟩ := rI_r h6
    replace hf := hA _ rfl
    refine V_eq (L' := [(0, .ref (ad 0)), (1, .int a), (2, .int b), (3, .int c), (4, .ref (ad 100))]) (st' := [.int r1, .int (0 : Int32), .ref (ad 100)]) rfl rfl rfl ?_
    refine V_wide (k2 := 4) (n2 := 24) (by decide) (by decide) ?_
    refine V_lets hf (fun σ13 hf => ?_)
    refine V_i2l (q := 11) C dL_addStation_10 rfl ?_
    refine V_outW (q := 12) C dL_addStation_11 rfl ?_
    refine V_lets hf (fun σ14 hf => ?_)
    refine V_goto (t := 27) C dL_addStation_12 (by decide) ?_
    refine V_iconst (v := 0) (q := 28) C dL_addStation_27 rfl ic_0 ?_
    obtain ⟨e1, e2⟩ := pr_s hf
    subst e1; subst e2
    exact V_iret C F (by decide) (by decide) dL_addStation_28
def rmL_removeStation : Room := { frames := 8, cells := 2, slots := 12, locals := 130 }
def fL_removeStation  (σ : LT) : Option (Int32 × LT) := bx (fX6_removeStation  σ.1) (fun E σE => if E = "java/lang/UnsupportedOperationException" then (lt' (σE, σ.2) (fun (σ8 : LT) => some ((1 : Int32), σ8))) else if E = "java/lang/IllegalStateException" then (lt' (σE, σ.2) (fun (σ10 : LT) => some ((2 : Int32), σ10))) else none) (fun (r1 : Int32) (σ2 : Sg) => lt' (σ2, σ.2) (fun (σ11 : LT) => lt' (σ11.1, σ11.2.1, vp_updL σ11.2.2 0 r1.toInt64) (fun (σ12 : LT) => some ((0 : Int32), σ12))))
set_option maxHeartbeats 4000000 in
theorem conL_removeStation (l : Launch) (G : Gx) (ad : Nat → Nat)  (σ : LT) (r : Int32) (σf : LT) (hf : fL_removeStation  σ = some (r, σf)) : Con wL l G ad yL_removeStation (Cond.codeWith yL_removeStation cL_removeStation 3 (some .int) [(0, 8, 11, 15), (0, 8, 14, 17)]) rmL_removeStation 2 12 [.ref (ad 0), .ref (ad 100)] σ (some (.int r)) σf := by
  refine Con.startH (by decide) (Nat.le_of_ble_eq_true rfl) (fun X Q _ hT C F => ?_)
  refine V_eq (L' := [(0, .ref (ad 0)), (1, .ref (ad 100))]) (st' := []) rfl rfl rfl ?_
  unfold fL_removeStation at hf
  refine V_aload_n (q := 1) C dL_removeStation_0 rfl rfl 1 rfl ?_
  refine V_iconst (v := 0) (q := 2) C dL_removeStation_1 rfl ic_0 ?_
  refine V_aload_n (q := 3) C dL_removeStation_2 rfl rfl 0 rfl ?_
  obtain ⟨z4, σ2, h3, hE, hA⟩ := bx_s hf
  refine V_callVXs (av := []) (st := [.int (0 : Int32), .ref (ad 100)]) (q := 6) (subX (τ := σ)) C 0 (by decide) (eX_0 G ad _) rfl rfl (conX6_removeStation _ _ _  _ _ _ h3) q_552 q_107 q_549 q_550 q_551 nmX6_removeStation (by decide) rfl rfl (Nat.le_of_ble_eq_true rfl) dL_removeStation_3 rfl (fun E hz => ?_) (fun w5 h6 => ?_)
  · obtain rfl := rI_l hz
    replace hf := hE _ rfl
    by_cases e7 : E = "java/lang/UnsupportedOperationException"
    · replace hf := (ite_s hf).1 e7
      subst e7
      refine VX_catch C hT [] ⟨0, 8, 11, 15⟩ [⟨0, 8, 14, 17⟩] rfl (fun z hz => by cases hz) (by decide) (by decide) (by decide) q_414 q_508 (fun qe => ?_)
      refine V_lets hf (fun σ8 hf => ?_)
      refine V_astore_n (L' := [(2, .ref qe), (0, .ref (ad 0)), (1, .ref (ad 100))]) (q := 12) C dL_removeStation_11 rfl rfl (by decide) rfl ?_
      refine V_iconst (v := 1) (q := 13) C dL_removeStation_12 rfl ic_1 ?_
      obtain ⟨e1, e2⟩ := pr_s hf
      subst e1; subst e2
      exact V_iret C F (by decide) (by decide) dL_removeStation_13
    · replace hf := (ite_s hf).2 e7
      by_cases e9 : E = "java/lang/IllegalStateException"
      · replace hf := (ite_s hf).1 e9
        subst e9
        refine VX_catch C hT [⟨0, 8, 11, 15⟩] ⟨0, 8, 14, 17⟩ [] rfl (fun z hz => by
          simp only [List.mem_cons, List.not_mem_nil, or_false] at hz
          rcases hz with rfl
          · exact ⟨by decide, "java/lang/UnsupportedOperationException", q_414, by decide, by decide⟩
          ) (by decide) (by decide) (by decide) q_415 q_524 (fun qe => ?_)
        refine V_lets hf (fun σ10 hf => ?_)
        refine V_astore_n (L' := [(2, .ref qe), (0, .ref (ad 0)), (1, .ref (ad 100))]) (q := 15) C dL_removeStation_14 rfl rfl (by decide) rfl ?_
        refine V_iconst (v := 2) (q := 16) C dL_removeStation_15 rfl ic_2 ?_
        obtain ⟨e1, e2⟩ := pr_s hf
        subst e1; subst e2
        exact V_iret C F (by decide) (by decide) dL_removeStation_16
      · replace hf := (ite_s hf).2 e9
        cases hf
  · obtain ⟨r1, rfl, rfl⟩ := rI_r h6
    replace hf := hA _ rfl
    refine V_eq (L' := [(0, .ref (ad 0)), (1, .ref (ad 100))]) (st' := [.int r1, .int (0 : Int32), .ref (ad 100)]) rfl rfl rfl ?_
    refine V_wide (k2 := 2) (n2 := 12) (by decide) (by decide) ?_
    refine V_lets hf (fun σ11 hf => ?_)
    refine V_i2l (q := 7) C dL_removeStation_6 rfl ?_
    refine V_outW (q := 8) C dL_removeStation_7 rfl ?_
    refine V_lets hf (fun σ12 hf => ?_)
    refine V_goto (t := 17) C dL_removeStation_8 (by decide) ?_
    refine V_iconst (v := 0) (q := 18) C dL_removeStation_17 rfl ic_0 ?_
    obtain ⟨e1, e2⟩ := pr_s hf
    subst e1; subst e2
    exact V_iret C F (by decide) (by decide) dL_removeStation_18
def rmL_setParticipates : Room := { frames := 8, cells := 2, slots := 12, locals := 134 }
def fL_setParticipates (a : Int32) (b : Int32) (σ : LT) : Option (Int32 × LT) := bx (fX6_setParticipates a b σ.1) (fun E σE => if E = "java/lang/IndexOutOfBoundsException" then (lt' (σE, σ.2) (fun (σ8 : LT) => some ((1 : Int32), σ8))) else if E = "java/lang/UnsupportedOperationException" then (lt' (σE, σ.2) (fun (σ10 : LT) => some ((2 : Int32), σ10))) else none) (fun (r1 : Int32) (σ2 : Sg) => lt' (σ2, σ.2) (fun (σ11 : LT) => jp (fun (v12 : Int64) (σ13 : LT) => lt' (σ13.1, σ13.2.1, vp_updL σ13.2.2 0 v12) (fun (σ14 : LT) => some ((0 : Int32), σ14))) (fun (J16 : Int64 → LT → Option (Int32 × LT)) => if r1 = 0 then (J16 (0 : Int64) σ11) else (J16 (1 : Int64) σ11))))
set_option maxHeartbeats 4000000 in
theorem conL_setParticipates (l : Launch) (G : Gx) (ad : Nat → Nat) (a : Int32) (b : Int32) (σ : LT) (r : Int32) (σf : LT) (hf : fL_setParticipates a b σ = some (r, σf)) : Con wL l G ad yL_setParticipates (Cond.codeWith yL_setParticipates cL_setParticipates 5 (some .int) [(0, 17, 20, 27), (0, 17, 24, 15)]) rmL_setParticipates 2 12 [.ref (ad 0), .int a, .int b, .ref (ad 100)] σ (some (.int r)) σf := by
  refine Con.startH (by decide) (Nat.le_of_ble_eq_true rfl) (fun X Q _ hT C F => ?_)
  refine V_eq (L' := [(0, .ref (ad 0)), (1, .int a), (2, .int b), (3, .ref (ad 100))]) (st' := []) rfl rfl rfl ?_
  unfold fL_setParticipates at hf
  refine V_aload_n (q := 1) C dL_setParticipates_0 rfl rfl 3 rfl ?_
  refine V_iconst (v := 0) (q := 2) C dL_setParticipates_1 rfl ic_0 ?_
  refine V_aload_n (q := 3) C dL_setParticipates_2 rfl rfl 0 rfl ?_
  refine V_iload_n (q := 4) C dL_setParticipates_3 rfl rfl 1 rfl ?_
  refine V_iload_n (q := 5) C dL_setParticipates_4 rfl rfl 2 rfl ?_
  obtain ⟨z4, σ2, h3, hE, hA⟩ := bx_s hf
  refine V_callVXs (av := [.int a, .int b]) (st := [.int (0 : Int32), .ref (ad 100)]) (q := 8) (subX (τ := σ)) C 0 (by decide) (eX_0 G ad _) rfl rfl (conX6_setParticipates _ _ _ _ _ _ _ _ h3) q_592 q_107 q_589 q_590 q_591 nmX6_setParticipates (by decide) rfl rfl (Nat.le_of_ble_eq_true rfl) dL_setParticipates_5 rfl (fun E hz => ?_) (fun w5 h6 => ?_)
  · obtain rfl := rI_l hz
    replace hf := hE _ rfl
    by_cases e7 : E = "java/lang/IndexOutOfBoundsException"
    · replace hf := (ite_s hf).1 e7
      subst e7
      refine VX_catch C hT [] ⟨0, 17, 20, 27⟩ [⟨0, 17, 24, 15⟩] rfl (fun z hz => by cases hz) (by decide) (by decide) (by decide) q_565 q_599 (fun qe => ?_)
      refine V_lets hf (fun σ8 hf => ?_)
      refine V_astore (L' := [(4, .ref qe), (0, .ref (ad 0)), (1, .int a), (2, .int b), (3, .ref (ad 100))]) (q := 22) C dL_setParticipates_20 rfl (by decide) rfl ?_
      refine V_iconst (v := 1) (q := 23) C dL_setParticipates_22 rfl ic_1 ?_
      obtain ⟨e1, e2⟩ := pr_s hf
      subst e1; subst e2
      exact V_iret C F (by decide) (by decide) dL_setParticipates_23
    · replace hf := (ite_s hf).2 e7
      by_cases e9 : E = "java/lang/UnsupportedOperationException"
      · replace hf := (ite_s hf).1 e9
        subst e9
        refine VX_catch C hT [⟨0, 17, 20, 27⟩] ⟨0, 17, 24, 15⟩ [] rfl (fun z hz => by
          simp only [List.mem_cons, List.not_mem_nil, or_false] at hz
          rcases hz with rfl
          · exact ⟨by decide, "java/lang/IndexOutOfBoundsException", q_565, by decide, by decide⟩
          ) (by decide) (by decide) (by decide) q_414 q_508 (fun qe => ?_)
        refine V_lets hf (fun σ10 hf => ?_)
        refine V_astore (L' := [(4, .ref qe), (0, .ref (ad 0)), (1, .int a), (2, .int b), (3, .ref (ad 100))]) (q := 26) C dL_setParticipates_24 rfl (by decide) rfl ?_
        refine V_iconst (v := 2) (q := 27) C dL_setParticipates_26 rfl ic_2 ?_
        obtain ⟨e1, e2⟩ := pr_s hf
        subst e1; subst e2
        exact V_iret C F (by decide) (by decide) dL_setParticipates_27
      · replace hf := (ite_s hf).2 e9
        cases hf
  · obtain ⟨r1, rfl, rfl⟩ := rI_r h6
    replace hf := hA _ rfl
    refine V_eq (L' := [(0, .ref (ad 0)), (1, .int a), (2, .int b), (3, .ref (ad 100))]) (st' := [.int r1, .int (0 : Int32), .ref (ad 100)]) rfl rfl rfl ?_
    refine V_wide (k2 := 2) (n2 := 12) (by decide) (by decide) ?_
    refine V_lets hf (fun σ11 hf => ?_)
    obtain ⟨J16, eJ16, hf⟩ := jp_s hf
    have hJ16 : ∀ (v12 : Int64) (σ13 : LT), J16 v12 σ13 = some (r, σf) → V wL X G ad 5 Q 2 12 σ13 16 [] [.long v12, .int (0 : Int32), .ref (ad 100)] := by
      intro v12 σ13 hf
      subst eJ16
      refine V_outW (q := 17) C dL_setParticipates_16 rfl ?_
      refine V_lets hf (fun σ14 hf => ?_)
      refine V_goto (t := 28) C dL_setParticipates_17 (by decide) ?_
      refine V_iconst (v := 0) (q := 29) C dL_setParticipates_28 rfl ic_0 ?_
      obtain ⟨e1, e2⟩ := pr_s hf
      subst e1; subst e2
      exact V_iret C F (by decide) (by decide) dL_setParticipates_29
    refine V_if_eq (t := 15) (q := 11) C dL_setParticipates_8 (by decide) rfl (fun c15 => ?_) (fun c15 => ?_)
    · replace hf := (ite_s hf).1 c15
      refine V_lconst (v := 0) (q := 16) C dL_setParticipates_15 rfl (by decide) ?_
      refine V_sub (L' := []) [] rfl ?_
      exact hJ16 _ _ hf
    · replace hf := (ite_s hf).2 c15
      refine V_lconst (v := 1) (q := 12) C dL_setParticipates_11 rfl (by decide) ?_
      refine V_goto (t := 16) C dL_setParticipates_12 (by decide) ?_
      refine V_sub (L' := []) [] rfl ?_
      exact hJ16 _ _ hf
def rmL_setValue : Room := { frames := 8, cells := 3, slots := 18, locals := 134 }
def fL_setValue (a : Int32) (b : Int32) (σ : LT) : Option (Int32 × LT) := bx (fX6_setValue a b σ.1) (fun E σE => if E = "java/lang/IndexOutOfBoundsException" then (lt' (σE, σ.2) (fun (σ8 : LT) => some ((1 : Int32), σ8))) else if E = "java/lang/IllegalArgumentException" then (lt' (σE, σ.2) (fun (σ10 : LT) => some ((2 : Int32), σ10))) else if E = "java/lang/UnsupportedOperationException" then (lt' (σE, σ.2) (fun (σ12 : LT) => some ((3 : Int32), σ12))) else none) (fun (r1 : Int32) (σ2 : Sg) => lt' (σ2, σ.2) (fun (σ13 : LT) => lt' (σ13.1, σ13.2.1, vp_updL σ13.2.2 0 r1.toInt64) (fun (σ14 : LT) => some ((0 : Int32), σ14))))
set_option maxHeartbeats 4000000 in
theorem conL_setValue (l : Launch) (G : Gx) (ad : Nat → Nat) (a : Int32) (b : Int32) (σ : LT) (r : Int32) (σf : LT) (hf : fL_setValue a b σ = some (r, σf)) : Con wL l G ad yL_setValue (Cond.codeWith yL_setValue cL_setValue 5 (some .int) [(0, 10, 13, 27), (0, 10, 17, 13), (0, 10, 21, 15)]) rmL_setValue 3 18 [.ref (ad 0), .int a, .int b, .ref (ad 100)] σ (some (.int r)) σf := by
  refine Con.startH (by decide) (Nat.le_of_ble_eq_true rfl) (fun X Q _ hT C F => ?_)
  refine V_eq (L' := [(0, .ref (ad 0)), (1, .int a), (2, .int b), (3, .ref (ad 100))]) (st' := []) rfl rfl rfl ?_
  unfold fL_setValue at hf
  refine V_aload_n (q := 1) C dL_setValue_0 rfl rfl 3 rfl ?_
  refine V_iconst (v := 0) (q := 2) C dL_setValue_1 rfl ic_0 ?_
  refine V_aload_n (q := 3) C dL_setValue_2 rfl rfl 0 rfl ?_
  refine V_iload_n (q := 4) C dL_setValue_3 rfl rfl 1 rfl ?_
  refine V_iload_n (q := 5) C dL_setValue_4 rfl rfl 2 rfl ?_
  obtain ⟨z4, σ2, h3, hE, hA⟩ := bx_s hf
  refine V_callVXs (av := [.int a, .int b]) (st := [.int (0 : Int32), .ref (ad 100)]) (q := 8) (subX (τ := σ)) C 0 (by decide) (eX_0 G ad _) rfl rfl (conX6_setValue _ _ _ _ _ _ _ _ h3) q_619 q_107 q_616 q_617 q_618 nmX6_setValue (by decide) rfl rfl (Nat.le_of_ble_eq_true rfl) dL_setValue_5 rfl (fun E hz => ?_) (fun w5 h6 => ?_)
  · obtain rfl := rI_l hz
    replace hf := hE _ rfl
    by_cases e7 : E = "java/lang/IndexOutOfBoundsException"
    · replace hf := (ite_s hf).1 e7
      subst e7
      refine VX_catch C hT [] ⟨0, 10, 13, 27⟩ [⟨0, 10, 17, 13⟩, ⟨0, 10, 21, 15⟩] rfl (fun z hz => by cases hz) (by decide) (by decide) (by decide) q_565 q_599 (fun qe => ?_)
      refine V_lets hf (fun σ8 hf => ?_)
      refine V_astore (L' := [(4, .ref qe), (0, .ref (ad 0)), (1, .int a), (2, .int b), (3, .ref (ad 100))]) (q := 15) C dL_setValue_13 rfl (by decide) rfl ?_
      refine V_iconst (v := 1) (q := 16) C dL_setValue_15 rfl ic_1 ?_
      obtain ⟨e1, e2⟩ := pr_s hf
      subst e1; subst e2
      exact V_iret C F (by decide) (by decide) dL_setValue_16
    · replace hf := (ite_s hf).2 e7
      by_cases e9 : E = "java/lang/IllegalArgumentException"
      · replace hf := (ite_s hf).1 e9
        subst e9
        refine VX_catch C hT [⟨0, 10, 13, 27⟩] ⟨0, 10, 17, 13⟩ [⟨0, 10, 21, 15⟩] rfl (fun z hz => by
          simp only [List.mem_cons, List.not_mem_nil, or_false] at hz
          rcases hz with rfl
          · exact ⟨by decide, "java/lang/IndexOutOfBoundsException", q_565, by decide, by decide⟩
          ) (by decide) (by decide) (by decide) q_413 q_426 (fun qe => ?_)
        refine V_lets hf (fun σ10 hf => ?_)
        refine V_astore (L' := [(4, .ref qe), (0, .ref (ad 0)), (1, .int a), (2, .int b), (3, .ref (ad 100))]) (q := 19) C dL_setValue_17 rfl (by decide) rfl ?_
        refine V_iconst (v := 2) (q := 20) C dL_setValue_19 rfl ic_2 ?_
        obtain ⟨e1, e2⟩ := pr_s hf
        subst e1; subst e2
        exact V_iret C F (by decide) (by decide) dL_setValue_20
      · replace hf := (ite_s hf).2 e9
        by_cases e11 : E = "java/lang/UnsupportedOperationException"
        · replace hf := (ite_s hf).1 e11
          subst e11
          refine VX_catch C hT [⟨0, 10, 13, 27⟩, ⟨0, 10, 17, 13⟩] ⟨0, 10, 21, 15⟩ [] rfl (fun z hz => by
            simp only [List.mem_cons, List.not_mem_nil, or_false] at hz
            rcases hz with rfl | rfl
            · exact ⟨by decide, "java/lang/IndexOutOfBoundsException", q_565, by decide, by decide⟩
            · exact ⟨by decide, "java/lang/IllegalArgumentException", q_413, by decide, by decide⟩
            ) (by decide) (by decide) (by decide) q_414 q_508 (fun qe => ?_)
          refine V_lets hf (fun σ12 hf => ?_)
          refine V_astore (L' := [(4, .ref qe), (0, .ref (ad 0)), (1, .int a), (2, .int b), (3, .ref (ad 100))]) (q := 23) C dL_setValue_21 rfl (by decide) rfl ?_
          refine V_iconst (v := 3) (q := 24) C dL_setValue_23 rfl ic_3 ?_
          obtain ⟨e1, e2⟩ := pr_s hf
          subst e1; subst e2
          exact V_iret C F (by decide) (by decide) dL_setValue_24
        · replace hf := (ite_s hf).2 e11
          cases hf
  · obtain ⟨r1, rfl, rfl⟩ := rI_r h6
    replace hf := hA _ rfl
    refine V_eq (L' := [(0, .ref (ad 0)), (1, .int a), (2, .int b), (3, .ref (ad 100))]) (st' := [.int r1, .int (0 : Int32), .ref (ad 100)]) rfl rfl rfl ?_
    refine V_wide (k2 := 3) (n2 := 18) (by decide) (by decide) ?_
    refine V_lets hf (fun σ13 hf => ?_)
    refine V_i2l (q := 9) C dL_setValue_8 rfl ?_
    refine V_outW (q := 10) C dL_setValue_9 rfl ?_
    refine V_lets hf (fun σ14 hf => ?_)
    refine V_goto (t := 25) C dL_setValue_10 (by decide) ?_
    refine V_iconst (v := 0) (q := 26) C dL_setValue_25 rfl ic_0 ?_
    obtain ⟨e1, e2⟩ := pr_s hf
    subst e1; subst e2
    exact V_iret C F (by decide) (by decide) dL_setValue_26
def rmL_setAvailable : Room := { frames := 8, cells := 2, slots := 12, locals := 133 }
def fL_setAvailable (a : Int32) (σ : LT) : Option (Int32 × LT) := bx (fX6_setAvailable a σ.1) (fun E σE => if E = "java/lang/IllegalArgumentException" then (lt' (σE, σ.2) (fun (σ8 : LT) => some ((1 : Int32), σ8))) else if E = "java/lang/UnsupportedOperationException" then (lt' (σE, σ.2) (fun (σ10 : LT) => some ((2 : Int32), σ10))) else none) (fun (r1 : Int32) (σ2 : Sg) => lt' (σ2, σ.2) (fun (σ11 : LT) => lt' (σ11.1, σ11.2.1, vp_updL σ11.2.2 0 r1.toInt64) (fun (σ12 : LT) => some ((0 : Int32), σ12))))
set_option maxHeartbeats 4000000 in
theorem conL_setAvailable (l : Launch) (G : Gx) (ad : Nat → Nat) (a : Int32) (σ : LT) (r : Int32) (σf : LT) (hf : fL_setAvailable a σ = some (r, σf)) : Con wL l G ad yL_setAvailable (Cond.codeWith yL_setAvailable cL_setAvailable 4 (some .int) [(0, 9, 12, 13), (0, 9, 15, 15)]) rmL_setAvailable 2 12 [.ref (ad 0), .int a, .ref (ad 100)] σ (some (.int r)) σf := by
  refine Con.startH (by decide) (Nat.le_of_ble_eq_true rfl) (fun X Q _ hT C F => ?_)
  refine V_eq (L' := [(0, .ref (ad 0)), (1, .int a), (2, .ref (ad 100))]) (st' := []) rfl rfl rfl ?_
  unfold fL_setAvailable at hf
  refine V_aload_n (q := 1) C dL_setAvailable_0 rfl rfl 2 rfl ?_
  refine V_iconst (v := 0) (q := 2) C dL_setAvailable_1 rfl ic_0 ?_
  refine V_aload_n (q := 3) C dL_setAvailable_2 rfl rfl 0 rfl ?_
  refine V_iload_n (q := 4) C dL_setAvailable_3 rfl rfl 1 rfl ?_
  obtain ⟨z4, σ2, h3, hE, hA⟩ := bx_s hf
  refine V_callVXs (av := [.int a]) (st := [.int (0 : Int32), .ref (ad 100)]) (q := 7) (subX (τ := σ)) C 0 (by decide) (eX_0 G ad _) rfl rfl (conX6_setAvailable _ _ _ _ _ _ _ h3) q_626 q_107 q_623 q_624 q_625 nmX6_setAvailable (by decide) rfl rfl (Nat.le_of_ble_eq_true rfl) dL_setAvailable_4 rfl (fun E hz => ?_) (fun w5 h6 => ?_)
  · obtain rfl := rI_l hz
    replace hf := hE _ rfl
    by_cases e7 : E = "java/lang/IllegalArgumentException"
    · replace hf := (ite_s hf).1 e7
      subst e7
      refine VX_catch C hT [] ⟨0, 9, 12, 13⟩ [⟨0, 9, 15, 15⟩] rfl (fun z hz => by cases hz) (by decide) (by decide) (by decide) q_413 q_426 (fun qe => ?_)
      refine V_lets hf (fun σ8 hf => ?_)
      refine V_astore_n (L' := [(3, .ref qe), (0, .ref (ad 0)), (1, .int a), (2, .ref (ad 100))]) (q := 13) C dL_setAvailable_12 rfl rfl (by decide) rfl ?_
      refine V_iconst (v := 1) (q := 14) C dL_setAvailable_13 rfl ic_1 ?_
      obtain ⟨e1, e2⟩ := pr_s hf
      subst e1; subst e2
      exact V_iret C F (by decide) (by decide) dL_setAvailable_14
    · replace hf := (ite_s hf).2 e7
      by_cases e9 : E = "java/lang/UnsupportedOperationException"
      · replace hf := (ite_s hf).1 e9
        subst e9
        refine VX_catch C hT [⟨0, 9, 12, 13⟩] ⟨0, 9, 15, 15⟩ [] rfl (fun z hz => by
          simp only [List.mem_cons, List.not_mem_nil, or_false] at hz
          rcases hz with rfl
          · exact ⟨by decide, "java/lang/IllegalArgumentException", q_413, by decide, by decide⟩
          ) (by decide) (by decide) (by decide) q_414 q_508 (fun qe => ?_)
        refine V_lets hf (fun σ10 hf => ?_)
        refine V_astore_n (L' := [(3, .ref qe), (0, .ref (ad 0)), (1, .int a), (2, .ref (ad 100))]) (q := 16) C dL_setAvailable_15 rfl rfl (by decide) rfl ?_
        refine V_iconst (v := 2) (q := 17) C dL_setAvailable_16 rfl ic_2 ?_
        obtain ⟨e1, e2⟩ := pr_s hf
        subst e1; subst e2
        exact V_iret C F (by decide) (by decide) dL_setAvailable_17
      · replace hf := (ite_s hf).2 e9
        cases hf
  · obtain ⟨r1, rfl, rfl⟩ := rI_r h6
    replace hf := hA _ rfl
    refine V_eq (L' := [(0, .ref (ad 0)), (1, .int a), (2, .ref (ad 100))]) (st' := [.int r1, .int (0 : Int32), .ref (ad 100)]) rfl rfl rfl ?_
    refine V_wide (k2 := 2) (n2 := 12) (by decide) (by decide) ?_
    refine V_lets hf (fun σ11 hf => ?_)
    refine V_i2l (q := 8) C dL_setAvailable_7 rfl ?_
    refine V_outW (q := 9) C dL_setAvailable_8 rfl ?_
    refine V_lets hf (fun σ12 hf => ?_)
    refine V_goto (t := 18) C dL_setAvailable_9 (by decide) ?_
    refine V_iconst (v := 0) (q := 19) C dL_setAvailable_18 rfl ic_0 ?_
    obtain ⟨e1, e2⟩ := pr_s hf
    subst e1; subst e2
    exact V_iret C F (by decide) (by decide) dL_setAvailable_19
def rmL_append : Room := { frames := 7, cells := 1, slots := 6, locals := 114 }
def fL_append (a : Int32) (σ : LT) : Option (Int32 × LT) := bx (fX6_append a σ.1) (fun E σE => if E = "java/lang/IllegalArgumentException" then (lt' (σE, σ.2) (fun (σ8 : LT) => some ((1 : Int32), σ8))) else if E = "java/lang/IllegalStateException" then (lt' (σE, σ.2) (fun (σ10 : LT) => some ((2 : Int32), σ10))) else none) (fun (r1 : Int32) (σ2 : Sg) => lt' (σ2, σ.2) (fun (σ11 : LT) => lt' (σ11.1, σ11.2.1, vp_updL σ11.2.2 0 r1.toInt64) (fun (σ12 : LT) => some ((0 : Int32), σ12))))
set_option maxHeartbeats 4000000 in
theorem conL_append (l : Launch) (G : Gx) (ad : Nat → Nat) (a : Int32) (σ : LT) (r : Int32) (σf : LT) (hf : fL_append a σ = some (r, σf)) : Con wL l G ad yL_append (Cond.codeWith yL_append cL_append 4 (some .int) [(0, 9, 12, 13), (0, 9, 15, 17)]) rmL_append 1 6 [.ref (ad 0), .int a, .ref (ad 100)] σ (some (.int r)) σf := by
  refine Con.startH (by decide) (Nat.le_of_ble_eq_true rfl) (fun X Q _ hT C F => ?_)
  refine V_eq (L' := [(0, .ref (ad 0)), (1, .int a), (2, .ref (ad 100))]) (st' := []) rfl rfl rfl ?_
  unfold fL_append at hf
  refine V_aload_n (q := 1) C dL_append_0 rfl rfl 2 rfl ?_
  refine V_iconst (v := 0) (q := 2) C dL_append_1 rfl ic_0 ?_
  refine V_aload_n (q := 3) C dL_append_2 rfl rfl 0 rfl ?_
  refine V_iload_n (q := 4) C dL_append_3 rfl rfl 1 rfl ?_
  obtain ⟨z4, σ2, h3, hE, hA⟩ := bx_s hf
  refine V_callVXs (av := [.int a]) (st := [.int (0 : Int32), .ref (ad 100)]) (q := 7) (subX (τ := σ)) C 0 (by decide) (eX_0 G ad _) rfl rfl (conX6_append _ _ _ _ _ _ _ h3) q_633 q_107 q_630 q_631 q_632 nmX6_append (by decide) rfl rfl (Nat.le_of_ble_eq_true rfl) dL_append_4 rfl (fun E hz => ?_) (fun w5 h6 => ?_)
  · obtain rfl := rI_l hz
    replace hf := hE _ rfl
    by_cases e7 : E = "java/lang/IllegalArgumentException"
    · replace hf := (ite_s hf).1 e7
      subst e7
      refine VX_catch C hT [] ⟨0, 9, 12, 13⟩ [⟨0, 9, 15, 17⟩] rfl (fun z hz => by cases hz) (by decide) (by decide) (by decide) q_413 q_426 (fun qe => ?_)
      refine V_lets hf (fun σ8 hf => ?_)
      refine V_astore_n (L' := [(3, .ref qe), (0, .ref (ad 0)), (1, .int a), (2, .ref (ad 100))]) (q := 13) C dL_append_12 rfl rfl (by decide) rfl ?_
      refine V_iconst (v := 1) (q := 14) C dL_append_13 rfl ic_1 ?_
      obtain ⟨e1, e2⟩ := pr_s hf
      subst e1; subst e2
      exact V_iret C F (by decide) (by decide) dL_append_14
    · replace hf := (ite_s hf).2 e7
      by_cases e9 : E = "java/lang/IllegalStateException"
      · replace hf := (ite_s hf).1 e9
        subst e9
        refine VX_catch C hT [⟨0, 9, 12, 13⟩] ⟨0, 9, 15, 17⟩ [] rfl (fun z hz => by
          simp only [List.mem_cons, List.not_mem_nil, or_false] at hz
          rcases hz with rfl
          · exact ⟨by decide, "java/lang/IllegalArgumentException", q_413, by decide, by decide⟩
          ) (by decide) (by decide) (by decide) q_415 q_524 (fun qe => ?_)
        refine V_lets hf (fun σ10 hf => ?_)
        refine V_astore_n (L' := [(3, .ref qe), (0, .ref (ad 0)), (1, .int a), (2, .ref (ad 100))]) (q := 16) C dL_append_15 rfl rfl (by decide) rfl ?_
        refine V_iconst (v := 2) (q := 17) C dL_append_16 rfl ic_2 ?_
        obtain ⟨e1, e2⟩ := pr_s hf
        subst e1; subst e2
        exact V_iret C F (by decide) (by decide) dL_append_17
      · replace hf := (ite_s hf).2 e9
        cases hf
  · obtain ⟨r1, rfl, rfl⟩ := rI_r h6
    replace hf := hA _ rfl
    refine V_eq (L' := [(0, .ref (ad 0)), (1, .int a), (2, .ref (ad 100))]) (st' := [.int r1, .int (0 : Int32), .ref (ad 100)]) rfl rfl rfl ?_
    refine V_wide (k2 := 1) (n2 := 6) (by decide) (by decide) ?_
    refine V_lets hf (fun σ11 hf => ?_)
    refine V_i2l (q := 8) C dL_append_7 rfl ?_
    refine V_outW (q := 9) C dL_append_8 rfl ?_
    refine V_lets hf (fun σ12 hf => ?_)
    refine V_goto (t := 18) C dL_append_9 (by decide) ?_
    refine V_iconst (v := 0) (q := 19) C dL_append_18 rfl ic_0 ?_
    obtain ⟨e1, e2⟩ := pr_s hf
    subst e1; subst e2
    exact V_iret C F (by decide) (by decide) dL_append_19
def rmL_setConflicts : Room := { frames := 8, cells := 2, slots := 12, locals := 132 }
def fL_setConflicts  (σ : LT) : Option (Int32 × LT) := bx (fX6_setConflicts  σ.1) (fun E σE => if E = "java/lang/UnsupportedOperationException" then (lt' (σE, σ.2) (fun (σ8 : LT) => some ((1 : Int32), σ8))) else if E = "java/lang/IllegalArgumentException" then (lt' (σE, σ.2) (fun (σ10 : LT) => some ((2 : Int32), σ10))) else none) (fun (r1 : Int32) (σ2 : Sg) => lt' (σ2, σ.2) (fun (σ11 : LT) => lt' (σ11.1, σ11.2.1, vp_updL σ11.2.2 0 r1.toInt64) (fun (σ12 : LT) => some ((0 : Int32), σ12))))
set_option maxHeartbeats 4000000 in
theorem conL_setConflicts (l : Launch) (G : Gx) (ad : Nat → Nat)  (σ : LT) (r : Int32) (σf : LT) (hf : fL_setConflicts  σ = some (r, σf)) : Con wL l G ad yL_setConflicts (Cond.codeWith yL_setConflicts cL_setConflicts 3 (some .int) [(0, 8, 11, 15), (0, 8, 14, 13)]) rmL_setConflicts 2 12 [.ref (ad 0), .ref (ad 100)] σ (some (.int r)) σf := by
  refine Con.startH (by decide) (Nat.le_of_ble_eq_true rfl) (fun X Q _ hT C F => ?_)
  refine V_eq (L' := [(0, .ref (ad 0)), (1, .ref (ad 100))]) (st' := []) rfl rfl rfl ?_
  unfold fL_setConflicts at hf
  refine V_aload_n (q := 1) C dL_setConflicts_0 rfl rfl 1 rfl ?_
  refine V_iconst (v := 0) (q := 2) C dL_setConflicts_1 rfl ic_0 ?_
  refine V_aload_n (q := 3) C dL_setConflicts_2 rfl rfl 0 rfl ?_
  obtain ⟨z4, σ2, h3, hE, hA⟩ := bx_s hf
  refine V_callVXs (av := []) (st := [.int (0 : Int32), .ref (ad 100)]) (q := 6) (subX (τ := σ)) C 0 (by decide) (eX_0 G ad _) rfl rfl (conX6_setConflicts _ _ _  _ _ _ h3) q_646 q_107 q_643 q_644 q_645 nmX6_setConflicts (by decide) rfl rfl (Nat.le_of_ble_eq_true rfl) dL_setConflicts_3 rfl (fun E hz => ?_) (fun w5 h6 => ?_)
  · obtain rfl := rI_l hz
    replace hf := hE _ rfl
    by_cases e7 : E = "java/lang/UnsupportedOperationException"
    · replace hf := (ite_s hf).1 e7
      subst e7
      refine VX_catch C hT [] ⟨0, 8, 11, 15⟩ [⟨0, 8, 14, 13⟩] rfl (fun z hz => by cases hz) (by decide) (by decide) (by decide) q_414 q_508 (fun qe => ?_)
      refine V_lets hf (fun σ8 hf => ?_)
      refine V_astore_n (L' := [(2, .ref qe), (0, .ref (ad 0)), (1, .ref (ad 100))]) (q := 12) C dL_setConflicts_11 rfl rfl (by decide) rfl ?_
      refine V_iconst (v := 1) (q := 13) C dL_setConflicts_12 rfl ic_1 ?_
      obtain ⟨e1, e2⟩ := pr_s hf
      subst e1; subst e2
      exact V_iret C F (by decide) (by decide) dL_setConflicts_13
    · replace hf := (ite_s hf).2 e7
      by_cases e9 : E = "java/lang/IllegalArgumentException"
      · replace hf := (ite_s hf).1 e9
        subst e9
        refine VX_catch C hT [⟨0, 8, 11, 15⟩] ⟨0, 8, 14, 13⟩ [] rfl (fun z hz => by
          simp only [List.mem_cons, List.not_mem_nil, or_false] at hz
          rcases hz with rfl
          · exact ⟨by decide, "java/lang/UnsupportedOperationException", q_414, by decide, by decide⟩
          ) (by decide) (by decide) (by decide) q_413 q_426 (fun qe => ?_)
        refine V_lets hf (fun σ10 hf => ?_)
        refine V_astore_n (L' := [(2, .ref qe), (0, .ref (ad 0)), (1, .ref (ad 100))]) (q := 15) C dL_setConflicts_14 rfl rfl (by decide) rfl ?_
        refine V_iconst (v := 2) (q := 16) C dL_setConflicts_15 rfl ic_2 ?_
        obtain ⟨e1, e2⟩ := pr_s hf
        subst e1; subst e2
        exact V_iret C F (by decide) (by decide) dL_setConflicts_16
      · replace hf := (ite_s hf).2 e9
        cases hf
  · obtain ⟨r1, rfl, rfl⟩ := rI_r h6
    replace hf := hA _ rfl
    refine V_eq (L' := [(0, .ref (ad 0)), (1, .ref (ad 100))]) (st' := [.int r1, .int (0 : Int32), .ref (ad 100)]) rfl rfl rfl ?_
    refine V_wide (k2 := 2) (n2 := 12) (by decide) (by decide) ?_
    refine V_lets hf (fun σ11 hf => ?_)
    refine V_i2l (q := 7) C dL_setConflicts_6 rfl ?_
    refine V_outW (q := 8) C dL_setConflicts_7 rfl ?_
    refine V_lets hf (fun σ12 hf => ?_)
    refine V_goto (t := 17) C dL_setConflicts_8 (by decide) ?_
    refine V_iconst (v := 0) (q := 18) C dL_setConflicts_17 rfl ic_0 ?_
    obtain ⟨e1, e2⟩ := pr_s hf
    subst e1; subst e2
    exact V_iret C F (by decide) (by decide) dL_setConflicts_18
def rmL_hasConflict : Room := { frames := 8, cells := 3, slots := 18, locals := 134 }
def fL_hasConflict (a : Int32) (b : Int32) (c : Int32) (σ : LT) : Option (Int32 × LT) := bx (fX6_hasConflict a b c σ.1) (fun E σE => if E = "java/lang/IndexOutOfBoundsException" then (lt' (σE, σ.2) (fun (σ8 : LT) => some ((1 : Int32), σ8))) else if E = "java/lang/IllegalArgumentException" then (lt' (σE, σ.2) (fun (σ10 : LT) => some ((2 : Int32), σ10))) else none) (fun (r1 : Int32) (σ2 : Sg) => lt' (σ2, σ.2) (fun (σ11 : LT) => jp (fun (v12 : Int64) (σ13 : LT) => lt' (σ13.1, σ13.2.1, vp_updL σ13.2.2 0 v12) (fun (σ14 : LT) => some ((0 : Int32), σ14))) (fun (J18 : Int64 → LT → Option (Int32 × LT)) => if r1 = 0 then (J18 (0 : Int64) σ11) else (J18 (1 : Int64) σ11))))
set_option maxHeartbeats 4000000 in
theorem conL_hasConflict (l : Launch) (G : Gx) (ad : Nat → Nat) (a : Int32) (b : Int32) (c : Int32) (σ : LT) (r : Int32) (σf : LT) (hf : fL_hasConflict a b c σ = some (r, σf)) : Con wL l G ad yL_hasConflict (Cond.codeWith yL_hasConflict cL_hasConflict 6 (some .int) [(0, 19, 22, 27), (0, 19, 26, 13)]) rmL_hasConflict 3 18 [.ref (ad 0), .int a, .int b, .int c, .ref (ad 100)] σ (some (.int r)) σf := by
  refine Con.startH (by decide) (Nat.le_of_ble_eq_true rfl) (fun X Q _ hT C F => ?_)
  refine V_eq (L' := [(0, .ref (ad 0)), (1, .int a), (2, .int b), (3, .int c), (4, .ref (ad 100))]) (st' := []) rfl rfl rfl ?_
  unfold fL_hasConflict at hf
  refine V_aload (q := 2) C dL_hasConflict_0 rfl 4 rfl ?_
  refine V_iconst (v := 0) (q := 3) C dL_hasConflict_2 rfl ic_0 ?_
  refine V_aload_n (q := 4) C dL_hasConflict_3 rfl rfl 0 rfl ?_
  refine V_iload_n (q := 5) C dL_hasConflict_4 rfl rfl 1 rfl ?_
  refine V_iload_n (q := 6) C dL_hasConflict_5 rfl rfl 2 rfl ?_
  refine V_iload_n (q := 7) C dL_hasConflict_6 rfl rfl 3 rfl ?_
  obtain ⟨z4, σ2, h3, hE, hA⟩ := bx_s hf
  refine V_callVXs (av := [.int a, .int b, .int c]) (st := [.int (0 : Int32), .ref (ad 100)]) (q := 10) (subX (τ := σ)) C 0 (by decide) (eX_0 G ad _) rfl rfl (conX6_hasConflict _ _ _ _ _ _ _ _ _ h3) q_690 q_107 q_687 q_688 q_689 nmX6_hasConflict (by decide) rfl rfl (Nat.le_of_ble_eq_true rfl) dL_hasConflict_7 rfl (fun E hz => ?_) (fun w5 h6 => ?_)
  · obtain rfl := rI_l hz
    replace hf := hE _ rfl
    by_cases e7 : E = "java/lang/IndexOutOfBoundsException"
    · replace hf := (ite_s hf).1 e7
      subst e7
      refine VX_catch C hT [] ⟨0, 19, 22, 27⟩ [⟨0, 19, 26, 13⟩] rfl (fun z hz => by cases hz) (by decide) (by decide) (by decide) q_565 q_599 (fun qe => ?_)
      refine V_lets hf (fun σ8 hf => ?_)
      refine V_astore (L' := [(5, .ref qe), (0, .ref (ad 0)), (1, .int a), (2, .int b), (3, .int c), (4, .ref (ad 100))]) (q := 24) C dL_hasConflict_22 rfl (by decide) rfl ?_
      refine V_iconst (v := 1) (q := 25) C dL_hasConflict_24 rfl ic_1 ?_
      obtain ⟨e1, e2⟩ := pr_s hf
      subst e1; subst e2
      exact V_iret C F (by decide) (by decide) dL_hasConflict_25
    · replace hf := (ite_s hf).2 e7
      by_cases e9 : E = "java/lang/IllegalArgumentException"
      · replace hf := (ite_s hf).1 e9
        subst e9
        refine VX_catch C hT [⟨0, 19, 22, 27⟩] ⟨0, 19, 26, 13⟩ [] rfl (fun z hz => by
          simp only [List.mem_cons, List.not_mem_nil, or_false] at hz
          rcases hz with rfl
          · exact ⟨by decide, "java/lang/IndexOutOfBoundsException", q_565, by decide, by decide⟩
          ) (by decide) (by decide) (by decide) q_413 q_426 (fun qe => ?_)
        refine V_lets hf (fun σ10 hf => ?_)
        refine V_astore (L' := [(5, .ref qe), (0, .ref (ad 0)), (1, .int a), (2, .int b), (3, .int c), (4, .ref (ad 100))]) (q := 28) C dL_hasConflict_26 rfl (by decide) rfl ?_
        refine V_iconst (v := 2) (q := 29) C dL_hasConflict_28 rfl ic_2 ?_
        obtain ⟨e1, e2⟩ := pr_s hf
        subst e1; subst e2
        exact V_iret C F (by decide) (by decide) dL_hasConflict_29
      · replace hf := (ite_s hf).2 e9
        cases hf
  · obtain ⟨r1, rfl, rfl⟩ := rI_r h6
    replace hf := hA _ rfl
    refine V_eq (L' := [(0, .ref (ad 0)), (1, .int a), (2, .int b), (3, .int c), (4, .ref (ad 100))]) (st' := [.int r1, .int (0 : Int32), .ref (ad 100)]) rfl rfl rfl ?_
    refine V_wide (k2 := 3) (n2 := 18) (by decide) (by decide) ?_
    refine V_lets hf (fun σ11 hf => ?_)
    obtain ⟨J18, eJ18, hf⟩ := jp_s hf
    have hJ18 : ∀ (v12 : Int64) (σ13 : LT), J18 v12 σ13 = some (r, σf) → V wL X G ad 6 Q 3 18 σ13 18 [] [.long v12, .int (0 : Int32), .ref (ad 100)] := by
      intro v12 σ13 hf
      subst eJ18
      refine V_outW (q := 19) C dL_hasConflict_18 rfl ?_
      refine V_lets hf (fun σ14 hf => ?_)
      refine V_goto (t := 30) C dL_hasConflict_19 (by decide) ?_
      refine V_iconst (v := 0) (q := 31) C dL_hasConflict_30 rfl ic_0 ?_
      obtain ⟨e1, e2⟩ := pr_s hf
      subst e1; subst e2
      exact V_iret C F (by decide) (by decide) dL_hasConflict_31
    refine V_if_eq (t := 17) (q := 13) C dL_hasConflict_10 (by decide) rfl (fun c15 => ?_) (fun c15 => ?_)
    · replace hf := (ite_s hf).1 c15
      refine V_lconst (v := 0) (q := 18) C dL_hasConflict_17 rfl (by decide) ?_
      refine V_sub (L' := []) [] rfl ?_
      exact hJ18 _ _ hf
    · replace hf := (ite_s hf).2 c15
      refine V_lconst (v := 1) (q := 14) C dL_hasConflict_13 rfl (by decide) ?_
      refine V_goto (t := 18) C dL_hasConflict_14 (by decide) ?_
      refine V_sub (L' := []) [] rfl ?_
      exact hJ18 _ _ hf
def rmL_conflicts : Room := { frames := 7, cells := 1, slots := 6, locals := 111 }
def fL_conflicts (a : Int32) (σ : LT) : Option (Int32 × LT) := bx (fX6_conflicts a σ.1) (fun E σE => if E = "java/lang/IndexOutOfBoundsException" then (lt' (σE, σ.2) (fun (σ8 : LT) => some ((1 : Int32), σ8))) else none) (fun (r1 : Int32) (σ2 : Sg) => lt' (σ2, σ.2) (fun (σ9 : LT) => lt' (σ9.1, σ9.2.1, vp_updL σ9.2.2 0 r1.toInt64) (fun (σ10 : LT) => some ((0 : Int32), σ10))))
set_option maxHeartbeats 4000000 in
theorem conL_conflicts (l : Launch) (G : Gx) (ad : Nat → Nat) (a : Int32) (σ : LT) (r : Int32) (σf : LT) (hf : fL_conflicts a σ = some (r, σf)) : Con wL l G ad yL_conflicts (Cond.codeWith yL_conflicts cL_conflicts 4 (some .int) [(0, 9, 12, 27)]) rmL_conflicts 1 6 [.ref (ad 0), .int a, .ref (ad 100)] σ (some (.int r)) σf := by
  refine Con.startH (by decide) (Nat.le_of_ble_eq_true rfl) (fun X Q _ hT C F => ?_)
  refine V_eq (L' := [(0, .ref (ad 0)), (1, .int a), (2, .ref (ad 100))]) (st' := []) rfl rfl rfl ?_
  unfold fL_conflicts at hf
  refine V_aload_n (q := 1) C dL_conflicts_0 rfl rfl 2 rfl ?_
  refine V_iconst (v := 0) (q := 2) C dL_conflicts_1 rfl ic_0 ?_
  refine V_aload_n (q := 3) C dL_conflicts_2 rfl rfl 0 rfl ?_
  refine V_iload_n (q := 4) C dL_conflicts_3 rfl rfl 1 rfl ?_
  obtain ⟨z4, σ2, h3, hE, hA⟩ := bx_s hf
  refine V_callVXs (av := [.int a]) (st := [.int (0 : Int32), .ref (ad 100)]) (q := 7) (subX (τ := σ)) C 0 (by decide) (eX_0 G ad _) rfl rfl (conX6_conflicts _ _ _ _ _ _ _ h3) q_698 q_107 q_695 q_696 q_697 nmX6_conflicts (by decide) rfl rfl (Nat.le_of_ble_eq_true rfl) dL_conflicts_4 rfl (fun E hz => ?_) (fun w5 h6 => ?_)
  · obtain rfl := rI_l hz
    replace hf := hE _ rfl
    by_cases e7 : E = "java/lang/IndexOutOfBoundsException"
    · replace hf := (ite_s hf).1 e7
      subst e7
      refine VX_catch C hT [] ⟨0, 9, 12, 27⟩ [] rfl (fun z hz => by cases hz) (by decide) (by decide) (by decide) q_565 q_599 (fun qe => ?_)
      refine V_lets hf (fun σ8 hf => ?_)
      refine V_astore_n (L' := [(3, .ref qe), (0, .ref (ad 0)), (1, .int a), (2, .ref (ad 100))]) (q := 13) C dL_conflicts_12 rfl rfl (by decide) rfl ?_
      refine V_iconst (v := 1) (q := 14) C dL_conflicts_13 rfl ic_1 ?_
      obtain ⟨e1, e2⟩ := pr_s hf
      subst e1; subst e2
      exact V_iret C F (by decide) (by decide) dL_conflicts_14
    · replace hf := (ite_s hf).2 e7
      cases hf
  · obtain ⟨r1, rfl, rfl⟩ := rI_r h6
    replace hf := hA _ rfl
    refine V_eq (L' := [(0, .ref (ad 0)), (1, .int a), (2, .ref (ad 100))]) (st' := [.int r1, .int (0 : Int32), .ref (ad 100)]) rfl rfl rfl ?_
    refine V_wide (k2 := 1) (n2 := 6) (by decide) (by decide) ?_
    refine V_lets hf (fun σ9 hf => ?_)
    refine V_i2l (q := 8) C dL_conflicts_7 rfl ?_
    refine V_outW (q := 9) C dL_conflicts_8 rfl ?_
    refine V_lets hf (fun σ10 hf => ?_)
    refine V_goto (t := 15) C dL_conflicts_9 (by decide) ?_
    refine V_iconst (v := 0) (q := 16) C dL_conflicts_15 rfl ic_0 ?_
    obtain ⟨e1, e2⟩ := pr_s hf
    subst e1; subst e2
    exact V_iret C F (by decide) (by decide) dL_conflicts_16
def rmL_station : Room := { frames := 8, cells := 2, slots := 12, locals := 133 }
def fL_station (a : Int32) (b : Int32) (σ : LT) : Option (Int32 × LT) := bx (fX6_station a b σ.1) (fun E σE => if E = "java/lang/IndexOutOfBoundsException" then (lt' (σE, σ.2) (fun (σ8 : LT) => some ((1 : Int32), σ8))) else if E = "java/lang/IllegalArgumentException" then (lt' (σE, σ.2) (fun (σ10 : LT) => some ((2 : Int32), σ10))) else none) (fun (r1 : Int32) (σ2 : Sg) => lt' (σ2, σ.2) (fun (σ11 : LT) => lt' (σ11.1, σ11.2.1, vp_updL σ11.2.2 0 r1.toInt64) (fun (σ12 : LT) => some ((0 : Int32), σ12))))
set_option maxHeartbeats 4000000 in
theorem conL_station (l : Launch) (G : Gx) (ad : Nat → Nat) (a : Int32) (b : Int32) (σ : LT) (r : Int32) (σf : LT) (hf : fL_station a b σ = some (r, σf)) : Con wL l G ad yL_station (Cond.codeWith yL_station cL_station 5 (some .int) [(0, 10, 13, 27), (0, 10, 17, 13)]) rmL_station 2 12 [.ref (ad 0), .int a, .int b, .ref (ad 100)] σ (some (.int r)) σf := by
  refine Con.startH (by decide) (Nat.le_of_ble_eq_true rfl) (fun X Q _ hT C F => ?_)
  refine V_eq (L' := [(0, .ref (ad 0)), (1, .int a), (2, .int b), (3, .ref (ad 100))]) (st' := []) rfl rfl rfl ?_
  unfold fL_station at hf
  refine V_aload_n (q := 1) C dL_station_0 rfl rfl 3 rfl ?_
  refine V_iconst (v := 0) (q := 2) C dL_station_1 rfl ic_0 ?_
  refine V_aload_n (q := 3) C dL_station_2 rfl rfl 0 rfl ?_
  refine V_iload_n (q := 4) C dL_station_3 rfl rfl 1 rfl ?_
  refine V_iload_n (q := 5) C dL_station_4 rfl rfl 2 rfl ?_
  obtain ⟨z4, σ2, h3, hE, hA⟩ := bx_s hf
  refine V_callVXs (av := [.int a, .int b]) (st := [.int (0 : Int32), .ref (ad 100)]) (q := 8) (subX (τ := σ)) C 0 (by decide) (eX_0 G ad _) rfl rfl (conX6_station _ _ _ _ _ _ _ _ h3) q_720 q_107 q_717 q_718 q_719 nmX6_station (by decide) rfl rfl (Nat.le_of_ble_eq_true rfl) dL_station_5 rfl (fun E hz => ?_) (fun w5 h6 => ?_)
  · obtain rfl := rI_l hz
    replace hf := hE _ rfl
    by_cases e7 : E = "java/lang/IndexOutOfBoundsException"
    · replace hf := (ite_s hf).1 e7
      subst e7
      refine VX_catch C hT [] ⟨0, 10, 13, 27⟩ [⟨0, 10, 17, 13⟩] rfl (fun z hz => by cases hz) (by decide) (by decide) (by decide) q_565 q_599 (fun qe => ?_)
      refine V_lets hf (fun σ8 hf => ?_)
      refine V_astore (L' := [(4, .ref qe), (0, .ref (ad 0)), (1, .int a), (2, .int b), (3, .ref (ad 100))]) (q := 15) C dL_station_13 rfl (by decide) rfl ?_
      refine V_iconst (v := 1) (q := 16) C dL_station_15 rfl ic_1 ?_
      obtain ⟨e1, e2⟩ := pr_s hf
      subst e1; subst e2
      exact V_iret C F (by decide) (by decide) dL_station_16
    · replace hf := (ite_s hf).2 e7
      by_cases e9 : E = "java/lang/IllegalArgumentException"
      · replace hf := (ite_s hf).1 e9
        subst e9
        refine VX_catch C hT [⟨0, 10, 13, 27⟩] ⟨0, 10, 17, 13⟩ [] rfl (fun z hz => by
          simp only [List.mem_cons, List.not_mem_nil, or_false] at hz
          rcases hz with rfl
          · exact ⟨by decide, "java/lang/IndexOutOfBoundsException", q_565, by decide, by decide⟩
          ) (by decide) (by decide) (by decide) q_413 q_426 (fun qe => ?_)
        refine V_lets hf (fun σ10 hf => ?_)
        refine V_astore (L' := [(4, .ref qe), (0, .ref (ad 0)), (1, .int a), (2, .int b), (3, .ref (ad 100))]) (q := 19) C dL_station_17 rfl (by decide) rfl ?_
        refine V_iconst (v := 2) (q := 20) C dL_station_19 rfl ic_2 ?_
        obtain ⟨e1, e2⟩ := pr_s hf
        subst e1; subst e2
        exact V_iret C F (by decide) (by decide) dL_station_20
      · replace hf := (ite_s hf).2 e9
        cases hf
  · obtain ⟨r1, rfl, rfl⟩ := rI_r h6
    replace hf := hA _ rfl
    refine V_eq (L' := [(0, .ref (ad 0)), (1, .int a), (2, .int b), (3, .ref (ad 100))]) (st' := [.int r1, .int (0 : Int32), .ref (ad 100)]) rfl rfl rfl ?_
    refine V_wide (k2 := 2) (n2 := 12) (by decide) (by decide) ?_
    refine V_lets hf (fun σ11 hf => ?_)
    refine V_i2l (q := 9) C dL_station_8 rfl ?_
    refine V_outW (q := 10) C dL_station_9 rfl ?_
    refine V_lets hf (fun σ12 hf => ?_)
    refine V_goto (t := 21) C dL_station_10 (by decide) ?_
    refine V_iconst (v := 0) (q := 22) C dL_station_21 rfl ic_0 ?_
    obtain ⟨e1, e2⟩ := pr_s hf
    subst e1; subst e2
    exact V_iret C F (by decide) (by decide) dL_station_22
def rmL_volumeBits : Room := { frames := 8, cells := 1, slots := 6, locals := 132 }
def fL_volumeBits (a : Int32) (σ : LT) : Option (Int32 × LT) := bx (fX6_volumeBits a σ.1) (fun E σE => if E = "java/lang/IndexOutOfBoundsException" then (lt' (σE, σ.2) (fun (σ8 : LT) => some ((1 : Int32), σ8))) else none) (fun (r1 : Int32) (σ2 : Sg) => lt' (σ2, σ.2) (fun (σ9 : LT) => lt' (σ9.1, σ9.2.1, vp_updL σ9.2.2 0 r1.toInt64) (fun (σ10 : LT) => some ((0 : Int32), σ10))))
set_option maxHeartbeats 4000000 in
theorem conL_volumeBits (l : Launch) (G : Gx) (ad : Nat → Nat) (a : Int32) (σ : LT) (r : Int32) (σf : LT) (hf : fL_volumeBits a σ = some (r, σf)) : Con wL l G ad yL_volumeBits (Cond.codeWith yL_volumeBits cL_volumeBits 4 (some .int) [(0, 9, 12, 27)]) rmL_volumeBits 1 6 [.ref (ad 0), .int a, .ref (ad 100)] σ (some (.int r)) σf := by
  refine Con.startH (by decide) (Nat.le_of_ble_eq_true rfl) (fun X Q _ hT C F => ?_)
  refine V_eq (L' := [(0, .ref (ad 0)), (1, .int a), (2, .ref (ad 100))]) (st' := []) rfl rfl rfl ?_
  unfold fL_volumeBits at hf
  refine V_aload_n (q := 1) C dL_volumeBits_0 rfl rfl 2 rfl ?_
  refine V_iconst (v := 0) (q := 2) C dL_volumeBits_1 rfl ic_0 ?_
  refine V_aload_n (q := 3) C dL_volumeBits_2 rfl rfl 0 rfl ?_
  refine V_iload_n (q := 4) C dL_volumeBits_3 rfl rfl 1 rfl ?_
  obtain ⟨z4, σ2, h3, hE, hA⟩ := bx_s hf
  refine V_callVXs (av := [.int a]) (st := [.int (0 : Int32), .ref (ad 100)]) (q := 7) (subX (τ := σ)) C 0 (by decide) (eX_0 G ad _) rfl rfl (conX6_volumeBits _ _ _ _ _ _ _ h3) q_738 q_107 q_735 q_736 q_737 nmX6_volumeBits (by decide) rfl rfl (Nat.le_of_ble_eq_true rfl) dL_volumeBits_4 rfl (fun E hz => ?_) (fun w5 h6 => ?_)
  · obtain rfl := rI_l hz
    replace hf := hE _ rfl
    by_cases e7 : E = "java/lang/IndexOutOfBoundsException"
    · replace hf := (ite_s hf).1 e7
      subst e7
      refine VX_catch C hT [] ⟨0, 9, 12, 27⟩ [] rfl (fun z hz => by cases hz) (by decide) (by decide) (by decide) q_565 q_599 (fun qe => ?_)
      refine V_lets hf (fun σ8 hf => ?_)
      refine V_astore_n (L' := [(3, .ref qe), (0, .ref (ad 0)), (1, .int a), (2, .ref (ad 100))]) (q := 13) C dL_volumeBits_12 rfl rfl (by decide) rfl ?_
      refine V_iconst (v := 1) (q := 14) C dL_volumeBits_13 rfl ic_1 ?_
      obtain ⟨e1, e2⟩ := pr_s hf
      subst e1; subst e2
      exact V_iret C F (by decide) (by decide) dL_volumeBits_14
    · replace hf := (ite_s hf).2 e7
      cases hf
  · obtain ⟨r1, rfl, rfl⟩ := rI_r h6
    replace hf := hA _ rfl
    refine V_eq (L' := [(0, .ref (ad 0)), (1, .int a), (2, .ref (ad 100))]) (st' := [.int r1, .int (0 : Int32), .ref (ad 100)]) rfl rfl rfl ?_
    refine V_wide (k2 := 1) (n2 := 6) (by decide) (by decide) ?_
    refine V_lets hf (fun σ9 hf => ?_)
    refine V_i2l (q := 8) C dL_volumeBits_7 rfl ?_
    refine V_outW (q := 9) C dL_volumeBits_8 rfl ?_
    refine V_lets hf (fun σ10 hf => ?_)
    refine V_goto (t := 15) C dL_volumeBits_9 (by decide) ?_
    refine V_iconst (v := 0) (q := 16) C dL_volumeBits_15 rfl ic_0 ?_
    obtain ⟨e1, e2⟩ := pr_s hf
    subst e1; subst e2
    exact V_iret C F (by decide) (by decide) dL_volumeBits_16
def rmL_priceAt : Room := { frames := 8, cells := 2, slots := 12, locals := 133 }
def fL_priceAt (a : Int32) (b : Int32) (σ : LT) : Option (Int32 × LT) := bx (fX6_priceAt a b σ.1) (fun E σE => if E = "java/lang/IndexOutOfBoundsException" then (lt' (σE, σ.2) (fun (σ8 : LT) => some ((1 : Int32), σ8))) else if E = "java/lang/IllegalArgumentException" then (lt' (σE, σ.2) (fun (σ10 : LT) => some ((2 : Int32), σ10))) else none) (fun (r1 : Int32) (σ2 : Sg) => lt' (σ2, σ.2) (fun (σ11 : LT) => lt' (σ11.1, σ11.2.1, vp_updL σ11.2.2 0 r1.toInt64) (fun (σ12 : LT) => some ((0 : Int32), σ12))))
set_option maxHeartbeats 4000000 in
theorem conL_priceAt (l : Launch) (G : Gx) (ad : Nat → Nat) (a : Int32) (b : Int32) (σ : LT) (r : Int32) (σf : LT) (hf : fL_priceAt a b σ = some (r, σf)) : Con wL l G ad yL_priceAt (Cond.codeWith yL_priceAt cL_priceAt 5 (some .int) [(0, 10, 13, 27), (0, 10, 17, 13)]) rmL_priceAt 2 12 [.ref (ad 0), .int a, .int b, .ref (ad 100)] σ (some (.int r)) σf := by
  refine Con.startH (by decide) (Nat.le_of_ble_eq_true rfl) (fun X Q _ hT C F => ?_)
  refine V_eq (L' := [(0, .ref (ad 0)), (1, .int a), (2, .int b), (3, .ref (ad 100))]) (st' := []) rfl rfl rfl ?_
  unfold fL_priceAt at hf
  refine V_aload_n (q := 1) C dL_priceAt_0 rfl rfl 3 rfl ?_
  refine V_iconst (v := 0) (q := 2) C dL_priceAt_1 rfl ic_0 ?_
  refine V_aload_n (q := 3) C dL_priceAt_2 rfl rfl 0 rfl ?_
  refine V_iload_n (q := 4) C dL_priceAt_3 rfl rfl 1 rfl ?_
  refine V_iload_n (q := 5) C dL_priceAt_4 rfl rfl 2 rfl ?_
  obtain ⟨z4, σ2, h3, hE, hA⟩ := bx_s hf
  refine V_callVXs (av := [.int a, .int b]) (st := [.int (0 : Int32), .ref (ad 100)]) (q := 8) (subX (τ := σ)) C 0 (by decide) (eX_0 G ad _) rfl rfl (conX6_priceAt _ _ _ _ _ _ _ _ h3) q_758 q_107 q_755 q_756 q_757 nmX6_priceAt (by decide) rfl rfl (Nat.le_of_ble_eq_true rfl) dL_priceAt_5 rfl (fun E hz => ?_) (fun w5 h6 => ?_)
  · obtain rfl := rI_l hz
    replace hf := hE _ rfl
    by_cases e7 : E = "java/lang/IndexOutOfBoundsException"
    · replace hf := (ite_s hf).1 e7
      subst e7
      refine VX_catch C hT [] ⟨0, 10, 13, 27⟩ [⟨0, 10, 17, 13⟩] rfl (fun z hz => by cases hz) (by decide) (by decide) (by decide) q_565 q_599 (fun qe => ?_)
      refine V_lets hf (fun σ8 hf => ?_)
      refine V_astore (L' := [(4, .ref qe), (0, .ref (ad 0)), (1, .int a), (2, .int b), (3, .ref (ad 100))]) (q := 15) C dL_priceAt_13 rfl (by decide) rfl ?_
      refine V_iconst (v := 1) (q := 16) C dL_priceAt_15 rfl ic_1 ?_
      obtain ⟨e1, e2⟩ := pr_s hf
      subst e1; subst e2
      exact V_iret C F (by decide) (by decide) dL_priceAt_16
    · replace hf := (ite_s hf).2 e7
      by_cases e9 : E = "java/lang/IllegalArgumentException"
      · replace hf := (ite_s hf).1 e9
        subst e9
        refine VX_catch C hT [⟨0, 10, 13, 27⟩] ⟨0, 10, 17, 13⟩ [] rfl (fun z hz => by
          simp only [List.mem_cons, List.not_mem_nil, or_false] at hz
          rcases hz with rfl
          · exact ⟨by decide, "java/lang/IndexOutOfBoundsException", q_565, by decide, by decide⟩
          ) (by decide) (by decide) (by decide) q_413 q_426 (fun qe => ?_)
        refine V_lets hf (fun σ10 hf => ?_)
        refine V_astore (L' := [(4, .ref qe), (0, .ref (ad 0)), (1, .int a), (2, .int b), (3, .ref (ad 100))]) (q := 19) C dL_priceAt_17 rfl (by decide) rfl ?_
        refine V_iconst (v := 2) (q := 20) C dL_priceAt_19 rfl ic_2 ?_
        obtain ⟨e1, e2⟩ := pr_s hf
        subst e1; subst e2
        exact V_iret C F (by decide) (by decide) dL_priceAt_20
      · replace hf := (ite_s hf).2 e9
        cases hf
  · obtain ⟨r1, rfl, rfl⟩ := rI_r h6
    replace hf := hA _ rfl
    refine V_eq (L' := [(0, .ref (ad 0)), (1, .int a), (2, .int b), (3, .ref (ad 100))]) (st' := [.int r1, .int (0 : Int32), .ref (ad 100)]) rfl rfl rfl ?_
    refine V_wide (k2 := 2) (n2 := 12) (by decide) (by decide) ?_
    refine V_lets hf (fun σ11 hf => ?_)
    refine V_i2l (q := 9) C dL_priceAt_8 rfl ?_
    refine V_outW (q := 10) C dL_priceAt_9 rfl ?_
    refine V_lets hf (fun σ12 hf => ?_)
    refine V_goto (t := 21) C dL_priceAt_10 (by decide) ?_
    refine V_iconst (v := 0) (q := 22) C dL_priceAt_21 rfl ic_0 ?_
    obtain ⟨e1, e2⟩ := pr_s hf
    subst e1; subst e2
    exact V_iret C F (by decide) (by decide) dL_priceAt_22
def rmL_isFeasible : Room := { frames := 20, cells := 1, slots := 6, locals := 585 }
def fL_isFeasible (a : Int32) (σ : LT) : Option (Int32 × LT) := bx (fX6_isFeasible a σ.1) (fun E σE => if E = "java/lang/IllegalArgumentException" then (lt' (σE, σ.2) (fun (σ8 : LT) => some ((1 : Int32), σ8))) else none) (fun (r1 : Int32) (σ2 : Sg) => lt' (σ2, σ.2) (fun (σ9 : LT) => jp (fun (v10 : Int64) (σ11 : LT) => lt' (σ11.1, σ11.2.1, vp_updL σ11.2.2 0 v10) (fun (σ12 : LT) => some ((0 : Int32), σ12))) (fun (J15 : Int64 → LT → Option (Int32 × LT)) => if r1 = 0 then (J15 (0 : Int64) σ9) else (J15 (1 : Int64) σ9))))
set_option maxHeartbeats 4000000 in
theorem conL_isFeasible (l : Launch) (G : Gx) (ad : Nat → Nat) (a : Int32) (σ : LT) (r : Int32) (σf : LT) (hf : fL_isFeasible a σ = some (r, σf)) : Con wL l G ad yL_isFeasible (Cond.codeWith yL_isFeasible cL_isFeasible 4 (some .int) [(0, 16, 19, 13)]) rmL_isFeasible 1 6 [.ref (ad 0), .int a, .ref (ad 100)] σ (some (.int r)) σf := by
  refine Con.startH (by decide) (Nat.le_of_ble_eq_true rfl) (fun X Q _ hT C F => ?_)
  refine V_eq (L' := [(0, .ref (ad 0)), (1, .int a), (2, .ref (ad 100))]) (st' := []) rfl rfl rfl ?_
  unfold fL_isFeasible at hf
  refine V_aload_n (q := 1) C dL_isFeasible_0 rfl rfl 2 rfl ?_
  refine V_iconst (v := 0) (q := 2) C dL_isFeasible_1 rfl ic_0 ?_
  refine V_aload_n (q := 3) C dL_isFeasible_2 rfl rfl 0 rfl ?_
  refine V_iload_n (q := 4) C dL_isFeasible_3 rfl rfl 1 rfl ?_
  obtain ⟨z4, σ2, h3, hE, hA⟩ := bx_s hf
  refine V_callVXs (av := [.int a]) (st := [.int (0 : Int32), .ref (ad 100)]) (q := 7) (subX (τ := σ)) C 0 (by decide) (eX_0 G ad _) rfl rfl (conX6_isFeasible _ _ _ _ _ _ _ h3) q_771 q_107 q_768 q_769 q_770 nmX6_isFeasible (by decide) rfl rfl (Nat.le_of_ble_eq_true rfl) dL_isFeasible_4 rfl (fun E hz => ?_) (fun w5 h6 => ?_)
  · obtain rfl := rI_l hz
    replace hf := hE _ rfl
    by_cases e7 : E = "java/lang/IllegalArgumentException"
    · replace hf := (ite_s hf).1 e7
      subst e7
      refine VX_catch C hT [] ⟨0, 16, 19, 13⟩ [] rfl (fun z hz => by cases hz) (by decide) (by decide) (by decide) q_413 q_426 (fun qe => ?_)
      refine V_lets hf (fun σ8 hf => ?_)
      refine V_astore_n (L' := [(3, .ref qe), (0, .ref (ad 0)), (1, .int a), (2, .ref (ad 100))]) (q := 20) C dL_isFeasible_19 rfl rfl (by decide) rfl ?_
      refine V_iconst (v := 1) (q := 21) C dL_isFeasible_20 rfl ic_1 ?_
      obtain ⟨e1, e2⟩ := pr_s hf
      subst e1; subst e2
      exact V_iret C F (by decide) (by decide) dL_isFeasible_21
    · replace hf := (ite_s hf).2 e7
      cases hf
  · obtain ⟨r1, rfl, rfl⟩ := rI_r h6
    replace hf := hA _ rfl
    refine V_eq (L' := [(0, .ref (ad 0)), (1, .int a), (2, .ref (ad 100))]) (st' := [.int r1, .int (0 : Int32), .ref (ad 100)]) rfl rfl rfl ?_
    refine V_wide (k2 := 1) (n2 := 6) (by decide) (by decide) ?_
    refine V_lets hf (fun σ9 hf => ?_)
    obtain ⟨J15, eJ15, hf⟩ := jp_s hf
    have hJ15 : ∀ (v10 : Int64) (σ11 : LT), J15 v10 σ11 = some (r, σf) → V wL X G ad 4 Q 1 6 σ11 15 [] [.long v10, .int (0 : Int32), .ref (ad 100)] := by
      intro v10 σ11 hf
      subst eJ15
      refine V_outW (q := 16) C dL_isFeasible_15 rfl ?_
      refine V_lets hf (fun σ12 hf => ?_)
      refine V_goto (t := 22) C dL_isFeasible_16 (by decide) ?_
      refine V_iconst (v := 0) (q := 23) C dL_isFeasible_22 rfl ic_0 ?_
      obtain ⟨e1, e2⟩ := pr_s hf
      subst e1; subst e2
      exact V_iret C F (by decide) (by decide) dL_isFeasible_23
    refine V_if_eq (t := 14) (q := 10) C dL_isFeasible_7 (by decide) rfl (fun c13 => ?_) (fun c13 => ?_)
    · replace hf := (ite_s hf).1 c13
      refine V_lconst (v := 0) (q := 15) C dL_isFeasible_14 rfl (by decide) ?_
      refine V_sub (L' := []) [] rfl ?_
      exact hJ15 _ _ hf
    · replace hf := (ite_s hf).2 c13
      refine V_lconst (v := 1) (q := 11) C dL_isFeasible_10 rfl (by decide) ?_
      refine V_goto (t := 15) C dL_isFeasible_11 (by decide) ?_
      refine V_sub (L' := []) [] rfl ?_
      exact hJ15 _ _ hf
def rmL_assign : Room := { frames := 21, cells := 2, slots := 12, locals := 614 }
def fL_assign (a : Int32) (σ : LT) : Option (Int32 × LT) := bx (fX6_assign a σ.1) (fun E σE => if E = "java/lang/IllegalArgumentException" then (lt' (σE, σ.2) (fun (σ8 : LT) => some ((1 : Int32), σ8))) else if E = "java/lang/IllegalStateException" then (lt' (σE, σ.2) (fun (σ10 : LT) => some ((2 : Int32), σ10))) else none) (fun (r1 : Int32) (σ2 : Sg) => lt' (σ2, σ.2) (fun (σ11 : LT) => lt' (σ11.1, σ11.2.1, vp_updL σ11.2.2 0 r1.toInt64) (fun (σ12 : LT) => some ((0 : Int32), σ12))))
set_option maxHeartbeats 4000000 in
theorem conL_assign (l : Launch) (G : Gx) (ad : Nat → Nat) (a : Int32) (σ : LT) (r : Int32) (σf : LT) (hf : fL_assign a σ = some (r, σf)) : Con wL l G ad yL_assign (Cond.codeWith yL_assign cL_assign 4 (some .int) [(0, 9, 12, 13), (0, 9, 15, 17)]) rmL_assign 2 12 [.ref (ad 0), .int a, .ref (ad 100)] σ (some (.int r)) σf := by
  refine Con.startH (by decide) (Nat.le_of_ble_eq_true rfl) (fun X Q _ hT C F => ?_)
  refine V_eq (L' := [(0, .ref (ad 0)), (1, .int a), (2, .ref (ad 100))]) (st' := []) rfl rfl rfl ?_
  unfold fL_assign at hf
  refine V_aload_n (q := 1) C dL_assign_0 rfl rfl 2 rfl ?_
  refine V_iconst (v := 0) (q := 2) C dL_assign_1 rfl ic_0 ?_
  refine V_aload_n (q := 3) C dL_assign_2 rfl rfl 0 rfl ?_
  refine V_iload_n (q := 4) C dL_assign_3 rfl rfl 1 rfl ?_
  obtain ⟨z4, σ2, h3, hE, hA⟩ := bx_s hf
  refine V_callVXs (av := [.int a]) (st := [.int (0 : Int32), .ref (ad 100)]) (q := 7) (subX (τ := σ)) C 0 (by decide) (eX_0 G ad _) rfl rfl (conX6_assign _ _ _ _ _ _ _ h3) q_844 q_107 q_841 q_842 q_843 nmX6_assign (by decide) rfl rfl (Nat.le_of_ble_eq_true rfl) dL_assign_4 rfl (fun E hz => ?_) (fun w5 h6 => ?_)
  · obtain rfl := rI_l hz
    replace hf := hE _ rfl
    by_cases e7 : E = "java/lang/IllegalArgumentException"
    · replace hf := (ite_s hf).1 e7
      subst e7
      refine VX_catch C hT [] ⟨0, 9, 12, 13⟩ [⟨0, 9, 15, 17⟩] rfl (fun z hz => by cases hz) (by decide) (by decide) (by decide) q_413 q_426 (fun qe => ?_)
      refine V_lets hf (fun σ8 hf => ?_)
      refine V_astore_n (L' := [(3, .ref qe), (0, .ref (ad 0)), (1, .int a), (2, .ref (ad 100))]) (q := 13) C dL_assign_12 rfl rfl (by decide) rfl ?_
      refine V_iconst (v := 1) (q := 14) C dL_assign_13 rfl ic_1 ?_
      obtain ⟨e1, e2⟩ := pr_s hf
      subst e1; subst e2
      exact V_iret C F (by decide) (by decide) dL_assign_14
    · replace hf := (ite_s hf).2 e7
      by_cases e9 : E = "java/lang/IllegalStateException"
      · replace hf := (ite_s hf).1 e9
        subst e9
        refine VX_catch C hT [⟨0, 9, 12, 13⟩] ⟨0, 9, 15, 17⟩ [] rfl (fun z hz => by
          simp only [List.mem_cons, List.not_mem_nil, or_false] at hz
          rcases hz with rfl
          · exact ⟨by decide, "java/lang/IllegalArgumentException", q_413, by decide, by decide⟩
          ) (by decide) (by decide) (by decide) q_415 q_524 (fun qe => ?_)
        refine V_lets hf (fun σ10 hf => ?_)
        refine V_astore_n (L' := [(3, .ref qe), (0, .ref (ad 0)), (1, .int a), (2, .ref (ad 100))]) (q := 16) C dL_assign_15 rfl rfl (by decide) rfl ?_
        refine V_iconst (v := 2) (q := 17) C dL_assign_16 rfl ic_2 ?_
        obtain ⟨e1, e2⟩ := pr_s hf
        subst e1; subst e2
        exact V_iret C F (by decide) (by decide) dL_assign_17
      · replace hf := (ite_s hf).2 e9
        cases hf
  · obtain ⟨r1, rfl, rfl⟩ := rI_r h6
    replace hf := hA _ rfl
    refine V_eq (L' := [(0, .ref (ad 0)), (1, .int a), (2, .ref (ad 100))]) (st' := [.int r1, .int (0 : Int32), .ref (ad 100)]) rfl rfl rfl ?_
    refine V_wide (k2 := 2) (n2 := 12) (by decide) (by decide) ?_
    refine V_lets hf (fun σ11 hf => ?_)
    refine V_i2l (q := 8) C dL_assign_7 rfl ?_
    refine V_outW (q := 9) C dL_assign_8 rfl ?_
    refine V_lets hf (fun σ12 hf => ?_)
    refine V_goto (t := 18) C dL_assign_9 (by decide) ?_
    refine V_iconst (v := 0) (q := 19) C dL_assign_18 rfl ic_0 ?_
    obtain ⟨e1, e2⟩ := pr_s hf
    subst e1; subst e2
    exact V_iret C F (by decide) (by decide) dL_assign_19
def rmL_repack : Room := { frames := 21, cells := 2, slots := 12, locals := 614 }
def fL_repack (a : Int32) (σ : LT) : Option (Int32 × LT) := bx (fX6_repack a σ.1) (fun E σE => if E = "java/lang/IllegalArgumentException" then (lt' (σE, σ.2) (fun (σ8 : LT) => some ((1 : Int32), σ8))) else if E = "java/lang/IllegalStateException" then (lt' (σE, σ.2) (fun (σ10 : LT) => some ((2 : Int32), σ10))) else none) (fun (r1 : Int32) (σ2 : Sg) => lt' (σ2, σ.2) (fun (σ11 : LT) => lt' (σ11.1, σ11.2.1, vp_updL σ11.2.2 0 r1.toInt64) (fun (σ12 : LT) => some ((0 : Int32), σ12))))
set_option maxHeartbeats 4000000 in
theorem conL_repack (l : Launch) (G : Gx) (ad : Nat → Nat) (a : Int32) (σ : LT) (r : Int32) (σf : LT) (hf : fL_repack a σ = some (r, σf)) : Con wL l G ad yL_repack (Cond.codeWith yL_repack cL_repack 4 (some .int) [(0, 9, 12, 13), (0, 9, 15, 17)]) rmL_repack 2 12 [.ref (ad 0), .int a, .ref (ad 100)] σ (some (.int r)) σf := by
  refine Con.startH (by decide) (Nat.le_of_ble_eq_true rfl) (fun X Q _ hT C F => ?_)
  refine V_eq (L' := [(0, .ref (ad 0)), (1, .int a), (2, .ref (ad 100))]) (st' := []) rfl rfl rfl ?_
  unfold fL_repack at hf
  refine V_aload_n (q := 1) C dL_repack_0 rfl rfl 2 rfl ?_
  refine V_iconst (v := 0) (q := 2) C dL_repack_1 rfl ic_0 ?_
  refine V_aload_n (q := 3) C dL_repack_2 rfl rfl 0 rfl ?_
  refine V_iload_n (q := 4) C dL_repack_3 rfl rfl 1 rfl ?_
  obtain ⟨z4, σ2, h3, hE, hA⟩ := bx_s hf
  refine V_callVXs (av := [.int a]) (st := [.int (0 : Int32), .ref (ad 100)]) (q := 7) (subX (τ := σ)) C 0 (by decide) (eX_0 G ad _) rfl rfl (conX6_repack _ _ _ _ _ _ _ h3) q_873 q_107 q_870 q_871 q_872 nmX6_repack (by decide) rfl rfl (Nat.le_of_ble_eq_true rfl) dL_repack_4 rfl (fun E hz => ?_) (fun w5 h6 => ?_)
  · obtain rfl := rI_l hz
    replace hf := hE _ rfl
    by_cases e7 : E = "java/lang/IllegalArgumentException"
    · replace hf := (ite_s hf).1 e7
      subst e7
      refine VX_catch C hT [] ⟨0, 9, 12, 13⟩ [⟨0, 9, 15, 17⟩] rfl (fun z hz => by cases hz) (by decide) (by decide) (by decide) q_413 q_426 (fun qe => ?_)
      refine V_lets hf (fun σ8 hf => ?_)
      refine V_astore_n (L' := [(3, .ref qe), (0, .ref (ad 0)), (1, .int a), (2, .ref (ad 100))]) (q := 13) C dL_repack_12 rfl rfl (by decide) rfl ?_
      refine V_iconst (v := 1) (q := 14) C dL_repack_13 rfl ic_1 ?_
      obtain ⟨e1, e2⟩ := pr_s hf
      subst e1; subst e2
      exact V_iret C F (by decide) (by decide) dL_repack_14
    · replace hf := (ite_s hf).2 e7
      by_cases e9 : E = "java/lang/IllegalStateException"
      · replace hf := (ite_s hf).1 e9
        subst e9
        refine VX_catch C hT [⟨0, 9, 12, 13⟩] ⟨0, 9, 15, 17⟩ [] rfl (fun z hz => by
          simp only [List.mem_cons, List.not_mem_nil, or_false] at hz
          rcases hz with rfl
          · exact ⟨by decide, "java/lang/IllegalArgumentException", q_413, by decide, by decide⟩
          ) (by decide) (by decide) (by decide) q_415 q_524 (fun qe => ?_)
        refine V_lets hf (fun σ10 hf => ?_)
        refine V_astore_n (L' := [(3, .ref qe), (0, .ref (ad 0)), (1, .int a), (2, .ref (ad 100))]) (q := 16) C dL_repack_15 rfl rfl (by decide) rfl ?_
        refine V_iconst (v := 2) (q := 17) C dL_repack_16 rfl ic_2 ?_
        obtain ⟨e1, e2⟩ := pr_s hf
        subst e1; subst e2
        exact V_iret C F (by decide) (by decide) dL_repack_17
      · replace hf := (ite_s hf).2 e9
        cases hf
  · obtain ⟨r1, rfl, rfl⟩ := rI_r h6
    replace hf := hA _ rfl
    refine V_eq (L' := [(0, .ref (ad 0)), (1, .int a), (2, .ref (ad 100))]) (st' := [.int r1, .int (0 : Int32), .ref (ad 100)]) rfl rfl rfl ?_
    refine V_wide (k2 := 2) (n2 := 12) (by decide) (by decide) ?_
    refine V_lets hf (fun σ11 hf => ?_)
    refine V_i2l (q := 8) C dL_repack_7 rfl ?_
    refine V_outW (q := 9) C dL_repack_8 rfl ?_
    refine V_lets hf (fun σ12 hf => ?_)
    refine V_goto (t := 18) C dL_repack_9 (by decide) ?_
    refine V_iconst (v := 0) (q := 19) C dL_repack_18 rfl ic_0 ?_
    obtain ⟨e1, e2⟩ := pr_s hf
    subst e1; subst e2
    exact V_iret C F (by decide) (by decide) dL_repack_19
def rmL_assignments : Room := { frames := 19, cells := 1, slots := 6, locals := 564 }
def fL_assignments (a : Int32) (σ : LT) : Option (Int32 × LT) := bx (fX6_assignments a σ.1) (fun E σE => if E = "java/lang/IllegalArgumentException" then (lt' (σE, σ.2) (fun (σ8 : LT) => some ((1 : Int32), σ8))) else none) (fun (r1 : Int32) (σ2 : Sg) => lt' (σ2, σ.2) (fun (σ9 : LT) => lt' (σ9.1, σ9.2.1, vp_updL σ9.2.2 0 r1.toInt64) (fun (σ10 : LT) => some ((0 : Int32), σ10))))
set_option maxHeartbeats 4000000 in
theorem conL_assignments (l : Launch) (G : Gx) (ad : Nat → Nat) (a : Int32) (σ : LT) (r : Int32) (σf : LT) (hf : fL_assignments a σ = some (r, σf)) : Con wL l G ad yL_assignments (Cond.codeWith yL_assignments cL_assignments 4 (some .int) [(0, 9, 12, 13)]) rmL_assignments 1 6 [.ref (ad 0), .int a, .ref (ad 100)] σ (some (.int r)) σf := by
  refine Con.startH (by decide) (Nat.le_of_ble_eq_true rfl) (fun X Q _ hT C F => ?_)
  refine V_eq (L' := [(0, .ref (ad 0)), (1, .int a), (2, .ref (ad 100))]) (st' := []) rfl rfl rfl ?_
  unfold fL_assignments at hf
  refine V_aload_n (q := 1) C dL_assignments_0 rfl rfl 2 rfl ?_
  refine V_iconst (v := 0) (q := 2) C dL_assignments_1 rfl ic_0 ?_
  refine V_aload_n (q := 3) C dL_assignments_2 rfl rfl 0 rfl ?_
  refine V_iload_n (q := 4) C dL_assignments_3 rfl rfl 1 rfl ?_
  obtain ⟨z4, σ2, h3, hE, hA⟩ := bx_s hf
  refine V_callVXs (av := [.int a]) (st := [.int (0 : Int32), .ref (ad 100)]) (q := 7) (subX (τ := σ)) C 0 (by decide) (eX_0 G ad _) rfl rfl (conX6_assignments _ _ _ _ _ _ _ h3) q_880 q_107 q_877 q_878 q_879 nmX6_assignments (by decide) rfl rfl (Nat.le_of_ble_eq_true rfl) dL_assignments_4 rfl (fun E hz => ?_) (fun w5 h6 => ?_)
  · obtain rfl := rI_l hz
    replace hf := hE _ rfl
    by_cases e7 : E = "java/lang/IllegalArgumentException"
    · replace hf := (ite_s hf).1 e7
      subst e7
      refine VX_catch C hT [] ⟨0, 9, 12, 13⟩ [] rfl (fun z hz => by cases hz) (by decide) (by decide) (by decide) q_413 q_426 (fun qe => ?_)
      refine V_lets hf (fun σ8 hf => ?_)
      refine V_astore_n (L' := [(3, .ref qe), (0, .ref (ad 0)), (1, .int a), (2, .ref (ad 100))]) (q := 13) C dL_assignments_12 rfl rfl (by decide) rfl ?_
      refine V_iconst (v := 1) (q := 14) C dL_assignments_13 rfl ic_1 ?_
      obtain ⟨e1, e2⟩ := pr_s hf
      subst e1; subst e2
      exact V_iret C F (by decide) (by decide) dL_assignments_14
    · replace hf := (ite_s hf).2 e7
      cases hf
  · obtain ⟨r1, rfl, rfl⟩ := rI_r h6
    replace hf := hA _ rfl
    refine V_eq (L' := [(0, .ref (ad 0)), (1, .int a), (2, .ref (ad 100))]) (st' := [.int r1, .int (0 : Int32), .ref (ad 100)]) rfl rfl rfl ?_
    refine V_wide (k2 := 1) (n2 := 6) (by decide) (by decide) ?_
    refine V_lets hf (fun σ9 hf => ?_)
    refine V_i2l (q := 8) C dL_assignments_7 rfl ?_
    refine V_outW (q := 9) C dL_assignments_8 rfl ?_
    refine V_lets hf (fun σ10 hf => ?_)
    refine V_goto (t := 15) C dL_assignments_9 (by decide) ?_
    refine V_iconst (v := 0) (q := 16) C dL_assignments_15 rfl ic_0 ?_
    obtain ⟨e1, e2⟩ := pr_s hf
    subst e1; subst e2
    exact V_iret C F (by decide) (by decide) dL_assignments_16
def rmL_channelsNeeded : Room := { frames := 21, cells := 2, slots := 12, locals := 606 }
def fL_channelsNeeded (a : Int32) (σ : LT) : Option (Int32 × LT) := bx (fX6_channelsNeeded a σ.1) (fun E σE => if E = "java/lang/IllegalArgumentException" then (lt' (σE, σ.2) (fun (σ8 : LT) => some ((1 : Int32), σ8))) else if E = "java/lang/IllegalStateException" then (lt' (σE, σ.2) (fun (σ10 : LT) => some ((2 : Int32), σ10))) else none) (fun (r1 : Int32) (σ2 : Sg) => lt' (σ2, σ.2) (fun (σ11 : LT) => lt' (σ11.1, σ11.2.1, vp_updL σ11.2.2 0 r1.toInt64) (fun (σ12 : LT) => some ((0 : Int32), σ12))))
set_option maxHeartbeats 4000000 in
theorem conL_channelsNeeded (l : Launch) (G : Gx) (ad : Nat → Nat) (a : Int32) (σ : LT) (r : Int32) (σf : LT) (hf : fL_channelsNeeded a σ = some (r, σf)) : Con wL l G ad yL_channelsNeeded (Cond.codeWith yL_channelsNeeded cL_channelsNeeded 4 (some .int) [(0, 9, 12, 13), (0, 9, 15, 17)]) rmL_channelsNeeded 2 12 [.ref (ad 0), .int a, .ref (ad 100)] σ (some (.int r)) σf := by
  refine Con.startH (by decide) (Nat.le_of_ble_eq_true rfl) (fun X Q _ hT C F => ?_)
  refine V_eq (L' := [(0, .ref (ad 0)), (1, .int a), (2, .ref (ad 100))]) (st' := []) rfl rfl rfl ?_
  unfold fL_channelsNeeded at hf
  refine V_aload_n (q := 1) C dL_channelsNeeded_0 rfl rfl 2 rfl ?_
  refine V_iconst (v := 0) (q := 2) C dL_channelsNeeded_1 rfl ic_0 ?_
  refine V_aload_n (q := 3) C dL_channelsNeeded_2 rfl rfl 0 rfl ?_
  refine V_iload_n (q := 4) C dL_channelsNeeded_3 rfl rfl 1 rfl ?_
  obtain ⟨z4, σ2, h3, hE, hA⟩ := bx_s hf
  refine V_callVXs (av := [.int a]) (st := [.int (0 : Int32), .ref (ad 100)]) (q := 7) (subX (τ := σ)) C 0 (by decide) (eX_0 G ad _) rfl rfl (conX6_channelsNeeded _ _ _ _ _ _ _ h3) q_889 q_107 q_886 q_887 q_888 nmX6_channelsNeeded (by decide) rfl rfl (Nat.le_of_ble_eq_true rfl) dL_channelsNeeded_4 rfl (fun E hz => ?_) (fun w5 h6 => ?_)
  · obtain rfl := rI_l hz
    replace hf := hE _ rfl
    by_cases e7 : E = "java/lang/IllegalArgumentException"
    · replace hf := (ite_s hf).1 e7
      subst e7
      refine VX_catch C hT [] ⟨0, 9, 12, 13⟩ [⟨0, 9, 15, 17⟩] rfl (fun z hz => by cases hz) (by decide) (by decide) (by decide) q_413 q_426 (fun qe => ?_)
      refine V_lets hf (fun σ8 hf => ?_)
      refine V_astore_n (L' := [(3, .ref qe), (0, .ref (ad 0)), (1, .int a), (2, .ref (ad 100))]) (q := 13) C dL_channelsNeeded_12 rfl rfl (by decide) rfl ?_
      refine V_iconst (v := 1) (q := 14) C dL_channelsNeeded_13 rfl ic_1 ?_
      obtain ⟨e1, e2⟩ := pr_s hf
      subst e1; subst e2
      exact V_iret C F (by decide) (by decide) dL_channelsNeeded_14
    · replace hf := (ite_s hf).2 e7
      by_cases e9 : E = "java/lang/IllegalStateException"
      · replace hf := (ite_s hf).1 e9
        subst e9
        refine VX_catch C hT [⟨0, 9, 12, 13⟩] ⟨0, 9, 15, 17⟩ [] rfl (fun z hz => by
          simp only [List.mem_cons, List.not_mem_nil, or_false] at hz
          rcases hz with rfl
          · exact ⟨by decide, "java/lang/IllegalArgumentException", q_413, by decide, by decide⟩
          ) (by decide) (by decide) (by decide) q_415 q_524 (fun qe => ?_)
        refine V_lets hf (fun σ10 hf => ?_)
        refine V_astore_n (L' := [(3, .ref qe), (0, .ref (ad 0)), (1, .int a), (2, .ref (ad 100))]) (q := 16) C dL_channelsNeeded_15 rfl rfl (by decide) rfl ?_
        refine V_iconst (v := 2) (q := 17) C dL_channelsNeeded_16 rfl ic_2 ?_
        obtain ⟨e1, e2⟩ := pr_s hf
        subst e1; subst e2
        exact V_iret C F (by decide) (by decide) dL_channelsNeeded_17
      · replace hf := (ite_s hf).2 e9
        cases hf
  · obtain ⟨r1, rfl, rfl⟩ := rI_r h6
    replace hf := hA _ rfl
    refine V_eq (L' := [(0, .ref (ad 0)), (1, .int a), (2, .ref (ad 100))]) (st' := [.int r1, .int (0 : Int32), .ref (ad 100)]) rfl rfl rfl ?_
    refine V_wide (k2 := 2) (n2 := 12) (by decide) (by decide) ?_
    refine V_lets hf (fun σ11 hf => ?_)
    refine V_i2l (q := 8) C dL_channelsNeeded_7 rfl ?_
    refine V_outW (q := 9) C dL_channelsNeeded_8 rfl ?_
    refine V_lets hf (fun σ12 hf => ?_)
    refine V_goto (t := 18) C dL_channelsNeeded_9 (by decide) ?_
    refine V_iconst (v := 0) (q := 19) C dL_channelsNeeded_18 rfl ic_0 ?_
    obtain ⟨e1, e2⟩ := pr_s hf
    subst e1; subst e2
    exact V_iret C F (by decide) (by decide) dL_channelsNeeded_19
def rmL_core : Room := { frames := 21, cells := 3, slots := 18, locals := 613 }
def fL_core (a : Int32) (b : Int32) (σ : LT) : Option (Int32 × LT) := bx (fX6_core a b σ.1) (fun E σE => if E = "java/lang/IndexOutOfBoundsException" then (lt' (σE, σ.2) (fun (σ8 : LT) => some ((1 : Int32), σ8))) else if E = "java/lang/IllegalArgumentException" then (lt' (σE, σ.2) (fun (σ10 : LT) => some ((2 : Int32), σ10))) else if E = "java/util/NoSuchElementException" then (lt' (σE, σ.2) (fun (σ12 : LT) => some ((3 : Int32), σ12))) else none) (fun (r1 : Int32) (σ2 : Sg) => lt' (σ2, σ.2) (fun (σ13 : LT) => lt' (σ13.1, σ13.2.1, vp_updL σ13.2.2 0 r1.toInt64) (fun (σ14 : LT) => some ((0 : Int32), σ14))))
set_option maxHeartbeats 4000000 in
theorem conL_core (l : Launch) (G : Gx) (ad : Nat → Nat) (a : Int32) (b : Int32) (σ : LT) (r : Int32) (σf : LT) (hf : fL_core a b σ = some (r, σf)) : Con wL l G ad yL_core (Cond.codeWith yL_core cL_core 5 (some .int) [(0, 10, 13, 27), (0, 10, 17, 13), (0, 10, 21, 78)]) rmL_core 3 18 [.ref (ad 0), .int a, .int b, .ref (ad 100)] σ (some (.int r)) σf := by
  refine Con.startH (by decide) (Nat.le_of_ble_eq_true rfl) (fun X Q _ hT C F => ?_)
  refine V_eq (L' := [(0, .ref (ad 0)), (1, .int a), (2, .int b), (3, .ref (ad 100))]) (st' := []) rfl rfl rfl ?_
  unfold fL_core at hf
  refine V_aload_n (q := 1) C dL_core_0 rfl rfl 3 rfl ?_
  refine V_iconst (v := 0) (q := 2) C dL_core_1 rfl ic_0 ?_
  refine V_aload_n (q := 3) C dL_core_2 rfl rfl 0 rfl ?_
  refine V_iload_n (q := 4) C dL_core_3 rfl rfl 1 rfl ?_
  refine V_iload_n (q := 5) C dL_core_4 rfl rfl 2 rfl ?_
  obtain ⟨z4, σ2, h3, hE, hA⟩ := bx_s hf
  refine V_callVXs (av := [.int a, .int b]) (st := [.int (0 : Int32), .ref (ad 100)]) (q := 8) (subX (τ := σ)) C 0 (by decide) (eX_0 G ad _) rfl rfl (conX6_core _ _ _ _ _ _ _ _ h3) q_901 q_107 q_898 q_899 q_900 nmX6_core (by decide) rfl rfl (Nat.le_of_ble_eq_true rfl) dL_core_5 rfl (fun E hz => ?_) (fun w5 h6 => ?_)
  · obtain rfl := rI_l hz
    replace hf := hE _ rfl
    by_cases e7 : E = "java/lang/IndexOutOfBoundsException"
    · replace hf := (ite_s hf).1 e7
      subst e7
      refine VX_catch C hT [] ⟨0, 10, 13, 27⟩ [⟨0, 10, 17, 13⟩, ⟨0, 10, 21, 78⟩] rfl (fun z hz => by cases hz) (by decide) (by decide) (by decide) q_565 q_599 (fun qe => ?_)
      refine V_lets hf (fun σ8 hf => ?_)
      refine V_astore (L' := [(4, .ref qe), (0, .ref (ad 0)), (1, .int a), (2, .int b), (3, .ref (ad 100))]) (q := 15) C dL_core_13 rfl (by decide) rfl ?_
      refine V_iconst (v := 1) (q := 16) C dL_core_15 rfl ic_1 ?_
      obtain ⟨e1, e2⟩ := pr_s hf
      subst e1; subst e2
      exact V_iret C F (by decide) (by decide) dL_core_16
    · replace hf := (ite_s hf).2 e7
      by_cases e9 : E = "java/lang/IllegalArgumentException"
      · replace hf := (ite_s hf).1 e9
        subst e9
        refine VX_catch C hT [⟨0, 10, 13, 27⟩] ⟨0, 10, 17, 13⟩ [⟨0, 10, 21, 78⟩] rfl (fun z hz => by
          simp only [List.mem_cons, List.not_mem_nil, or_false] at hz
          rcases hz with rfl
          · exact ⟨by decide, "java/lang/IndexOutOfBoundsException", q_565, by decide, by decide⟩
          ) (by decide) (by decide) (by decide) q_413 q_426 (fun qe => ?_)
        refine V_lets hf (fun σ10 hf => ?_)
        refine V_astore (L' := [(4, .ref qe), (0, .ref (ad 0)), (1, .int a), (2, .int b), (3, .ref (ad 100))]) (q := 19) C dL_core_17 rfl (by decide) rfl ?_
        refine V_iconst (v := 2) (q := 20) C dL_core_19 rfl ic_2 ?_
        obtain ⟨e1, e2⟩ := pr_s hf
        subst e1; subst e2
        exact V_iret C F (by decide) (by decide) dL_core_20
      · replace hf := (ite_s hf).2 e9
        by_cases e11 : E = "java/util/NoSuchElementException"
        · replace hf := (ite_s hf).1 e11
          subst e11
          refine VX_catch C hT [⟨0, 10, 13, 27⟩, ⟨0, 10, 17, 13⟩] ⟨0, 10, 21, 78⟩ [] rfl (fun z hz => by
            simp only [List.mem_cons, List.not_mem_nil, or_false] at hz
            rcases hz with rfl | rfl
            · exact ⟨by decide, "java/lang/IndexOutOfBoundsException", q_565, by decide, by decide⟩
            · exact ⟨by decide, "java/lang/IllegalArgumentException", q_413, by decide, by decide⟩
            ) (by decide) (by decide) (by decide) q_897 q_904 (fun qe => ?_)
          refine V_lets hf (fun σ12 hf => ?_)
          refine V_astore (L' := [(4, .ref qe), (0, .ref (ad 0)), (1, .int a), (2, .int b), (3, .ref (ad 100))]) (q := 23) C dL_core_21 rfl (by decide) rfl ?_
          refine V_iconst (v := 3) (q := 24) C dL_core_23 rfl ic_3 ?_
          obtain ⟨e1, e2⟩ := pr_s hf
          subst e1; subst e2
          exact V_iret C F (by decide) (by decide) dL_core_24
        · replace hf := (ite_s hf).2 e11
          cases hf
  · obtain ⟨r1, rfl, rfl⟩ := rI_r h6
    replace hf := hA _ rfl
    refine V_eq (L' := [(0, .ref (ad 0)), (1, .int a), (2, .int b), (3, .ref (ad 100))]) (st' := [.int r1, .int (0 : Int32), .ref (ad 100)]) rfl rfl rfl ?_
    refine V_wide (k2 := 3) (n2 := 18) (by decide) (by decide) ?_
    refine V_lets hf (fun σ13 hf => ?_)
    refine V_i2l (q := 9) C dL_core_8 rfl ?_
    refine V_outW (q := 10) C dL_core_9 rfl ?_
    refine V_lets hf (fun σ14 hf => ?_)
    refine V_goto (t := 25) C dL_core_10 (by decide) ?_
    refine V_iconst (v := 0) (q := 26) C dL_core_25 rfl ic_0 ?_
    obtain ⟨e1, e2⟩ := pr_s hf
    subst e1; subst e2
    exact V_iret C F (by decide) (by decide) dL_core_26
def rmL_open : Room := { frames := 22, cells := 2, slots := 12, locals := 631 }
def fL_open (a : Int32) (σ : LT) : Option (Int32 × LT) := bx (fX6_open a σ.1) (fun E σE => if E = "java/lang/IllegalArgumentException" then (lt' (σE, σ.2) (fun (σ8 : LT) => some ((1 : Int32), σ8))) else if E = "java/lang/UnsupportedOperationException" then (lt' (σE, σ.2) (fun (σ10 : LT) => some ((2 : Int32), σ10))) else if E = "java/lang/IllegalStateException" then (lt' (σE, σ.2) (fun (σ12 : LT) => some ((3 : Int32), σ12))) else none) (fun (r1 : Int32) (σ2 : Sg) => lt' (σ2, σ.2) (fun (σ13 : LT) => lt' (σ13.1, σ13.2.1, vp_updL σ13.2.2 0 r1.toInt64) (fun (σ14 : LT) => some ((0 : Int32), σ14))))
set_option maxHeartbeats 4000000 in
theorem conL_open (l : Launch) (G : Gx) (ad : Nat → Nat) (a : Int32) (σ : LT) (r : Int32) (σf : LT) (hf : fL_open a σ = some (r, σf)) : Con wL l G ad yL_open (Cond.codeWith yL_open cL_open 4 (some .int) [(0, 9, 12, 13), (0, 9, 15, 15), (0, 9, 18, 17)]) rmL_open 2 12 [.ref (ad 0), .int a, .ref (ad 100)] σ (some (.int r)) σf := by
  refine Con.startH (by decide) (Nat.le_of_ble_eq_true rfl) (fun X Q _ hT C F => ?_)
  refine V_eq (L' := [(0, .ref (ad 0)), (1, .int a), (2, .ref (ad 100))]) (st' := []) rfl rfl rfl ?_
  unfold fL_open at hf
  refine V_aload_n (q := 1) C dL_open_0 rfl rfl 2 rfl ?_
  refine V_iconst (v := 0) (q := 2) C dL_open_1 rfl ic_0 ?_
  refine V_aload_n (q := 3) C dL_open_2 rfl rfl 0 rfl ?_
  refine V_iload_n (q := 4) C dL_open_3 rfl rfl 1 rfl ?_
  obtain ⟨z4, σ2, h3, hE, hA⟩ := bx_s hf
  refine V_callVXs (av := [.int a]) (st := [.int (0 : Int32), .ref (ad 100)]) (q := 7) (subX (τ := σ)) C 0 (by decide) (eX_0 G ad _) rfl rfl (conX6_open _ _ _ _ _ _ _ h3) q_929 q_107 q_926 q_927 q_928 nmX6_open (by decide) rfl rfl (Nat.le_of_ble_eq_true rfl) dL_open_4 rfl (fun E hz => ?_) (fun w5 h6 => ?_)
  · obtain rfl := rI_l hz
    replace hf := hE _ rfl
    by_cases e7 : E = "java/lang/IllegalArgumentException"
    · replace hf := (ite_s hf).1 e7
      subst e7
      refine VX_catch C hT [] ⟨0, 9, 12, 13⟩ [⟨0, 9, 15, 15⟩, ⟨0, 9, 18, 17⟩] rfl (fun z hz => by cases hz) (by decide) (by decide) (by decide) q_413 q_426 (fun qe => ?_)
      refine V_lets hf (fun σ8 hf => ?_)
      refine V_astore_n (L' := [(3, .ref qe), (0, .ref (ad 0)), (1, .int a), (2, .ref (ad 100))]) (q := 13) C dL_open_12 rfl rfl (by decide) rfl ?_
      refine V_iconst (v := 1) (q := 14) C dL_open_13 rfl ic_1 ?_
      obtain ⟨e1, e2⟩ := pr_s hf
      subst e1; subst e2
      exact V_iret C F (by decide) (by decide) dL_open_14
    · replace hf := (ite_s hf).2 e7
      by_cases e9 : E = "java/lang/UnsupportedOperationException"
      · replace hf := (ite_s hf).1 e9
        subst e9
        refine VX_catch C hT [⟨0, 9, 12, 13⟩] ⟨0, 9, 15, 15⟩ [⟨0, 9, 18, 17⟩] rfl (fun z hz => by
          simp only [List.mem_cons, List.not_mem_nil, or_false] at hz
          rcases hz with rfl
          · exact ⟨by decide, "java/lang/IllegalArgumentException", q_413, by decide, by decide⟩
          ) (by decide) (by decide) (by decide) q_414 q_508 (fun qe => ?_)
        refine V_lets hf (fun σ10 hf => ?_)
        refine V_astore_n (L' := [(3, .ref qe), (0, .ref (ad 0)), (1, .int a), (2, .ref (ad 100))]) (q := 16) C dL_open_15 rfl rfl (by decide) rfl ?_
        refine V_iconst (v := 2) (q := 17) C dL_open_16 rfl ic_2 ?_
        obtain ⟨e1, e2⟩ := pr_s hf
        subst e1; subst e2
        exact V_iret C F (by decide) (by decide) dL_open_17
      · replace hf := (ite_s hf).2 e9
        by_cases e11 : E = "java/lang/IllegalStateException"
        · replace hf := (ite_s hf).1 e11
          subst e11
          refine VX_catch C hT [⟨0, 9, 12, 13⟩, ⟨0, 9, 15, 15⟩] ⟨0, 9, 18, 17⟩ [] rfl (fun z hz => by
            simp only [List.mem_cons, List.not_mem_nil, or_false] at hz
            rcases hz with rfl | rfl
            · exact ⟨by decide, "java/lang/IllegalArgumentException", q_413, by decide, by decide⟩
            · exact ⟨by decide, "java/lang/UnsupportedOperationException", q_414, by decide, by decide⟩
            ) (by decide) (by decide) (by decide) q_415 q_524 (fun qe => ?_)
          refine V_lets hf (fun σ12 hf => ?_)
          refine V_astore_n (L' := [(3, .ref qe), (0, .ref (ad 0)), (1, .int a), (2, .ref (ad 100))]) (q := 19) C dL_open_18 rfl rfl (by decide) rfl ?_
          refine V_iconst (v := 3) (q := 20) C dL_open_19 rfl ic_3 ?_
          obtain ⟨e1, e2⟩ := pr_s hf
          subst e1; subst e2
          exact V_iret C F (by decide) (by decide) dL_open_20
        · replace hf := (ite_s hf).2 e11
          cases hf
  · obtain ⟨r1, rfl, rfl⟩ := rI_r h6
    replace hf := hA _ rfl
    refine V_eq (L' := [(0, .ref (ad 0)), (1, .int a), (2, .ref (ad 100))]) (st' := [.int r1, .int (0 : Int32), .ref (ad 100)]) rfl rfl rfl ?_
    refine V_wide (k2 := 2) (n2 := 12) (by decide) (by decide) ?_
    refine V_lets hf (fun σ13 hf => ?_)
    refine V_i2l (q := 8) C dL_open_7 rfl ?_
    refine V_outW (q := 9) C dL_open_8 rfl ?_
    refine V_lets hf (fun σ14 hf => ?_)
    refine V_goto (t := 21) C dL_open_9 (by decide) ?_
    refine V_iconst (v := 0) (q := 22) C dL_open_21 rfl ic_0 ?_
    obtain ⟨e1, e2⟩ := pr_s hf
    subst e1; subst e2
    exact V_iret C F (by decide) (by decide) dL_open_22
def rmL_round : Room := { frames := 22, cells := 3, slots := 18, locals := 631 }
def fL_round (a : Int32) (σ : LT) : Option (Int32 × LT) := bx (fX6_round a σ.1) (fun E σE => if E = "java/lang/IllegalArgumentException" then (lt' (σE, σ.2) (fun (σ8 : LT) => some ((1 : Int32), σ8))) else if E = "java/lang/IllegalStateException" then (lt' (σE, σ.2) (fun (σ10 : LT) => some ((2 : Int32), σ10))) else none) (fun (r1 : Int32) (σ2 : Sg) => lt' (σ2, σ.2) (fun (σ11 : LT) => lt' (σ11.1, σ11.2.1, vp_updL σ11.2.2 0 r1.toInt64) (fun (σ12 : LT) => some ((0 : Int32), σ12))))
set_option maxHeartbeats 4000000 in
theorem conL_round (l : Launch) (G : Gx) (ad : Nat → Nat) (a : Int32) (σ : LT) (r : Int32) (σf : LT) (hf : fL_round a σ = some (r, σf)) : Con wL l G ad yL_round (Cond.codeWith yL_round cL_round 4 (some .int) [(0, 9, 12, 13), (0, 9, 15, 17)]) rmL_round 3 18 [.ref (ad 0), .int a, .ref (ad 100)] σ (some (.int r)) σf := by
  refine Con.startH (by decide) (Nat.le_of_ble_eq_true rfl) (fun X Q _ hT C F => ?_)
  refine V_eq (L' := [(0, .ref (ad 0)), (1, .int a), (2, .ref (ad 100))]) (st' := []) rfl rfl rfl ?_
  unfold fL_round at hf
  refine V_aload_n (q := 1) C dL_round_0 rfl rfl 2 rfl ?_
  refine V_iconst (v := 0) (q := 2) C dL_round_1 rfl ic_0 ?_
  refine V_aload_n (q := 3) C dL_round_2 rfl rfl 0 rfl ?_
  refine V_iload_n (q := 4) C dL_round_3 rfl rfl 1 rfl ?_
  obtain ⟨z4, σ2, h3, hE, hA⟩ := bx_s hf
  refine V_callVXs (av := [.int a]) (st := [.int (0 : Int32), .ref (ad 100)]) (q := 7) (subX (τ := σ)) C 0 (by decide) (eX_0 G ad _) rfl rfl (conX6_round _ _ _ _ _ _ _ h3) q_980 q_107 q_977 q_978 q_979 nmX6_round (by decide) rfl rfl (Nat.le_of_ble_eq_true rfl) dL_round_4 rfl (fun E hz => ?_) (fun w5 h6 => ?_)
  · obtain rfl := rI_l hz
    replace hf := hE _ rfl
    by_cases e7 : E = "java/lang/IllegalArgumentException"
    · replace hf := (ite_s hf).1 e7
      subst e7
      refine VX_catch C hT [] ⟨0, 9, 12, 13⟩ [⟨0, 9, 15, 17⟩] rfl (fun z hz => by cases hz) (by decide) (by decide) (by decide) q_413 q_426 (fun qe => ?_)
      refine V_lets hf (fun σ8 hf => ?_)
      refine V_astore_n (L' := [(3, .ref qe), (0, .ref (ad 0)), (1, .int a), (2, .ref (ad 100))]) (q := 13) C dL_round_12 rfl rfl (by decide) rfl ?_
      refine V_iconst (v := 1) (q := 14) C dL_round_13 rfl ic_1 ?_
      obtain ⟨e1, e2⟩ := pr_s hf
      subst e1; subst e2
      exact V_iret C F (by decide) (by decide) dL_round_14
    · replace hf := (ite_s hf).2 e7
      by_cases e9 : E = "java/lang/IllegalStateException"
      · replace hf := (ite_s hf).1 e9
        subst e9
        refine VX_catch C hT [⟨0, 9, 12, 13⟩] ⟨0, 9, 15, 17⟩ [] rfl (fun z hz => by
          simp only [List.mem_cons, List.not_mem_nil, or_false] at hz
          rcases hz with rfl
          · exact ⟨by decide, "java/lang/IllegalArgumentException", q_413, by decide, by decide⟩
          ) (by decide) (by decide) (by decide) q_415 q_524 (fun qe => ?_)
        refine V_lets hf (fun σ10 hf => ?_)
        refine V_astore_n (L' := [(3, .ref qe), (0, .ref (ad 0)), (1, .int a), (2, .ref (ad 100))]) (q := 16) C dL_round_15 rfl rfl (by decide) rfl ?_
        refine V_iconst (v := 2) (q := 17) C dL_round_16 rfl ic_2 ?_
        obtain ⟨e1, e2⟩ := pr_s hf
        subst e1; subst e2
        exact V_iret C F (by decide) (by decide) dL_round_17
      · replace hf := (ite_s hf).2 e9
        cases hf
  · obtain ⟨r1, rfl, rfl⟩ := rI_r h6
    replace hf := hA _ rfl
    refine V_eq (L' := [(0, .ref (ad 0)), (1, .int a), (2, .ref (ad 100))]) (st' := [.int r1, .int (0 : Int32), .ref (ad 100)]) rfl rfl rfl ?_
    refine V_wide (k2 := 3) (n2 := 18) (by decide) (by decide) ?_
    refine V_lets hf (fun σ11 hf => ?_)
    refine V_i2l (q := 8) C dL_round_7 rfl ?_
    refine V_outW (q := 9) C dL_round_8 rfl ?_
    refine V_lets hf (fun σ12 hf => ?_)
    refine V_goto (t := 18) C dL_round_9 (by decide) ?_
    refine V_iconst (v := 0) (q := 19) C dL_round_18 rfl ic_0 ?_
    obtain ⟨e1, e2⟩ := pr_s hf
    subst e1; subst e2
    exact V_iret C F (by decide) (by decide) dL_round_19
def rmL_run : Room := { frames := 22, cells := 2, slots := 12, locals := 632 }
def fL_run (a : Int32) (σ : LT) : Option (Int32 × LT) := bx (fX6_run a σ.1) (fun E σE => if E = "java/lang/IllegalArgumentException" then (lt' (σE, σ.2) (fun (σ8 : LT) => some ((1 : Int32), σ8))) else if E = "java/lang/IllegalStateException" then (lt' (σE, σ.2) (fun (σ10 : LT) => some ((2 : Int32), σ10))) else none) (fun (r1 : Int32) (σ2 : Sg) => lt' (σ2, σ.2) (fun (σ11 : LT) => lt' (σ11.1, σ11.2.1, vp_updL σ11.2.2 0 r1.toInt64) (fun (σ12 : LT) => some ((0 : Int32), σ12))))
set_option maxHeartbeats 4000000 in
theorem conL_run (l : Launch) (G : Gx) (ad : Nat → Nat) (a : Int32) (σ : LT) (r : Int32) (σf : LT) (hf : fL_run a σ = some (r, σf)) : Con wL l G ad yL_run (Cond.codeWith yL_run cL_run 4 (some .int) [(0, 9, 12, 13), (0, 9, 15, 17)]) rmL_run 2 12 [.ref (ad 0), .int a, .ref (ad 100)] σ (some (.int r)) σf := by
  refine Con.startH (by decide) (Nat.le_of_ble_eq_true rfl) (fun X Q _ hT C F => ?_)
  refine V_eq (L' := [(0, .ref (ad 0)), (1, .int a), (2, .ref (ad 100))]) (st' := []) rfl rfl rfl ?_
  unfold fL_run at hf
  refine V_aload_n (q := 1) C dL_run_0 rfl rfl 2 rfl ?_
  refine V_iconst (v := 0) (q := 2) C dL_run_1 rfl ic_0 ?_
  refine V_aload_n (q := 3) C dL_run_2 rfl rfl 0 rfl ?_
  refine V_iload_n (q := 4) C dL_run_3 rfl rfl 1 rfl ?_
  obtain ⟨z4, σ2, h3, hE, hA⟩ := bx_s hf
  refine V_callVXs (av := [.int a]) (st := [.int (0 : Int32), .ref (ad 100)]) (q := 7) (subX (τ := σ)) C 0 (by decide) (eX_0 G ad _) rfl rfl (conX6_run _ _ _ _ _ _ _ h3) q_1007 q_107 q_1004 q_1005 q_1006 nmX6_run (by decide) rfl rfl (Nat.le_of_ble_eq_true rfl) dL_run_4 rfl (fun E hz => ?_) (fun w5 h6 => ?_)
  · obtain rfl := rI_l hz
    replace hf := hE _ rfl
    by_cases e7 : E = "java/lang/IllegalArgumentException"
    · replace hf := (ite_s hf).1 e7
      subst e7
      refine VX_catch C hT [] ⟨0, 9, 12, 13⟩ [⟨0, 9, 15, 17⟩] rfl (fun z hz => by cases hz) (by decide) (by decide) (by decide) q_413 q_426 (fun qe => ?_)
      refine V_lets hf (fun σ8 hf => ?_)
      refine V_astore_n (L' := [(3, .ref qe), (0, .ref (ad 0)), (1, .int a), (2, .ref (ad 100))]) (q := 13) C dL_run_12 rfl rfl (by decide) rfl ?_
      refine V_iconst (v := 1) (q := 14) C dL_run_13 rfl ic_1 ?_
      obtain ⟨e1, e2⟩ := pr_s hf
      subst e1; subst e2
      exact V_iret C F (by decide) (by decide) dL_run_14
    · replace hf := (ite_s hf).2 e7
      by_cases e9 : E = "java/lang/IllegalStateException"
      · replace hf := (ite_s hf).1 e9
        subst e9
        refine VX_catch C hT [⟨0, 9, 12, 13⟩] ⟨0, 9, 15, 17⟩ [] rfl (fun z hz => by
          simp only [List.mem_cons, List.not_mem_nil, or_false] at hz
          rcases hz with rfl
          · exact ⟨by decide, "java/lang/IllegalArgumentException", q_413, by decide, by decide⟩
          ) (by decide) (by decide) (by decide) q_415 q_524 (fun qe => ?_)
        refine V_lets hf (fun σ10 hf => ?_)
        refine V_astore_n (L' := [(3, .ref qe), (0, .ref (ad 0)), (1, .int a), (2, .ref (ad 100))]) (q := 16) C dL_run_15 rfl rfl (by decide) rfl ?_
        refine V_iconst (v := 2) (q := 17) C dL_run_16 rfl ic_2 ?_
        obtain ⟨e1, e2⟩ := pr_s hf
        subst e1; subst e2
        exact V_iret C F (by decide) (by decide) dL_run_17
      · replace hf := (ite_s hf).2 e9
        cases hf
  · obtain ⟨r1, rfl, rfl⟩ := rI_r h6
    replace hf := hA _ rfl
    refine V_eq (L' := [(0, .ref (ad 0)), (1, .int a), (2, .ref (ad 100))]) (st' := [.int r1, .int (0 : Int32), .ref (ad 100)]) rfl rfl rfl ?_
    refine V_wide (k2 := 2) (n2 := 12) (by decide) (by decide) ?_
    refine V_lets hf (fun σ11 hf => ?_)
    refine V_i2l (q := 8) C dL_run_7 rfl ?_
    refine V_outW (q := 9) C dL_run_8 rfl ?_
    refine V_lets hf (fun σ12 hf => ?_)
    refine V_goto (t := 18) C dL_run_9 (by decide) ?_
    refine V_iconst (v := 0) (q := 19) C dL_run_18 rfl ic_0 ?_
    obtain ⟨e1, e2⟩ := pr_s hf
    subst e1; subst e2
    exact V_iret C F (by decide) (by decide) dL_run_19
def rmL_back : Room := { frames := 8, cells := 2, slots := 12, locals := 150 }
def fL_back (a : Int32) (σ : LT) : Option (Int32 × LT) := bx (fX6_back a σ.1) (fun E σE => if E = "java/lang/IllegalStateException" then (lt' (σE, σ.2) (fun (σ8 : LT) => some ((1 : Int32), σ8))) else if E = "java/lang/IndexOutOfBoundsException" then (lt' (σE, σ.2) (fun (σ10 : LT) => some ((2 : Int32), σ10))) else none) (fun (r1 : Int32) (σ2 : Sg) => lt' (σ2, σ.2) (fun (σ11 : LT) => lt' (σ11.1, σ11.2.1, vp_updL σ11.2.2 0 r1.toInt64) (fun (σ12 : LT) => some ((0 : Int32), σ12))))
set_option maxHeartbeats 4000000 in
theorem conL_back (l : Launch) (G : Gx) (ad : Nat → Nat) (a : Int32) (σ : LT) (r : Int32) (σf : LT) (hf : fL_back a σ = some (r, σf)) : Con wL l G ad yL_back (Cond.codeWith yL_back cL_back 4 (some .int) [(0, 9, 12, 17), (0, 9, 15, 27)]) rmL_back 2 12 [.ref (ad 0), .int a, .ref (ad 100)] σ (some (.int r)) σf := by
  refine Con.startH (by decide) (Nat.le_of_ble_eq_true rfl) (fun X Q _ hT C F => ?_)
  refine V_eq (L' := [(0, .ref (ad 0)), (1, .int a), (2, .ref (ad 100))]) (st' := []) rfl rfl rfl ?_
  unfold fL_back at hf
  refine V_aload_n (q := 1) C dL_back_0 rfl rfl 2 rfl ?_
  refine V_iconst (v := 0) (q := 2) C dL_back_1 rfl ic_0 ?_
  refine V_aload_n (q := 3) C dL_back_2 rfl rfl 0 rfl ?_
  refine V_iload_n (q := 4) C dL_back_3 rfl rfl 1 rfl ?_
  obtain ⟨z4, σ2, h3, hE, hA⟩ := bx_s hf
  refine V_callVXs (av := [.int a]) (st := [.int (0 : Int32), .ref (ad 100)]) (q := 7) (subX (τ := σ)) C 0 (by decide) (eX_0 G ad _) rfl rfl (conX6_back _ _ _ _ _ _ _ h3) q_1014 q_107 q_1011 q_1012 q_1013 nmX6_back (by decide) rfl rfl (Nat.le_of_ble_eq_true rfl) dL_back_4 rfl (fun E hz => ?_) (fun w5 h6 => ?_)
  · obtain rfl := rI_l hz
    replace hf := hE _ rfl
    by_cases e7 : E = "java/lang/IllegalStateException"
    · replace hf := (ite_s hf).1 e7
      subst e7
      refine VX_catch C hT [] ⟨0, 9, 12, 17⟩ [⟨0, 9, 15, 27⟩] rfl (fun z hz => by cases hz) (by decide) (by decide) (by decide) q_415 q_524 (fun qe => ?_)
      refine V_lets hf (fun σ8 hf => ?_)
      refine V_astore_n (L' := [(3, .ref qe), (0, .ref (ad 0)), (1, .int a), (2, .ref (ad 100))]) (q := 13) C dL_back_12 rfl rfl (by decide) rfl ?_
      refine V_iconst (v := 1) (q := 14) C dL_back_13 rfl ic_1 ?_
      obtain ⟨e1, e2⟩ := pr_s hf
      subst e1; subst e2
      exact V_iret C F (by decide) (by decide) dL_back_14
    · replace hf := (ite_s hf).2 e7
      by_cases e9 : E = "java/lang/IndexOutOfBoundsException"
      · replace hf := (ite_s hf).1 e9
        subst e9
        refine VX_catch C hT [⟨0, 9, 12, 17⟩] ⟨0, 9, 15, 27⟩ [] rfl (fun z hz => by
          simp only [List.mem_cons, List.not_mem_nil, or_false] at hz
          rcases hz with rfl
          · exact ⟨by decide, "java/lang/IllegalStateException", q_415, by decide, by decide⟩
          ) (by decide) (by decide) (by decide) q_565 q_599 (fun qe => ?_)
        refine V_lets hf (fun σ10 hf => ?_)
        refine V_astore_n (L' := [(3, .ref qe), (0, .ref (ad 0)), (1, .int a), (2, .ref (ad 100))]) (q := 16) C dL_back_15 rfl rfl (by decide) rfl ?_
        refine V_iconst (v := 2) (q := 17) C dL_back_16 rfl ic_2 ?_
        obtain ⟨e1, e2⟩ := pr_s hf
        subst e1; subst e2
        exact V_iret C F (by decide) (by decide) dL_back_17
      · replace hf := (ite_s hf).2 e9
        cases hf
  · obtain ⟨r1, rfl, rfl⟩ := rI_r h6
    replace hf := hA _ rfl
    refine V_eq (L' := [(0, .ref (ad 0)), (1, .int a), (2, .ref (ad 100))]) (st' := [.int r1, .int (0 : Int32), .ref (ad 100)]) rfl rfl rfl ?_
    refine V_wide (k2 := 2) (n2 := 12) (by decide) (by decide) ?_
    refine V_lets hf (fun σ11 hf => ?_)
    refine V_i2l (q := 8) C dL_back_7 rfl ?_
    refine V_outW (q := 9) C dL_back_8 rfl ?_
    refine V_lets hf (fun σ12 hf => ?_)
    refine V_goto (t := 18) C dL_back_9 (by decide) ?_
    refine V_iconst (v := 0) (q := 19) C dL_back_18 rfl ic_0 ?_
    obtain ⟨e1, e2⟩ := pr_s hf
    subst e1; subst e2
    exact V_iret C F (by decide) (by decide) dL_back_19
def rmL_close : Room := { frames := 21, cells := 1, slots := 6, locals := 613 }
def fL_close  (σ : LT) : Option (Int32 × LT) := bx (fX6_close  σ.1) (fun E σE => if E = "java/lang/IllegalStateException" then (lt' (σE, σ.2) (fun (σ8 : LT) => some ((1 : Int32), σ8))) else none) (fun (r1 : Int32) (σ2 : Sg) => lt' (σ2, σ.2) (fun (σ9 : LT) => lt' (σ9.1, σ9.2.1, vp_updL σ9.2.2 0 r1.toInt64) (fun (σ10 : LT) => some ((0 : Int32), σ10))))
set_option maxHeartbeats 4000000 in
theorem conL_close (l : Launch) (G : Gx) (ad : Nat → Nat)  (σ : LT) (r : Int32) (σf : LT) (hf : fL_close  σ = some (r, σf)) : Con wL l G ad yL_close (Cond.codeWith yL_close cL_close 3 (some .int) [(0, 8, 11, 17)]) rmL_close 1 6 [.ref (ad 0), .ref (ad 100)] σ (some (.int r)) σf := by
  refine Con.startH (by decide) (Nat.le_of_ble_eq_true rfl) (fun X Q _ hT C F => ?_)
  refine V_eq (L' := [(0, .ref (ad 0)), (1, .ref (ad 100))]) (st' := []) rfl rfl rfl ?_
  unfold fL_close at hf
  refine V_aload_n (q := 1) C dL_close_0 rfl rfl 1 rfl ?_
  refine V_iconst (v := 0) (q := 2) C dL_close_1 rfl ic_0 ?_
  refine V_aload_n (q := 3) C dL_close_2 rfl rfl 0 rfl ?_
  obtain ⟨z4, σ2, h3, hE, hA⟩ := bx_s hf
  refine V_callVXs (av := []) (st := [.int (0 : Int32), .ref (ad 100)]) (q := 6) (subX (τ := σ)) C 0 (by decide) (eX_0 G ad _) rfl rfl (conX6_close _ _ _  _ _ _ h3) q_1026 q_107 q_1023 q_1024 q_1025 nmX6_close (by decide) rfl rfl (Nat.le_of_ble_eq_true rfl) dL_close_3 rfl (fun E hz => ?_) (fun w5 h6 => ?_)
  · obtain rfl := rI_l hz
    replace hf := hE _ rfl
    by_cases e7 : E = "java/lang/IllegalStateException"
    · replace hf := (ite_s hf).1 e7
      subst e7
      refine VX_catch C hT [] ⟨0, 8, 11, 17⟩ [] rfl (fun z hz => by cases hz) (by decide) (by decide) (by decide) q_415 q_524 (fun qe => ?_)
      refine V_lets hf (fun σ8 hf => ?_)
      refine V_astore_n (L' := [(2, .ref qe), (0, .ref (ad 0)), (1, .ref (ad 100))]) (q := 12) C dL_close_11 rfl rfl (by decide) rfl ?_
      refine V_iconst (v := 1) (q := 13) C dL_close_12 rfl ic_1 ?_
      obtain ⟨e1, e2⟩ := pr_s hf
      subst e1; subst e2
      exact V_iret C F (by decide) (by decide) dL_close_13
    · replace hf := (ite_s hf).2 e7
      cases hf
  · obtain ⟨r1, rfl, rfl⟩ := rI_r h6
    replace hf := hA _ rfl
    refine V_eq (L' := [(0, .ref (ad 0)), (1, .ref (ad 100))]) (st' := [.int r1, .int (0 : Int32), .ref (ad 100)]) rfl rfl rfl ?_
    refine V_wide (k2 := 1) (n2 := 6) (by decide) (by decide) ?_
    refine V_lets hf (fun σ9 hf => ?_)
    refine V_i2l (q := 7) C dL_close_6 rfl ?_
    refine V_outW (q := 8) C dL_close_7 rfl ?_
    refine V_lets hf (fun σ10 hf => ?_)
    refine V_goto (t := 14) C dL_close_8 (by decide) ?_
    refine V_iconst (v := 0) (q := 15) C dL_close_14 rfl ic_0 ?_
    obtain ⟨e1, e2⟩ := pr_s hf
    subst e1; subst e2
    exact V_iret C F (by decide) (by decide) dL_close_15
def rmL_cancel : Room := { frames := 8, cells := 1, slots := 6, locals := 130 }
def fL_cancel  (σ : LT) : Option (Int32 × LT) := bx (fX6_cancel  σ.1) (fun E σE => if E = "java/lang/IllegalStateException" then (lt' (σE, σ.2) (fun (σ8 : LT) => some ((1 : Int32), σ8))) else none) (fun (r1 : Int32) (σ2 : Sg) => lt' (σ2, σ.2) (fun (σ9 : LT) => lt' (σ9.1, σ9.2.1, vp_updL σ9.2.2 0 r1.toInt64) (fun (σ10 : LT) => some ((0 : Int32), σ10))))
set_option maxHeartbeats 4000000 in
theorem conL_cancel (l : Launch) (G : Gx) (ad : Nat → Nat)  (σ : LT) (r : Int32) (σf : LT) (hf : fL_cancel  σ = some (r, σf)) : Con wL l G ad yL_cancel (Cond.codeWith yL_cancel cL_cancel 3 (some .int) [(0, 8, 11, 17)]) rmL_cancel 1 6 [.ref (ad 0), .ref (ad 100)] σ (some (.int r)) σf := by
  refine Con.startH (by decide) (Nat.le_of_ble_eq_true rfl) (fun X Q _ hT C F => ?_)
  refine V_eq (L' := [(0, .ref (ad 0)), (1, .ref (ad 100))]) (st' := []) rfl rfl rfl ?_
  unfold fL_cancel at hf
  refine V_aload_n (q := 1) C dL_cancel_0 rfl rfl 1 rfl ?_
  refine V_iconst (v := 0) (q := 2) C dL_cancel_1 rfl ic_0 ?_
  refine V_aload_n (q := 3) C dL_cancel_2 rfl rfl 0 rfl ?_
  obtain ⟨z4, σ2, h3, hE, hA⟩ := bx_s hf
  refine V_callVXs (av := []) (st := [.int (0 : Int32), .ref (ad 100)]) (q := 6) (subX (τ := σ)) C 0 (by decide) (eX_0 G ad _) rfl rfl (conX6_cancel _ _ _  _ _ _ h3) q_1038 q_107 q_1035 q_1036 q_1037 nmX6_cancel (by decide) rfl rfl (Nat.le_of_ble_eq_true rfl) dL_cancel_3 rfl (fun E hz => ?_) (fun w5 h6 => ?_)
  · obtain rfl := rI_l hz
    replace hf := hE _ rfl
    by_cases e7 : E = "java/lang/IllegalStateException"
    · replace hf := (ite_s hf).1 e7
      subst e7
      refine VX_catch C hT [] ⟨0, 8, 11, 17⟩ [] rfl (fun z hz => by cases hz) (by decide) (by decide) (by decide) q_415 q_524 (fun qe => ?_)
      refine V_lets hf (fun σ8 hf => ?_)
      refine V_astore_n (L' := [(2, .ref qe), (0, .ref (ad 0)), (1, .ref (ad 100))]) (q := 12) C dL_cancel_11 rfl rfl (by decide) rfl ?_
      refine V_iconst (v := 1) (q := 13) C dL_cancel_12 rfl ic_1 ?_
      obtain ⟨e1, e2⟩ := pr_s hf
      subst e1; subst e2
      exact V_iret C F (by decide) (by decide) dL_cancel_13
    · replace hf := (ite_s hf).2 e7
      cases hf
  · obtain ⟨r1, rfl, rfl⟩ := rI_r h6
    replace hf := hA _ rfl
    refine V_eq (L' := [(0, .ref (ad 0)), (1, .ref (ad 100))]) (st' := [.int r1, .int (0 : Int32), .ref (ad 100)]) rfl rfl rfl ?_
    refine V_wide (k2 := 1) (n2 := 6) (by decide) (by decide) ?_
    refine V_lets hf (fun σ9 hf => ?_)
    refine V_i2l (q := 7) C dL_cancel_6 rfl ?_
    refine V_outW (q := 8) C dL_cancel_7 rfl ?_
    refine V_lets hf (fun σ10 hf => ?_)
    refine V_goto (t := 14) C dL_cancel_8 (by decide) ?_
    refine V_iconst (v := 0) (q := 15) C dL_cancel_14 rfl ic_0 ?_
    obtain ⟨e1, e2⟩ := pr_s hf
    subst e1; subst e2
    exact V_iret C F (by decide) (by decide) dL_cancel_15
def rmL_state : Room := { frames := 8, cells := 2, slots := 12, locals := 132 }
def fL_state (a : Int32) (σ : LT) : Option (Int32 × LT) := bx (fX6_state a σ.1) (fun E σE => if E = "java/lang/IndexOutOfBoundsException" then (lt' (σE, σ.2) (fun (σ8 : LT) => some ((1 : Int32), σ8))) else if E = "java/lang/IllegalStateException" then (lt' (σE, σ.2) (fun (σ10 : LT) => some ((2 : Int32), σ10))) else none) (fun (r1 : Int32) (σ2 : Sg) => lt' (σ2, σ.2) (fun (σ11 : LT) => lt' (σ11.1, σ11.2.1, vp_updL σ11.2.2 0 r1.toInt64) (fun (σ12 : LT) => some ((0 : Int32), σ12))))
set_option maxHeartbeats 4000000 in
theorem conL_state (l : Launch) (G : Gx) (ad : Nat → Nat) (a : Int32) (σ : LT) (r : Int32) (σf : LT) (hf : fL_state a σ = some (r, σf)) : Con wL l G ad yL_state (Cond.codeWith yL_state cL_state 4 (some .int) [(0, 9, 12, 27), (0, 9, 15, 17)]) rmL_state 2 12 [.ref (ad 0), .int a, .ref (ad 100)] σ (some (.int r)) σf := by
  refine Con.startH (by decide) (Nat.le_of_ble_eq_true rfl) (fun X Q _ hT C F => ?_)
  refine V_eq (L' := [(0, .ref (ad 0)), (1, .int a), (2, .ref (ad 100))]) (st' := []) rfl rfl rfl ?_
  unfold fL_state at hf
  refine V_aload_n (q := 1) C dL_state_0 rfl rfl 2 rfl ?_
  refine V_iconst (v := 0) (q := 2) C dL_state_1 rfl ic_0 ?_
  refine V_aload_n (q := 3) C dL_state_2 rfl rfl 0 rfl ?_
  refine V_iload_n (q := 4) C dL_state_3 rfl rfl 1 rfl ?_
  obtain ⟨z4, σ2, h3, hE, hA⟩ := bx_s hf
  refine V_callVXs (av := [.int a]) (st := [.int (0 : Int32), .ref (ad 100)]) (q := 7) (subX (τ := σ)) C 0 (by decide) (eX_0 G ad _) rfl rfl (conX6_state _ _ _ _ _ _ _ h3) q_1045 q_107 q_1042 q_1043 q_1044 nmX6_state (by decide) rfl rfl (Nat.le_of_ble_eq_true rfl) dL_state_4 rfl (fun E hz => ?_) (fun w5 h6 => ?_)
  · obtain rfl := rI_l hz
    replace hf := hE _ rfl
    by_cases e7 : E = "java/lang/IndexOutOfBoundsException"
    · replace hf := (ite_s hf).1 e7
      subst e7
      refine VX_catch C hT [] ⟨0, 9, 12, 27⟩ [⟨0, 9, 15, 17⟩] rfl (fun z hz => by cases hz) (by decide) (by decide) (by decide) q_565 q_599 (fun qe => ?_)
      refine V_lets hf (fun σ8 hf => ?_)
      refine V_astore_n (L' := [(3, .ref qe), (0, .ref (ad 0)), (1, .int a), (2, .ref (ad 100))]) (q := 13) C dL_state_12 rfl rfl (by decide) rfl ?_
      refine V_iconst (v := 1) (q := 14) C dL_state_13 rfl ic_1 ?_
      obtain ⟨e1, e2⟩ := pr_s hf
      subst e1; subst e2
      exact V_iret C F (by decide) (by decide) dL_state_14
    · replace hf := (ite_s hf).2 e7
      by_cases e9 : E = "java/lang/IllegalStateException"
      · replace hf := (ite_s hf).1 e9
        subst e9
        refine VX_catch C hT [⟨0, 9, 12, 27⟩] ⟨0, 9, 15, 17⟩ [] rfl (fun z hz => by
          simp only [List.mem_cons, List.not_mem_nil, or_false] at hz
          rcases hz with rfl
          · exact ⟨by decide, "java/lang/IndexOutOfBoundsException", q_565, by decide, by decide⟩
          ) (by decide) (by decide) (by decide) q_415 q_524 (fun qe => ?_)
        refine V_lets hf (fun σ10 hf => ?_)
        refine V_astore_n (L' := [(3, .ref qe), (0, .ref (ad 0)), (1, .int a), (2, .ref (ad 100))]) (q := 16) C dL_state_15 rfl rfl (by decide) rfl ?_
        refine V_iconst (v := 2) (q := 17) C dL_state_16 rfl ic_2 ?_
        obtain ⟨e1, e2⟩ := pr_s hf
        subst e1; subst e2
        exact V_iret C F (by decide) (by decide) dL_state_17
      · replace hf := (ite_s hf).2 e9
        cases hf
  · obtain ⟨r1, rfl, rfl⟩ := rI_r h6
    replace hf := hA _ rfl
    refine V_eq (L' := [(0, .ref (ad 0)), (1, .int a), (2, .ref (ad 100))]) (st' := [.int r1, .int (0 : Int32), .ref (ad 100)]) rfl rfl rfl ?_
    refine V_wide (k2 := 2) (n2 := 12) (by decide) (by decide) ?_
    refine V_lets hf (fun σ11 hf => ?_)
    refine V_i2l (q := 8) C dL_state_7 rfl ?_
    refine V_outW (q := 9) C dL_state_8 rfl ?_
    refine V_lets hf (fun σ12 hf => ?_)
    refine V_goto (t := 18) C dL_state_9 (by decide) ?_
    refine V_iconst (v := 0) (q := 19) C dL_state_18 rfl ic_0 ?_
    obtain ⟨e1, e2⟩ := pr_s hf
    subst e1; subst e2
    exact V_iret C F (by decide) (by decide) dL_state_19
def rmL_price : Room := { frames := 8, cells := 3, slots := 18, locals := 132 }
def fL_price (a : Int32) (σ : LT) : Option (Int32 × LT) := bx (fX6_price a σ.1) (fun E σE => if E = "java/lang/IndexOutOfBoundsException" then (lt' (σE, σ.2) (fun (σ8 : LT) => some ((1 : Int32), σ8))) else if E = "java/lang/IllegalStateException" then (lt' (σE, σ.2) (fun (σ10 : LT) => some ((2 : Int32), σ10))) else if E = "java/util/NoSuchElementException" then (lt' (σE, σ.2) (fun (σ12 : LT) => some ((3 : Int32), σ12))) else none) (fun (r1 : Int32) (σ2 : Sg) => lt' (σ2, σ.2) (fun (σ13 : LT) => lt' (σ13.1, σ13.2.1, vp_updL σ13.2.2 0 r1.toInt64) (fun (σ14 : LT) => some ((0 : Int32), σ14))))
set_option maxHeartbeats 4000000 in
theorem conL_price (l : Launch) (G : Gx) (ad : Nat → Nat) (a : Int32) (σ : LT) (r : Int32) (σf : LT) (hf : fL_price a σ = some (r, σf)) : Con wL l G ad yL_price (Cond.codeWith yL_price cL_price 4 (some .int) [(0, 9, 12, 27), (0, 9, 15, 17), (0, 9, 18, 78)]) rmL_price 3 18 [.ref (ad 0), .int a, .ref (ad 100)] σ (some (.int r)) σf := by
  refine Con.startH (by decide) (Nat.le_of_ble_eq_true rfl) (fun X Q _ hT C F => ?_)
  refine V_eq (L' := [(0, .ref (ad 0)), (1, .int a), (2, .ref (ad 100))]) (st' := []) rfl rfl rfl ?_
  unfold fL_price at hf
  refine V_aload_n (q := 1) C dL_price_0 rfl rfl 2 rfl ?_
  refine V_iconst (v := 0) (q := 2) C dL_price_1 rfl ic_0 ?_
  refine V_aload_n (q := 3) C dL_price_2 rfl rfl 0 rfl ?_
  refine V_iload_n (q := 4) C dL_price_3 rfl rfl 1 rfl ?_
  obtain ⟨z4, σ2, h3, hE, hA⟩ := bx_s hf
  refine V_callVXs (av := [.int a]) (st := [.int (0 : Int32), .ref (ad 100)]) (q := 7) (subX (τ := σ)) C 0 (by decide) (eX_0 G ad _) rfl rfl (conX6_price _ _ _ _ _ _ _ h3) q_1052 q_107 q_1049 q_1050 q_1051 nmX6_price (by decide) rfl rfl (Nat.le_of_ble_eq_true rfl) dL_price_4 rfl (fun E hz => ?_) (fun w5 h6 => ?_)
  · obtain rfl := rI_l hz
    replace hf := hE _ rfl
    by_cases e7 : E = "java/lang/IndexOutOfBoundsException"
    · replace hf := (ite_s hf).1 e7
      subst e7
      refine VX_catch C hT [] ⟨0, 9, 12, 27⟩ [⟨0, 9, 15, 17⟩, ⟨0, 9, 18, 78⟩] rfl (fun z hz => by cases hz) (by decide) (by decide) (by decide) q_565 q_599 (fun qe => ?_)
      refine V_lets hf (fun σ8 hf => ?_)
      refine V_astore_n (L' := [(3, .ref qe), (0, .ref (ad 0)), (1, .int a), (2, .ref (ad 100))]) (q := 13) C dL_price_12 rfl rfl (by decide) rfl ?_
      refine V_iconst (v := 1) (q := 14) C dL_price_13 rfl ic_1 ?_
      obtain ⟨e1, e2⟩ := pr_s hf
      subst e1; subst e2
      exact V_iret C F (by decide) (by decide) dL_price_14
    · replace hf := (ite_s hf).2 e7
      by_cases e9 : E = "java/lang/IllegalStateException"
      · replace hf := (ite_s hf).1 e9
        subst e9
        refine VX_catch C hT [⟨0, 9, 12, 27⟩] ⟨0, 9, 15, 17⟩ [⟨0, 9, 18, 78⟩] rfl (fun z hz => by
          simp only [List.mem_cons, List.not_mem_nil, or_false] at hz
          rcases hz with rfl
          · exact ⟨by decide, "java/lang/IndexOutOfBoundsException", q_565, by decide, by decide⟩
          ) (by decide) (by decide) (by decide) q_415 q_524 (fun qe => ?_)
        refine V_lets hf (fun σ10 hf => ?_)
        refine V_astore_n (L' := [(3, .ref qe), (0, .ref (ad 0)), (1, .int a), (2, .ref (ad 100))]) (q := 16) C dL_price_15 rfl rfl (by decide) rfl ?_
        refine V_iconst (v := 2) (q := 17) C dL_price_16 rfl ic_2 ?_
        obtain ⟨e1, e2⟩ := pr_s hf
        subst e1; subst e2
        exact V_iret C F (by decide) (by decide) dL_price_17
      · replace hf := (ite_s hf).2 e9
        by_cases e11 : E = "java/util/NoSuchElementException"
        · replace hf := (ite_s hf).1 e11
          subst e11
          refine VX_catch C hT [⟨0, 9, 12, 27⟩, ⟨0, 9, 15, 17⟩] ⟨0, 9, 18, 78⟩ [] rfl (fun z hz => by
            simp only [List.mem_cons, List.not_mem_nil, or_false] at hz
            rcases hz with rfl | rfl
            · exact ⟨by decide, "java/lang/IndexOutOfBoundsException", q_565, by decide, by decide⟩
            · exact ⟨by decide, "java/lang/IllegalStateException", q_415, by decide, by decide⟩
            ) (by decide) (by decide) (by decide) q_897 q_904 (fun qe => ?_)
          refine V_lets hf (fun σ12 hf => ?_)
          refine V_astore_n (L' := [(3, .ref qe), (0, .ref (ad 0)), (1, .int a), (2, .ref (ad 100))]) (q := 19) C dL_price_18 rfl rfl (by decide) rfl ?_
          refine V_iconst (v := 3) (q := 20) C dL_price_19 rfl ic_3 ?_
          obtain ⟨e1, e2⟩ := pr_s hf
          subst e1; subst e2
          exact V_iret C F (by decide) (by decide) dL_price_20
        · replace hf := (ite_s hf).2 e11
          cases hf
  · obtain ⟨r1, rfl, rfl⟩ := rI_r h6
    replace hf := hA _ rfl
    refine V_eq (L' := [(0, .ref (ad 0)), (1, .int a), (2, .ref (ad 100))]) (st' := [.int r1, .int (0 : Int32), .ref (ad 100)]) rfl rfl rfl ?_
    refine V_wide (k2 := 3) (n2 := 18) (by decide) (by decide) ?_
    refine V_lets hf (fun σ13 hf => ?_)
    refine V_i2l (q := 8) C dL_price_7 rfl ?_
    refine V_outW (q := 9) C dL_price_8 rfl ?_
    refine V_lets hf (fun σ14 hf => ?_)
    refine V_goto (t := 21) C dL_price_9 (by decide) ?_
    refine V_iconst (v := 0) (q := 22) C dL_price_21 rfl ic_0 ?_
    obtain ⟨e1, e2⟩ := pr_s hf
    subst e1; subst e2
    exact V_iret C F (by decide) (by decide) dL_price_22
def rmL_frozenBy : Room := { frames := 21, cells := 3, slots := 18, locals := 612 }
def fL_frozenBy (a : Int32) (σ : LT) : Option (Int32 × LT) := bx (fX6_frozenBy a σ.1) (fun E σE => if E = "java/lang/IndexOutOfBoundsException" then (lt' (σE, σ.2) (fun (σ8 : LT) => some ((1 : Int32), σ8))) else if E = "java/lang/IllegalStateException" then (lt' (σE, σ.2) (fun (σ10 : LT) => some ((2 : Int32), σ10))) else if E = "java/util/NoSuchElementException" then (lt' (σE, σ.2) (fun (σ12 : LT) => some ((3 : Int32), σ12))) else none) (fun (r1 : Int32) (σ2 : Sg) => lt' (σ2, σ.2) (fun (σ13 : LT) => lt' (σ13.1, σ13.2.1, vp_updL σ13.2.2 0 r1.toInt64) (fun (σ14 : LT) => some ((0 : Int32), σ14))))
set_option maxHeartbeats 4000000 in
theorem conL_frozenBy (l : Launch) (G : Gx) (ad : Nat → Nat) (a : Int32) (σ : LT) (r : Int32) (σf : LT) (hf : fL_frozenBy a σ = some (r, σf)) : Con wL l G ad yL_frozenBy (Cond.codeWith yL_frozenBy cL_frozenBy 4 (some .int) [(0, 9, 12, 27), (0, 9, 15, 17), (0, 9, 18, 78)]) rmL_frozenBy 3 18 [.ref (ad 0), .int a, .ref (ad 100)] σ (some (.int r)) σf := by
  refine Con.startH (by decide) (Nat.le_of_ble_eq_true rfl) (fun X Q _ hT C F => ?_)
  refine V_eq (L' := [(0, .ref (ad 0)), (1, .int a), (2, .ref (ad 100))]) (st' := []) rfl rfl rfl ?_
  unfold fL_frozenBy at hf
  refine V_aload_n (q := 1) C dL_frozenBy_0 rfl rfl 2 rfl ?_
  refine V_iconst (v := 0) (q := 2) C dL_frozenBy_1 rfl ic_0 ?_
  refine V_aload_n (q := 3) C dL_frozenBy_2 rfl rfl 0 rfl ?_
  refine V_iload_n (q := 4) C dL_frozenBy_3 rfl rfl 1 rfl ?_
  obtain ⟨z4, σ2, h3, hE, hA⟩ := bx_s hf
  refine V_callVXs (av := [.int a]) (st := [.int (0 : Int32), .ref (ad 100)]) (q := 7) (subX (τ := σ)) C 0 (by decide) (eX_0 G ad _) rfl rfl (conX6_frozenBy _ _ _ _ _ _ _ h3) q_1060 q_107 q_1057 q_1058 q_1059 nmX6_frozenBy (by decide) rfl rfl (Nat.le_of_ble_eq_true rfl) dL_frozenBy_4 rfl (fun E hz => ?_) (fun w5 h6 => ?_)
  · obtain rfl := rI_l hz
    replace hf := hE _ rfl
    by_cases e7 : E = "java/lang/IndexOutOfBoundsException"
    · replace hf := (ite_s hf).1 e7
      subst e7
      refine VX_catch C hT [] ⟨0, 9, 12, 27⟩ [⟨0, 9, 15, 17⟩, ⟨0, 9, 18, 78⟩] rfl (fun z hz => by cases hz) (by decide) (by decide) (by decide) q_565 q_599 (fun qe => ?_)
      refine V_lets hf (fun σ8 hf => ?_)
      refine V_astore_n (L' := [(3, .ref qe), (0, .ref (ad 0)), (1, .int a), (2, .ref (ad 100))]) (q := 13) C dL_frozenBy_12 rfl rfl (by decide) rfl ?_
      refine V_iconst (v := 1) (q := 14) C dL_frozenBy_13 rfl ic_1 ?_
      obtain ⟨e1, e2⟩ := pr_s hf
      subst e1; subst e2
      exact V_iret C F (by decide) (by decide) dL_frozenBy_14
    · replace hf := (ite_s hf).2 e7
      by_cases e9 : E = "java/lang/IllegalStateException"
      · replace hf := (ite_s hf).1 e9
        subst e9
        refine VX_catch C hT [⟨0, 9, 12, 27⟩] ⟨0, 9, 15, 17⟩ [⟨0, 9, 18, 78⟩] rfl (fun z hz => by
          simp only [List.mem_cons, List.not_mem_nil, or_false] at hz
          rcases hz with rfl
          · exact ⟨by decide, "java/lang/IndexOutOfBoundsException", q_565, by decide, by decide⟩
          ) (by decide) (by decide) (by decide) q_415 q_524 (fun qe => ?_)
        refine V_lets hf (fun σ10 hf => ?_)
        refine V_astore_n (L' := [(3, .ref qe), (0, .ref (ad 0)), (1, .int a), (2, .ref (ad 100))]) (q := 16) C dL_frozenBy_15 rfl rfl (by decide) rfl ?_
        refine V_iconst (v := 2) (q := 17) C dL_frozenBy_16 rfl ic_2 ?_
        obtain ⟨e1, e2⟩ := pr_s hf
        subst e1; subst e2
        exact V_iret C F (by decide) (by decide) dL_frozenBy_17
      · replace hf := (ite_s hf).2 e9
        by_cases e11 : E = "java/util/NoSuchElementException"
        · replace hf := (ite_s hf).1 e11
          subst e11
          refine VX_catch C hT [⟨0, 9, 12, 27⟩, ⟨0, 9, 15, 17⟩] ⟨0, 9, 18, 78⟩ [] rfl (fun z hz => by
            simp only [List.mem_cons, List.not_mem_nil, or_false] at hz
            rcases hz with rfl | rfl
            · exact ⟨by decide, "java/lang/IndexOutOfBoundsException", q_565, by decide, by decide⟩
            · exact ⟨by decide, "java/lang/IllegalStateException", q_415, by decide, by decide⟩
            ) (by decide) (by decide) (by decide) q_897 q_904 (fun qe => ?_)
          refine V_lets hf (fun σ12 hf => ?_)
          refine V_astore_n (L' := [(3, .ref qe), (0, .ref (ad 0)), (1, .int a), (2, .ref (ad 100))]) (q := 19) C dL_frozenBy_18 rfl rfl (by decide) rfl ?_
          refine V_iconst (v := 3) (q := 20) C dL_frozenBy_19 rfl ic_3 ?_
          obtain ⟨e1, e2⟩ := pr_s hf
          subst e1; subst e2
          exact V_iret C F (by decide) (by decide) dL_frozenBy_20
        · replace hf := (ite_s hf).2 e11
          cases hf
  · obtain ⟨r1, rfl, rfl⟩ := rI_r h6
    replace hf := hA _ rfl
    refine V_eq (L' := [(0, .ref (ad 0)), (1, .int a), (2, .ref (ad 100))]) (st' := [.int r1, .int (0 : Int32), .ref (ad 100)]) rfl rfl rfl ?_
    refine V_wide (k2 := 3) (n2 := 18) (by decide) (by decide) ?_
    refine V_lets hf (fun σ13 hf => ?_)
    refine V_i2l (q := 8) C dL_frozenBy_7 rfl ?_
    refine V_outW (q := 9) C dL_frozenBy_8 rfl ?_
    refine V_lets hf (fun σ14 hf => ?_)
    refine V_goto (t := 21) C dL_frozenBy_9 (by decide) ?_
    refine V_iconst (v := 0) (q := 22) C dL_frozenBy_21 rfl ic_0 ?_
    obtain ⟨e1, e2⟩ := pr_s hf
    subst e1; subst e2
    exact V_iret C F (by decide) (by decide) dL_frozenBy_22
def rmL_auction : Room := { frames := 8, cells := 1, slots := 6, locals := 131 }
def fL_auction (a : Int32) (σ : LT) : Option (Int32 × LT) := bx (fX6_auction a σ.1) (fun E σE => if E = "java/lang/IllegalArgumentException" then (lt' (σE, σ.2) (fun (σ8 : LT) => some ((1 : Int32), σ8))) else if E = "java/lang/IllegalStateException" then (lt' (σE, σ.2) (fun (σ10 : LT) => some ((2 : Int32), σ10))) else none) (fun (r1 : Int32) (σ2 : Sg) => lt' (σ2, σ.2) (fun (σ11 : LT) => lt' (σ11.1, σ11.2.1, vp_updL σ11.2.2 0 r1.toInt64) (fun (σ12 : LT) => some ((0 : Int32), σ12))))
set_option maxHeartbeats 4000000 in
theorem conL_auction (l : Launch) (G : Gx) (ad : Nat → Nat) (a : Int32) (σ : LT) (r : Int32) (σf : LT) (hf : fL_auction a σ = some (r, σf)) : Con wL l G ad yL_auction (Cond.codeWith yL_auction cL_auction 4 (some .int) [(0, 9, 12, 13), (0, 9, 15, 17)]) rmL_auction 1 6 [.ref (ad 0), .int a, .ref (ad 100)] σ (some (.int r)) σf := by
  refine Con.startH (by decide) (Nat.le_of_ble_eq_true rfl) (fun X Q _ hT C F => ?_)
  refine V_eq (L' := [(0, .ref (ad 0)), (1, .int a), (2, .ref (ad 100))]) (st' := []) rfl rfl rfl ?_
  unfold fL_auction at hf
  refine V_aload_n (q := 1) C dL_auction_0 rfl rfl 2 rfl ?_
  refine V_iconst (v := 0) (q := 2) C dL_auction_1 rfl ic_0 ?_
  refine V_aload_n (q := 3) C dL_auction_2 rfl rfl 0 rfl ?_
  refine V_iload_n (q := 4) C dL_auction_3 rfl rfl 1 rfl ?_
  obtain ⟨z4, σ2, h3, hE, hA⟩ := bx_s hf
  refine V_callVXs (av := [.int a]) (st := [.int (0 : Int32), .ref (ad 100)]) (q := 7) (subX (τ := σ)) C 0 (by decide) (eX_0 G ad _) rfl rfl (conX6_auction _ _ _ _ _ _ _ h3) q_1068 q_107 q_1065 q_1066 q_1067 nmX6_auction (by decide) rfl rfl (Nat.le_of_ble_eq_true rfl) dL_auction_4 rfl (fun E hz => ?_) (fun w5 h6 => ?_)
  · obtain rfl := rI_l hz
    replace hf := hE _ rfl
    by_cases e7 : E = "java/lang/IllegalArgumentException"
    · replace hf := (ite_s hf).1 e7
      subst e7
      refine VX_catch C hT [] ⟨0, 9, 12, 13⟩ [⟨0, 9, 15, 17⟩] rfl (fun z hz => by cases hz) (by decide) (by decide) (by decide) q_413 q_426 (fun qe => ?_)
      refine V_lets hf (fun σ8 hf => ?_)
      refine V_astore_n (L' := [(3, .ref qe), (0, .ref (ad 0)), (1, .int a), (2, .ref (ad 100))]) (q := 13) C dL_auction_12 rfl rfl (by decide) rfl ?_
      refine V_iconst (v := 1) (q := 14) C dL_auction_13 rfl ic_1 ?_
      obtain ⟨e1, e2⟩ := pr_s hf
      subst e1; subst e2
      exact V_iret C F (by decide) (by decide) dL_auction_14
    · replace hf := (ite_s hf).2 e7
      by_cases e9 : E = "java/lang/IllegalStateException"
      · replace hf := (ite_s hf).1 e9
        subst e9
        refine VX_catch C hT [⟨0, 9, 12, 13⟩] ⟨0, 9, 15, 17⟩ [] rfl (fun z hz => by
          simp only [List.mem_cons, List.not_mem_nil, or_false] at hz
          rcases hz with rfl
          · exact ⟨by decide, "java/lang/IllegalArgumentException", q_413, by decide, by decide⟩
          ) (by decide) (by decide) (by decide) q_415 q_524 (fun qe => ?_)
        refine V_lets hf (fun σ10 hf => ?_)
        refine V_astore_n (L' := [(3, .ref qe), (0, .ref (ad 0)), (1, .int a), (2, .ref (ad 100))]) (q := 16) C dL_auction_15 rfl rfl (by decide) rfl ?_
        refine V_iconst (v := 2) (q := 17) C dL_auction_16 rfl ic_2 ?_
        obtain ⟨e1, e2⟩ := pr_s hf
        subst e1; subst e2
        exact V_iret C F (by decide) (by decide) dL_auction_17
      · replace hf := (ite_s hf).2 e9
        cases hf
  · obtain ⟨r1, rfl, rfl⟩ := rI_r h6
    replace hf := hA _ rfl
    refine V_eq (L' := [(0, .ref (ad 0)), (1, .int a), (2, .ref (ad 100))]) (st' := [.int r1, .int (0 : Int32), .ref (ad 100)]) rfl rfl rfl ?_
    refine V_wide (k2 := 1) (n2 := 6) (by decide) (by decide) ?_
    refine V_lets hf (fun σ11 hf => ?_)
    refine V_i2l (q := 8) C dL_auction_7 rfl ?_
    refine V_outW (q := 9) C dL_auction_8 rfl ?_
    refine V_lets hf (fun σ12 hf => ?_)
    refine V_goto (t := 18) C dL_auction_9 (by decide) ?_
    refine V_iconst (v := 0) (q := 19) C dL_auction_18 rfl ic_0 ?_
    obtain ⟨e1, e2⟩ := pr_s hf
    subst e1; subst e2
    exact V_iret C F (by decide) (by decide) dL_auction_19
def rmL_event : Room := { frames := 8, cells := 2, slots := 12, locals := 131 }
def fL_event (a : Int32) (σ : LT) : Option (Int32 × LT) := bx (fX6_event a σ.1) (fun E σE => if E = "java/lang/IllegalStateException" then (lt' (σE, σ.2) (fun (σ8 : LT) => some ((1 : Int32), σ8))) else if E = "java/util/NoSuchElementException" then (lt' (σE, σ.2) (fun (σ10 : LT) => some ((2 : Int32), σ10))) else none) (fun (r1 : Int32) (σ2 : Sg) => lt' (σ2, σ.2) (fun (σ11 : LT) => lt' (σ11.1, σ11.2.1, vp_updL σ11.2.2 0 r1.toInt64) (fun (σ12 : LT) => some ((0 : Int32), σ12))))
set_option maxHeartbeats 4000000 in
theorem conL_event (l : Launch) (G : Gx) (ad : Nat → Nat) (a : Int32) (σ : LT) (r : Int32) (σf : LT) (hf : fL_event a σ = some (r, σf)) : Con wL l G ad yL_event (Cond.codeWith yL_event cL_event 4 (some .int) [(0, 9, 12, 17), (0, 9, 15, 78)]) rmL_event 2 12 [.ref (ad 0), .int a, .ref (ad 100)] σ (some (.int r)) σf := by
  refine Con.startH (by decide) (Nat.le_of_ble_eq_true rfl) (fun X Q _ hT C F => ?_)
  refine V_eq (L' := [(0, .ref (ad 0)), (1, .int a), (2, .ref (ad 100))]) (st' := []) rfl rfl rfl ?_
  unfold fL_event at hf
  refine V_aload_n (q := 1) C dL_event_0 rfl rfl 2 rfl ?_
  refine V_iconst (v := 0) (q := 2) C dL_event_1 rfl ic_0 ?_
  refine V_aload_n (q := 3) C dL_event_2 rfl rfl 0 rfl ?_
  refine V_iload_n (q := 4) C dL_event_3 rfl rfl 1 rfl ?_
  obtain ⟨z4, σ2, h3, hE, hA⟩ := bx_s hf
  refine V_callVXs (av := [.int a]) (st := [.int (0 : Int32), .ref (ad 100)]) (q := 7) (subX (τ := σ)) C 0 (by decide) (eX_0 G ad _) rfl rfl (conX6_event _ _ _ _ _ _ _ h3) q_1079 q_107 q_1076 q_1077 q_1078 nmX6_event (by decide) rfl rfl (Nat.le_of_ble_eq_true rfl) dL_event_4 rfl (fun E hz => ?_) (fun w5 h6 => ?_)
  · obtain rfl := rI_l hz
    replace hf := hE _ rfl
    by_cases e7 : E = "java/lang/IllegalStateException"
    · replace hf := (ite_s hf).1 e7
      subst e7
      refine VX_catch C hT [] ⟨0, 9, 12, 17⟩ [⟨0, 9, 15, 78⟩] rfl (fun z hz => by cases hz) (by decide) (by decide) (by decide) q_415 q_524 (fun qe => ?_)
      refine V_lets hf (fun σ8 hf => ?_)
      refine V_astore_n (L' := [(3, .ref qe), (0, .ref (ad 0)), (1, .int a), (2, .ref (ad 100))]) (q := 13) C dL_event_12 rfl rfl (by decide) rfl ?_
      refine V_iconst (v := 1) (q := 14) C dL_event_13 rfl ic_1 ?_
      obtain ⟨e1, e2⟩ := pr_s hf
      subst e1; subst e2
      exact V_iret C F (by decide) (by decide) dL_event_14
    · replace hf := (ite_s hf).2 e7
      by_cases e9 : E = "java/util/NoSuchElementException"
      · replace hf := (ite_s hf).1 e9
        subst e9
        refine VX_catch C hT [⟨0, 9, 12, 17⟩] ⟨0, 9, 15, 78⟩ [] rfl (fun z hz => by
          simp only [List.mem_cons, List.not_mem_nil, or_false] at hz
          rcases hz with rfl
          · exact ⟨by decide, "java/lang/IllegalStateException", q_415, by decide, by decide⟩
          ) (by decide) (by decide) (by decide) q_897 q_904 (fun qe => ?_)
        refine V_lets hf (fun σ10 hf => ?_)
        refine V_astore_n (L' := [(3, .ref qe), (0, .ref (ad 0)), (1, .int a), (2, .ref (ad 100))]) (q := 16) C dL_event_15 rfl rfl (by decide) rfl ?_
        refine V_iconst (v := 2) (q := 17) C dL_event_16 rfl ic_2 ?_
        obtain ⟨e1, e2⟩ := pr_s hf
        subst e1; subst e2
        exact V_iret C F (by decide) (by decide) dL_event_17
      · replace hf := (ite_s hf).2 e9
        cases hf
  · obtain ⟨r1, rfl, rfl⟩ := rI_r h6
    replace hf := hA _ rfl
    refine V_eq (L' := [(0, .ref (ad 0)), (1, .int a), (2, .ref (ad 100))]) (st' := [.int r1, .int (0 : Int32), .ref (ad 100)]) rfl rfl rfl ?_
    refine V_wide (k2 := 2) (n2 := 12) (by decide) (by decide) ?_
    refine V_lets hf (fun σ11 hf => ?_)
    refine V_i2l (q := 8) C dL_event_7 rfl ?_
    refine V_outW (q := 9) C dL_event_8 rfl ?_
    refine V_lets hf (fun σ12 hf => ?_)
    refine V_goto (t := 18) C dL_event_9 (by decide) ?_
    refine V_iconst (v := 0) (q := 19) C dL_event_18 rfl ic_0 ?_
    obtain ⟨e1, e2⟩ := pr_s hf
    subst e1; subst e2
    exact V_iret C F (by decide) (by decide) dL_event_19
def rmL_order : Room := { frames := 7, cells := 1, slots := 6, locals := 112 }
def fL_order (a : Int32) (σ : LT) : Option (Int32 × LT) := bx (fX6_order a σ.1) (fun E σE => if E = "java/util/NoSuchElementException" then (lt' (σE, σ.2) (fun (σ8 : LT) => some ((1 : Int32), σ8))) else none) (fun (r1 : Int32) (σ2 : Sg) => lt' (σ2, σ.2) (fun (σ9 : LT) => lt' (σ9.1, σ9.2.1, vp_updL σ9.2.2 0 r1.toInt64) (fun (σ10 : LT) => some ((0 : Int32), σ10))))
set_option maxHeartbeats 4000000 in
theorem conL_order (l : Launch) (G : Gx) (ad : Nat → Nat) (a : Int32) (σ : LT) (r : Int32) (σf : LT) (hf : fL_order a σ = some (r, σf)) : Con wL l G ad yL_order (Cond.codeWith yL_order cL_order 4 (some .int) [(0, 9, 12, 78)]) rmL_order 1 6 [.ref (ad 0), .int a, .ref (ad 100)] σ (some (.int r)) σf := by
  refine Con.startH (by decide) (Nat.le_of_ble_eq_true rfl) (fun X Q _ hT C F => ?_)
  refine V_eq (L' := [(0, .ref (ad 0)), (1, .int a), (2, .ref (ad 100))]) (st' := []) rfl rfl rfl ?_
  unfold fL_order at hf
  refine V_aload_n (q := 1) C dL_order_0 rfl rfl 2 rfl ?_
  refine V_iconst (v := 0) (q := 2) C dL_order_1 rfl ic_0 ?_
  refine V_aload_n (q := 3) C dL_order_2 rfl rfl 0 rfl ?_
  refine V_iload_n (q := 4) C dL_order_3 rfl rfl 1 rfl ?_
  obtain ⟨z4, σ2, h3, hE, hA⟩ := bx_s hf
  refine V_callVXs (av := [.int a]) (st := [.int (0 : Int32), .ref (ad 100)]) (q := 7) (subX (τ := σ)) C 0 (by decide) (eX_0 G ad _) rfl rfl (conX6_order _ _ _ _ _ _ _ h3) q_1087 q_107 q_1084 q_1085 q_1086 nmX6_order (by decide) rfl rfl (Nat.le_of_ble_eq_true rfl) dL_order_4 rfl (fun E hz => ?_) (fun w5 h6 => ?_)
  · obtain rfl := rI_l hz
    replace hf := hE _ rfl
    by_cases e7 : E = "java/util/NoSuchElementException"
    · replace hf := (ite_s hf).1 e7
      subst e7
      refine VX_catch C hT [] ⟨0, 9, 12, 78⟩ [] rfl (fun z hz => by cases hz) (by decide) (by decide) (by decide) q_897 q_904 (fun qe => ?_)
      refine V_lets hf (fun σ8 hf => ?_)
      refine V_astore_n (L' := [(3, .ref qe), (0, .ref (ad 0)), (1, .int a), (2, .ref (ad 100))]) (q := 13) C dL_order_12 rfl rfl (by decide) rfl ?_
      refine V_iconst (v := 1) (q := 14) C dL_order_13 rfl ic_1 ?_
      obtain ⟨e1, e2⟩ := pr_s hf
      subst e1; subst e2
      exact V_iret C F (by decide) (by decide) dL_order_14
    · replace hf := (ite_s hf).2 e7
      cases hf
  · obtain ⟨r1, rfl, rfl⟩ := rI_r h6
    replace hf := hA _ rfl
    refine V_eq (L' := [(0, .ref (ad 0)), (1, .int a), (2, .ref (ad 100))]) (st' := [.int r1, .int (0 : Int32), .ref (ad 100)]) rfl rfl rfl ?_
    refine V_wide (k2 := 1) (n2 := 6) (by decide) (by decide) ?_
    refine V_lets hf (fun σ9 hf => ?_)
    refine V_i2l (q := 8) C dL_order_7 rfl ?_
    refine V_outW (q := 9) C dL_order_8 rfl ?_
    refine V_lets hf (fun σ10 hf => ?_)
    refine V_goto (t := 15) C dL_order_9 (by decide) ?_
    refine V_iconst (v := 0) (q := 16) C dL_order_15 rfl ic_0 ?_
    obtain ⟨e1, e2⟩ := pr_s hf
    subst e1; subst e2
    exact V_iret C F (by decide) (by decide) dL_order_16
def rmL_best : Room := { frames := 36, cells := 1, slots := 6, locals := 1009 }
def fL_best  (σ : LT) : Option (Int32 × LT) := bx (fX6_best  σ.1) (fun E σE => if E = "java/lang/IllegalStateException" then (lt' (σE, σ.2) (fun (σ8 : LT) => some ((1 : Int32), σ8))) else none) (fun (r1 : Int32) (σ2 : Sg) => lt' (σ2, σ.2) (fun (σ9 : LT) => lt' (σ9.1, σ9.2.1, vp_updL σ9.2.2 0 r1.toInt64) (fun (σ10 : LT) => some ((0 : Int32), σ10))))
set_option maxHeartbeats 4000000 in
theorem conL_best (l : Launch) (G : Gx) (ad : Nat → Nat)  (σ : LT) (r : Int32) (σf : LT) (hf : fL_best  σ = some (r, σf)) : Con wL l G ad yL_best (Cond.codeWith yL_best cL_best 3 (some .int) [(0, 8, 11, 17)]) rmL_best 1 6 [.ref (ad 0), .ref (ad 100)] σ (some (.int r)) σf := by
  refine Con.startH (by decide) (Nat.le_of_ble_eq_true rfl) (fun X Q _ hT C F => ?_)
  refine V_eq (L' := [(0, .ref (ad 0)), (1, .ref (ad 100))]) (st' := []) rfl rfl rfl ?_
  unfold fL_best at hf
  refine V_aload_n (q := 1) C dL_best_0 rfl rfl 1 rfl ?_
  refine V_iconst (v := 0) (q := 2) C dL_best_1 rfl ic_0 ?_
  refine V_aload_n (q := 3) C dL_best_2 rfl rfl 0 rfl ?_
  obtain ⟨z4, σ2, h3, hE, hA⟩ := bx_s hf
  refine V_callVXs (av := []) (st := [.int (0 : Int32), .ref (ad 100)]) (q := 6) (subX (τ := σ)) C 0 (by decide) (eX_0 G ad _) rfl rfl (conX6_best _ _ _  _ _ _ h3) q_1095 q_107 q_1092 q_1093 q_1094 nmX6_best (by decide) rfl rfl (Nat.le_of_ble_eq_true rfl) dL_best_3 rfl (fun E hz => ?_) (fun w5 h6 => ?_)
  · obtain rfl := rI_l hz
    replace hf := hE _ rfl
    by_cases e7 : E = "java/lang/IllegalStateException"
    · replace hf := (ite_s hf).1 e7
      subst e7
      refine VX_catch C hT [] ⟨0, 8, 11, 17⟩ [] rfl (fun z hz => by cases hz) (by decide) (by decide) (by decide) q_415 q_524 (fun qe => ?_)
      refine V_lets hf (fun σ8 hf => ?_)
      refine V_astore_n (L' := [(2, .ref qe), (0, .ref (ad 0)), (1, .ref (ad 100))]) (q := 12) C dL_best_11 rfl rfl (by decide) rfl ?_
      refine V_iconst (v := 1) (q := 13) C dL_best_12 rfl ic_1 ?_
      obtain ⟨e1, e2⟩ := pr_s hf
      subst e1; subst e2
      exact V_iret C F (by decide) (by decide) dL_best_13
    · replace hf := (ite_s hf).2 e7
      cases hf
  · obtain ⟨r1, rfl, rfl⟩ := rI_r h6
    replace hf := hA _ rfl
    refine V_eq (L' := [(0, .ref (ad 0)), (1, .ref (ad 100))]) (st' := [.int r1, .int (0 : Int32), .ref (ad 100)]) rfl rfl rfl ?_
    refine V_wide (k2 := 1) (n2 := 6) (by decide) (by decide) ?_
    refine V_lets hf (fun σ9 hf => ?_)
    refine V_i2l (q := 7) C dL_best_6 rfl ?_
    refine V_outW (q := 8) C dL_best_7 rfl ?_
    refine V_lets hf (fun σ10 hf => ?_)
    refine V_goto (t := 14) C dL_best_8 (by decide) ?_
    refine V_iconst (v := 0) (q := 15) C dL_best_14 rfl ic_0 ?_
    obtain ⟨e1, e2⟩ := pr_s hf
    subst e1; subst e2
    exact V_iret C F (by decide) (by decide) dL_best_15
def rmL_leastLoss : Room := { frames := 36, cells := 1, slots := 6, locals := 1009 }
def fL_leastLoss  (σ : LT) : Option (Int32 × LT) := bx (fX6_leastLoss  σ.1) (fun E σE => if E = "java/lang/IllegalStateException" then (lt' (σE, σ.2) (fun (σ8 : LT) => some ((1 : Int32), σ8))) else none) (fun (r1 : Int32) (σ2 : Sg) => lt' (σ2, σ.2) (fun (σ9 : LT) => lt' (σ9.1, σ9.2.1, vp_updL σ9.2.2 0 r1.toInt64) (fun (σ10 : LT) => some ((0 : Int32), σ10))))
set_option maxHeartbeats 4000000 in
theorem conL_leastLoss (l : Launch) (G : Gx) (ad : Nat → Nat)  (σ : LT) (r : Int32) (σf : LT) (hf : fL_leastLoss  σ = some (r, σf)) : Con wL l G ad yL_leastLoss (Cond.codeWith yL_leastLoss cL_leastLoss 3 (some .int) [(0, 8, 11, 17)]) rmL_leastLoss 1 6 [.ref (ad 0), .ref (ad 100)] σ (some (.int r)) σf := by
  refine Con.startH (by decide) (Nat.le_of_ble_eq_true rfl) (fun X Q _ hT C F => ?_)
  refine V_eq (L' := [(0, .ref (ad 0)), (1, .ref (ad 100))]) (st' := []) rfl rfl rfl ?_
  unfold fL_leastLoss at hf
  refine V_aload_n (q := 1) C dL_leastLoss_0 rfl rfl 1 rfl ?_
  refine V_iconst (v := 0) (q := 2) C dL_leastLoss_1 rfl ic_0 ?_
  refine V_aload_n (q := 3) C dL_leastLoss_2 rfl rfl 0 rfl ?_
  obtain ⟨z4, σ2, h3, hE, hA⟩ := bx_s hf
  refine V_callVXs (av := []) (st := [.int (0 : Int32), .ref (ad 100)]) (q := 6) (subX (τ := σ)) C 0 (by decide) (eX_0 G ad _) rfl rfl (conX6_leastLoss _ _ _  _ _ _ h3) q_1113 q_107 q_1110 q_1111 q_1112 nmX6_leastLoss (by decide) rfl rfl (Nat.le_of_ble_eq_true rfl) dL_leastLoss_3 rfl (fun E hz => ?_) (fun w5 h6 => ?_)
  · obtain rfl := rI_l hz
    replace hf := hE _ rfl
    by_cases e7 : E = "java/lang/IllegalStateException"
    · replace hf := (ite_s hf).1 e7
      subst e7
      refine VX_catch C hT [] ⟨0, 8, 11, 17⟩ [] rfl (fun z hz => by cases hz) (by decide) (by decide) (by decide) q_415 q_524 (fun qe => ?_)
      refine V_lets hf (fun σ8 hf => ?_)
      refine V_astore_n (L' := [(2, .ref qe), (0, .ref (ad 0)), (1, .ref (ad 100))]) (q := 12) C dL_leastLoss_11 rfl rfl (by decide) rfl ?_
      refine V_iconst (v := 1) (q := 13) C dL_leastLoss_12 rfl ic_1 ?_
      obtain ⟨e1, e2⟩ := pr_s hf
      subst e1; subst e2
      exact V_iret C F (by decide) (by decide) dL_leastLoss_13
    · replace hf := (ite_s hf).2 e7
      cases hf
  · obtain ⟨r1, rfl, rfl⟩ := rI_r h6
    replace hf := hA _ rfl
    refine V_eq (L' := [(0, .ref (ad 0)), (1, .ref (ad 100))]) (st' := [.int r1, .int (0 : Int32), .ref (ad 100)]) rfl rfl rfl ?_
    refine V_wide (k2 := 1) (n2 := 6) (by decide) (by decide) ?_
    refine V_lets hf (fun σ9 hf => ?_)
    refine V_i2l (q := 7) C dL_leastLoss_6 rfl ?_
    refine V_outW (q := 8) C dL_leastLoss_7 rfl ?_
    refine V_lets hf (fun σ10 hf => ?_)
    refine V_goto (t := 14) C dL_leastLoss_8 (by decide) ?_
    refine V_iconst (v := 0) (q := 15) C dL_leastLoss_14 rfl ic_0 ?_
    obtain ⟨e1, e2⟩ := pr_s hf
    subst e1; subst e2
    exact V_iret C F (by decide) (by decide) dL_leastLoss_15
def rmL_efficiencyBits : Room := { frames := 36, cells := 1, slots := 6, locals := 1010 }
def fL_efficiencyBits  (σ : LT) : Option (Int32 × LT) := bx (fX6_efficiencyBits  σ.1) (fun E σE => if E = "java/lang/IllegalStateException" then (lt' (σE, σ.2) (fun (σ8 : LT) => some ((1 : Int32), σ8))) else none) (fun (r1 : Int32) (σ2 : Sg) => lt' (σ2, σ.2) (fun (σ9 : LT) => lt' (σ9.1, σ9.2.1, vp_updL σ9.2.2 0 r1.toInt64) (fun (σ10 : LT) => some ((0 : Int32), σ10))))
set_option maxHeartbeats 4000000 in
theorem conL_efficiencyBits (l : Launch) (G : Gx) (ad : Nat → Nat)  (σ : LT) (r : Int32) (σf : LT) (hf : fL_efficiencyBits  σ = some (r, σf)) : Con wL l G ad yL_efficiencyBits (Cond.codeWith yL_efficiencyBits cL_efficiencyBits 3 (some .int) [(0, 8, 11, 17)]) rmL_efficiencyBits 1 6 [.ref (ad 0), .ref (ad 100)] σ (some (.int r)) σf := by
  refine Con.startH (by decide) (Nat.le_of_ble_eq_true rfl) (fun X Q _ hT C F => ?_)
  refine V_eq (L' := [(0, .ref (ad 0)), (1, .ref (ad 100))]) (st' := []) rfl rfl rfl ?_
  unfold fL_efficiencyBits at hf
  refine V_aload_n (q := 1) C dL_efficiencyBits_0 rfl rfl 1 rfl ?_
  refine V_iconst (v := 0) (q := 2) C dL_efficiencyBits_1 rfl ic_0 ?_
  refine V_aload_n (q := 3) C dL_efficiencyBits_2 rfl rfl 0 rfl ?_
  obtain ⟨z4, σ2, h3, hE, hA⟩ := bx_s hf
  refine V_callVXs (av := []) (st := [.int (0 : Int32), .ref (ad 100)]) (q := 6) (subX (τ := σ)) C 0 (by decide) (eX_0 G ad _) rfl rfl (conX6_efficiencyBits _ _ _  _ _ _ h3) q_1124 q_107 q_1121 q_1122 q_1123 nmX6_efficiencyBits (by decide) rfl rfl (Nat.le_of_ble_eq_true rfl) dL_efficiencyBits_3 rfl (fun E hz => ?_) (fun w5 h6 => ?_)
  · obtain rfl := rI_l hz
    replace hf := hE _ rfl
    by_cases e7 : E = "java/lang/IllegalStateException"
    · replace hf := (ite_s hf).1 e7
      subst e7
      refine VX_catch C hT [] ⟨0, 8, 11, 17⟩ [] rfl (fun z hz => by cases hz) (by decide) (by decide) (by decide) q_415 q_524 (fun qe => ?_)
      refine V_lets hf (fun σ8 hf => ?_)
      refine V_astore_n (L' := [(2, .ref qe), (0, .ref (ad 0)), (1, .ref (ad 100))]) (q := 12) C dL_efficiencyBits_11 rfl rfl (by decide) rfl ?_
      refine V_iconst (v := 1) (q := 13) C dL_efficiencyBits_12 rfl ic_1 ?_
      obtain ⟨e1, e2⟩ := pr_s hf
      subst e1; subst e2
      exact V_iret C F (by decide) (by decide) dL_efficiencyBits_13
    · replace hf := (ite_s hf).2 e7
      cases hf
  · obtain ⟨r1, rfl, rfl⟩ := rI_r h6
    replace hf := hA _ rfl
    refine V_eq (L' := [(0, .ref (ad 0)), (1, .ref (ad 100))]) (st' := [.int r1, .int (0 : Int32), .ref (ad 100)]) rfl rfl rfl ?_
    refine V_wide (k2 := 1) (n2 := 6) (by decide) (by decide) ?_
    refine V_lets hf (fun σ9 hf => ?_)
    refine V_i2l (q := 7) C dL_efficiencyBits_6 rfl ?_
    refine V_outW (q := 8) C dL_efficiencyBits_7 rfl ?_
    refine V_lets hf (fun σ10 hf => ?_)
    refine V_goto (t := 14) C dL_efficiencyBits_8 (by decide) ?_
    refine V_iconst (v := 0) (q := 15) C dL_efficiencyBits_14 rfl ic_0 ?_
    obtain ⟨e1, e2⟩ := pr_s hf
    subst e1; subst e2
    exact V_iret C F (by decide) (by decide) dL_efficiencyBits_15
def rmL_meanPriceBits : Room := { frames := 8, cells := 2, slots := 12, locals := 131 }
def fL_meanPriceBits  (σ : LT) : Option (Int32 × LT) := bx (fX6_meanPriceBits  σ.1) (fun E σE => if E = "java/lang/IllegalStateException" then (lt' (σE, σ.2) (fun (σ8 : LT) => some ((1 : Int32), σ8))) else if E = "java/lang/ArithmeticException" then (lt' (σE, σ.2) (fun (σ10 : LT) => some ((2 : Int32), σ10))) else none) (fun (r1 : Int64) (σ2 : Sg) => lt' (σ2, σ.2) (fun (σ11 : LT) => lt' (σ11.1, σ11.2.1, vp_updL σ11.2.2 0 r1) (fun (σ12 : LT) => some ((0 : Int32), σ12))))
set_option maxHeartbeats 4000000 in
theorem conL_meanPriceBits (l : Launch) (G : Gx) (ad : Nat → Nat)  (σ : LT) (r : Int32) (σf : LT) (hf : fL_meanPriceBits  σ = some (r, σf)) : Con wL l G ad yL_meanPriceBits (Cond.codeWith yL_meanPriceBits cL_meanPriceBits 3 (some .int) [(0, 7, 10, 17), (0, 7, 13, 129)]) rmL_meanPriceBits 2 12 [.ref (ad 0), .ref (ad 100)] σ (some (.int r)) σf := by
  refine Con.startH (by decide) (Nat.le_of_ble_eq_true rfl) (fun X Q _ hT C F => ?_)
  refine V_eq (L' := [(0, .ref (ad 0)), (1, .ref (ad 100))]) (st' := []) rfl rfl rfl ?_
  unfold fL_meanPriceBits at hf
  refine V_aload_n (q := 1) C dL_meanPriceBits_0 rfl rfl 1 rfl ?_
  refine V_iconst (v := 0) (q := 2) C dL_meanPriceBits_1 rfl ic_0 ?_
  refine V_aload_n (q := 3) C dL_meanPriceBits_2 rfl rfl 0 rfl ?_
  obtain ⟨z4, σ2, h3, hE, hA⟩ := bx_s hf
  refine V_callVXs (av := []) (st := [.int (0 : Int32), .ref (ad 100)]) (q := 6) (subX (τ := σ)) C 0 (by decide) (eX_0 G ad _) rfl rfl (conX6_meanPriceBits _ _ _  _ _ _ h3) q_1145 q_107 q_1142 q_1143 q_1144 nmX6_meanPriceBits (by decide) rfl rfl (Nat.le_of_ble_eq_true rfl) dL_meanPriceBits_3 rfl (fun E hz => ?_) (fun w5 h6 => ?_)
  · obtain rfl := rL_l hz
    replace hf := hE _ rfl
    by_cases e7 : E = "java/lang/IllegalStateException"
    · replace hf := (ite_s hf).1 e7
      subst e7
      refine VX_catch C hT [] ⟨0, 7, 10, 17⟩ [⟨0, 7, 13, 129⟩] rfl (fun z hz => by cases hz) (by decide) (by decide) (by decide) q_415 q_524 (fun qe => ?_)
      refine V_lets hf (fun σ8 hf => ?_)
      refine V_astore_n (L' := [(2, .ref qe), (0, .ref (ad 0)), (1, .ref (ad 100))]) (q := 11) C dL_meanPriceBits_10 rfl rfl (by decide) rfl ?_
      refine V_iconst (v := 1) (q := 12) C dL_meanPriceBits_11 rfl ic_1 ?_
      obtain ⟨e1, e2⟩ := pr_s hf
      subst e1; subst e2
      exact V_iret C F (by decide) (by decide) dL_meanPriceBits_12
    · replace hf := (ite_s hf).2 e7
      by_cases e9 : E = "java/lang/ArithmeticException"
      · replace hf := (ite_s hf).1 e9
        subst e9
        refine VX_catch C hT [⟨0, 7, 10, 17⟩] ⟨0, 7, 13, 129⟩ [] rfl (fun z hz => by
          simp only [List.mem_cons, List.not_mem_nil, or_false] at hz
          rcases hz with rfl
          · exact ⟨by decide, "java/lang/IllegalStateException", q_415, by decide, by decide⟩
          ) (by decide) (by decide) (by decide) q_1128 q_1140 (fun qe => ?_)
        refine V_lets hf (fun σ10 hf => ?_)
        refine V_astore_n (L' := [(2, .ref qe), (0, .ref (ad 0)), (1, .ref (ad 100))]) (q := 14) C dL_meanPriceBits_13 rfl rfl (by decide) rfl ?_
        refine V_iconst (v := 2) (q := 15) C dL_meanPriceBits_14 rfl ic_2 ?_
        obtain ⟨e1, e2⟩ := pr_s hf
        subst e1; subst e2
        exact V_iret C F (by decide) (by decide) dL_meanPriceBits_15
      · replace hf := (ite_s hf).2 e9
        cases hf
  · obtain ⟨r1, rfl, rfl⟩ := rL_r h6
    replace hf := hA _ rfl
    refine V_eq (L' := [(0, .ref (ad 0)), (1, .ref (ad 100))]) (st' := [.long r1, .int (0 : Int32), .ref (ad 100)]) rfl rfl rfl ?_
    refine V_wide (k2 := 2) (n2 := 12) (by decide) (by decide) ?_
    refine V_lets hf (fun σ11 hf => ?_)
    refine V_outW (q := 7) C dL_meanPriceBits_6 rfl ?_
    refine V_lets hf (fun σ12 hf => ?_)
    refine V_goto (t := 16) C dL_meanPriceBits_7 (by decide) ?_
    refine V_iconst (v := 0) (q := 17) C dL_meanPriceBits_16 rfl ic_0 ?_
    obtain ⟨e1, e2⟩ := pr_s hf
    subst e1; subst e2
    exact V_iret C F (by decide) (by decide) dL_meanPriceBits_17
def rmL_count : Room := { frames := 7, cells := 1, slots := 6, locals := 111 }
def fL_count (a : Int32) (σ : LT) : Option (Int32 × LT) := bx (fX6_count a σ.1) (fun E σE => if E = "java/lang/IllegalArgumentException" then (lt' (σE, σ.2) (fun (σ8 : LT) => some ((1 : Int32), σ8))) else none) (fun (r1 : Int32) (σ2 : Sg) => lt' (σ2, σ.2) (fun (σ9 : LT) => lt' (σ9.1, σ9.2.1, vp_updL σ9.2.2 0 r1.toInt64) (fun (σ10 : LT) => some ((0 : Int32), σ10))))
set_option maxHeartbeats 4000000 in
theorem conL_count (l : Launch) (G : Gx) (ad : Nat → Nat) (a : Int32) (σ : LT) (r : Int32) (σf : LT) (hf : fL_count a σ = some (r, σf)) : Con wL l G ad yL_count (Cond.codeWith yL_count cL_count 4 (some .int) [(0, 9, 12, 13)]) rmL_count 1 6 [.ref (ad 0), .int a, .ref (ad 100)] σ (some (.int r)) σf := by
  refine Con.startH (by decide) (Nat.le_of_ble_eq_true rfl) (fun X Q _ hT C F => ?_)
  refine V_eq (L' := [(0, .ref (ad 0)), (1, .int a), (2, .ref (ad 100))]) (st' := []) rfl rfl rfl ?_
  unfold fL_count at hf
  refine V_aload_n (q := 1) C dL_count_0 rfl rfl 2 rfl ?_
  refine V_iconst (v := 0) (q := 2) C dL_count_1 rfl ic_0 ?_
  refine V_aload_n (q := 3) C dL_count_2 rfl rfl 0 rfl ?_
  refine V_iload_n (q := 4) C dL_count_3 rfl rfl 1 rfl ?_
  obtain ⟨z4, σ2, h3, hE, hA⟩ := bx_s hf
  refine V_callVXs (av := [.int a]) (st := [.int (0 : Int32), .ref (ad 100)]) (q := 7) (subX (τ := σ)) C 0 (by decide) (eX_0 G ad _) rfl rfl (conX6_count _ _ _ _ _ _ _ h3) q_1158 q_107 q_1155 q_1156 q_1157 nmX6_count (by decide) rfl rfl (Nat.le_of_ble_eq_true rfl) dL_count_4 rfl (fun E hz => ?_) (fun w5 h6 => ?_)
  · obtain rfl := rI_l hz
    replace hf := hE _ rfl
    by_cases e7 : E = "java/lang/IllegalArgumentException"
    · replace hf := (ite_s hf).1 e7
      subst e7
      refine VX_catch C hT [] ⟨0, 9, 12, 13⟩ [] rfl (fun z hz => by cases hz) (by decide) (by decide) (by decide) q_413 q_426 (fun qe => ?_)
      refine V_lets hf (fun σ8 hf => ?_)
      refine V_astore_n (L' := [(3, .ref qe), (0, .ref (ad 0)), (1, .int a), (2, .ref (ad 100))]) (q := 13) C dL_count_12 rfl rfl (by decide) rfl ?_
      refine V_iconst (v := 1) (q := 14) C dL_count_13 rfl ic_1 ?_
      obtain ⟨e1, e2⟩ := pr_s hf
      subst e1; subst e2
      exact V_iret C F (by decide) (by decide) dL_count_14
    · replace hf := (ite_s hf).2 e7
      cases hf
  · obtain ⟨r1, rfl, rfl⟩ := rI_r h6
    replace hf := hA _ rfl
    refine V_eq (L' := [(0, .ref (ad 0)), (1, .int a), (2, .ref (ad 100))]) (st' := [.int r1, .int (0 : Int32), .ref (ad 100)]) rfl rfl rfl ?_
    refine V_wide (k2 := 1) (n2 := 6) (by decide) (by decide) ?_
    refine V_lets hf (fun σ9 hf => ?_)
    refine V_i2l (q := 8) C dL_count_7 rfl ?_
    refine V_outW (q := 9) C dL_count_8 rfl ?_
    refine V_lets hf (fun σ10 hf => ?_)
    refine V_goto (t := 15) C dL_count_9 (by decide) ?_
    refine V_iconst (v := 0) (q := 16) C dL_count_15 rfl ic_0 ?_
    obtain ⟨e1, e2⟩ := pr_s hf
    subst e1; subst e2
    exact V_iret C F (by decide) (by decide) dL_count_16
def rmL_restore : Room := { frames := 7, cells := 1, slots := 6, locals := 110 }
def fL_restore  (σ : LT) : Option (Int32 × LT) := bx (fX6_restore  σ.1) (fun E σE => if E = "java/lang/IllegalStateException" then (lt' (σE, σ.2) (fun (σ8 : LT) => some ((1 : Int32), σ8))) else none) (fun (r1 : Int32) (σ2 : Sg) => lt' (σ2, σ.2) (fun (σ9 : LT) => lt' (σ9.1, σ9.2.1, vp_updL σ9.2.2 0 r1.toInt64) (fun (σ10 : LT) => some ((0 : Int32), σ10))))
set_option maxHeartbeats 4000000 in
theorem conL_restore (l : Launch) (G : Gx) (ad : Nat → Nat)  (σ : LT) (r : Int32) (σf : LT) (hf : fL_restore  σ = some (r, σf)) : Con wL l G ad yL_restore (Cond.codeWith yL_restore cL_restore 3 (some .int) [(0, 8, 11, 17)]) rmL_restore 1 6 [.ref (ad 0), .ref (ad 100)] σ (some (.int r)) σf := by
  refine Con.startH (by decide) (Nat.le_of_ble_eq_true rfl) (fun X Q _ hT C F => ?_)
  refine V_eq (L' := [(0, .ref (ad 0)), (1, .ref (ad 100))]) (st' := []) rfl rfl rfl ?_
  unfold fL_restore at hf
  refine V_aload_n (q := 1) C dL_restore_0 rfl rfl 1 rfl ?_
  refine V_iconst (v := 0) (q := 2) C dL_restore_1 rfl ic_0 ?_
  refine V_aload_n (q := 3) C dL_restore_2 rfl rfl 0 rfl ?_
  obtain ⟨z4, σ2, h3, hE, hA⟩ := bx_s hf
  refine V_callVXs (av := []) (st := [.int (0 : Int32), .ref (ad 100)]) (q := 6) (subX (τ := σ)) C 0 (by decide) (eX_0 G ad _) rfl rfl (conX6_restore _ _ _  _ _ _ h3) q_1173 q_107 q_1170 q_1171 q_1172 nmX6_restore (by decide) rfl rfl (Nat.le_of_ble_eq_true rfl) dL_restore_3 rfl (fun E hz => ?_) (fun w5 h6 => ?_)
  · obtain rfl := rI_l hz
    replace hf := hE _ rfl
    by_cases e7 : E = "java/lang/IllegalStateException"
    · replace hf := (ite_s hf).1 e7
      subst e7
      refine VX_catch C hT [] ⟨0, 8, 11, 17⟩ [] rfl (fun z hz => by cases hz) (by decide) (by decide) (by decide) q_415 q_524 (fun qe => ?_)
      refine V_lets hf (fun σ8 hf => ?_)
      refine V_astore_n (L' := [(2, .ref qe), (0, .ref (ad 0)), (1, .ref (ad 100))]) (q := 12) C dL_restore_11 rfl rfl (by decide) rfl ?_
      refine V_iconst (v := 1) (q := 13) C dL_restore_12 rfl ic_1 ?_
      obtain ⟨e1, e2⟩ := pr_s hf
      subst e1; subst e2
      exact V_iret C F (by decide) (by decide) dL_restore_13
    · replace hf := (ite_s hf).2 e7
      cases hf
  · obtain ⟨r1, rfl, rfl⟩ := rI_r h6
    replace hf := hA _ rfl
    refine V_eq (L' := [(0, .ref (ad 0)), (1, .ref (ad 100))]) (st' := [.int r1, .int (0 : Int32), .ref (ad 100)]) rfl rfl rfl ?_
    refine V_wide (k2 := 1) (n2 := 6) (by decide) (by decide) ?_
    refine V_lets hf (fun σ9 hf => ?_)
    refine V_i2l (q := 7) C dL_restore_6 rfl ?_
    refine V_outW (q := 8) C dL_restore_7 rfl ?_
    refine V_lets hf (fun σ10 hf => ?_)
    refine V_goto (t := 14) C dL_restore_8 (by decide) ?_
    refine V_iconst (v := 0) (q := 15) C dL_restore_14 rfl ic_0 ?_
    obtain ⟨e1, e2⟩ := pr_s hf
    subst e1; subst e2
    exact V_iret C F (by decide) (by decide) dL_restore_15
