def rmX7_areStations : Room := { frames := 0, cells := 0, slots := 0, locals := 0 }
def fX7_areStations (a : Int32) (σ : Sg) : Option (Int32 × Sg) := if (a &&& ((((1 : Int32) <<< ((σ 1 0) &&& 31)) - (1 : Int32)) ^^^ (-1 : Int32))) = 0 then (some ((1 : Int32), σ)) else (some ((0 : Int32), σ))
set_option maxHeartbeats 4000000 in
theorem conX7_areStations (l : Launch) (G : Gx) (ad : Nat → Nat) (a : Int32) (σ : Sg) (r : Int32) (σf : Sg)  (hf : fX7_areStations a σ = some (r, σf)) : Con wM l G ad yX7_areStations (Cond.code yX7_areStations cX7_areStations 2 (some .boolean)) rmX7_areStations 0 0 [.ref (ad 0), .int a] σ (some (.int r)) σf := by
  refine Con.start (by decide) (Nat.le_of_ble_eq_true rfl) (fun X Q _ C F => ?_)
  refine V_eq (L' := [(0, .ref (ad 0)), (1, .int a)]) (st' := []) rfl rfl rfl ?_
  unfold fX7_areStations at hf
  refine V_iload_n (q := 1) C dX7_areStations_0 rfl rfl 1 rfl ?_
  refine V_iconst (v := 1) (q := 2) C dX7_areStations_1 rfl ic_1 ?_
  refine V_aload_n (q := 3) C dX7_areStations_2 rfl rfl 0 rfl ?_
  refine GM_0_1 (q := 6) C q_1183 dX7_areStations_3 rfl ?_
  refine V_iconst (v := 0) (q := 7) C dX7_areStations_6 rfl ic_0 ?_
  refine RM_1 (z := 0) (q := 8) C tn_0 (inb_in (by decide)) dX7_areStations_7 rfl ?_
  refine V_ishl (q := 9) C dX7_areStations_8 rfl ?_
  refine V_iconst (v := 1) (q := 10) C dX7_areStations_9 rfl ic_1 ?_
  refine V_isub (q := 11) C dX7_areStations_10 rfl ?_
  refine V_iconst (v := (-1)) (q := 12) C dX7_areStations_11 rfl ic_m1 ?_
  refine V_ixor (q := 13) C dX7_areStations_12 rfl ?_
  refine V_iand (q := 14) C dX7_areStations_13 rfl ?_
  refine V_if_ne (t := 21) (q := 17) C dX7_areStations_14 (by decide) rfl (fun c1 => ?_) (fun c1 => ?_)
  · replace hf := (ite_s hf).2 c1
    refine V_iconst (v := 0) (q := 22) C dX7_areStations_21 rfl ic_0 ?_
    obtain ⟨e1, e2⟩ := pr_s hf
    subst e1; subst e2
    exact V_zret C F (by decide) (by decide) (by decide) dX7_areStations_22
  · replace hf := (ite_s hf).1 c1
    refine V_iconst (v := 1) (q := 18) C dX7_areStations_17 rfl ic_1 ?_
    refine V_goto (t := 22) C dX7_areStations_18 (by decide) ?_
    obtain ⟨e1, e2⟩ := pr_s hf
    subst e1; subst e2
    exact V_zret C F (by decide) (by decide) (by decide) dX7_areStations_22
def rmX7_has : Room := { frames := 0, cells := 0, slots := 0, locals := 0 }
def pX7_has (a : Int32) (b : Int32) : Int32 := if ((a >>> (b &&& 31)) &&& (1 : Int32)) = (1 : Int32) then ((1 : Int32)) else ((0 : Int32))
set_option maxHeartbeats 4000000 in
theorem conX7_has {T : Type} {w : Wd T} (l : Launch) (G : Gx) (ad : Nat → Nat) (a : Int32) (b : Int32) (τ : T) (r : Int32) (hf : pX7_has a b = r) : Con w l G ad yX7_has (Cond.code yX7_has cX7_has 2 (some .boolean)) rmX7_has 0 0 [.int a, .int b] τ (some (.int r)) τ := by
  refine Con.start (by decide) (Nat.le_of_ble_eq_true rfl) (fun X Q _ C F => ?_)
  refine V_eq (L' := [(0, .int a), (1, .int b)]) (st' := []) rfl rfl rfl ?_
  unfold pX7_has at hf
  refine V_iload_n (q := 1) C dX7_has_0 rfl rfl 0 rfl ?_
  refine V_iload_n (q := 2) C dX7_has_1 rfl rfl 1 rfl ?_
  refine V_ishr (q := 3) C dX7_has_2 rfl ?_
  refine V_iconst (v := 1) (q := 4) C dX7_has_3 rfl ic_1 ?_
  refine V_iand (q := 5) C dX7_has_4 rfl ?_
  refine V_iconst (v := 1) (q := 6) C dX7_has_5 rfl ic_1 ?_
  refine V_icmp_ne (t := 13) (q := 9) C dX7_has_6 (by decide) rfl (fun c1 => ?_) (fun c1 => ?_)
  · replace hf := (ite_s hf).2 c1
    refine V_iconst (v := 0) (q := 14) C dX7_has_13 rfl ic_0 ?_
    subst hf
    exact V_zret C F (by decide) (Nat.le_refl 0) (Nat.le_refl 0) dX7_has_14
  · replace hf := (ite_s hf).1 c1
    refine V_iconst (v := 1) (q := 10) C dX7_has_9 rfl ic_1 ?_
    refine V_goto (t := 14) C dX7_has_10 (by decide) ?_
    subst hf
    exact V_zret C F (by decide) (Nat.le_refl 0) (Nat.le_refl 0) dX7_has_14
theorem pX7_has_b (a : Int32) (b : Int32) : pX7_has a b = 0 ∨ pX7_has a b = 1 := by
  unfold pX7_has
  try simp only [jp]
  repeat' split
  all_goals first | exact Or.inl rfl | exact Or.inr rfl | exact pX6_contains_b _ _ | exact pX7_isBetween_b _ _ _ | exact pX7_isChannels_b _
def rmX7_startSearch : Room := { frames := 1, cells := 0, slots := 0, locals := 21 }
def fX7_startSearch_2 (a : Int32) (b : Int32) : Nat → Int32 → Sg → Option (Unit × Sg)
  | 0, _, _ => none
  | n + 1, x1, σ2 => if (σ2 1 0) ≤ x1 then (some ((), σ2)) else (jp (fun (v4 : Int32) (σ5 : Sg) => gd (inb x1 12) (lt' (sup σ5 10 x1.toNatClampNeg v4) (fun (σ7 : Sg) => fX7_startSearch_2 a b n (x1 + (1 : Int32)) σ7))) (fun (J41 : Int32 → Sg → Option (Unit × Sg)) => if (pX7_has a x1) = 0 then (J41 (0 : Int32) σ2) else (gd (inb ((4 : Int32) + x1) 2764) (J41 ((σ2 1 (((4 : Int32) + x1).toNatClampNeg)) &&& b) σ2))))
def fX7_startSearch (a : Int32) (b : Int32) (σ : Sg) : Option (Unit × Sg) := fX7_startSearch_2 a b FU (0 : Int32) σ
set_option maxHeartbeats 4000000 in
theorem wlX7_startSearch_2 {X : Cx} {G : Gx} {ad : Nat → Nat} {Q : State → Prop} {σf : Sg} (C : OK wM X G ad RX7 cX7_startSearch 4 rmX7_startSearch) (F : FinR wM X G ad Q 0 0 none none σf) (a : Int32) (b : Int32) : ∀ (n : Nat) (x1 : Int32) (σ2 : Sg), fX7_startSearch_2 a b n x1 σ2 = some ((), σf) → V wM X G ad 4 Q 0 0 σ2 2 [(0, .ref (ad 0)), (1, .int a), (2, .int b), (3, .int x1)] [] := by
  intro n
  induction n with
  | zero =>
    intro _ _ hf
    exact absurd hf (by simp [fX7_startSearch_2])
  | succ n ih =>
    intro x1 σ2 hf
    rw [fX7_startSearch_2] at hf
    refine V_iload_n (q := 3) C dX7_startSearch_2 rfl rfl 3 rfl ?_
    refine V_aload_n (q := 4) C dX7_startSearch_3 rfl rfl 0 rfl ?_
    refine GM_0_1 (q := 7) C q_1183 dX7_startSearch_4 rfl ?_
    refine V_iconst (v := 0) (q := 8) C dX7_startSearch_7 rfl ic_0 ?_
    refine RM_1 (z := 0) (q := 9) C tn_0 (inb_in (by decide)) dX7_startSearch_8 rfl ?_
    refine V_icmp_ge (t := 48) (q := 12) C dX7_startSearch_9 (by decide) rfl (fun c3 => ?_) (fun c3 => ?_)
    · replace hf := (ite_s hf).1 c3
      obtain ⟨-, e2⟩ := pr_s hf
      subst e2
      exact V_vret C F (by decide) (by decide) dX7_startSearch_48
    · replace hf := (ite_s hf).2 c3
      refine V_aload_n (q := 13) C dX7_startSearch_12 rfl rfl 0 rfl ?_
      refine GM_0_13 (q := 16) C q_1195 dX7_startSearch_13 rfl ?_
      refine V_iconst (v := 0) (q := 17) C dX7_startSearch_16 rfl ic_0 ?_
      refine AM_7 (z := 10) (q := 18) C (by decide) (inb_in (by decide)) dX7_startSearch_17 rfl ?_
      refine V_iload_n (q := 19) C dX7_startSearch_18 rfl rfl 3 rfl ?_
      refine V_iload_n (q := 20) C dX7_startSearch_19 rfl rfl 1 rfl ?_
      refine V_iload_n (q := 21) C dX7_startSearch_20 rfl rfl 3 rfl ?_
      refine V_callS (av := [.int a, .int x1]) (st := [.int x1, .ref (ad 10)]) (st1 := [.int (pX7_has a x1), .int x1, .ref (ad 10)]) (q := 24) C (conX7_has _ _ _ _ _ _ _ rfl) q_1314 q_114 q_1312 q_1313 nmX7_has (by decide) rfl rfl (Nat.le_of_ble_eq_true rfl) dX7_startSearch_21 rfl rfl ?_
      obtain ⟨J41, eJ41, hf⟩ := jp_s hf
      have hJ41 : ∀ (v4 : Int32) (σ5 : Sg), J41 v4 σ5 = some ((), σf) → V wM X G ad 4 Q 0 0 σ5 41 [(0, .ref (ad 0)), (1, .int a), (2, .int b), (3, .int x1)] [.int v4, .int x1, .ref (ad 10)] := by
        intro v4 σ5 hf
        subst eJ41
        obtain ⟨g6, hf⟩ := gd_s hf
        refine SMr0 (z := x1.toNatClampNeg) (q := 42) C (by decide) (by decide) rfl (inb_in g6) dX7_startSearch_41 rfl ?_
        refine V_lets hf (fun σ7 hf => ?_)
        refine V_iinc (L' := [(3, .int (x1 + (1 : Int32))), (0, .ref (ad 0)), (1, .int a), (2, .int b)]) (q := 45) C dX7_startSearch_42 rfl 3 rfl (congrArg (fun y => x1 + y) ic_1) (by decide) rfl ?_
        refine V_goto (t := 2) C dX7_startSearch_45 (by decide) ?_
        refine V_sub (L' := [(0, .ref (ad 0)), (1, .int a), (2, .int b), (3, .int (x1 + (1 : Int32)))]) [1, 2, 3, 0] rfl ?_
        exact ih _ _ hf
      refine V_if_eq (t := 40) (q := 27) C dX7_startSearch_24 (by decide) rfl (fun c8 => ?_) (fun c8 => ?_)
      · replace hf := (ite_s hf).1 c8
        refine V_iconst (v := 0) (q := 41) C dX7_startSearch_40 rfl ic_0 ?_
        exact hJ41 _ _ hf
      · replace hf := (ite_s hf).2 c8
        refine V_aload_n (q := 28) C dX7_startSearch_27 rfl rfl 0 rfl ?_
        refine GM_0_1 (q := 31) C q_1183 dX7_startSearch_28 rfl ?_
        refine V_iconst (v := 4) (q := 32) C dX7_startSearch_31 rfl ic_4 ?_
        refine V_iload_n (q := 33) C dX7_startSearch_32 rfl rfl 3 rfl ?_
        refine V_iadd (q := 34) C dX7_startSearch_33 rfl ?_
        obtain ⟨g9, hf⟩ := gd_s hf
        refine RM_1 (z := ((4 : Int32) + x1).toNatClampNeg) (q := 35) C rfl (inb_in g9) dX7_startSearch_34 rfl ?_
        refine V_iload_n (q := 36) C dX7_startSearch_35 rfl rfl 2 rfl ?_
        refine V_iand (q := 37) C dX7_startSearch_36 rfl ?_
        refine V_goto (t := 41) C dX7_startSearch_37 (by decide) ?_
        exact hJ41 _ _ hf
set_option maxHeartbeats 4000000 in
theorem conX7_startSearch (l : Launch) (G : Gx) (ad : Nat → Nat) (a : Int32) (b : Int32) (σ : Sg) (σf : Sg)  (hf : fX7_startSearch a b σ = some ((), σf)) : Con wM l G ad yX7_startSearch (Cond.code yX7_startSearch cX7_startSearch 4 none) rmX7_startSearch 0 0 [.ref (ad 0), .int a, .int b] σ none σf := by
  refine Con.start (by decide) (Nat.le_of_ble_eq_true rfl) (fun X Q _ C F => ?_)
  refine V_eq (L' := [(0, .ref (ad 0)), (1, .int a), (2, .int b)]) (st' := []) rfl rfl rfl ?_
  unfold fX7_startSearch at hf
  refine V_iconst (v := 0) (q := 1) C dX7_startSearch_0 rfl ic_0 ?_
  refine V_istore_n (L' := [(3, .int (0 : Int32)), (0, .ref (ad 0)), (1, .int a), (2, .int b)]) (q := 2) C dX7_startSearch_1 rfl rfl (by decide) rfl ?_
  refine V_sub (L' := [(0, .ref (ad 0)), (1, .int a), (2, .int b), (3, .int (0 : Int32))]) [1, 2, 3, 0] rfl ?_
  refine wlX7_startSearch_2 C F a b FU _ _ hf
def rmX7_countBits : Room := { frames := 0, cells := 0, slots := 0, locals := 0 }
def fX7_countBits_4 : Nat → Int32 → Int32 → Sg → Option (Int32 × Sg)
  | 0, _, _, _ => none
  | n + 1, x1, x2, σ3 => if x2 = 0 then (some (x1, σ3)) else (lt' ((x2 &&& (x2 - (1 : Int32)))) (fun (x5 : Int32) => fX7_countBits_4 n (x1 + (1 : Int32)) x5 σ3))
def fX7_countBits (a : Int32) (σ : Sg) : Option (Int32 × Sg) := fX7_countBits_4 FU (0 : Int32) a σ
set_option maxHeartbeats 4000000 in
theorem wlX7_countBits_4 {X : Cx} {G : Gx} {ad : Nat → Nat} {Q : State → Prop} {r : Int32} {σf : Sg} (C : OK wM X G ad RX7 cX7_countBits 3 rmX7_countBits) (F : FinR wM X G ad Q 0 0 (some .int) (some (.int r)) σf) : ∀ (n : Nat) (x1 : Int32) (x2 : Int32) (σ3 : Sg), fX7_countBits_4 n x1 x2 σ3 = some (r, σf) → V wM X G ad 3 Q 0 0 σ3 4 [(1, .int x1), (2, .int x2)] [] := by
  intro n
  induction n with
  | zero =>
    intro _ _ _ hf
    exact absurd hf (by simp [fX7_countBits_4])
  | succ n ih =>
    intro x1 x2 σ3 hf
    rw [fX7_countBits_4] at hf
    refine V_iload_n (q := 5) C dX7_countBits_4 rfl rfl 1 rfl ?_
    refine V_if_eq (t := 20) (q := 8) C dX7_countBits_5 (by decide) rfl (fun c4 => ?_) (fun c4 => ?_)
    · replace hf := (ite_s hf).1 c4
      refine V_iload_n (q := 21) C dX7_countBits_20 rfl rfl 0 rfl ?_
      obtain ⟨e1, e2⟩ := pr_s hf
      subst e1; subst e2
      exact V_iret C F (by decide) (by decide) dX7_countBits_21
    · replace hf := (ite_s hf).2 c4
      refine V_iinc (L' := [(1, .int (x1 + (1 : Int32))), (2, .int x2)]) (q := 11) C dX7_countBits_8 rfl 0 rfl (congrArg (fun y => x1 + y) ic_1) (by decide) rfl ?_
      refine V_iload_n (q := 12) C dX7_countBits_11 rfl rfl 1 rfl ?_
      refine V_iload_n (q := 13) C dX7_countBits_12 rfl rfl 1 rfl ?_
      refine V_iconst (v := 1) (q := 14) C dX7_countBits_13 rfl ic_1 ?_
      refine V_isub (q := 15) C dX7_countBits_14 rfl ?_
      refine V_iand (q := 16) C dX7_countBits_15 rfl ?_
      refine V_let (cv := Value.int) hf (fun x5 hf => ?_)
      refine V_istore_n (L' := [(2, .int x5), (1, .int (x1 + (1 : Int32)))]) (q := 17) C dX7_countBits_16 rfl rfl (by decide) rfl ?_
      refine V_goto (t := 4) C dX7_countBits_17 (by decide) ?_
      refine V_sub (L' := [(1, .int (x1 + (1 : Int32))), (2, .int x5)]) [1, 0] rfl ?_
      exact ih _ _ _ hf
set_option maxHeartbeats 4000000 in
theorem conX7_countBits (l : Launch) (G : Gx) (ad : Nat → Nat) (a : Int32) (σ : Sg) (r : Int32) (σf : Sg)  (hf : fX7_countBits a σ = some (r, σf)) : Con wM l G ad yX7_countBits (Cond.code yX7_countBits cX7_countBits 3 (some .int)) rmX7_countBits 0 0 [.int a] σ (some (.int r)) σf := by
  refine Con.start (by decide) (Nat.le_of_ble_eq_true rfl) (fun X Q _ C F => ?_)
  refine V_eq (L' := [(0, .int a)]) (st' := []) rfl rfl rfl ?_
  unfold fX7_countBits at hf
  refine V_iconst (v := 0) (q := 1) C dX7_countBits_0 rfl ic_0 ?_
  refine V_istore_n (L' := [(1, .int (0 : Int32)), (0, .int a)]) (q := 2) C dX7_countBits_1 rfl rfl (by decide) rfl ?_
  refine V_iload_n (q := 3) C dX7_countBits_2 rfl rfl 1 rfl ?_
  refine V_istore_n (L' := [(2, .int a), (1, .int (0 : Int32)), (0, .int a)]) (q := 4) C dX7_countBits_3 rfl rfl (by decide) rfl ?_
  refine V_sub (L' := [(1, .int (0 : Int32)), (2, .int a)]) [1, 0] rfl ?_
  refine wlX7_countBits_4 C F FU _ _ _ hf
def rmX7_tightest : Room := { frames := 1, cells := 0, slots := 0, locals := 22 }
def fX7_tightest_5 (a : Int32) (b : Int32) : Nat → Int32 → Int32 → Sg → Option (Int32 × Sg)
  | 0, _, _, _ => none
  | n + 1, x1, x2, σ3 => if (σ3 1 0) ≤ x2 then (some (x1, σ3)) else (jp (fun (y5 : Int32) (σ6 : Sg) => fX7_tightest_5 a b n y5 (x2 + (1 : Int32)) σ6) (fun (J58 : Int32 → Sg → Option (Int32 × Sg)) => if (pX7_has b x2) = 0 then (J58 x1 σ3) else (jp (fun (σ8 : Sg) => J58 x2 σ8) (fun (J55 : Sg → Option (Int32 × Sg)) => if x1 < 0 then (J55  σ3) else (gd (inb a 13) (gd (inb x2 12) (bd (fX7_countBits (σ3 (10 + a.toNatClampNeg) x2.toNatClampNeg) σ3) (fun (r12 : Int32) (σ13 : Sg) => gd (inb a 13) (gd (inb x1 12) (bd (fX7_countBits (σ13 (10 + a.toNatClampNeg) x1.toNatClampNeg) σ13) (fun (r17 : Int32) (σ18 : Sg) => if r17 ≤ r12 then (J58 x1 σ18) else (J55  σ18))))))))))))
def fX7_tightest (a : Int32) (b : Int32) (σ : Sg) : Option (Int32 × Sg) := fX7_tightest_5 a b FU (-1 : Int32) (0 : Int32) σ
set_option maxHeartbeats 4000000 in
theorem wlX7_tightest_5 {X : Cx} {G : Gx} {ad : Nat → Nat} {Q : State → Prop} {r : Int32} {σf : Sg} (C : OK wM X G ad RX7 cX7_tightest 5 rmX7_tightest) (F : FinR wM X G ad Q 0 0 (some .int) (some (.int r)) σf) (a : Int32) (b : Int32) : ∀ (n : Nat) (x1 : Int32) (x2 : Int32) (σ3 : Sg), fX7_tightest_5 a b n x1 x2 σ3 = some (r, σf) → V wM X G ad 5 Q 0 0 σ3 5 [(0, .ref (ad 0)), (1, .int a), (2, .int b), (3, .int x1), (4, .int x2)] [] := by
  intro n
  induction n with
  | zero =>
    intro _ _ _ hf
    exact absurd hf (by simp [fX7_tightest_5])
  | succ n ih =>
    intro x1 x2 σ3 hf
    rw [fX7_tightest_5] at hf
    refine V_iload (q := 7) C dX7_tightest_5 rfl 4 rfl ?_
    refine V_aload_n (q := 8) C dX7_tightest_7 rfl rfl 0 rfl ?_
    refine GM_0_1 (q := 11) C q_1183 dX7_tightest_8 rfl ?_
    refine V_iconst (v := 0) (q := 12) C dX7_tightest_11 rfl ic_0 ?_
    refine RM_1 (z := 0) (q := 13) C tn_0 (inb_in (by decide)) dX7_tightest_12 rfl ?_
    refine V_icmp_ge (t := 64) (q := 16) C dX7_tightest_13 (by decide) rfl (fun c4 => ?_) (fun c4 => ?_)
    · replace hf := (ite_s hf).1 c4
      refine V_iload_n (q := 65) C dX7_tightest_64 rfl rfl 3 rfl ?_
      obtain ⟨e1, e2⟩ := pr_s hf
      subst e1; subst e2
      exact V_iret C F (by decide) (by decide) dX7_tightest_65
    · replace hf := (ite_s hf).2 c4
      refine V_iload_n (q := 17) C dX7_tightest_16 rfl rfl 2 rfl ?_
      refine V_iload (q := 19) C dX7_tightest_17 rfl 4 rfl ?_
      refine V_callS (av := [.int b, .int x2]) (st := []) (st1 := [.int (pX7_has b x2)]) (q := 22) C (conX7_has _ _ _ _ _ _ _ rfl) q_1314 q_114 q_1312 q_1313 nmX7_has (by decide) rfl rfl (Nat.le_of_ble_eq_true rfl) dX7_tightest_19 rfl rfl ?_
      obtain ⟨J58, eJ58, hf⟩ := jp_s hf
      have hJ58 : ∀ (y5 : Int32) (σ6 : Sg), J58 y5 σ6 = some (r, σf) → V wM X G ad 5 Q 0 0 σ6 58 [(0, .ref (ad 0)), (1, .int a), (2, .int b), (3, .int y5), (4, .int x2)] [] := by
        intro y5 σ6 hf
        subst eJ58
        refine V_iinc (L' := [(4, .int (x2 + (1 : Int32))), (0, .ref (ad 0)), (1, .int a), (2, .int b), (3, .int y5)]) (q := 61) C dX7_tightest_58 rfl 4 rfl (congrArg (fun y => x2 + y) ic_1) (by decide) rfl ?_
        refine V_goto (t := 5) C dX7_tightest_61 (by decide) ?_
        refine V_sub (L' := [(0, .ref (ad 0)), (1, .int a), (2, .int b), (3, .int y5), (4, .int (x2 + (1 : Int32)))]) [1, 2, 3, 4, 0] rfl ?_
        exact ih _ _ _ hf
      refine V_if_eq (t := 58) (q := 25) C dX7_tightest_22 (by decide) rfl (fun c7 => ?_) (fun c7 => ?_)
      · replace hf := (ite_s hf).1 c7
        exact hJ58 _ _ hf
      · replace hf := (ite_s hf).2 c7
        refine V_iload_n (q := 26) C dX7_tightest_25 rfl rfl 3 rfl ?_
        obtain ⟨J55, eJ55, hf⟩ := jp_s hf
        have hJ55 : ∀ (σ8 : Sg), J55 σ8 = some (r, σf) → V wM X G ad 5 Q 0 0 σ8 55 [(0, .ref (ad 0)), (1, .int a), (2, .int b), (4, .int x2)] [] := by
          intro σ8 hf
          subst eJ55
          refine V_iload (q := 57) C dX7_tightest_55 rfl 3 rfl ?_
          refine V_istore_n (L' := [(3, .int x2), (0, .ref (ad 0)), (1, .int a), (2, .int b), (4, .int x2)]) (q := 58) C dX7_tightest_57 rfl rfl (by decide) rfl ?_
          refine V_sub (L' := [(0, .ref (ad 0)), (1, .int a), (2, .int b), (3, .int x2), (4, .int x2)]) [1, 2, 3, 0, 4] rfl ?_
          exact hJ58 _ _ hf
        refine V_if_lt (t := 55) (q := 29) C dX7_tightest_26 (by decide) rfl (fun c9 => ?_) (fun c9 => ?_)
        · replace hf := (ite_s hf).1 c9
          refine V_sub (L' := [(0, .ref (ad 0)), (1, .int a), (2, .int b), (4, .int x2)]) [0, 1, 2, 4] rfl ?_
          exact hJ55 _ hf
        · replace hf := (ite_s hf).2 c9
          refine V_aload_n (q := 30) C dX7_tightest_29 rfl rfl 0 rfl ?_
          refine GM_0_13 (q := 33) C q_1195 dX7_tightest_30 rfl ?_
          refine V_iload_n (q := 34) C dX7_tightest_33 rfl rfl 1 rfl ?_
          obtain ⟨g10, hf⟩ := gd_s hf
          refine AM_7 (z := 10 + a.toNatClampNeg) (q := 35) C rfl (inb_in g10) dX7_tightest_34 rfl ?_
          refine V_iload (q := 37) C dX7_tightest_35 rfl 4 rfl ?_
          obtain ⟨g11, hf⟩ := gd_s hf
          refine RMr0 (z := x2.toNatClampNeg) (q := 38) C (hMr0 (inb_in g10)).1 (hMr0 (inb_in g10)).2 rfl (inb_in g11) dX7_tightest_37 rfl ?_
          obtain ⟨r12, σ13, h14, hf⟩ := bd_s hf
          refine V_callS (av := [.int (σ3 (10 + a.toNatClampNeg) x2.toNatClampNeg)]) (st := []) (st1 := [.int r12]) (q := 41) C (conX7_countBits _ _ _ _ _ _ _ h14) q_1341 q_114 q_1339 q_1340 nmX7_countBits (by decide) rfl rfl (Nat.le_of_ble_eq_true rfl) dX7_tightest_38 rfl rfl ?_
          refine V_aload_n (q := 42) C dX7_tightest_41 rfl rfl 0 rfl ?_
          refine GM_0_13 (q := 45) C q_1195 dX7_tightest_42 rfl ?_
          refine V_iload_n (q := 46) C dX7_tightest_45 rfl rfl 1 rfl ?_
          obtain ⟨g15, hf⟩ := gd_s hf
          refine AM_7 (z := 10 + a.toNatClampNeg) (q := 47) C rfl (inb_in g15) dX7_tightest_46 rfl ?_
          refine V_iload_n (q := 48) C dX7_tightest_47 rfl rfl 3 rfl ?_
          obtain ⟨g16, hf⟩ := gd_s hf
          refine RMr0 (z := x1.toNatClampNeg) (q := 49) C (hMr0 (inb_in g15)).1 (hMr0 (inb_in g15)).2 rfl (inb_in g16) dX7_tightest_48 rfl ?_
          obtain ⟨r17, σ18, h19, hf⟩ := bd_s hf
          refine V_callS (av := [.int (σ13 (10 + a.toNatClampNeg) x1.toNatClampNeg)]) (st := [.int r12]) (st1 := [.int r17, .int r12]) (q := 52) C (conX7_countBits _ _ _ _ _ _ _ h19) q_1341 q_114 q_1339 q_1340 nmX7_countBits (by decide) rfl rfl (Nat.le_of_ble_eq_true rfl) dX7_tightest_49 rfl rfl ?_
          refine V_icmp_ge (t := 58) (q := 55) C dX7_tightest_52 (by decide) rfl (fun c20 => ?_) (fun c20 => ?_)
          · replace hf := (ite_s hf).1 c20
            exact hJ58 _ _ hf
          · replace hf := (ite_s hf).2 c20
            refine V_sub (L' := [(0, .ref (ad 0)), (1, .int a), (2, .int b), (4, .int x2)]) [0, 1, 2, 4] rfl ?_
            exact hJ55 _ hf
set_option maxHeartbeats 4000000 in
theorem conX7_tightest (l : Launch) (G : Gx) (ad : Nat → Nat) (a : Int32) (b : Int32) (σ : Sg) (r : Int32) (σf : Sg)  (hf : fX7_tightest a b σ = some (r, σf)) : Con wM l G ad yX7_tightest (Cond.code yX7_tightest cX7_tightest 5 (some .int)) rmX7_tightest 0 0 [.ref (ad 0), .int a, .int b] σ (some (.int r)) σf := by
  refine Con.start (by decide) (Nat.le_of_ble_eq_true rfl) (fun X Q _ C F => ?_)
  refine V_eq (L' := [(0, .ref (ad 0)), (1, .int a), (2, .int b)]) (st' := []) rfl rfl rfl ?_
  unfold fX7_tightest at hf
  refine V_iconst (v := (-1)) (q := 1) C dX7_tightest_0 rfl ic_m1 ?_
  refine V_istore_n (L' := [(3, .int (-1 : Int32)), (0, .ref (ad 0)), (1, .int a), (2, .int b)]) (q := 2) C dX7_tightest_1 rfl rfl (by decide) rfl ?_
  refine V_iconst (v := 0) (q := 3) C dX7_tightest_2 rfl ic_0 ?_
  refine V_istore (L' := [(4, .int (0 : Int32)), (3, .int (-1 : Int32)), (0, .ref (ad 0)), (1, .int a), (2, .int b)]) (q := 5) C dX7_tightest_3 rfl (by decide) rfl ?_
  refine V_sub (L' := [(0, .ref (ad 0)), (1, .int a), (2, .int b), (3, .int (-1 : Int32)), (4, .int (0 : Int32))]) [2, 3, 4, 1, 0] rfl ?_
  refine wlX7_tightest_5 C F a b FU _ _ _ hf
def rmX7_search (m : Nat) : Room := { frames := 2 + m, cells := 0, slots := 0, locals := 46 + 28 * m }
def fX7_search_85 (a : Int32) (b : Int32) (c : Int32) (r2 : Int32) (x5 : Int32) (x15 : Int32) (K : Sg → Option (Unit × Sg)) : Nat → Int32 → Sg → Option (Unit × Sg)
  | 0, _, _ => none
  | n + 1, x16, σ17 => if (σ17 1 0) ≤ x16 then (K σ17) else (gd (inb ((64 : Int32) + r2) 2764) (jp (fun (v20 : Int32) (σ21 : Sg) => gd (inb ((76 : Int32) + r2) 2764) (jp (fun (v23 : Int32) (σ24 : Sg) => lt' ((v20 ||| v23)) (fun (x25 : Int32) => gd (inb (a + (1 : Int32)) 13) (gd (inb a 13) (gd (inb x16 12) (gd (inb x16 12) (lt' (sup σ24 (10 + (a + (1 : Int32)).toNatClampNeg) x16.toNatClampNeg ((σ24 (10 + a.toNatClampNeg) x16.toNatClampNeg) &&& (x25 ^^^ (-1 : Int32)))) (fun (σ30 : Sg) => fX7_search_85 a b c r2 x5 x15 K n (x16 + (1 : Int32)) σ30))))))) (fun (J146 : Int32 → Sg → Option (Unit × Sg)) => if (pX7_has (σ21 1 (((76 : Int32) + r2).toNatClampNeg)) x16) = 0 then (J146 (0 : Int32) σ21) else (J146 x15 σ21)))) (fun (J122 : Int32 → Sg → Option (Unit × Sg)) => if (pX7_has (σ17 1 (((64 : Int32) + r2).toNatClampNeg)) x16) = 0 then (J122 (0 : Int32) σ17) else (J122 ((1 : Int32) <<< (x5 &&& 31)) σ17))))
def fX7_search_26 (a : Int32) (b : Int32) (c : Int32) (r2 : Int32) (self : Int32 → Int32 → Int32 → Sg → Option (Unit × Sg)) (K : Sg → Option (Unit × Sg)) : Nat → Int32 → Sg → Option (Unit × Sg)
  | 0, _, _ => none
  | n + 1, x5, σ6 => if (8 : Int32) ≤ x5 then (K σ6) else (if c ≤ (σ6 0 14) then (K σ6) else (gd (inb a 13) (gd (inb r2 12) (jp (fun (σ11 : Sg) => fX7_search_26 a b c r2 self K n (x5 + (1 : Int32)) σ11) (fun (J196 : Sg → Option (Unit × Sg)) => if (pX7_has (σ6 (10 + a.toNatClampNeg) r2.toNatClampNeg) x5) = 0 then (J196  σ6) else (jp (fun (v13 : Int32) (σ14 : Sg) => lt' ((v13 ||| ((1 : Int32) <<< ((x5 + (1 : Int32)) &&& 31)))) (fun (x15 : Int32) => fX7_search_85 a b c r2 x5 x15 (fun (σ33 : Sg) => bd (self (a + (1 : Int32)) (b &&& (((1 : Int32) <<< (r2 &&& 31)) ^^^ (-1 : Int32))) c σ33) (fun (_ : Unit) (σ34 : Sg) => J196  σ34)) FU (0 : Int32) σ14)) (fun (J73 : Int32 → Sg → Option (Unit × Sg)) => if x5 ≤ 0 then (J73 (0 : Int32) σ6) else (J73 ((1 : Int32) <<< ((x5 - (1 : Int32)) &&& 31)) σ6))))))))
def fX7_searchB (self : Int32 → Int32 → Int32 → Sg → Option (Unit × Sg)) (a : Int32) (b : Int32) (c : Int32) (σ : Sg) : Option (Unit × Sg) := if b = 0 then (lt' (sup σ 0 14 ((σ 0 14) + (1 : Int32))) (fun (σ38 : Sg) => some ((), σ38))) else (bd (fX7_tightest a b σ) (fun (r2 : Int32) (σ3 : Sg) => fX7_search_26 a b c r2 self (fun (σ37 : Sg) => some ((), σ37)) FU (0 : Int32) σ3))
def fX7_search : Nat → Int32 → Int32 → Int32 → Sg → Option (Unit × Sg)
  | 0, _, _, _, _ => none
  | m + 1, a, b, c, σ => fX7_searchB (fun a b c σ => fX7_search m a b c σ) a b c σ
set_option maxHeartbeats 4000000 in
theorem wlX7_search_85 {X : Cx} {m : Nat} {G : Gx} {ad : Nat → Nat} {Q : State → Prop} {σf : Sg} (C : OK wM X G ad RX7 cX7_search 9 (rmX7_search (m + 1))) (F : FinR wM X G ad Q 0 0 none none σf) (a : Int32) (b : Int32) (c : Int32) (r2 : Int32) (x5 : Int32) (x15 : Int32) (K : Sg → Option (Unit × Sg)) (hK : ∀ (σk : Sg), K σk = some ((), σf) → V wM X G ad 9 Q 0 0 σk 180 [(0, .ref (ad 0)), (1, .int a), (2, .int b), (3, .int c), (4, .int r2), (5, .int x5)] []) : ∀ (n : Nat) (x16 : Int32) (σ17 : Sg), fX7_search_85 a b c r2 x5 x15 K n x16 σ17 = some ((), σf) → V wM X G ad 9 Q 0 0 σ17 85 [(0, .ref (ad 0)), (1, .int a), (2, .int b), (3, .int c), (4, .int r2), (5, .int x5), (6, .int x15), (7, .int x16)] [] := by
  intro n
  induction n with
  | zero =>
    intro _ _ hf
    exact absurd hf (by simp [fX7_search_85])
  | succ n ih =>
    intro x16 σ17 hf
    rw [fX7_search_85] at hf
    refine V_iload (q := 87) C dX7_search_85 rfl 7 rfl ?_
    refine V_aload_n (q := 88) C dX7_search_87 rfl rfl 0 rfl ?_
    refine GM_0_1 (q := 91) C q_1183 dX7_search_88 rfl ?_
    refine V_iconst (v := 0) (q := 92) C dX7_search_91 rfl ic_0 ?_
    refine RM_1 (z := 0) (q := 93) C tn_0 (inb_in (by decide)) dX7_search_92 rfl ?_
    refine V_icmp_ge (t := 180) (q := 96) C dX7_search_93 (by decide) rfl (fun c18 => ?_) (fun c18 => ?_)
    · replace hf := (ite_s hf).1 c18
      refine V_sub (L' := [(0, .ref (ad 0)), (1, .int a), (2, .int b), (3, .int c), (4, .int r2), (5, .int x5)]) [0, 1, 2, 3, 4, 5] rfl ?_
      exact hK _ hf
    · replace hf := (ite_s hf).2 c18
      refine V_aload_n (q := 97) C dX7_search_96 rfl rfl 0 rfl ?_
      refine GM_0_1 (q := 100) C q_1183 dX7_search_97 rfl ?_
      refine V_bipush (v := 64) (q := 102) C dX7_search_100 rfl bc_64 ?_
      refine V_iload (q := 104) C dX7_search_102 rfl 4 rfl ?_
      refine V_iadd (q := 105) C dX7_search_104 rfl ?_
      obtain ⟨g19, hf⟩ := gd_s hf
      refine RM_1 (z := ((64 : Int32) + r2).toNatClampNeg) (q := 106) C rfl (inb_in g19) dX7_search_105 rfl ?_
      refine V_iload (q := 108) C dX7_search_106 rfl 7 rfl ?_
      refine V_callS (av := [.int (σ17 1 (((64 : Int32) + r2).toNatClampNeg)), .int x16]) (st := []) (st1 := [.int (pX7_has (σ17 1 (((64 : Int32) + r2).toNatClampNeg)) x16)]) (q := 111) C (conX7_has _ _ _ _ _ _ _ rfl) q_1314 q_114 q_1312 q_1313 nmX7_has (rmk (by simp only [rmX7_search, rmX7_has]; try omega) (by simp only [rmX7_search, rmX7_has]; try omega) (by simp only [rmX7_search, rmX7_has]; try omega) (by simp only [rmX7_search, rmX7_has]; try omega) (by simp only [rmX7_search, rmX7_has]; try omega) (by simp only [rmX7_search, rmX7_has]; try omega)) rfl rfl (Nat.le_of_ble_eq_true rfl) dX7_search_108 rfl rfl ?_
      obtain ⟨J122, eJ122, hf⟩ := jp_s hf
      have hJ122 : ∀ (v20 : Int32) (σ21 : Sg), J122 v20 σ21 = some ((), σf) → V wM X G ad 9 Q 0 0 σ21 122 [(0, .ref (ad 0)), (1, .int a), (2, .int b), (3, .int c), (4, .int r2), (5, .int x5), (6, .int x15), (7, .int x16)] [.int v20] := by
        intro v20 σ21 hf
        subst eJ122
        refine V_aload_n (q := 123) C dX7_search_122 rfl rfl 0 rfl ?_
        refine GM_0_1 (q := 126) C q_1183 dX7_search_123 rfl ?_
        refine V_bipush (v := 76) (q := 128) C dX7_search_126 rfl bc_76 ?_
        refine V_iload (q := 130) C dX7_search_128 rfl 4 rfl ?_
        refine V_iadd (q := 131) C dX7_search_130 rfl ?_
        obtain ⟨g22, hf⟩ := gd_s hf
        refine RM_1 (z := ((76 : Int32) + r2).toNatClampNeg) (q := 132) C rfl (inb_in g22) dX7_search_131 rfl ?_
        refine V_iload (q := 134) C dX7_search_132 rfl 7 rfl ?_
        refine V_callS (av := [.int (σ21 1 (((76 : Int32) + r2).toNatClampNeg)), .int x16]) (st := [.int v20]) (st1 := [.int (pX7_has (σ21 1 (((76 : Int32) + r2).toNatClampNeg)) x16), .int v20]) (q := 137) C (conX7_has _ _ _ _ _ _ _ rfl) q_1314 q_114 q_1312 q_1313 nmX7_has (rmk (by simp only [rmX7_search, rmX7_has]; try omega) (by simp only [rmX7_search, rmX7_has]; try omega) (by simp only [rmX7_search, rmX7_has]; try omega) (by simp only [rmX7_search, rmX7_has]; try omega) (by simp only [rmX7_search, rmX7_has]; try omega) (by simp only [rmX7_search, rmX7_has]; try omega)) rfl rfl (Nat.le_of_ble_eq_true rfl) dX7_search_134 rfl rfl ?_
        obtain ⟨J146, eJ146, hf⟩ := jp_s hf
        have hJ146 : ∀ (v23 : Int32) (σ24 : Sg), J146 v23 σ24 = some ((), σf) → V wM X G ad 9 Q 0 0 σ24 146 [(0, .ref (ad 0)), (1, .int a), (2, .int b), (3, .int c), (4, .int r2), (5, .int x5), (6, .int x15), (7, .int x16)] [.int v23, .int v20] := by
          intro v23 σ24 hf
          subst eJ146
          refine V_ior (q := 147) C dX7_search_146 rfl ?_
          refine V_let (cv := Value.int) hf (fun x25 hf => ?_)
          refine V_istore (L' := [(8, .int x25), (0, .ref (ad 0)), (1, .int a), (2, .int b), (3, .int c), (4, .int r2), (5, .int x5), (6, .int x15), (7, .int x16)]) (q := 149) C dX7_search_147 rfl (by decide) rfl ?_
          refine V_aload_n (q := 150) C dX7_search_149 rfl rfl 1 rfl ?_
          refine GM_0_13 (q := 153) C q_1195 dX7_search_150 rfl ?_
          refine V_iload_n (q := 154) C dX7_search_153 rfl rfl 2 rfl ?_
          refine V_iconst (v := 1) (q := 155) C dX7_search_154 rfl ic_1 ?_
          refine V_iadd (q := 156) C dX7_search_155 rfl ?_
          obtain ⟨g26, hf⟩ := gd_s hf
          refine AM_7 (z := 10 + (a + (1 : Int32)).toNatClampNeg) (q := 157) C rfl (inb_in g26) dX7_search_156 rfl ?_
          refine V_iload (q := 159) C dX7_search_157 rfl 8 rfl ?_
          refine V_aload_n (q := 160) C dX7_search_159 rfl rfl 1 rfl ?_
          refine GM_0_13 (q := 163) C q_1195 dX7_search_160 rfl ?_
          refine V_iload_n (q := 164) C dX7_search_163 rfl rfl 2 rfl ?_
          obtain ⟨g27, hf⟩ := gd_s hf
          refine AM_7 (z := 10 + a.toNatClampNeg) (q := 165) C rfl (inb_in g27) dX7_search_164 rfl ?_
          refine V_iload (q := 167) C dX7_search_165 rfl 8 rfl ?_
          obtain ⟨g28, hf⟩ := gd_s hf
          refine RMr0 (z := x16.toNatClampNeg) (q := 168) C (hMr0 (inb_in g27)).1 (hMr0 (inb_in g27)).2 rfl (inb_in g28) dX7_search_167 rfl ?_
          refine V_iload (q := 170) C dX7_search_168 rfl 0 rfl ?_
          refine V_iconst (v := (-1)) (q := 171) C dX7_search_170 rfl ic_m1 ?_
          refine V_ixor (q := 172) C dX7_search_171 rfl ?_
          refine V_iand (q := 173) C dX7_search_172 rfl ?_
          obtain ⟨g29, hf⟩ := gd_s hf
          refine SMr0 (z := x16.toNatClampNeg) (q := 174) C (hMr0 (inb_in g26)).1 (hMr0 (inb_in g26)).2 rfl (inb_in g29) dX7_search_173 rfl ?_
          refine V_lets hf (fun σ30 hf => ?_)
          refine V_iinc (L' := [(7, .int (x16 + (1 : Int32))), (8, .int x25), (0, .ref (ad 0)), (1, .int a), (2, .int b), (3, .int c), (4, .int r2), (5, .int x5), (6, .int x15)]) (q := 177) C dX7_search_174 rfl 8 rfl (congrArg (fun y => x16 + y) ic_1) (by decide) rfl ?_
          refine V_goto (t := 85) C dX7_search_177 (by decide) ?_
          refine V_sub (L' := [(0, .ref (ad 0)), (1, .int a), (2, .int b), (3, .int c), (4, .int r2), (5, .int x5), (6, .int x15), (7, .int (x16 + (1 : Int32)))]) [2, 3, 4, 5, 6, 7, 8, 0] rfl ?_
          exact ih _ _ hf
        refine V_if_eq (t := 145) (q := 140) C dX7_search_137 (by decide) rfl (fun c31 => ?_) (fun c31 => ?_)
        · replace hf := (ite_s hf).1 c31
          refine V_iconst (v := 0) (q := 146) C dX7_search_145 rfl ic_0 ?_
          exact hJ146 _ _ hf
        · replace hf := (ite_s hf).2 c31
          refine V_iload (q := 142) C dX7_search_140 rfl 6 rfl ?_
          refine V_goto (t := 146) C dX7_search_142 (by decide) ?_
          exact hJ146 _ _ hf
      refine V_if_eq (t := 121) (q := 114) C dX7_search_111 (by decide) rfl (fun c32 => ?_) (fun c32 => ?_)
      · replace hf := (ite_s hf).1 c32
        refine V_iconst (v := 0) (q := 122) C dX7_search_121 rfl ic_0 ?_
        exact hJ122 _ _ hf
      · replace hf := (ite_s hf).2 c32
        refine V_iconst (v := 1) (q := 115) C dX7_search_114 rfl ic_1 ?_
        refine V_iload (q := 117) C dX7_search_115 rfl 5 rfl ?_
        refine V_ishl (q := 118) C dX7_search_117 rfl ?_
        refine V_goto (t := 122) C dX7_search_118 (by decide) ?_
        exact hJ122 _ _ hf
set_option maxHeartbeats 4000000 in
theorem wlX7_search_26 {X : Cx} {m : Nat} {G : Gx} {ad : Nat → Nat} {Q : State → Prop} {σf : Sg} (C : OK wM X G ad RX7 cX7_search 9 (rmX7_search (m + 1))) (F : FinR wM X G ad Q 0 0 none none σf) (a : Int32) (b : Int32) (c : Int32) (r2 : Int32) (self : Int32 → Int32 → Int32 → Sg → Option (Unit × Sg)) (hself : ∀ (a : Int32) (b : Int32) (c : Int32) (σ : Sg) (σf : Sg), self a b c σ = some ((), σf) → Con wM (x_l X) G ad yX7_search (Cond.code yX7_search cX7_search 9 none) (rmX7_search m) 0 0 [.ref (ad 0), .int a, .int b, .int c] σ none σf) (K : Sg → Option (Unit × Sg)) (hK : ∀ (σk : Sg), K σk = some ((), σf) → V wM X G ad 9 Q 0 0 σk 202 [] []) : ∀ (n : Nat) (x5 : Int32) (σ6 : Sg), fX7_search_26 a b c r2 self K n x5 σ6 = some ((), σf) → V wM X G ad 9 Q 0 0 σ6 26 [(0, .ref (ad 0)), (1, .int a), (2, .int b), (3, .int c), (4, .int r2), (5, .int x5)] [] := by
  intro n
  induction n with
  | zero =>
    intro _ _ hf
    exact absurd hf (by simp [fX7_search_26])
  | succ n ih =>
    intro x5 σ6 hf
    rw [fX7_search_26] at hf
    refine V_iload (q := 28) C dX7_search_26 rfl 5 rfl ?_
    refine V_bipush (v := 8) (q := 30) C dX7_search_28 rfl bc_8 ?_
    refine V_icmp_ge (t := 202) (q := 33) C dX7_search_30 (by decide) rfl (fun c7 => ?_) (fun c7 => ?_)
    · replace hf := (ite_s hf).1 c7
      refine V_sub (L' := []) [] rfl ?_
      exact hK _ hf
    · replace hf := (ite_s hf).2 c7
      refine V_aload_n (q := 34) C dX7_search_33 rfl rfl 0 rfl ?_
      refine GM_0_14 (q := 37) C q_1196 dX7_search_34 rfl ?_
      refine V_iload_n (q := 38) C dX7_search_37 rfl rfl 3 rfl ?_
      refine V_icmp_ge (t := 202) (q := 41) C dX7_search_38 (by decide) rfl (fun c8 => ?_) (fun c8 => ?_)
      · replace hf := (ite_s hf).1 c8
        refine V_sub (L' := []) [] rfl ?_
        exact hK _ hf
      · replace hf := (ite_s hf).2 c8
        refine V_aload_n (q := 42) C dX7_search_41 rfl rfl 0 rfl ?_
        refine GM_0_13 (q := 45) C q_1195 dX7_search_42 rfl ?_
        refine V_iload_n (q := 46) C dX7_search_45 rfl rfl 1 rfl ?_
        obtain ⟨g9, hf⟩ := gd_s hf
        refine AM_7 (z := 10 + a.toNatClampNeg) (q := 47) C rfl (inb_in g9) dX7_search_46 rfl ?_
        refine V_iload (q := 49) C dX7_search_47 rfl 4 rfl ?_
        obtain ⟨g10, hf⟩ := gd_s hf
        refine RMr0 (z := r2.toNatClampNeg) (q := 50) C (hMr0 (inb_in g9)).1 (hMr0 (inb_in g9)).2 rfl (inb_in g10) dX7_search_49 rfl ?_
        refine V_iload (q := 52) C dX7_search_50 rfl 5 rfl ?_
        refine V_callS (av := [.int (σ6 (10 + a.toNatClampNeg) r2.toNatClampNeg), .int x5]) (st := []) (st1 := [.int (pX7_has (σ6 (10 + a.toNatClampNeg) r2.toNatClampNeg) x5)]) (q := 55) C (conX7_has _ _ _ _ _ _ _ rfl) q_1314 q_114 q_1312 q_1313 nmX7_has (rmk (by simp only [rmX7_search, rmX7_has]; try omega) (by simp only [rmX7_search, rmX7_has]; try omega) (by simp only [rmX7_search, rmX7_has]; try omega) (by simp only [rmX7_search, rmX7_has]; try omega) (by simp only [rmX7_search, rmX7_has]; try omega) (by simp only [rmX7_search, rmX7_has]; try omega)) rfl rfl (Nat.le_of_ble_eq_true rfl) dX7_search_52 rfl rfl ?_
        obtain ⟨J196, eJ196, hf⟩ := jp_s hf
        have hJ196 : ∀ (σ11 : Sg), J196 σ11 = some ((), σf) → V wM X G ad 9 Q 0 0 σ11 196 [(0, .ref (ad 0)), (1, .int a), (2, .int b), (3, .int c), (4, .int r2), (5, .int x5)] [] := by
          intro σ11 hf
          subst eJ196
          refine V_iinc (L' := [(5, .int (x5 + (1 : Int32))), (0, .ref (ad 0)), (1, .int a), (2, .int b), (3, .int c), (4, .int r2)]) (q := 199) C dX7_search_196 rfl 5 rfl (congrArg (fun y => x5 + y) ic_1) (by decide) rfl ?_
          refine V_goto (t := 26) C dX7_search_199 (by decide) ?_
          refine V_sub (L' := [(0, .ref (ad 0)), (1, .int a), (2, .int b), (3, .int c), (4, .int r2), (5, .int (x5 + (1 : Int32)))]) [1, 2, 3, 4, 5, 0] rfl ?_
          exact ih _ _ hf
        refine V_if_eq (t := 196) (q := 58) C dX7_search_55 (by decide) rfl (fun c12 => ?_) (fun c12 => ?_)
        · replace hf := (ite_s hf).1 c12
          exact hJ196 _ hf
        · replace hf := (ite_s hf).2 c12
          refine V_iload (q := 60) C dX7_search_58 rfl 5 rfl ?_
          obtain ⟨J73, eJ73, hf⟩ := jp_s hf
          have hJ73 : ∀ (v13 : Int32) (σ14 : Sg), J73 v13 σ14 = some ((), σf) → V wM X G ad 9 Q 0 0 σ14 73 [(0, .ref (ad 0)), (1, .int a), (2, .int b), (3, .int c), (4, .int r2), (5, .int x5)] [.int v13] := by
            intro v13 σ14 hf
            subst eJ73
            refine V_iconst (v := 1) (q := 74) C dX7_search_73 rfl ic_1 ?_
            refine V_iload (q := 76) C dX7_search_74 rfl 5 rfl ?_
            refine V_iconst (v := 1) (q := 77) C dX7_search_76 rfl ic_1 ?_
            refine V_iadd (q := 78) C dX7_search_77 rfl ?_
            refine V_ishl (q := 79) C dX7_search_78 rfl ?_
            refine V_ior (q := 80) C dX7_search_79 rfl ?_
            refine V_let (cv := Value.int) hf (fun x15 hf => ?_)
            refine V_istore (L' := [(6, .int x15), (0, .ref (ad 0)), (1, .int a), (2, .int b), (3, .int c), (4, .int r2), (5, .int x5)]) (q := 82) C dX7_search_80 rfl (by decide) rfl ?_
            refine V_iconst (v := 0) (q := 83) C dX7_search_82 rfl ic_0 ?_
            refine V_istore (L' := [(7, .int (0 : Int32)), (6, .int x15), (0, .ref (ad 0)), (1, .int a), (2, .int b), (3, .int c), (4, .int r2), (5, .int x5)]) (q := 85) C dX7_search_83 rfl (by decide) rfl ?_
            refine V_sub (L' := [(0, .ref (ad 0)), (1, .int a), (2, .int b), (3, .int c), (4, .int r2), (5, .int x5), (6, .int x15), (7, .int (0 : Int32))]) [2, 3, 4, 5, 6, 7, 1, 0] rfl ?_
            refine wlX7_search_85 C F a b c r2 x5 x15 _ (fun σ33 hf => ?_) FU _ _ hf
            refine V_aload_n (q := 181) C dX7_search_180 rfl rfl 0 rfl ?_
            refine V_iload_n (q := 182) C dX7_search_181 rfl rfl 1 rfl ?_
            refine V_iconst (v := 1) (q := 183) C dX7_search_182 rfl ic_1 ?_
            refine V_iadd (q := 184) C dX7_search_183 rfl ?_
            refine V_iload_n (q := 185) C dX7_search_184 rfl rfl 2 rfl ?_
            refine V_iconst (v := 1) (q := 186) C dX7_search_185 rfl ic_1 ?_
            refine V_iload (q := 188) C dX7_search_186 rfl 4 rfl ?_
            refine V_ishl (q := 189) C dX7_search_188 rfl ?_
            refine V_iconst (v := (-1)) (q := 190) C dX7_search_189 rfl ic_m1 ?_
            refine V_ixor (q := 191) C dX7_search_190 rfl ?_
            refine V_iand (q := 192) C dX7_search_191 rfl ?_
            refine V_iload_n (q := 193) C dX7_search_192 rfl rfl 3 rfl ?_
            obtain ⟨_u, σ34, h35, hf⟩ := bd_s hf
            refine V_callV (av := [.int (a + (1 : Int32)), .int (b &&& (((1 : Int32) <<< (r2 &&& 31)) ^^^ (-1 : Int32))), .int c]) (st := []) (st1 := []) (q := 196) C 0 (by decide) (eM_0 G ad _) rfl rfl (hself _ _ _ _ _ h35) q_1396 q_114 q_1393 q_1395 q_83 nmX7_search (rmk (by simp only [rmX7_search]; try omega) (by simp only [rmX7_search]; try omega) (by simp only [rmX7_search]; try omega) (by simp only [rmX7_search]; try omega) (by simp only [rmX7_search]; try omega) (by simp only [rmX7_search]; try omega)) rfl rfl (Nat.le_of_ble_eq_true rfl) dX7_search_193 rfl rfl ?_
            exact hJ196 _ hf
          refine V_if_le (t := 72) (q := 63) C dX7_search_60 (by decide) rfl (fun c36 => ?_) (fun c36 => ?_)
          · replace hf := (ite_s hf).1 c36
            refine V_iconst (v := 0) (q := 73) C dX7_search_72 rfl ic_0 ?_
            exact hJ73 _ _ hf
          · replace hf := (ite_s hf).2 c36
            refine V_iconst (v := 1) (q := 64) C dX7_search_63 rfl ic_1 ?_
            refine V_iload (q := 66) C dX7_search_64 rfl 5 rfl ?_
            refine V_iconst (v := 1) (q := 67) C dX7_search_66 rfl ic_1 ?_
            refine V_isub (q := 68) C dX7_search_67 rfl ?_
            refine V_ishl (q := 69) C dX7_search_68 rfl ?_
            refine V_goto (t := 73) C dX7_search_69 (by decide) ?_
            exact hJ73 _ _ hf
set_option maxHeartbeats 4000000 in
theorem conX7_search (l : Launch) (G : Gx) (ad : Nat → Nat) : ∀ (m : Nat) (a : Int32) (b : Int32) (c : Int32) (σ : Sg) (σf : Sg), fX7_search m a b c σ = some ((), σf) → Con wM l G ad yX7_search (Cond.code yX7_search cX7_search 9 none) (rmX7_search m) 0 0 [.ref (ad 0), .int a, .int b, .int c] σ none σf := by
  intro m
  induction m with
  | zero =>
    intro a b c σ σf hf
    exact absurd hf (by simp [fX7_search])
  | succ m ihm =>
    intro a b c σ σf hf
    rw [fX7_search] at hf
    refine Con.start (by decide) (Nat.le_of_ble_eq_true rfl) (fun X Q hX C F => ?_)
    refine V_eq (L' := [(0, .ref (ad 0)), (1, .int a), (2, .int b), (3, .int c)]) (st' := []) rfl rfl rfl ?_
    have hself : ∀ (a : Int32) (b : Int32) (c : Int32) (σ : Sg) (σf : Sg), fX7_search m a b c σ = some ((), σf) → Con wM (x_l X) G ad yX7_search (Cond.code yX7_search cX7_search 9 none) (rmX7_search m) 0 0 [.ref (ad 0), .int a, .int b, .int c] σ none σf := by
      rw [hX]
      exact ihm
    unfold fX7_searchB at hf
    refine V_iload_n (q := 1) C dX7_search_0 rfl rfl 2 rfl ?_
    refine V_if_ne (t := 15) (q := 4) C dX7_search_1 (by decide) rfl (fun c1 => ?_) (fun c1 => ?_)
    · replace hf := (ite_s hf).2 c1
      refine V_aload_n (q := 16) C dX7_search_15 rfl rfl 0 rfl ?_
      refine V_iload_n (q := 17) C dX7_search_16 rfl rfl 1 rfl ?_
      refine V_iload_n (q := 18) C dX7_search_17 rfl rfl 2 rfl ?_
      obtain ⟨r2, σ3, h4, hf⟩ := bd_s hf
      refine V_callV (av := [.int a, .int b]) (st := []) (st1 := [.int r2]) (q := 21) C 0 (by decide) (eM_0 G ad _) rfl rfl (conX7_tightest _ _ _ _ _ _ _ _ h4) q_1400 q_114 q_1397 q_1399 q_84 nmX7_tightest (rmk (by simp only [rmX7_search, rmX7_tightest]; try omega) (by simp only [rmX7_search, rmX7_tightest]; try omega) (by simp only [rmX7_search, rmX7_tightest]; try omega) (by simp only [rmX7_search, rmX7_tightest]; try omega) (by simp only [rmX7_search, rmX7_tightest]; try omega) (by simp only [rmX7_search, rmX7_tightest]; try omega)) rfl rfl (Nat.le_of_ble_eq_true rfl) dX7_search_18 rfl rfl ?_
      refine V_istore (L' := [(4, .int r2), (0, .ref (ad 0)), (1, .int a), (2, .int b), (3, .int c)]) (q := 23) C dX7_search_21 rfl (by decide) rfl ?_
      refine V_iconst (v := 0) (q := 24) C dX7_search_23 rfl ic_0 ?_
      refine V_istore (L' := [(5, .int (0 : Int32)), (4, .int r2), (0, .ref (ad 0)), (1, .int a), (2, .int b), (3, .int c)]) (q := 26) C dX7_search_24 rfl (by decide) rfl ?_
      refine V_sub (L' := [(0, .ref (ad 0)), (1, .int a), (2, .int b), (3, .int c), (4, .int r2), (5, .int (0 : Int32))]) [2, 3, 4, 5, 1, 0] rfl ?_
      refine wlX7_search_26 C F a b c r2 _ hself _ (fun σ37 hf => ?_) FU _ _ hf
      obtain ⟨-, e2⟩ := pr_s hf
      subst e2
      exact V_vret C F (by decide) (by decide) dX7_search_202
    · replace hf := (ite_s hf).1 c1
      refine V_aload_n (q := 5) C dX7_search_4 rfl rfl 0 rfl ?_
      refine V_dup (q := 6) C dX7_search_5 rfl rfl ?_
      refine GM_0_14 (q := 9) C q_1196 dX7_search_6 rfl ?_
      refine V_iconst (v := 1) (q := 10) C dX7_search_9 rfl ic_1 ?_
      refine V_iadd (q := 11) C dX7_search_10 rfl ?_
      refine PM_0_14 (q := 14) C q_1196 dX7_search_11 rfl ?_
      refine V_lets hf (fun σ38 hf => ?_)
      obtain ⟨-, e2⟩ := pr_s hf
      subst e2
      exact V_vret C F (by decide) (by decide) dX7_search_14
def rmX7_countUpTo : Room := { frames := 17, cells := 0, slots := 0, locals := 466 }
def fX7_countUpTo (a : Int32) (b : Int32) (σ : Sg) : Option (Int32 × Sg) := lt' (sup σ 0 14 (0 : Int32)) (fun (σ1 : Sg) => bd (fX7_search 14 (0 : Int32) a b σ1) (fun (_ : Unit) (σ2 : Sg) => some ((σ2 0 14), σ2)))
set_option maxHeartbeats 4000000 in
theorem conX7_countUpTo (l : Launch) (G : Gx) (ad : Nat → Nat) (a : Int32) (b : Int32) (σ : Sg) (r : Int32) (σf : Sg)  (hf : fX7_countUpTo a b σ = some (r, σf)) : Con wM l G ad yX7_countUpTo (Cond.code yX7_countUpTo cX7_countUpTo 3 (some .int)) rmX7_countUpTo 0 0 [.ref (ad 0), .int a, .int b] σ (some (.int r)) σf := by
  refine Con.start (by decide) (Nat.le_of_ble_eq_true rfl) (fun X Q _ C F => ?_)
  refine V_eq (L' := [(0, .ref (ad 0)), (1, .int a), (2, .int b)]) (st' := []) rfl rfl rfl ?_
  unfold fX7_countUpTo at hf
  refine V_aload_n (q := 1) C dX7_countUpTo_0 rfl rfl 0 rfl ?_
  refine V_iconst (v := 0) (q := 2) C dX7_countUpTo_1 rfl ic_0 ?_
  refine PM_0_14 (q := 5) C q_1196 dX7_countUpTo_2 rfl ?_
  refine V_lets hf (fun σ1 hf => ?_)
  refine V_aload_n (q := 6) C dX7_countUpTo_5 rfl rfl 0 rfl ?_
  refine V_iconst (v := 0) (q := 7) C dX7_countUpTo_6 rfl ic_0 ?_
  refine V_iload_n (q := 8) C dX7_countUpTo_7 rfl rfl 1 rfl ?_
  refine V_iload_n (q := 9) C dX7_countUpTo_8 rfl rfl 2 rfl ?_
  obtain ⟨_u, σ2, h3, hf⟩ := bd_s hf
  refine V_callV (av := [.int (0 : Int32), .int a, .int b]) (st := []) (st1 := []) (q := 12) C 0 (by decide) (eM_0 G ad _) rfl rfl (conX7_search _ _ _ 14 _ _ _ _ _ h3) q_1396 q_114 q_1393 q_1395 q_83 nmX7_search (by decide) rfl rfl (Nat.le_of_ble_eq_true rfl) dX7_countUpTo_9 rfl rfl ?_
  refine V_aload_n (q := 13) C dX7_countUpTo_12 rfl rfl 0 rfl ?_
  refine GM_0_14 (q := 16) C q_1196 dX7_countUpTo_13 rfl ?_
  obtain ⟨e1, e2⟩ := pr_s hf
  subst e1; subst e2
  exact V_iret C F (by decide) (by decide) dX7_countUpTo_16
def rmX7_isPossibleWith : Room := { frames := 18, cells := 0, slots := 0, locals := 488 }
def fX7_isPossibleWith (a : Int32) (b : Int32) (σ : Sg) : Option (Int32 × Sg) := bd (fX7_startSearch a b σ) (fun (_ : Unit) (σ1 : Sg) => bd (fX7_countUpTo a (1 : Int32) σ1) (fun (r3 : Int32) (σ4 : Sg) => if r3 ≤ 0 then (some ((0 : Int32), σ4)) else (some ((1 : Int32), σ4))))
set_option maxHeartbeats 4000000 in
theorem conX7_isPossibleWith (l : Launch) (G : Gx) (ad : Nat → Nat) (a : Int32) (b : Int32) (σ : Sg) (r : Int32) (σf : Sg)  (hf : fX7_isPossibleWith a b σ = some (r, σf)) : Con wM l G ad yX7_isPossibleWith (Cond.code yX7_isPossibleWith cX7_isPossibleWith 3 (some .boolean)) rmX7_isPossibleWith 0 0 [.ref (ad 0), .int a, .int b] σ (some (.int r)) σf := by
  refine Con.start (by decide) (Nat.le_of_ble_eq_true rfl) (fun X Q _ C F => ?_)
  refine V_eq (L' := [(0, .ref (ad 0)), (1, .int a), (2, .int b)]) (st' := []) rfl rfl rfl ?_
  unfold fX7_isPossibleWith at hf
  refine V_aload_n (q := 1) C dX7_isPossibleWith_0 rfl rfl 0 rfl ?_
  refine V_iload_n (q := 2) C dX7_isPossibleWith_1 rfl rfl 1 rfl ?_
  refine V_iload_n (q := 3) C dX7_isPossibleWith_2 rfl rfl 2 rfl ?_
  obtain ⟨_u, σ1, h2, hf⟩ := bd_s hf
  refine V_callV (av := [.int a, .int b]) (st := []) (st1 := []) (q := 6) C 0 (by decide) (eM_0 G ad _) rfl rfl (conX7_startSearch _ _ _ _ _ _ _ h2) q_1388 q_114 q_1385 q_1387 q_81 nmX7_startSearch (by decide) rfl rfl (Nat.le_of_ble_eq_true rfl) dX7_isPossibleWith_3 rfl rfl ?_
  refine V_aload_n (q := 7) C dX7_isPossibleWith_6 rfl rfl 0 rfl ?_
  refine V_iload_n (q := 8) C dX7_isPossibleWith_7 rfl rfl 1 rfl ?_
  refine V_iconst (v := 1) (q := 9) C dX7_isPossibleWith_8 rfl ic_1 ?_
  obtain ⟨r3, σ4, h5, hf⟩ := bd_s hf
  refine V_callV (av := [.int a, .int (1 : Int32)]) (st := []) (st1 := [.int r3]) (q := 12) C 0 (by decide) (eM_0 G ad _) rfl rfl (conX7_countUpTo _ _ _ _ _ _ _ _ h5) q_1392 q_114 q_1389 q_1391 q_82 nmX7_countUpTo (by decide) rfl rfl (Nat.le_of_ble_eq_true rfl) dX7_isPossibleWith_9 rfl rfl ?_
  refine V_if_le (t := 19) (q := 15) C dX7_isPossibleWith_12 (by decide) rfl (fun c6 => ?_) (fun c6 => ?_)
  · replace hf := (ite_s hf).1 c6
    refine V_iconst (v := 0) (q := 20) C dX7_isPossibleWith_19 rfl ic_0 ?_
    obtain ⟨e1, e2⟩ := pr_s hf
    subst e1; subst e2
    exact V_zret C F (by decide) (by decide) (by decide) dX7_isPossibleWith_20
  · replace hf := (ite_s hf).2 c6
    refine V_iconst (v := 1) (q := 16) C dX7_isPossibleWith_15 rfl ic_1 ?_
    refine V_goto (t := 20) C dX7_isPossibleWith_16 (by decide) ?_
    obtain ⟨e1, e2⟩ := pr_s hf
    subst e1; subst e2
    exact V_zret C F (by decide) (by decide) (by decide) dX7_isPossibleWith_20
def rmX7_isPossible : Room := { frames := 19, cells := 0, slots := 0, locals := 510 }
def fX7_isPossible (a : Int32) (σ : Sg) : Option (Int32 × Sg) := bd (fX7_isPossibleWith a (σ 1 1) σ) (fun (r1 : Int32) (σ2 : Sg) => gd (b01 r1) (some (r1, σ2)))
set_option maxHeartbeats 4000000 in
theorem conX7_isPossible (l : Launch) (G : Gx) (ad : Nat → Nat) (a : Int32) (σ : Sg) (r : Int32) (σf : Sg)  (hf : fX7_isPossible a σ = some (r, σf)) : Con wM l G ad yX7_isPossible (Cond.code yX7_isPossible cX7_isPossible 2 (some .boolean)) rmX7_isPossible 0 0 [.ref (ad 0), .int a] σ (some (.int r)) σf := by
  refine Con.start (by decide) (Nat.le_of_ble_eq_true rfl) (fun X Q _ C F => ?_)
  refine V_eq (L' := [(0, .ref (ad 0)), (1, .int a)]) (st' := []) rfl rfl rfl ?_
  unfold fX7_isPossible at hf
  refine V_aload_n (q := 1) C dX7_isPossible_0 rfl rfl 0 rfl ?_
  refine V_iload_n (q := 2) C dX7_isPossible_1 rfl rfl 1 rfl ?_
  refine V_aload_n (q := 3) C dX7_isPossible_2 rfl rfl 0 rfl ?_
  refine GM_0_1 (q := 6) C q_1183 dX7_isPossible_3 rfl ?_
  refine V_iconst (v := 1) (q := 7) C dX7_isPossible_6 rfl ic_1 ?_
  refine RM_1 (z := 1) (q := 8) C tn_1 (inb_in (by decide)) dX7_isPossible_7 rfl ?_
  obtain ⟨r1, σ2, h3, hf⟩ := bd_s hf
  refine V_callV (av := [.int a, .int (σ 1 1)]) (st := []) (st1 := [.int r1]) (q := 11) C 0 (by decide) (eM_0 G ad _) rfl rfl (conX7_isPossibleWith _ _ _ _ _ _ _ _ h3) q_1384 q_114 q_1381 q_1383 q_80 nmX7_isPossibleWith (by decide) rfl rfl (Nat.le_of_ble_eq_true rfl) dX7_isPossible_8 rfl rfl ?_
  obtain ⟨g4, hf⟩ := gd_s hf
  obtain ⟨e1, e2⟩ := pr_s hf
  subst e1; subst e2
  exact V_zret C F (b01_s g4) (by decide) (by decide) dX7_isPossible_11
def rmX7_fixNone : Room := { frames := 0, cells := 0, slots := 0, locals := 0 }
def fX7_fixNone_2 : Nat → Int32 → Sg → Option (Unit × Sg)
  | 0, _, _ => none
  | n + 1, x1, σ2 => if (12 : Int32) ≤ x1 then (some ((), σ2)) else (gd (inb x1 12) (lt' (sup σ2 8 x1.toNatClampNeg (-1 : Int32)) (fun (σ5 : Sg) => fX7_fixNone_2 n (x1 + (1 : Int32)) σ5)))
def fX7_fixNone  (σ : Sg) : Option (Unit × Sg) := fX7_fixNone_2 FU (0 : Int32) σ
set_option maxHeartbeats 4000000 in
theorem wlX7_fixNone_2 {X : Cx} {G : Gx} {ad : Nat → Nat} {Q : State → Prop} {σf : Sg} (C : OK wM X G ad RX7 cX7_fixNone 2 rmX7_fixNone) (F : FinR wM X G ad Q 0 0 none none σf) : ∀ (n : Nat) (x1 : Int32) (σ2 : Sg), fX7_fixNone_2 n x1 σ2 = some ((), σf) → V wM X G ad 2 Q 0 0 σ2 2 [(0, .ref (ad 0)), (1, .int x1)] [] := by
  intro n
  induction n with
  | zero =>
    intro _ _ hf
    exact absurd hf (by simp [fX7_fixNone_2])
  | succ n ih =>
    intro x1 σ2 hf
    rw [fX7_fixNone_2] at hf
    refine V_iload_n (q := 3) C dX7_fixNone_2 rfl rfl 1 rfl ?_
    refine V_bipush (v := 12) (q := 5) C dX7_fixNone_3 rfl bc_12 ?_
    refine V_icmp_ge (t := 21) (q := 8) C dX7_fixNone_5 (by decide) rfl (fun c3 => ?_) (fun c3 => ?_)
    · replace hf := (ite_s hf).1 c3
      obtain ⟨-, e2⟩ := pr_s hf
      subst e2
      exact V_vret C F (by decide) (by decide) dX7_fixNone_21
    · replace hf := (ite_s hf).2 c3
      refine V_aload_n (q := 9) C dX7_fixNone_8 rfl rfl 0 rfl ?_
      refine GM_0_15 (q := 12) C q_1197 dX7_fixNone_9 rfl ?_
      refine V_iload_n (q := 13) C dX7_fixNone_12 rfl rfl 1 rfl ?_
      refine V_iconst (v := (-1)) (q := 14) C dX7_fixNone_13 rfl ic_m1 ?_
      obtain ⟨g4, hf⟩ := gd_s hf
      refine SM_8 (z := x1.toNatClampNeg) (q := 15) C rfl (inb_in g4) dX7_fixNone_14 rfl ?_
      refine V_lets hf (fun σ5 hf => ?_)
      refine V_iinc (L' := [(1, .int (x1 + (1 : Int32))), (0, .ref (ad 0))]) (q := 18) C dX7_fixNone_15 rfl 1 rfl (congrArg (fun y => x1 + y) ic_1) (by decide) rfl ?_
      refine V_goto (t := 2) C dX7_fixNone_18 (by decide) ?_
      refine V_sub (L' := [(0, .ref (ad 0)), (1, .int (x1 + (1 : Int32)))]) [1, 0] rfl ?_
      exact ih _ _ hf
set_option maxHeartbeats 4000000 in
theorem conX7_fixNone (l : Launch) (G : Gx) (ad : Nat → Nat)  (σ : Sg) (σf : Sg)  (hf : fX7_fixNone  σ = some ((), σf)) : Con wM l G ad yX7_fixNone (Cond.code yX7_fixNone cX7_fixNone 2 none) rmX7_fixNone 0 0 [.ref (ad 0)] σ none σf := by
  refine Con.start (by decide) (Nat.le_of_ble_eq_true rfl) (fun X Q _ C F => ?_)
  refine V_eq (L' := [(0, .ref (ad 0))]) (st' := []) rfl rfl rfl ?_
  unfold fX7_fixNone at hf
  refine V_iconst (v := 0) (q := 1) C dX7_fixNone_0 rfl ic_0 ?_
  refine V_istore_n (L' := [(1, .int (0 : Int32)), (0, .ref (ad 0))]) (q := 2) C dX7_fixNone_1 rfl rfl (by decide) rfl ?_
  refine V_sub (L' := [(0, .ref (ad 0)), (1, .int (0 : Int32))]) [1, 0] rfl ?_
  refine wlX7_fixNone_2 C F FU _ _ hf
def rmX7_isPossibleFixed : Room := { frames := 18, cells := 0, slots := 0, locals := 488 }
def fX7_isPossibleFixed_13 (a : Int32) (K : Sg → Option (Int32 × Sg)) : Nat → Int32 → Sg → Option (Int32 × Sg)
  | 0, _, _ => none
  | n + 1, x3, σ4 => if (σ4 1 0) ≤ x3 then (K σ4) else (gd (inb x3 12) (jp (fun (v7 : Int32) (σ8 : Sg) => gd (inb x3 12) (lt' (sup σ8 10 x3.toNatClampNeg ((σ4 10 x3.toNatClampNeg) &&& v7)) (fun (σ10 : Sg) => fX7_isPossibleFixed_13 a K n (x3 + (1 : Int32)) σ10))) (fun (J61 : Int32 → Sg → Option (Int32 × Sg)) => jp (fun (σ11 : Sg) => J61 (-1 : Int32) σ11) (fun (J60 : Sg → Option (Int32 × Sg)) => if (pX7_has a x3) = 0 then (J60  σ4) else (gd (inb x3 12) (if (σ4 8 x3.toNatClampNeg) < 0 then (J60  σ4) else (gd (inb x3 12) (J61 ((1 : Int32) <<< ((σ4 8 x3.toNatClampNeg) &&& 31)) σ4))))))))
def fX7_isPossibleFixed (a : Int32) (σ : Sg) : Option (Int32 × Sg) := bd (fX7_startSearch a (σ 1 1) σ) (fun (_ : Unit) (σ1 : Sg) => fX7_isPossibleFixed_13 a (fun (σ16 : Sg) => bd (fX7_countUpTo a (1 : Int32) σ16) (fun (r17 : Int32) (σ18 : Sg) => if r17 ≤ 0 then (some ((0 : Int32), σ18)) else (some ((1 : Int32), σ18)))) FU (0 : Int32) σ1)
set_option maxHeartbeats 4000000 in
theorem wlX7_isPossibleFixed_13 {X : Cx} {G : Gx} {ad : Nat → Nat} {Q : State → Prop} {r : Int32} {σf : Sg} (C : OK wM X G ad RX7 cX7_isPossibleFixed 3 rmX7_isPossibleFixed) (F : FinR wM X G ad Q 0 0 (some .boolean) (some (.int r)) σf) (a : Int32) (K : Sg → Option (Int32 × Sg)) (hK : ∀ (σk : Sg), K σk = some (r, σf) → V wM X G ad 3 Q 0 0 σk 69 [(0, .ref (ad 0)), (1, .int a)] []) : ∀ (n : Nat) (x3 : Int32) (σ4 : Sg), fX7_isPossibleFixed_13 a K n x3 σ4 = some (r, σf) → V wM X G ad 3 Q 0 0 σ4 13 [(0, .ref (ad 0)), (1, .int a), (2, .int x3)] [] := by
  intro n
  induction n with
  | zero =>
    intro _ _ hf
    exact absurd hf (by simp [fX7_isPossibleFixed_13])
  | succ n ih =>
    intro x3 σ4 hf
    rw [fX7_isPossibleFixed_13] at hf
    refine V_iload_n (q := 14) C dX7_isPossibleFixed_13 rfl rfl 2 rfl ?_
    refine V_aload_n (q := 15) C dX7_isPossibleFixed_14 rfl rfl 0 rfl ?_
    refine GM_0_1 (q := 18) C q_1183 dX7_isPossibleFixed_15 rfl ?_
    refine V_iconst (v := 0) (q := 19) C dX7_isPossibleFixed_18 rfl ic_0 ?_
    refine RM_1 (z := 0) (q := 20) C tn_0 (inb_in (by decide)) dX7_isPossibleFixed_19 rfl ?_
    refine V_icmp_ge (t := 69) (q := 23) C dX7_isPossibleFixed_20 (by decide) rfl (fun c5 => ?_) (fun c5 => ?_)
    · replace hf := (ite_s hf).1 c5
      refine V_sub (L' := [(0, .ref (ad 0)), (1, .int a)]) [0, 1] rfl ?_
      exact hK _ hf
    · replace hf := (ite_s hf).2 c5
      refine V_aload_n (q := 24) C dX7_isPossibleFixed_23 rfl rfl 0 rfl ?_
      refine GM_0_13 (q := 27) C q_1195 dX7_isPossibleFixed_24 rfl ?_
      refine V_iconst (v := 0) (q := 28) C dX7_isPossibleFixed_27 rfl ic_0 ?_
      refine AM_7 (z := 10) (q := 29) C (by decide) (inb_in (by decide)) dX7_isPossibleFixed_28 rfl ?_
      refine V_iload_n (q := 30) C dX7_isPossibleFixed_29 rfl rfl 2 rfl ?_
      refine V_dup2 (q := 31) C dX7_isPossibleFixed_30 rfl rfl rfl ?_
      obtain ⟨g6, hf⟩ := gd_s hf
      refine RMr0 (z := x3.toNatClampNeg) (q := 32) C (by decide) (by decide) rfl (inb_in g6) dX7_isPossibleFixed_31 rfl ?_
      refine V_iload_n (q := 33) C dX7_isPossibleFixed_32 rfl rfl 1 rfl ?_
      refine V_iload_n (q := 34) C dX7_isPossibleFixed_33 rfl rfl 2 rfl ?_
      refine V_callS (av := [.int a, .int x3]) (st := [.int (σ4 10 x3.toNatClampNeg), .int x3, .ref (ad 10)]) (st1 := [.int (pX7_has a x3), .int (σ4 10 x3.toNatClampNeg), .int x3, .ref (ad 10)]) (q := 37) C (conX7_has _ _ _ _ _ _ _ rfl) q_1314 q_114 q_1312 q_1313 nmX7_has (by decide) rfl rfl (Nat.le_of_ble_eq_true rfl) dX7_isPossibleFixed_34 rfl rfl ?_
      obtain ⟨J61, eJ61, hf⟩ := jp_s hf
      have hJ61 : ∀ (v7 : Int32) (σ8 : Sg), J61 v7 σ8 = some (r, σf) → V wM X G ad 3 Q 0 0 σ8 61 [(0, .ref (ad 0)), (1, .int a), (2, .int x3)] [.int v7, .int (σ4 10 x3.toNatClampNeg), .int x3, .ref (ad 10)] := by
        intro v7 σ8 hf
        subst eJ61
        refine V_iand (q := 62) C dX7_isPossibleFixed_61 rfl ?_
        obtain ⟨g9, hf⟩ := gd_s hf
        refine SMr0 (z := x3.toNatClampNeg) (q := 63) C (by decide) (by decide) rfl (inb_in g9) dX7_isPossibleFixed_62 rfl ?_
        refine V_lets hf (fun σ10 hf => ?_)
        refine V_iinc (L' := [(2, .int (x3 + (1 : Int32))), (0, .ref (ad 0)), (1, .int a)]) (q := 66) C dX7_isPossibleFixed_63 rfl 2 rfl (congrArg (fun y => x3 + y) ic_1) (by decide) rfl ?_
        refine V_goto (t := 13) C dX7_isPossibleFixed_66 (by decide) ?_
        refine V_sub (L' := [(0, .ref (ad 0)), (1, .int a), (2, .int (x3 + (1 : Int32)))]) [1, 2, 0] rfl ?_
        exact ih _ _ hf
      obtain ⟨J60, eJ60, hf⟩ := jp_s hf
      have hJ60 : ∀ (σ11 : Sg), J60 σ11 = some (r, σf) → V wM X G ad 3 Q 0 0 σ11 60 [(0, .ref (ad 0)), (1, .int a), (2, .int x3)] [.int (σ4 10 x3.toNatClampNeg), .int x3, .ref (ad 10)] := by
        intro σ11 hf
        subst eJ60
        refine V_iconst (v := (-1)) (q := 61) C dX7_isPossibleFixed_60 rfl ic_m1 ?_
        exact hJ61 _ _ hf
      refine V_if_eq (t := 60) (q := 40) C dX7_isPossibleFixed_37 (by decide) rfl (fun c12 => ?_) (fun c12 => ?_)
      · replace hf := (ite_s hf).1 c12
        exact hJ60 _ hf
      · replace hf := (ite_s hf).2 c12
        refine V_aload_n (q := 41) C dX7_isPossibleFixed_40 rfl rfl 0 rfl ?_
        refine GM_0_15 (q := 44) C q_1197 dX7_isPossibleFixed_41 rfl ?_
        refine V_iload_n (q := 45) C dX7_isPossibleFixed_44 rfl rfl 2 rfl ?_
        obtain ⟨g13, hf⟩ := gd_s hf
        refine RM_8 (z := x3.toNatClampNeg) (q := 46) C rfl (inb_in g13) dX7_isPossibleFixed_45 rfl ?_
        refine V_if_lt (t := 60) (q := 49) C dX7_isPossibleFixed_46 (by decide) rfl (fun c14 => ?_) (fun c14 => ?_)
        · replace hf := (ite_s hf).1 c14
          exact hJ60 _ hf
        · replace hf := (ite_s hf).2 c14
          refine V_iconst (v := 1) (q := 50) C dX7_isPossibleFixed_49 rfl ic_1 ?_
          refine V_aload_n (q := 51) C dX7_isPossibleFixed_50 rfl rfl 0 rfl ?_
          refine GM_0_15 (q := 54) C q_1197 dX7_isPossibleFixed_51 rfl ?_
          refine V_iload_n (q := 55) C dX7_isPossibleFixed_54 rfl rfl 2 rfl ?_
          obtain ⟨g15, hf⟩ := gd_s hf
          refine RM_8 (z := x3.toNatClampNeg) (q := 56) C rfl (inb_in g15) dX7_isPossibleFixed_55 rfl ?_
          refine V_ishl (q := 57) C dX7_isPossibleFixed_56 rfl ?_
          refine V_goto (t := 61) C dX7_isPossibleFixed_57 (by decide) ?_
          exact hJ61 _ _ hf
set_option maxHeartbeats 4000000 in
theorem conX7_isPossibleFixed (l : Launch) (G : Gx) (ad : Nat → Nat) (a : Int32) (σ : Sg) (r : Int32) (σf : Sg)  (hf : fX7_isPossibleFixed a σ = some (r, σf)) : Con wM l G ad yX7_isPossibleFixed (Cond.code yX7_isPossibleFixed cX7_isPossibleFixed 3 (some .boolean)) rmX7_isPossibleFixed 0 0 [.ref (ad 0), .int a] σ (some (.int r)) σf := by
  refine Con.start (by decide) (Nat.le_of_ble_eq_true rfl) (fun X Q _ C F => ?_)
  refine V_eq (L' := [(0, .ref (ad 0)), (1, .int a)]) (st' := []) rfl rfl rfl ?_
  unfold fX7_isPossibleFixed at hf
  refine V_aload_n (q := 1) C dX7_isPossibleFixed_0 rfl rfl 0 rfl ?_
  refine V_iload_n (q := 2) C dX7_isPossibleFixed_1 rfl rfl 1 rfl ?_
  refine V_aload_n (q := 3) C dX7_isPossibleFixed_2 rfl rfl 0 rfl ?_
  refine GM_0_1 (q := 6) C q_1183 dX7_isPossibleFixed_3 rfl ?_
  refine V_iconst (v := 1) (q := 7) C dX7_isPossibleFixed_6 rfl ic_1 ?_
  refine RM_1 (z := 1) (q := 8) C tn_1 (inb_in (by decide)) dX7_isPossibleFixed_7 rfl ?_
  obtain ⟨_u, σ1, h2, hf⟩ := bd_s hf
  refine V_callV (av := [.int a, .int (σ 1 1)]) (st := []) (st1 := []) (q := 11) C 0 (by decide) (eM_0 G ad _) rfl rfl (conX7_startSearch _ _ _ _ _ _ _ h2) q_1388 q_114 q_1385 q_1387 q_81 nmX7_startSearch (by decide) rfl rfl (Nat.le_of_ble_eq_true rfl) dX7_isPossibleFixed_8 rfl rfl ?_
  refine V_iconst (v := 0) (q := 12) C dX7_isPossibleFixed_11 rfl ic_0 ?_
  refine V_istore_n (L' := [(2, .int (0 : Int32)), (0, .ref (ad 0)), (1, .int a)]) (q := 13) C dX7_isPossibleFixed_12 rfl rfl (by decide) rfl ?_
  refine V_sub (L' := [(0, .ref (ad 0)), (1, .int a), (2, .int (0 : Int32))]) [1, 2, 0] rfl ?_
  refine wlX7_isPossibleFixed_13 C F a _ (fun σ16 hf => ?_) FU _ _ hf
  refine V_aload_n (q := 70) C dX7_isPossibleFixed_69 rfl rfl 0 rfl ?_
  refine V_iload_n (q := 71) C dX7_isPossibleFixed_70 rfl rfl 1 rfl ?_
  refine V_iconst (v := 1) (q := 72) C dX7_isPossibleFixed_71 rfl ic_1 ?_
  obtain ⟨r17, σ18, h19, hf⟩ := bd_s hf
  refine V_callV (av := [.int a, .int (1 : Int32)]) (st := []) (st1 := [.int r17]) (q := 75) C 0 (by decide) (eM_0 G ad _) rfl rfl (conX7_countUpTo _ _ _ _ _ _ _ _ h19) q_1392 q_114 q_1389 q_1391 q_82 nmX7_countUpTo (by decide) rfl rfl (Nat.le_of_ble_eq_true rfl) dX7_isPossibleFixed_72 rfl rfl ?_
  refine V_if_le (t := 82) (q := 78) C dX7_isPossibleFixed_75 (by decide) rfl (fun c20 => ?_) (fun c20 => ?_)
  · replace hf := (ite_s hf).1 c20
    refine V_iconst (v := 0) (q := 83) C dX7_isPossibleFixed_82 rfl ic_0 ?_
    obtain ⟨e1, e2⟩ := pr_s hf
    subst e1; subst e2
    exact V_zret C F (by decide) (by decide) (by decide) dX7_isPossibleFixed_83
  · replace hf := (ite_s hf).2 c20
    refine V_iconst (v := 1) (q := 79) C dX7_isPossibleFixed_78 rfl ic_1 ?_
    refine V_goto (t := 83) C dX7_isPossibleFixed_79 (by decide) ?_
    obtain ⟨e1, e2⟩ := pr_s hf
    subst e1; subst e2
    exact V_zret C F (by decide) (by decide) (by decide) dX7_isPossibleFixed_83
def rmX7_keepFirst : Room := { frames := 19, cells := 0, slots := 0, locals := 510 }
def fX7_keepFirst_36 (a : Int32) (x1 : Int32) (K : Sg → Option (Unit × Sg)) : Nat → Sg → Option (Unit × Sg)
  | 0, _ => none
  | n + 1, σ10 => bd (fX7_isPossibleFixed a σ10) (fun (r11 : Int32) (σ12 : Sg) => if r11 = 0 then (gd (inb x1 12) (gd (inb x1 12) (lt' (sup σ12 8 x1.toNatClampNeg ((σ12 8 x1.toNatClampNeg) + (1 : Int32))) (fun (σ17 : Sg) => fX7_keepFirst_36 a x1 K n σ17)))) else (K σ12))
def fX7_keepFirst_2 (a : Int32) (K : Sg → Option (Unit × Sg)) : Nat → Int32 → Sg → Option (Unit × Sg)
  | 0, _, _ => none
  | n + 1, x1, σ2 => if (σ2 1 0) ≤ x1 then (K σ2) else (jp (fun (σ4 : Sg) => fX7_keepFirst_2 a K n (x1 + (1 : Int32)) σ4) (fun (J57 : Sg → Option (Unit × Sg)) => if (pX7_has a x1) = 0 then (J57  σ2) else (gd (inb x1 12) (if 0 ≤ (σ2 8 x1.toNatClampNeg) then (J57  σ2) else (gd (inb x1 12) (lt' (sup σ2 8 x1.toNatClampNeg (0 : Int32)) (fun (σ9 : Sg) => fX7_keepFirst_36 a x1 (fun (σ18 : Sg) => J57  σ18) FU σ9)))))))
def fX7_keepFirst_65 (a : Int32) : Nat → Int32 → Sg → Option (Unit × Sg)
  | 0, _, _ => none
  | n + 1, x20, σ21 => if (σ21 1 0) ≤ x20 then (some ((), σ21)) else (jp (fun (v23 : Int32) (σ24 : Sg) => gd (inb ((52 : Int32) + x20) 2764) (lt' (sup σ24 1 (((52 : Int32) + x20).toNatClampNeg) v23) (fun (σ26 : Sg) => fX7_keepFirst_65 a n (x20 + (1 : Int32)) σ26))) (fun (J101 : Int32 → Sg → Option (Unit × Sg)) => if (pX7_has a x20) = 0 then (J101 (-1 : Int32) σ21) else (gd (inb x20 12) (J101 (σ21 8 x20.toNatClampNeg) σ21))))
def fX7_keepFirst (a : Int32) (σ : Sg) : Option (Unit × Sg) := fX7_keepFirst_2 a (fun (σ19 : Sg) => fX7_keepFirst_65 a FU (0 : Int32) σ19) FU (0 : Int32) σ
set_option maxHeartbeats 4000000 in
theorem wlX7_keepFirst_36 {X : Cx} {G : Gx} {ad : Nat → Nat} {Q : State → Prop} {σf : Sg} (C : OK wM X G ad RX7 cX7_keepFirst 3 rmX7_keepFirst) (F : FinR wM X G ad Q 0 0 none none σf) (a : Int32) (x1 : Int32) (K : Sg → Option (Unit × Sg)) (hK : ∀ (σk : Sg), K σk = some ((), σf) → V wM X G ad 3 Q 0 0 σk 57 [(0, .ref (ad 0)), (1, .int a), (2, .int x1)] []) : ∀ (n : Nat) (σ10 : Sg), fX7_keepFirst_36 a x1 K n σ10 = some ((), σf) → V wM X G ad 3 Q 0 0 σ10 36 [(0, .ref (ad 0)), (1, .int a), (2, .int x1)] [] := by
  intro n
  induction n with
  | zero =>
    intro _ hf
    exact absurd hf (by simp [fX7_keepFirst_36])
  | succ n ih =>
    intro σ10 hf
    rw [fX7_keepFirst_36] at hf
    refine V_aload_n (q := 37) C dX7_keepFirst_36 rfl rfl 0 rfl ?_
    refine V_iload_n (q := 38) C dX7_keepFirst_37 rfl rfl 1 rfl ?_
    obtain ⟨r11, σ12, h13, hf⟩ := bd_s hf
    refine V_callV (av := [.int a]) (st := []) (st1 := [.int r11]) (q := 41) C 0 (by decide) (eM_0 G ad _) rfl rfl (conX7_isPossibleFixed _ _ _ _ _ _ _ h13) q_1416 q_114 q_1413 q_1415 q_87 nmX7_isPossibleFixed (by decide) rfl rfl (Nat.le_of_ble_eq_true rfl) dX7_keepFirst_38 rfl rfl ?_
    refine V_if_ne (t := 57) (q := 44) C dX7_keepFirst_41 (by decide) rfl (fun c14 => ?_) (fun c14 => ?_)
    · replace hf := (ite_s hf).2 c14
      exact hK _ hf
    · replace hf := (ite_s hf).1 c14
      refine V_aload_n (q := 45) C dX7_keepFirst_44 rfl rfl 0 rfl ?_
      refine GM_0_15 (q := 48) C q_1197 dX7_keepFirst_45 rfl ?_
      refine V_iload_n (q := 49) C dX7_keepFirst_48 rfl rfl 2 rfl ?_
      refine V_dup2 (q := 50) C dX7_keepFirst_49 rfl rfl rfl ?_
      obtain ⟨g15, hf⟩ := gd_s hf
      refine RM_8 (z := x1.toNatClampNeg) (q := 51) C rfl (inb_in g15) dX7_keepFirst_50 rfl ?_
      refine V_iconst (v := 1) (q := 52) C dX7_keepFirst_51 rfl ic_1 ?_
      refine V_iadd (q := 53) C dX7_keepFirst_52 rfl ?_
      obtain ⟨g16, hf⟩ := gd_s hf
      refine SM_8 (z := x1.toNatClampNeg) (q := 54) C rfl (inb_in g16) dX7_keepFirst_53 rfl ?_
      refine V_lets hf (fun σ17 hf => ?_)
      refine V_goto (t := 36) C dX7_keepFirst_54 (by decide) ?_
      exact ih _ hf
set_option maxHeartbeats 4000000 in
theorem wlX7_keepFirst_2 {X : Cx} {G : Gx} {ad : Nat → Nat} {Q : State → Prop} {σf : Sg} (C : OK wM X G ad RX7 cX7_keepFirst 3 rmX7_keepFirst) (F : FinR wM X G ad Q 0 0 none none σf) (a : Int32) (K : Sg → Option (Unit × Sg)) (hK : ∀ (σk : Sg), K σk = some ((), σf) → V wM X G ad 3 Q 0 0 σk 63 [(0, .ref (ad 0)), (1, .int a)] []) : ∀ (n : Nat) (x1 : Int32) (σ2 : Sg), fX7_keepFirst_2 a K n x1 σ2 = some ((), σf) → V wM X G ad 3 Q 0 0 σ2 2 [(0, .ref (ad 0)), (1, .int a), (2, .int x1)] [] := by
  intro n
  induction n with
  | zero =>
    intro _ _ hf
    exact absurd hf (by simp [fX7_keepFirst_2])
  | succ n ih =>
    intro x1 σ2 hf
    rw [fX7_keepFirst_2] at hf
    refine V_iload_n (q := 3) C dX7_keepFirst_2 rfl rfl 2 rfl ?_
    refine V_aload_n (q := 4) C dX7_keepFirst_3 rfl rfl 0 rfl ?_
    refine GM_0_1 (q := 7) C q_1183 dX7_keepFirst_4 rfl ?_
    refine V_iconst (v := 0) (q := 8) C dX7_keepFirst_7 rfl ic_0 ?_
    refine RM_1 (z := 0) (q := 9) C tn_0 (inb_in (by decide)) dX7_keepFirst_8 rfl ?_
    refine V_icmp_ge (t := 63) (q := 12) C dX7_keepFirst_9 (by decide) rfl (fun c3 => ?_) (fun c3 => ?_)
    · replace hf := (ite_s hf).1 c3
      refine V_sub (L' := [(0, .ref (ad 0)), (1, .int a)]) [0, 1] rfl ?_
      exact hK _ hf
    · replace hf := (ite_s hf).2 c3
      refine V_iload_n (q := 13) C dX7_keepFirst_12 rfl rfl 1 rfl ?_
      refine V_iload_n (q := 14) C dX7_keepFirst_13 rfl rfl 2 rfl ?_
      refine V_callS (av := [.int a, .int x1]) (st := []) (st1 := [.int (pX7_has a x1)]) (q := 17) C (conX7_has _ _ _ _ _ _ _ rfl) q_1314 q_114 q_1312 q_1313 nmX7_has (by decide) rfl rfl (Nat.le_of_ble_eq_true rfl) dX7_keepFirst_14 rfl rfl ?_
      obtain ⟨J57, eJ57, hf⟩ := jp_s hf
      have hJ57 : ∀ (σ4 : Sg), J57 σ4 = some ((), σf) → V wM X G ad 3 Q 0 0 σ4 57 [(0, .ref (ad 0)), (1, .int a), (2, .int x1)] [] := by
        intro σ4 hf
        subst eJ57
        refine V_iinc (L' := [(2, .int (x1 + (1 : Int32))), (0, .ref (ad 0)), (1, .int a)]) (q := 60) C dX7_keepFirst_57 rfl 2 rfl (congrArg (fun y => x1 + y) ic_1) (by decide) rfl ?_
        refine V_goto (t := 2) C dX7_keepFirst_60 (by decide) ?_
        refine V_sub (L' := [(0, .ref (ad 0)), (1, .int a), (2, .int (x1 + (1 : Int32)))]) [1, 2, 0] rfl ?_
        exact ih _ _ hf
      refine V_if_eq (t := 57) (q := 20) C dX7_keepFirst_17 (by decide) rfl (fun c5 => ?_) (fun c5 => ?_)
      · replace hf := (ite_s hf).1 c5
        exact hJ57 _ hf
      · replace hf := (ite_s hf).2 c5
        refine V_aload_n (q := 21) C dX7_keepFirst_20 rfl rfl 0 rfl ?_
        refine GM_0_15 (q := 24) C q_1197 dX7_keepFirst_21 rfl ?_
        refine V_iload_n (q := 25) C dX7_keepFirst_24 rfl rfl 2 rfl ?_
        obtain ⟨g6, hf⟩ := gd_s hf
        refine RM_8 (z := x1.toNatClampNeg) (q := 26) C rfl (inb_in g6) dX7_keepFirst_25 rfl ?_
        refine V_if_ge (t := 57) (q := 29) C dX7_keepFirst_26 (by decide) rfl (fun c7 => ?_) (fun c7 => ?_)
        · replace hf := (ite_s hf).1 c7
          exact hJ57 _ hf
        · replace hf := (ite_s hf).2 c7
          refine V_aload_n (q := 30) C dX7_keepFirst_29 rfl rfl 0 rfl ?_
          refine GM_0_15 (q := 33) C q_1197 dX7_keepFirst_30 rfl ?_
          refine V_iload_n (q := 34) C dX7_keepFirst_33 rfl rfl 2 rfl ?_
          refine V_iconst (v := 0) (q := 35) C dX7_keepFirst_34 rfl ic_0 ?_
          obtain ⟨g8, hf⟩ := gd_s hf
          refine SM_8 (z := x1.toNatClampNeg) (q := 36) C rfl (inb_in g8) dX7_keepFirst_35 rfl ?_
          refine V_lets hf (fun σ9 hf => ?_)
          refine wlX7_keepFirst_36 C F a x1 _ (fun σ18 hf => ?_) FU _ hf
          exact hJ57 _ hf
set_option maxHeartbeats 4000000 in
theorem wlX7_keepFirst_65 {X : Cx} {G : Gx} {ad : Nat → Nat} {Q : State → Prop} {σf : Sg} (C : OK wM X G ad RX7 cX7_keepFirst 3 rmX7_keepFirst) (F : FinR wM X G ad Q 0 0 none none σf) (a : Int32) : ∀ (n : Nat) (x20 : Int32) (σ21 : Sg), fX7_keepFirst_65 a n x20 σ21 = some ((), σf) → V wM X G ad 3 Q 0 0 σ21 65 [(0, .ref (ad 0)), (1, .int a), (2, .int x20)] [] := by
  intro n
  induction n with
  | zero =>
    intro _ _ hf
    exact absurd hf (by simp [fX7_keepFirst_65])
  | succ n ih =>
    intro x20 σ21 hf
    rw [fX7_keepFirst_65] at hf
    refine V_iload_n (q := 66) C dX7_keepFirst_65 rfl rfl 2 rfl ?_
    refine V_aload_n (q := 67) C dX7_keepFirst_66 rfl rfl 0 rfl ?_
    refine GM_0_1 (q := 70) C q_1183 dX7_keepFirst_67 rfl ?_
    refine V_iconst (v := 0) (q := 71) C dX7_keepFirst_70 rfl ic_0 ?_
    refine RM_1 (z := 0) (q := 72) C tn_0 (inb_in (by decide)) dX7_keepFirst_71 rfl ?_
    refine V_icmp_ge (t := 108) (q := 75) C dX7_keepFirst_72 (by decide) rfl (fun c22 => ?_) (fun c22 => ?_)
    · replace hf := (ite_s hf).1 c22
      obtain ⟨-, e2⟩ := pr_s hf
      subst e2
      exact V_vret C F (by decide) (by decide) dX7_keepFirst_108
    · replace hf := (ite_s hf).2 c22
      refine V_aload_n (q := 76) C dX7_keepFirst_75 rfl rfl 0 rfl ?_
      refine GM_0_1 (q := 79) C q_1183 dX7_keepFirst_76 rfl ?_
      refine V_bipush (v := 52) (q := 81) C dX7_keepFirst_79 rfl bc_52 ?_
      refine V_iload_n (q := 82) C dX7_keepFirst_81 rfl rfl 2 rfl ?_
      refine V_iadd (q := 83) C dX7_keepFirst_82 rfl ?_
      refine V_iload_n (q := 84) C dX7_keepFirst_83 rfl rfl 1 rfl ?_
      refine V_iload_n (q := 85) C dX7_keepFirst_84 rfl rfl 2 rfl ?_
      refine V_callS (av := [.int a, .int x20]) (st := [.int ((52 : Int32) + x20), .ref (ad 1)]) (st1 := [.int (pX7_has a x20), .int ((52 : Int32) + x20), .ref (ad 1)]) (q := 88) C (conX7_has _ _ _ _ _ _ _ rfl) q_1314 q_114 q_1312 q_1313 nmX7_has (by decide) rfl rfl (Nat.le_of_ble_eq_true rfl) dX7_keepFirst_85 rfl rfl ?_
      obtain ⟨J101, eJ101, hf⟩ := jp_s hf
      have hJ101 : ∀ (v23 : Int32) (σ24 : Sg), J101 v23 σ24 = some ((), σf) → V wM X G ad 3 Q 0 0 σ24 101 [(0, .ref (ad 0)), (1, .int a), (2, .int x20)] [.int v23, .int ((52 : Int32) + x20), .ref (ad 1)] := by
        intro v23 σ24 hf
        subst eJ101
        obtain ⟨g25, hf⟩ := gd_s hf
        refine SM_1 (z := ((52 : Int32) + x20).toNatClampNeg) (q := 102) C rfl (inb_in g25) dX7_keepFirst_101 rfl ?_
        refine V_lets hf (fun σ26 hf => ?_)
        refine V_iinc (L' := [(2, .int (x20 + (1 : Int32))), (0, .ref (ad 0)), (1, .int a)]) (q := 105) C dX7_keepFirst_102 rfl 2 rfl (congrArg (fun y => x20 + y) ic_1) (by decide) rfl ?_
        refine V_goto (t := 65) C dX7_keepFirst_105 (by decide) ?_
        refine V_sub (L' := [(0, .ref (ad 0)), (1, .int a), (2, .int (x20 + (1 : Int32)))]) [1, 2, 0] rfl ?_
        exact ih _ _ hf
      refine V_if_eq (t := 100) (q := 91) C dX7_keepFirst_88 (by decide) rfl (fun c27 => ?_) (fun c27 => ?_)
      · replace hf := (ite_s hf).1 c27
        refine V_iconst (v := (-1)) (q := 101) C dX7_keepFirst_100 rfl ic_m1 ?_
        exact hJ101 _ _ hf
      · replace hf := (ite_s hf).2 c27
        refine V_aload_n (q := 92) C dX7_keepFirst_91 rfl rfl 0 rfl ?_
        refine GM_0_15 (q := 95) C q_1197 dX7_keepFirst_92 rfl ?_
        refine V_iload_n (q := 96) C dX7_keepFirst_95 rfl rfl 2 rfl ?_
        obtain ⟨g28, hf⟩ := gd_s hf
        refine RM_8 (z := x20.toNatClampNeg) (q := 97) C rfl (inb_in g28) dX7_keepFirst_96 rfl ?_
        refine V_goto (t := 101) C dX7_keepFirst_97 (by decide) ?_
        exact hJ101 _ _ hf
set_option maxHeartbeats 4000000 in
theorem conX7_keepFirst (l : Launch) (G : Gx) (ad : Nat → Nat) (a : Int32) (σ : Sg) (σf : Sg)  (hf : fX7_keepFirst a σ = some ((), σf)) : Con wM l G ad yX7_keepFirst (Cond.code yX7_keepFirst cX7_keepFirst 3 none) rmX7_keepFirst 0 0 [.ref (ad 0), .int a] σ none σf := by
  refine Con.start (by decide) (Nat.le_of_ble_eq_true rfl) (fun X Q _ C F => ?_)
  refine V_eq (L' := [(0, .ref (ad 0)), (1, .int a)]) (st' := []) rfl rfl rfl ?_
  unfold fX7_keepFirst at hf
  refine V_iconst (v := 0) (q := 1) C dX7_keepFirst_0 rfl ic_0 ?_
  refine V_istore_n (L' := [(2, .int (0 : Int32)), (0, .ref (ad 0)), (1, .int a)]) (q := 2) C dX7_keepFirst_1 rfl rfl (by decide) rfl ?_
  refine V_sub (L' := [(0, .ref (ad 0)), (1, .int a), (2, .int (0 : Int32))]) [1, 2, 0] rfl ?_
  refine wlX7_keepFirst_2 C F a _ (fun σ19 hf => ?_) FU _ _ hf
  refine V_iconst (v := 0) (q := 64) C dX7_keepFirst_63 rfl ic_0 ?_
  refine V_istore_n (L' := [(2, .int (0 : Int32)), (0, .ref (ad 0)), (1, .int a)]) (q := 65) C dX7_keepFirst_64 rfl rfl (by decide) rfl ?_
  refine V_sub (L' := [(0, .ref (ad 0)), (1, .int a), (2, .int (0 : Int32))]) [1, 2, 0] rfl ?_
  refine wlX7_keepFirst_65 C F a FU _ _ hf
def rmX7_assign : Room := { frames := 20, cells := 0, slots := 0, locals := 532 }
def fX7_assign_57 (K : Int32 → Sg → Option (Int32 × Sg)) : Nat → Int32 → Int32 → Sg → Option (Int32 × Sg)
  | 0, _, _, _ => none
  | n + 1, x23, x24, σ25 => if (σ25 1 0) ≤ x24 then (K x23 σ25) else (gd (inb ((52 : Int32) + x24) 2764) (jp (fun (v29 : Int32) (σ30 : Sg) => lt' ((x23 ||| v29)) (fun (x31 : Int32) => fX7_assign_57 K n x31 (x24 + (1 : Int32)) σ30)) (fun (J95 : Int32 → Sg → Option (Int32 × Sg)) => if (σ25 1 (((52 : Int32) + x24).toNatClampNeg)) < 0 then (J95 (0 : Int32) σ25) else (gd (inb ((52 : Int32) + x24) 2764) (J95 ((1 : Int32) <<< ((σ25 1 (((52 : Int32) + x24).toNatClampNeg)) &&& 31)) σ25)))))
def fX7_assign (a : Int32) (σ : Sg) : Option (Int32 × Sg) := bd (fX7_areStations a σ) (fun (r1 : Int32) (σ2 : Sg) => jp (fun (v4 : Int32) (σ5 : Sg) => bd (fX7_fails (1 : Int32) v4 σ5) (fun (r6 : Int32) (σ7 : Sg) => if r6 = 0 then (bd (fX7_isPossible a σ7) (fun (r10 : Int32) (σ11 : Sg) => jp (fun (v13 : Int32) (σ14 : Sg) => bd (fX7_fails (2 : Int32) v13 σ14) (fun (r15 : Int32) (σ16 : Sg) => if r15 = 0 then (bd (fX7_fixNone  σ16) (fun (_ : Unit) (σ19 : Sg) => bd (fX7_keepFirst a σ19) (fun (_ : Unit) (σ21 : Sg) => fX7_assign_57 (fun (y26 : Int32) (σ34 : Sg) => bd (fX7_countBits y26 σ34) (fun (r35 : Int32) (σ36 : Sg) => some (r35, σ36))) FU (0 : Int32) (0 : Int32) σ21))) else (some ((0 : Int32), σ16)))) (fun (J36 : Int32 → Sg → Option (Int32 × Sg)) => if r10 = 0 then (J36 (1 : Int32) σ11) else (J36 (0 : Int32) σ11)))) else (some ((0 : Int32), σ7)))) (fun (J15 : Int32 → Sg → Option (Int32 × Sg)) => if r1 = 0 then (J15 (1 : Int32) σ2) else (J15 (0 : Int32) σ2)))
set_option maxHeartbeats 4000000 in
theorem wlX7_assign_57 {X : Cx} {G : Gx} {ad : Nat → Nat} {Q : State → Prop} {r : Int32} {σf : Sg} (C : OK wM X G ad RX7 cX7_assign 4 rmX7_assign) (F : FinR wM X G ad Q 0 0 (some .int) (some (.int r)) σf) (K : Int32 → Sg → Option (Int32 × Sg)) (hK : ∀ (y26 : Int32) (σk : Sg), K y26 σk = some (r, σf) → V wM X G ad 4 Q 0 0 σk 103 [(2, .int y26)] []) : ∀ (n : Nat) (x23 : Int32) (x24 : Int32) (σ25 : Sg), fX7_assign_57 K n x23 x24 σ25 = some (r, σf) → V wM X G ad 4 Q 0 0 σ25 57 [(0, .ref (ad 0)), (2, .int x23), (3, .int x24)] [] := by
  intro n
  induction n with
  | zero =>
    intro _ _ _ hf
    exact absurd hf (by simp [fX7_assign_57])
  | succ n ih =>
    intro x23 x24 σ25 hf
    rw [fX7_assign_57] at hf
    refine V_iload_n (q := 58) C dX7_assign_57 rfl rfl 2 rfl ?_
    refine V_aload_n (q := 59) C dX7_assign_58 rfl rfl 0 rfl ?_
    refine GM_0_1 (q := 62) C q_1183 dX7_assign_59 rfl ?_
    refine V_iconst (v := 0) (q := 63) C dX7_assign_62 rfl ic_0 ?_
    refine RM_1 (z := 0) (q := 64) C tn_0 (inb_in (by decide)) dX7_assign_63 rfl ?_
    refine V_icmp_ge (t := 103) (q := 67) C dX7_assign_64 (by decide) rfl (fun c27 => ?_) (fun c27 => ?_)
    · replace hf := (ite_s hf).1 c27
      refine V_sub (L' := [(2, .int x23)]) [1] rfl ?_
      exact hK _ _ hf
    · replace hf := (ite_s hf).2 c27
      refine V_iload_n (q := 68) C dX7_assign_67 rfl rfl 1 rfl ?_
      refine V_aload_n (q := 69) C dX7_assign_68 rfl rfl 0 rfl ?_
      refine GM_0_1 (q := 72) C q_1183 dX7_assign_69 rfl ?_
      refine V_bipush (v := 52) (q := 74) C dX7_assign_72 rfl bc_52 ?_
      refine V_iload_n (q := 75) C dX7_assign_74 rfl rfl 2 rfl ?_
      refine V_iadd (q := 76) C dX7_assign_75 rfl ?_
      obtain ⟨g28, hf⟩ := gd_s hf
      refine RM_1 (z := ((52 : Int32) + x24).toNatClampNeg) (q := 77) C rfl (inb_in g28) dX7_assign_76 rfl ?_
      obtain ⟨J95, eJ95, hf⟩ := jp_s hf
      have hJ95 : ∀ (v29 : Int32) (σ30 : Sg), J95 v29 σ30 = some (r, σf) → V wM X G ad 4 Q 0 0 σ30 95 [(0, .ref (ad 0)), (3, .int x24)] [.int v29, .int x23] := by
        intro v29 σ30 hf
        subst eJ95
        refine V_ior (q := 96) C dX7_assign_95 rfl ?_
        refine V_let (cv := Value.int) hf (fun x31 hf => ?_)
        refine V_istore_n (L' := [(2, .int x31), (0, .ref (ad 0)), (3, .int x24)]) (q := 97) C dX7_assign_96 rfl rfl (by decide) rfl ?_
        refine V_iinc (L' := [(3, .int (x24 + (1 : Int32))), (2, .int x31), (0, .ref (ad 0))]) (q := 100) C dX7_assign_97 rfl 2 rfl (congrArg (fun y => x24 + y) ic_1) (by decide) rfl ?_
        refine V_goto (t := 57) C dX7_assign_100 (by decide) ?_
        refine V_sub (L' := [(0, .ref (ad 0)), (2, .int x31), (3, .int (x24 + (1 : Int32)))]) [2, 1, 0] rfl ?_
        exact ih _ _ _ hf
      refine V_if_lt (t := 94) (q := 80) C dX7_assign_77 (by decide) rfl (fun c32 => ?_) (fun c32 => ?_)
      · replace hf := (ite_s hf).1 c32
        refine V_iconst (v := 0) (q := 95) C dX7_assign_94 rfl ic_0 ?_
        refine V_sub (L' := [(0, .ref (ad 0)), (3, .int x24)]) [0, 2] rfl ?_
        exact hJ95 _ _ hf
      · replace hf := (ite_s hf).2 c32
        refine V_iconst (v := 1) (q := 81) C dX7_assign_80 rfl ic_1 ?_
        refine V_aload_n (q := 82) C dX7_assign_81 rfl rfl 0 rfl ?_
        refine GM_0_1 (q := 85) C q_1183 dX7_assign_82 rfl ?_
        refine V_bipush (v := 52) (q := 87) C dX7_assign_85 rfl bc_52 ?_
        refine V_iload_n (q := 88) C dX7_assign_87 rfl rfl 2 rfl ?_
        refine V_iadd (q := 89) C dX7_assign_88 rfl ?_
        obtain ⟨g33, hf⟩ := gd_s hf
        refine RM_1 (z := ((52 : Int32) + x24).toNatClampNeg) (q := 90) C rfl (inb_in g33) dX7_assign_89 rfl ?_
        refine V_ishl (q := 91) C dX7_assign_90 rfl ?_
        refine V_goto (t := 95) C dX7_assign_91 (by decide) ?_
        refine V_sub (L' := [(0, .ref (ad 0)), (3, .int x24)]) [0, 2] rfl ?_
        exact hJ95 _ _ hf
set_option maxHeartbeats 4000000 in
theorem conX7_assign (l : Launch) (G : Gx) (ad : Nat → Nat) (a : Int32) (σ : Sg) (r : Int32) (σf : Sg)  (hf : fX7_assign a σ = some (r, σf)) : Con wM l G ad yX7_assign (Cond.code yX7_assign cX7_assign 4 (some .int)) rmX7_assign 0 0 [.ref (ad 0), .int a] σ (some (.int r)) σf := by
  refine Con.start (by decide) (Nat.le_of_ble_eq_true rfl) (fun X Q _ C F => ?_)
  refine V_eq (L' := [(0, .ref (ad 0)), (1, .int a)]) (st' := []) rfl rfl rfl ?_
  unfold fX7_assign at hf
  refine V_aload_n (q := 1) C dX7_assign_0 rfl rfl 0 rfl ?_
  refine V_iconst (v := 1) (q := 2) C dX7_assign_1 rfl ic_1 ?_
  refine V_aload_n (q := 3) C dX7_assign_2 rfl rfl 0 rfl ?_
  refine V_iload_n (q := 4) C dX7_assign_3 rfl rfl 1 rfl ?_
  obtain ⟨r1, σ2, h3, hf⟩ := bd_s hf
  refine V_callV (av := [.int a]) (st := [.int (1 : Int32), .ref (ad 0)]) (st1 := [.int r1, .int (1 : Int32), .ref (ad 0)]) (q := 7) C 0 (by decide) (eM_0 G ad _) rfl rfl (conX7_areStations _ _ _ _ _ _ _ h3) q_1376 q_114 q_1373 q_1375 q_78 nmX7_areStations (by decide) rfl rfl (Nat.le_of_ble_eq_true rfl) dX7_assign_4 rfl rfl ?_
  obtain ⟨J15, eJ15, hf⟩ := jp_s hf
  have hJ15 : ∀ (v4 : Int32) (σ5 : Sg), J15 v4 σ5 = some (r, σf) → V wM X G ad 4 Q 0 0 σ5 15 [(0, .ref (ad 0)), (1, .int a)] [.int v4, .int (1 : Int32), .ref (ad 0)] := by
    intro v4 σ5 hf
    subst eJ15
    obtain ⟨r6, σ7, h8, hf⟩ := bd_s hf
    refine V_callV (av := [.int (1 : Int32), .int v4]) (st := []) (st1 := [.int r6]) (q := 18) C 0 (by decide) (eM_0 G ad _) rfl rfl (conX7_fails _ _ _ _ _ _ _ _ h8) q_1251 q_114 q_1248 q_1250 q_64 nmX7_fails (by decide) rfl rfl (Nat.le_of_ble_eq_true rfl) dX7_assign_15 rfl rfl ?_
    refine V_if_ne (t := 42) (q := 21) C dX7_assign_18 (by decide) rfl (fun c9 => ?_) (fun c9 => ?_)
    · replace hf := (ite_s hf).2 c9
      refine V_iconst (v := 0) (q := 43) C dX7_assign_42 rfl ic_0 ?_
      obtain ⟨e1, e2⟩ := pr_s hf
      subst e1; subst e2
      exact V_iret C F (by decide) (by decide) dX7_assign_43
    · replace hf := (ite_s hf).1 c9
      refine V_aload_n (q := 22) C dX7_assign_21 rfl rfl 0 rfl ?_
      refine V_iconst (v := 2) (q := 23) C dX7_assign_22 rfl ic_2 ?_
      refine V_aload_n (q := 24) C dX7_assign_23 rfl rfl 0 rfl ?_
      refine V_iload_n (q := 25) C dX7_assign_24 rfl rfl 1 rfl ?_
      obtain ⟨r10, σ11, h12, hf⟩ := bd_s hf
      refine V_callV (av := [.int a]) (st := [.int (2 : Int32), .ref (ad 0)]) (st1 := [.int r10, .int (2 : Int32), .ref (ad 0)]) (q := 28) C 0 (by decide) (eM_0 G ad _) rfl rfl (conX7_isPossible _ _ _ _ _ _ _ h12) q_1380 q_114 q_1377 q_1379 q_79 nmX7_isPossible (by decide) rfl rfl (Nat.le_of_ble_eq_true rfl) dX7_assign_25 rfl rfl ?_
      obtain ⟨J36, eJ36, hf⟩ := jp_s hf
      have hJ36 : ∀ (v13 : Int32) (σ14 : Sg), J36 v13 σ14 = some (r, σf) → V wM X G ad 4 Q 0 0 σ14 36 [(0, .ref (ad 0)), (1, .int a)] [.int v13, .int (2 : Int32), .ref (ad 0)] := by
        intro v13 σ14 hf
        subst eJ36
        obtain ⟨r15, σ16, h17, hf⟩ := bd_s hf
        refine V_callV (av := [.int (2 : Int32), .int v13]) (st := []) (st1 := [.int r15]) (q := 39) C 0 (by decide) (eM_0 G ad _) rfl rfl (conX7_fails _ _ _ _ _ _ _ _ h17) q_1251 q_114 q_1248 q_1250 q_64 nmX7_fails (by decide) rfl rfl (Nat.le_of_ble_eq_true rfl) dX7_assign_36 rfl rfl ?_
        refine V_if_eq (t := 44) (q := 42) C dX7_assign_39 (by decide) rfl (fun c18 => ?_) (fun c18 => ?_)
        · replace hf := (ite_s hf).1 c18
          refine V_aload_n (q := 45) C dX7_assign_44 rfl rfl 0 rfl ?_
          obtain ⟨_u, σ19, h20, hf⟩ := bd_s hf
          refine V_callV (av := []) (st := []) (st1 := []) (q := 48) C 0 (by decide) (eM_0 G ad _) rfl rfl (conX7_fixNone _ _ _  _ _ h20) q_1408 q_114 q_1405 q_1407 q_85 nmX7_fixNone (by decide) rfl rfl (Nat.le_of_ble_eq_true rfl) dX7_assign_45 rfl rfl ?_
          refine V_aload_n (q := 49) C dX7_assign_48 rfl rfl 0 rfl ?_
          refine V_iload_n (q := 50) C dX7_assign_49 rfl rfl 1 rfl ?_
          obtain ⟨_u, σ21, h22, hf⟩ := bd_s hf
          refine V_callV (av := [.int a]) (st := []) (st1 := []) (q := 53) C 0 (by decide) (eM_0 G ad _) rfl rfl (conX7_keepFirst _ _ _ _ _ _ h22) q_1412 q_114 q_1409 q_1411 q_86 nmX7_keepFirst (by decide) rfl rfl (Nat.le_of_ble_eq_true rfl) dX7_assign_50 rfl rfl ?_
          refine V_iconst (v := 0) (q := 54) C dX7_assign_53 rfl ic_0 ?_
          refine V_istore_n (L' := [(2, .int (0 : Int32)), (0, .ref (ad 0)), (1, .int a)]) (q := 55) C dX7_assign_54 rfl rfl (by decide) rfl ?_
          refine V_iconst (v := 0) (q := 56) C dX7_assign_55 rfl ic_0 ?_
          refine V_istore_n (L' := [(3, .int (0 : Int32)), (2, .int (0 : Int32)), (0, .ref (ad 0)), (1, .int a)]) (q := 57) C dX7_assign_56 rfl rfl (by decide) rfl ?_
          refine V_sub (L' := [(0, .ref (ad 0)), (2, .int (0 : Int32)), (3, .int (0 : Int32))]) [2, 1, 0] rfl ?_
          refine wlX7_assign_57 C F _ (fun y26 σ34 hf => ?_) FU _ _ _ hf
          refine V_iload_n (q := 104) C dX7_assign_103 rfl rfl 0 rfl ?_
          obtain ⟨r35, σ36, h37, hf⟩ := bd_s hf
          refine V_callS (av := [.int y26]) (st := []) (st1 := [.int r35]) (q := 107) C (conX7_countBits _ _ _ _ _ _ _ h37) q_1341 q_114 q_1339 q_1340 nmX7_countBits (by decide) rfl rfl (Nat.le_of_ble_eq_true rfl) dX7_assign_104 rfl rfl ?_
          obtain ⟨e1, e2⟩ := pr_s hf
          subst e1; subst e2
          exact V_iret C F (by decide) (by decide) dX7_assign_107
        · replace hf := (ite_s hf).2 c18
          refine V_iconst (v := 0) (q := 43) C dX7_assign_42 rfl ic_0 ?_
          obtain ⟨e1, e2⟩ := pr_s hf
          subst e1; subst e2
          exact V_iret C F (by decide) (by decide) dX7_assign_43
      refine V_if_ne (t := 35) (q := 31) C dX7_assign_28 (by decide) rfl (fun c38 => ?_) (fun c38 => ?_)
      · replace hf := (ite_s hf).2 c38
        refine V_iconst (v := 0) (q := 36) C dX7_assign_35 rfl ic_0 ?_
        exact hJ36 _ _ hf
      · replace hf := (ite_s hf).1 c38
        refine V_iconst (v := 1) (q := 32) C dX7_assign_31 rfl ic_1 ?_
        refine V_goto (t := 36) C dX7_assign_32 (by decide) ?_
        exact hJ36 _ _ hf
  refine V_if_ne (t := 14) (q := 10) C dX7_assign_7 (by decide) rfl (fun c39 => ?_) (fun c39 => ?_)
  · replace hf := (ite_s hf).2 c39
    refine V_iconst (v := 0) (q := 15) C dX7_assign_14 rfl ic_0 ?_
    exact hJ15 _ _ hf
  · replace hf := (ite_s hf).1 c39
    refine V_iconst (v := 1) (q := 11) C dX7_assign_10 rfl ic_1 ?_
    refine V_goto (t := 15) C dX7_assign_11 (by decide) ?_
    exact hJ15 _ _ hf
def rmX7_assignments : Room := { frames := 18, cells := 0, slots := 0, locals := 488 }
def fX7_assignments (a : Int32) (σ : Sg) : Option (Int32 × Sg) := bd (fX7_areStations a σ) (fun (r1 : Int32) (σ2 : Sg) => jp (fun (v4 : Int32) (σ5 : Sg) => bd (fX7_fails (1 : Int32) v4 σ5) (fun (r6 : Int32) (σ7 : Sg) => if r6 = 0 then (bd (fX7_startSearch a (σ7 1 1) σ7) (fun (_ : Unit) (σ10 : Sg) => bd (fX7_countUpTo a (1000 : Int32) σ10) (fun (r12 : Int32) (σ13 : Sg) => some (r12, σ13)))) else (some ((0 : Int32), σ7)))) (fun (J15 : Int32 → Sg → Option (Int32 × Sg)) => if r1 = 0 then (J15 (1 : Int32) σ2) else (J15 (0 : Int32) σ2)))
set_option maxHeartbeats 4000000 in
theorem conX7_assignments (l : Launch) (G : Gx) (ad : Nat → Nat) (a : Int32) (σ : Sg) (r : Int32) (σf : Sg)  (hf : fX7_assignments a σ = some (r, σf)) : Con wM l G ad yX7_assignments (Cond.code yX7_assignments cX7_assignments 2 (some .int)) rmX7_assignments 0 0 [.ref (ad 0), .int a] σ (some (.int r)) σf := by
  refine Con.start (by decide) (Nat.le_of_ble_eq_true rfl) (fun X Q _ C F => ?_)
  refine V_eq (L' := [(0, .ref (ad 0)), (1, .int a)]) (st' := []) rfl rfl rfl ?_
  unfold fX7_assignments at hf
  refine V_aload_n (q := 1) C dX7_assignments_0 rfl rfl 0 rfl ?_
  refine V_iconst (v := 1) (q := 2) C dX7_assignments_1 rfl ic_1 ?_
  refine V_aload_n (q := 3) C dX7_assignments_2 rfl rfl 0 rfl ?_
  refine V_iload_n (q := 4) C dX7_assignments_3 rfl rfl 1 rfl ?_
  obtain ⟨r1, σ2, h3, hf⟩ := bd_s hf
  refine V_callV (av := [.int a]) (st := [.int (1 : Int32), .ref (ad 0)]) (st1 := [.int r1, .int (1 : Int32), .ref (ad 0)]) (q := 7) C 0 (by decide) (eM_0 G ad _) rfl rfl (conX7_areStations _ _ _ _ _ _ _ h3) q_1376 q_114 q_1373 q_1375 q_78 nmX7_areStations (by decide) rfl rfl (Nat.le_of_ble_eq_true rfl) dX7_assignments_4 rfl rfl ?_
  obtain ⟨J15, eJ15, hf⟩ := jp_s hf
  have hJ15 : ∀ (v4 : Int32) (σ5 : Sg), J15 v4 σ5 = some (r, σf) → V wM X G ad 2 Q 0 0 σ5 15 [(0, .ref (ad 0)), (1, .int a)] [.int v4, .int (1 : Int32), .ref (ad 0)] := by
    intro v4 σ5 hf
    subst eJ15
    obtain ⟨r6, σ7, h8, hf⟩ := bd_s hf
    refine V_callV (av := [.int (1 : Int32), .int v4]) (st := []) (st1 := [.int r6]) (q := 18) C 0 (by decide) (eM_0 G ad _) rfl rfl (conX7_fails _ _ _ _ _ _ _ _ h8) q_1251 q_114 q_1248 q_1250 q_64 nmX7_fails (by decide) rfl rfl (Nat.le_of_ble_eq_true rfl) dX7_assignments_15 rfl rfl ?_
    refine V_if_eq (t := 23) (q := 21) C dX7_assignments_18 (by decide) rfl (fun c9 => ?_) (fun c9 => ?_)
    · replace hf := (ite_s hf).1 c9
      refine V_aload_n (q := 24) C dX7_assignments_23 rfl rfl 0 rfl ?_
      refine V_iload_n (q := 25) C dX7_assignments_24 rfl rfl 1 rfl ?_
      refine V_aload_n (q := 26) C dX7_assignments_25 rfl rfl 0 rfl ?_
      refine GM_0_1 (q := 29) C q_1183 dX7_assignments_26 rfl ?_
      refine V_iconst (v := 1) (q := 30) C dX7_assignments_29 rfl ic_1 ?_
      refine RM_1 (z := 1) (q := 31) C tn_1 (inb_in (by decide)) dX7_assignments_30 rfl ?_
      obtain ⟨_u, σ10, h11, hf⟩ := bd_s hf
      refine V_callV (av := [.int a, .int (σ7 1 1)]) (st := []) (st1 := []) (q := 34) C 0 (by decide) (eM_0 G ad _) rfl rfl (conX7_startSearch _ _ _ _ _ _ _ h11) q_1388 q_114 q_1385 q_1387 q_81 nmX7_startSearch (by decide) rfl rfl (Nat.le_of_ble_eq_true rfl) dX7_assignments_31 rfl rfl ?_
      refine V_aload_n (q := 35) C dX7_assignments_34 rfl rfl 0 rfl ?_
      refine V_iload_n (q := 36) C dX7_assignments_35 rfl rfl 1 rfl ?_
      refine V_sipush (v := 1000) (q := 39) C dX7_assignments_36 rfl sc_1000 ?_
      obtain ⟨r12, σ13, h14, hf⟩ := bd_s hf
      refine V_callV (av := [.int a, .int (1000 : Int32)]) (st := []) (st1 := [.int r12]) (q := 42) C 0 (by decide) (eM_0 G ad _) rfl rfl (conX7_countUpTo _ _ _ _ _ _ _ _ h14) q_1392 q_114 q_1389 q_1391 q_82 nmX7_countUpTo (by decide) rfl rfl (Nat.le_of_ble_eq_true rfl) dX7_assignments_39 rfl rfl ?_
      obtain ⟨e1, e2⟩ := pr_s hf
      subst e1; subst e2
      exact V_iret C F (by decide) (by decide) dX7_assignments_42
    · replace hf := (ite_s hf).2 c9
      refine V_iconst (v := 0) (q := 22) C dX7_assignments_21 rfl ic_0 ?_
      obtain ⟨e1, e2⟩ := pr_s hf
      subst e1; subst e2
      exact V_iret C F (by decide) (by decide) dX7_assignments_22
  refine V_if_ne (t := 14) (q := 10) C dX7_assignments_7 (by decide) rfl (fun c15 => ?_) (fun c15 => ?_)
  · replace hf := (ite_s hf).2 c15
    refine V_iconst (v := 0) (q := 15) C dX7_assignments_14 rfl ic_0 ?_
    exact hJ15 _ _ hf
  · replace hf := (ite_s hf).1 c15
    refine V_iconst (v := 1) (q := 11) C dX7_assignments_10 rfl ic_1 ?_
    refine V_goto (t := 15) C dX7_assignments_11 (by decide) ?_
    exact hJ15 _ _ hf
def rmX7_stateOf : Room := { frames := 0, cells := 0, slots := 0, locals := 0 }
def fX7_stateOf (a : Int32) (σ : Sg) : Option (Int32 × Sg) := gd (inb (((316 : Int32) + ((σ 1 3) * (12 : Int32))) + a) 2764) (some ((σ 1 ((((316 : Int32) + ((σ 1 3) * (12 : Int32))) + a).toNatClampNeg)), σ))
set_option maxHeartbeats 4000000 in
theorem conX7_stateOf (l : Launch) (G : Gx) (ad : Nat → Nat) (a : Int32) (σ : Sg) (r : Int32) (σf : Sg)  (hf : fX7_stateOf a σ = some (r, σf)) : Con wM l G ad yX7_stateOf (Cond.code yX7_stateOf cX7_stateOf 2 (some .int)) rmX7_stateOf 0 0 [.ref (ad 0), .int a] σ (some (.int r)) σf := by
  refine Con.start (by decide) (Nat.le_of_ble_eq_true rfl) (fun X Q _ C F => ?_)
  refine V_eq (L' := [(0, .ref (ad 0)), (1, .int a)]) (st' := []) rfl rfl rfl ?_
  unfold fX7_stateOf at hf
  refine V_aload_n (q := 1) C dX7_stateOf_0 rfl rfl 0 rfl ?_
  refine GM_0_1 (q := 4) C q_1183 dX7_stateOf_1 rfl ?_
  refine V_sipush (v := 316) (q := 7) C dX7_stateOf_4 rfl sc_316 ?_
  refine V_aload_n (q := 8) C dX7_stateOf_7 rfl rfl 0 rfl ?_
  refine GM_0_1 (q := 11) C q_1183 dX7_stateOf_8 rfl ?_
  refine V_iconst (v := 3) (q := 12) C dX7_stateOf_11 rfl ic_3 ?_
  refine RM_1 (z := 3) (q := 13) C tn_3 (inb_in (by decide)) dX7_stateOf_12 rfl ?_
  refine V_bipush (v := 12) (q := 15) C dX7_stateOf_13 rfl bc_12 ?_
  refine V_imul (q := 16) C dX7_stateOf_15 rfl ?_
  refine V_iadd (q := 17) C dX7_stateOf_16 rfl ?_
  refine V_iload_n (q := 18) C dX7_stateOf_17 rfl rfl 1 rfl ?_
  refine V_iadd (q := 19) C dX7_stateOf_18 rfl ?_
  obtain ⟨g1, hf⟩ := gd_s hf
  refine RM_1 (z := (((316 : Int32) + ((σ 1 3) * (12 : Int32))) + a).toNatClampNeg) (q := 20) C rfl (inb_in g1) dX7_stateOf_19 rfl ?_
  obtain ⟨e1, e2⟩ := pr_s hf
  subst e1; subst e2
  exact V_iret C F (by decide) (by decide) dX7_stateOf_20
def rmX7_in : Room := { frames := 1, cells := 0, slots := 0, locals := 21 }
def fX7_in_4 (a : Int32) : Nat → Int32 → Int32 → Sg → Option (Int32 × Sg)
  | 0, _, _, _ => none
  | n + 1, x1, x2, σ3 => if (σ3 1 0) ≤ x2 then (some (x1, σ3)) else (bd (fX7_stateOf x2 σ3) (fun (r5 : Int32) (σ6 : Sg) => jp (fun (v8 : Int32) (σ9 : Sg) => lt' ((x1 ||| v8)) (fun (x10 : Int32) => fX7_in_4 a n x10 (x2 + (1 : Int32)) σ9)) (fun (J31 : Int32 → Sg → Option (Int32 × Sg)) => if r5 = a then (J31 ((1 : Int32) <<< (x2 &&& 31)) σ6) else (J31 (0 : Int32) σ6))))
def fX7_in (a : Int32) (σ : Sg) : Option (Int32 × Sg) := fX7_in_4 a FU (0 : Int32) (0 : Int32) σ
set_option maxHeartbeats 4000000 in
theorem wlX7_in_4 {X : Cx} {G : Gx} {ad : Nat → Nat} {Q : State → Prop} {r : Int32} {σf : Sg} (C : OK wM X G ad RX7 cX7_in 4 rmX7_in) (F : FinR wM X G ad Q 0 0 (some .int) (some (.int r)) σf) (a : Int32) : ∀ (n : Nat) (x1 : Int32) (x2 : Int32) (σ3 : Sg), fX7_in_4 a n x1 x2 σ3 = some (r, σf) → V wM X G ad 4 Q 0 0 σ3 4 [(0, .ref (ad 0)), (1, .int a), (2, .int x1), (3, .int x2)] [] := by
  intro n
  induction n with
  | zero =>
    intro _ _ _ hf
    exact absurd hf (by simp [fX7_in_4])
  | succ n ih =>
    intro x1 x2 σ3 hf
    rw [fX7_in_4] at hf
    refine V_iload_n (q := 5) C dX7_in_4 rfl rfl 3 rfl ?_
    refine V_aload_n (q := 6) C dX7_in_5 rfl rfl 0 rfl ?_
    refine GM_0_1 (q := 9) C q_1183 dX7_in_6 rfl ?_
    refine V_iconst (v := 0) (q := 10) C dX7_in_9 rfl ic_0 ?_
    refine RM_1 (z := 0) (q := 11) C tn_0 (inb_in (by decide)) dX7_in_10 rfl ?_
    refine V_icmp_ge (t := 39) (q := 14) C dX7_in_11 (by decide) rfl (fun c4 => ?_) (fun c4 => ?_)
    · replace hf := (ite_s hf).1 c4
      refine V_iload_n (q := 40) C dX7_in_39 rfl rfl 2 rfl ?_
      obtain ⟨e1, e2⟩ := pr_s hf
      subst e1; subst e2
      exact V_iret C F (by decide) (by decide) dX7_in_40
    · replace hf := (ite_s hf).2 c4
      refine V_iload_n (q := 15) C dX7_in_14 rfl rfl 2 rfl ?_
      refine V_aload_n (q := 16) C dX7_in_15 rfl rfl 0 rfl ?_
      refine V_iload_n (q := 17) C dX7_in_16 rfl rfl 3 rfl ?_
      obtain ⟨r5, σ6, h7, hf⟩ := bd_s hf
      refine V_callV (av := [.int x2]) (st := [.int x1]) (st1 := [.int r5, .int x1]) (q := 20) C 0 (by decide) (eM_0 G ad _) rfl rfl (conX7_stateOf _ _ _ _ _ _ _ h7) q_1460 q_114 q_1457 q_1459 q_93 nmX7_stateOf (by decide) rfl rfl (Nat.le_of_ble_eq_true rfl) dX7_in_17 rfl rfl ?_
      refine V_iload_n (q := 21) C dX7_in_20 rfl rfl 1 rfl ?_
      obtain ⟨J31, eJ31, hf⟩ := jp_s hf
      have hJ31 : ∀ (v8 : Int32) (σ9 : Sg), J31 v8 σ9 = some (r, σf) → V wM X G ad 4 Q 0 0 σ9 31 [(0, .ref (ad 0)), (1, .int a), (3, .int x2)] [.int v8, .int x1] := by
        intro v8 σ9 hf
        subst eJ31
        refine V_ior (q := 32) C dX7_in_31 rfl ?_
        refine V_let (cv := Value.int) hf (fun x10 hf => ?_)
        refine V_istore_n (L' := [(2, .int x10), (0, .ref (ad 0)), (1, .int a), (3, .int x2)]) (q := 33) C dX7_in_32 rfl rfl (by decide) rfl ?_
        refine V_iinc (L' := [(3, .int (x2 + (1 : Int32))), (2, .int x10), (0, .ref (ad 0)), (1, .int a)]) (q := 36) C dX7_in_33 rfl 3 rfl (congrArg (fun y => x2 + y) ic_1) (by decide) rfl ?_
        refine V_goto (t := 4) C dX7_in_36 (by decide) ?_
        refine V_sub (L' := [(0, .ref (ad 0)), (1, .int a), (2, .int x10), (3, .int (x2 + (1 : Int32)))]) [2, 3, 1, 0] rfl ?_
        exact ih _ _ _ hf
      refine V_icmp_ne (t := 30) (q := 24) C dX7_in_21 (by decide) rfl (fun c11 => ?_) (fun c11 => ?_)
      · replace hf := (ite_s hf).2 c11
        refine V_iconst (v := 0) (q := 31) C dX7_in_30 rfl ic_0 ?_
        refine V_sub (L' := [(0, .ref (ad 0)), (1, .int a), (3, .int x2)]) [0, 1, 3] rfl ?_
        exact hJ31 _ _ hf
      · replace hf := (ite_s hf).1 c11
        refine V_iconst (v := 1) (q := 25) C dX7_in_24 rfl ic_1 ?_
        refine V_iload_n (q := 26) C dX7_in_25 rfl rfl 3 rfl ?_
        refine V_ishl (q := 27) C dX7_in_26 rfl ?_
        refine V_goto (t := 31) C dX7_in_27 (by decide) ?_
        refine V_sub (L' := [(0, .ref (ad 0)), (1, .int a), (3, .int x2)]) [0, 1, 3] rfl ?_
        exact hJ31 _ _ hf
set_option maxHeartbeats 4000000 in
theorem conX7_in (l : Launch) (G : Gx) (ad : Nat → Nat) (a : Int32) (σ : Sg) (r : Int32) (σf : Sg)  (hf : fX7_in a σ = some (r, σf)) : Con wM l G ad yX7_in (Cond.code yX7_in cX7_in 4 (some .int)) rmX7_in 0 0 [.ref (ad 0), .int a] σ (some (.int r)) σf := by
  refine Con.start (by decide) (Nat.le_of_ble_eq_true rfl) (fun X Q _ C F => ?_)
  refine V_eq (L' := [(0, .ref (ad 0)), (1, .int a)]) (st' := []) rfl rfl rfl ?_
  unfold fX7_in at hf
  refine V_iconst (v := 0) (q := 1) C dX7_in_0 rfl ic_0 ?_
  refine V_istore_n (L' := [(2, .int (0 : Int32)), (0, .ref (ad 0)), (1, .int a)]) (q := 2) C dX7_in_1 rfl rfl (by decide) rfl ?_
  refine V_iconst (v := 0) (q := 3) C dX7_in_2 rfl ic_0 ?_
  refine V_istore_n (L' := [(3, .int (0 : Int32)), (2, .int (0 : Int32)), (0, .ref (ad 0)), (1, .int a)]) (q := 4) C dX7_in_3 rfl rfl (by decide) rfl ?_
  refine V_sub (L' := [(0, .ref (ad 0)), (1, .int a), (2, .int (0 : Int32)), (3, .int (0 : Int32))]) [2, 3, 1, 0] rfl ?_
  refine wlX7_in_4 C F a FU _ _ _ hf
def rmX7_priceNow : Room := { frames := 0, cells := 0, slots := 0, locals := 0 }
def fX7_priceNow (a : Int32) (σ : Sg) : Option (Int32 × Sg) := gd (inb (((1540 : Int32) + ((σ 1 3) * (12 : Int32))) + a) 2764) (some ((σ 1 ((((1540 : Int32) + ((σ 1 3) * (12 : Int32))) + a).toNatClampNeg)), σ))
set_option maxHeartbeats 4000000 in
theorem conX7_priceNow (l : Launch) (G : Gx) (ad : Nat → Nat) (a : Int32) (σ : Sg) (r : Int32) (σf : Sg)  (hf : fX7_priceNow a σ = some (r, σf)) : Con wM l G ad yX7_priceNow (Cond.code yX7_priceNow cX7_priceNow 2 (some .int)) rmX7_priceNow 0 0 [.ref (ad 0), .int a] σ (some (.int r)) σf := by
  refine Con.start (by decide) (Nat.le_of_ble_eq_true rfl) (fun X Q _ C F => ?_)
  refine V_eq (L' := [(0, .ref (ad 0)), (1, .int a)]) (st' := []) rfl rfl rfl ?_
  unfold fX7_priceNow at hf
  refine V_aload_n (q := 1) C dX7_priceNow_0 rfl rfl 0 rfl ?_
  refine GM_0_1 (q := 4) C q_1183 dX7_priceNow_1 rfl ?_
  refine V_sipush (v := 1540) (q := 7) C dX7_priceNow_4 rfl sc_1540 ?_
  refine V_aload_n (q := 8) C dX7_priceNow_7 rfl rfl 0 rfl ?_
  refine GM_0_1 (q := 11) C q_1183 dX7_priceNow_8 rfl ?_
  refine V_iconst (v := 3) (q := 12) C dX7_priceNow_11 rfl ic_3 ?_
  refine RM_1 (z := 3) (q := 13) C tn_3 (inb_in (by decide)) dX7_priceNow_12 rfl ?_
  refine V_bipush (v := 12) (q := 15) C dX7_priceNow_13 rfl bc_12 ?_
  refine V_imul (q := 16) C dX7_priceNow_15 rfl ?_
  refine V_iadd (q := 17) C dX7_priceNow_16 rfl ?_
  refine V_iload_n (q := 18) C dX7_priceNow_17 rfl rfl 1 rfl ?_
  refine V_iadd (q := 19) C dX7_priceNow_18 rfl ?_
  obtain ⟨g1, hf⟩ := gd_s hf
  refine RM_1 (z := (((1540 : Int32) + ((σ 1 3) * (12 : Int32))) + a).toNatClampNeg) (q := 20) C rfl (inb_in g1) dX7_priceNow_19 rfl ?_
  obtain ⟨e1, e2⟩ := pr_s hf
  subst e1; subst e2
  exact V_iret C F (by decide) (by decide) dX7_priceNow_20
def rmX7_sumPrices : Room := { frames := 1, cells := 0, slots := 0, locals := 21 }
def fX7_sumPrices_4 : Nat → Int32 → Int32 → Sg → Option (Int32 × Sg)
  | 0, _, _, _ => none
  | n + 1, x1, x2, σ3 => if (σ3 1 0) ≤ x2 then (some (x1, σ3)) else (bd (fX7_stateOf x2 σ3) (fun (r5 : Int32) (σ6 : Sg) => jp (fun (v8 : Int32) (σ9 : Sg) => lt' ((x1 + v8)) (fun (x10 : Int32) => fX7_sumPrices_4 n x10 (x2 + (1 : Int32)) σ9)) (fun (J33 : Int32 → Sg → Option (Int32 × Sg)) => if r5 = (2 : Int32) then (bd (fX7_priceNow x2 σ6) (fun (r12 : Int32) (σ13 : Sg) => J33 r12 σ13)) else (J33 (0 : Int32) σ6))))
def fX7_sumPrices  (σ : Sg) : Option (Int32 × Sg) := fX7_sumPrices_4 FU (0 : Int32) (0 : Int32) σ
set_option maxHeartbeats 4000000 in
theorem wlX7_sumPrices_4 {X : Cx} {G : Gx} {ad : Nat → Nat} {Q : State → Prop} {r : Int32} {σf : Sg} (C : OK wM X G ad RX7 cX7_sumPrices 3 rmX7_sumPrices) (F : FinR wM X G ad Q 0 0 (some .int) (some (.int r)) σf) : ∀ (n : Nat) (x1 : Int32) (x2 : Int32) (σ3 : Sg), fX7_sumPrices_4 n x1 x2 σ3 = some (r, σf) → V wM X G ad 3 Q 0 0 σ3 4 [(0, .ref (ad 0)), (1, .int x1), (2, .int x2)] [] := by
  intro n
  induction n with
  | zero =>
    intro _ _ _ hf
    exact absurd hf (by simp [fX7_sumPrices_4])
  | succ n ih =>
    intro x1 x2 σ3 hf
    rw [fX7_sumPrices_4] at hf
    refine V_iload_n (q := 5) C dX7_sumPrices_4 rfl rfl 2 rfl ?_
    refine V_aload_n (q := 6) C dX7_sumPrices_5 rfl rfl 0 rfl ?_
    refine GM_0_1 (q := 9) C q_1183 dX7_sumPrices_6 rfl ?_
    refine V_iconst (v := 0) (q := 10) C dX7_sumPrices_9 rfl ic_0 ?_
    refine RM_1 (z := 0) (q := 11) C tn_0 (inb_in (by decide)) dX7_sumPrices_10 rfl ?_
    refine V_icmp_ge (t := 41) (q := 14) C dX7_sumPrices_11 (by decide) rfl (fun c4 => ?_) (fun c4 => ?_)
    · replace hf := (ite_s hf).1 c4
      refine V_iload_n (q := 42) C dX7_sumPrices_41 rfl rfl 1 rfl ?_
      obtain ⟨e1, e2⟩ := pr_s hf
      subst e1; subst e2
      exact V_iret C F (by decide) (by decide) dX7_sumPrices_42
    · replace hf := (ite_s hf).2 c4
      refine V_iload_n (q := 15) C dX7_sumPrices_14 rfl rfl 1 rfl ?_
      refine V_aload_n (q := 16) C dX7_sumPrices_15 rfl rfl 0 rfl ?_
      refine V_iload_n (q := 17) C dX7_sumPrices_16 rfl rfl 2 rfl ?_
      obtain ⟨r5, σ6, h7, hf⟩ := bd_s hf
      refine V_callV (av := [.int x2]) (st := [.int x1]) (st1 := [.int r5, .int x1]) (q := 20) C 0 (by decide) (eM_0 G ad _) rfl rfl (conX7_stateOf _ _ _ _ _ _ _ h7) q_1460 q_114 q_1457 q_1459 q_93 nmX7_stateOf (by decide) rfl rfl (Nat.le_of_ble_eq_true rfl) dX7_sumPrices_17 rfl rfl ?_
      refine V_iconst (v := 2) (q := 21) C dX7_sumPrices_20 rfl ic_2 ?_
      obtain ⟨J33, eJ33, hf⟩ := jp_s hf
      have hJ33 : ∀ (v8 : Int32) (σ9 : Sg), J33 v8 σ9 = some (r, σf) → V wM X G ad 3 Q 0 0 σ9 33 [(0, .ref (ad 0)), (2, .int x2)] [.int v8, .int x1] := by
        intro v8 σ9 hf
        subst eJ33
        refine V_iadd (q := 34) C dX7_sumPrices_33 rfl ?_
        refine V_let (cv := Value.int) hf (fun x10 hf => ?_)
        refine V_istore_n (L' := [(1, .int x10), (0, .ref (ad 0)), (2, .int x2)]) (q := 35) C dX7_sumPrices_34 rfl rfl (by decide) rfl ?_
        refine V_iinc (L' := [(2, .int (x2 + (1 : Int32))), (1, .int x10), (0, .ref (ad 0))]) (q := 38) C dX7_sumPrices_35 rfl 2 rfl (congrArg (fun y => x2 + y) ic_1) (by decide) rfl ?_
        refine V_goto (t := 4) C dX7_sumPrices_38 (by decide) ?_
        refine V_sub (L' := [(0, .ref (ad 0)), (1, .int x10), (2, .int (x2 + (1 : Int32)))]) [2, 1, 0] rfl ?_
        exact ih _ _ _ hf
      refine V_icmp_ne (t := 32) (q := 24) C dX7_sumPrices_21 (by decide) rfl (fun c11 => ?_) (fun c11 => ?_)
      · replace hf := (ite_s hf).2 c11
        refine V_iconst (v := 0) (q := 33) C dX7_sumPrices_32 rfl ic_0 ?_
        refine V_sub (L' := [(0, .ref (ad 0)), (2, .int x2)]) [0, 2] rfl ?_
        exact hJ33 _ _ hf
      · replace hf := (ite_s hf).1 c11
        refine V_aload_n (q := 25) C dX7_sumPrices_24 rfl rfl 0 rfl ?_
        refine V_iload_n (q := 26) C dX7_sumPrices_25 rfl rfl 2 rfl ?_
        obtain ⟨r12, σ13, h14, hf⟩ := bd_s hf
        refine V_callV (av := [.int x2]) (st := [.int x1]) (st1 := [.int r12, .int x1]) (q := 29) C 0 (by decide) (eM_0 G ad _) rfl rfl (conX7_priceNow _ _ _ _ _ _ _ h14) q_1515 q_114 q_1512 q_1514 q_99 nmX7_priceNow (by decide) rfl rfl (Nat.le_of_ble_eq_true rfl) dX7_sumPrices_26 rfl rfl ?_
        refine V_goto (t := 33) C dX7_sumPrices_29 (by decide) ?_
        refine V_sub (L' := [(0, .ref (ad 0)), (2, .int x2)]) [0, 2] rfl ?_
        exact hJ33 _ _ hf
set_option maxHeartbeats 4000000 in
theorem conX7_sumPrices (l : Launch) (G : Gx) (ad : Nat → Nat)  (σ : Sg) (r : Int32) (σf : Sg)  (hf : fX7_sumPrices  σ = some (r, σf)) : Con wM l G ad yX7_sumPrices (Cond.code yX7_sumPrices cX7_sumPrices 3 (some .int)) rmX7_sumPrices 0 0 [.ref (ad 0)] σ (some (.int r)) σf := by
  refine Con.start (by decide) (Nat.le_of_ble_eq_true rfl) (fun X Q _ C F => ?_)
  refine V_eq (L' := [(0, .ref (ad 0))]) (st' := []) rfl rfl rfl ?_
  unfold fX7_sumPrices at hf
  refine V_iconst (v := 0) (q := 1) C dX7_sumPrices_0 rfl ic_0 ?_
  refine V_istore_n (L' := [(1, .int (0 : Int32)), (0, .ref (ad 0))]) (q := 2) C dX7_sumPrices_1 rfl rfl (by decide) rfl ?_
  refine V_iconst (v := 0) (q := 3) C dX7_sumPrices_2 rfl ic_0 ?_
  refine V_istore_n (L' := [(2, .int (0 : Int32)), (1, .int (0 : Int32)), (0, .ref (ad 0))]) (q := 4) C dX7_sumPrices_3 rfl rfl (by decide) rfl ?_
  refine V_sub (L' := [(0, .ref (ad 0)), (1, .int (0 : Int32)), (2, .int (0 : Int32))]) [2, 1, 0] rfl ?_
  refine wlX7_sumPrices_4 C F FU _ _ _ hf
def rmX7_sumValues : Room := { frames := 1, cells := 0, slots := 0, locals := 21 }
def fX7_sumValues_4 (a : Int32) : Nat → Int32 → Int32 → Sg → Option (Int32 × Sg)
  | 0, _, _, _ => none
  | n + 1, x1, x2, σ3 => if (σ3 1 0) ≤ x2 then (some (x1, σ3)) else (jp (fun (v5 : Int32) (σ6 : Sg) => lt' ((x1 + v5)) (fun (x7 : Int32) => fX7_sumValues_4 a n x7 (x2 + (1 : Int32)) σ6)) (fun (J36 : Int32 → Sg → Option (Int32 × Sg)) => if (pX7_has a x2) = 0 then (J36 (0 : Int32) σ3) else (gd (inb ((16 : Int32) + x2) 2764) (J36 (σ3 1 (((16 : Int32) + x2).toNatClampNeg)) σ3))))
def fX7_sumValues (a : Int32) (σ : Sg) : Option (Int32 × Sg) := fX7_sumValues_4 a FU (0 : Int32) (0 : Int32) σ
set_option maxHeartbeats 4000000 in
theorem wlX7_sumValues_4 {X : Cx} {G : Gx} {ad : Nat → Nat} {Q : State → Prop} {r : Int32} {σf : Sg} (C : OK wM X G ad RX7 cX7_sumValues 4 rmX7_sumValues) (F : FinR wM X G ad Q 0 0 (some .int) (some (.int r)) σf) (a : Int32) : ∀ (n : Nat) (x1 : Int32) (x2 : Int32) (σ3 : Sg), fX7_sumValues_4 a n x1 x2 σ3 = some (r, σf) → V wM X G ad 4 Q 0 0 σ3 4 [(0, .ref (ad 0)), (1, .int a), (2, .int x1), (3, .int x2)] [] := by
  intro n
  induction n with
  | zero =>
    intro _ _ _ hf
    exact absurd hf (by simp [fX7_sumValues_4])
  | succ n ih =>
    intro x1 x2 σ3 hf
    rw [fX7_sumValues_4] at hf
    refine V_iload_n (q := 5) C dX7_sumValues_4 rfl rfl 3 rfl ?_
    refine V_aload_n (q := 6) C dX7_sumValues_5 rfl rfl 0 rfl ?_
    refine GM_0_1 (q := 9) C q_1183 dX7_sumValues_6 rfl ?_
    refine V_iconst (v := 0) (q := 10) C dX7_sumValues_9 rfl ic_0 ?_
    refine RM_1 (z := 0) (q := 11) C tn_0 (inb_in (by decide)) dX7_sumValues_10 rfl ?_
    refine V_icmp_ge (t := 44) (q := 14) C dX7_sumValues_11 (by decide) rfl (fun c4 => ?_) (fun c4 => ?_)
    · replace hf := (ite_s hf).1 c4
      refine V_iload_n (q := 45) C dX7_sumValues_44 rfl rfl 2 rfl ?_
      obtain ⟨e1, e2⟩ := pr_s hf
      subst e1; subst e2
      exact V_iret C F (by decide) (by decide) dX7_sumValues_45
    · replace hf := (ite_s hf).2 c4
      refine V_iload_n (q := 15) C dX7_sumValues_14 rfl rfl 2 rfl ?_
      refine V_iload_n (q := 16) C dX7_sumValues_15 rfl rfl 1 rfl ?_
      refine V_iload_n (q := 17) C dX7_sumValues_16 rfl rfl 3 rfl ?_
      refine V_callS (av := [.int a, .int x2]) (st := [.int x1]) (st1 := [.int (pX7_has a x2), .int x1]) (q := 20) C (conX7_has _ _ _ _ _ _ _ rfl) q_1314 q_114 q_1312 q_1313 nmX7_has (by decide) rfl rfl (Nat.le_of_ble_eq_true rfl) dX7_sumValues_17 rfl rfl ?_
      obtain ⟨J36, eJ36, hf⟩ := jp_s hf
      have hJ36 : ∀ (v5 : Int32) (σ6 : Sg), J36 v5 σ6 = some (r, σf) → V wM X G ad 4 Q 0 0 σ6 36 [(0, .ref (ad 0)), (1, .int a), (3, .int x2)] [.int v5, .int x1] := by
        intro v5 σ6 hf
        subst eJ36
        refine V_iadd (q := 37) C dX7_sumValues_36 rfl ?_
        refine V_let (cv := Value.int) hf (fun x7 hf => ?_)
        refine V_istore_n (L' := [(2, .int x7), (0, .ref (ad 0)), (1, .int a), (3, .int x2)]) (q := 38) C dX7_sumValues_37 rfl rfl (by decide) rfl ?_
        refine V_iinc (L' := [(3, .int (x2 + (1 : Int32))), (2, .int x7), (0, .ref (ad 0)), (1, .int a)]) (q := 41) C dX7_sumValues_38 rfl 3 rfl (congrArg (fun y => x2 + y) ic_1) (by decide) rfl ?_
        refine V_goto (t := 4) C dX7_sumValues_41 (by decide) ?_
        refine V_sub (L' := [(0, .ref (ad 0)), (1, .int a), (2, .int x7), (3, .int (x2 + (1 : Int32)))]) [2, 3, 1, 0] rfl ?_
        exact ih _ _ _ hf
      refine V_if_eq (t := 35) (q := 23) C dX7_sumValues_20 (by decide) rfl (fun c8 => ?_) (fun c8 => ?_)
      · replace hf := (ite_s hf).1 c8
        refine V_iconst (v := 0) (q := 36) C dX7_sumValues_35 rfl ic_0 ?_
        refine V_sub (L' := [(0, .ref (ad 0)), (1, .int a), (3, .int x2)]) [0, 1, 3] rfl ?_
        exact hJ36 _ _ hf
      · replace hf := (ite_s hf).2 c8
        refine V_aload_n (q := 24) C dX7_sumValues_23 rfl rfl 0 rfl ?_
        refine GM_0_1 (q := 27) C q_1183 dX7_sumValues_24 rfl ?_
        refine V_bipush (v := 16) (q := 29) C dX7_sumValues_27 rfl bc_16 ?_
        refine V_iload_n (q := 30) C dX7_sumValues_29 rfl rfl 3 rfl ?_
        refine V_iadd (q := 31) C dX7_sumValues_30 rfl ?_
        obtain ⟨g9, hf⟩ := gd_s hf
        refine RM_1 (z := ((16 : Int32) + x2).toNatClampNeg) (q := 32) C rfl (inb_in g9) dX7_sumValues_31 rfl ?_
        refine V_goto (t := 36) C dX7_sumValues_32 (by decide) ?_
        refine V_sub (L' := [(0, .ref (ad 0)), (1, .int a), (3, .int x2)]) [0, 1, 3] rfl ?_
        exact hJ36 _ _ hf
set_option maxHeartbeats 4000000 in
theorem conX7_sumValues (l : Launch) (G : Gx) (ad : Nat → Nat) (a : Int32) (σ : Sg) (r : Int32) (σf : Sg)  (hf : fX7_sumValues a σ = some (r, σf)) : Con wM l G ad yX7_sumValues (Cond.code yX7_sumValues cX7_sumValues 4 (some .int)) rmX7_sumValues 0 0 [.ref (ad 0), .int a] σ (some (.int r)) σf := by
  refine Con.start (by decide) (Nat.le_of_ble_eq_true rfl) (fun X Q _ C F => ?_)
  refine V_eq (L' := [(0, .ref (ad 0)), (1, .int a)]) (st' := []) rfl rfl rfl ?_
  unfold fX7_sumValues at hf
  refine V_iconst (v := 0) (q := 1) C dX7_sumValues_0 rfl ic_0 ?_
  refine V_istore_n (L' := [(2, .int (0 : Int32)), (0, .ref (ad 0)), (1, .int a)]) (q := 2) C dX7_sumValues_1 rfl rfl (by decide) rfl ?_
  refine V_iconst (v := 0) (q := 3) C dX7_sumValues_2 rfl ic_0 ?_
  refine V_istore_n (L' := [(3, .int (0 : Int32)), (2, .int (0 : Int32)), (0, .ref (ad 0)), (1, .int a)]) (q := 4) C dX7_sumValues_3 rfl rfl (by decide) rfl ?_
  refine V_sub (L' := [(0, .ref (ad 0)), (1, .int a), (2, .int (0 : Int32)), (3, .int (0 : Int32))]) [2, 3, 1, 0] rfl ?_
  refine wlX7_sumValues_4 C F a FU _ _ _ hf
def rmX7_auction : Room := { frames := 2, cells := 0, slots := 0, locals := 44 }
def fX7_auction (a : Int32) (σ : Sg) : Option (Int32 × Sg) := jp (fun (v1 : Int32) (σ2 : Sg) => bd (fX7_fails (1 : Int32) v1 σ2) (fun (r3 : Int32) (σ4 : Sg) => if r3 = 0 then (bd (fX7_isKnown  σ4) (fun (r7 : Int32) (σ8 : Sg) => jp (fun (v10 : Int32) (σ11 : Sg) => bd (fX7_fails (2 : Int32) v10 σ11) (fun (r12 : Int32) (σ13 : Sg) => if r12 = 0 then (jp (fun (σ16 : Sg) => bd (fX7_in (a - (2 : Int32)) σ16) (fun (r17 : Int32) (σ18 : Sg) => some (r17, σ18))) (fun (J125 : Sg → Option (Int32 × Sg)) => if a = (0 : Int32) then (some ((σ13 1 3), σ13)) else if a = (1 : Int32) then (gd (inb ((112 : Int32) + (σ13 1 3)) 2764) (some ((σ13 1 (((112 : Int32) + (σ13 1 3)).toNatClampNeg)), σ13))) else if a = (2 : Int32) then (J125  σ13) else if a = (3 : Int32) then (J125  σ13) else if a = (4 : Int32) then (J125  σ13) else if a = (5 : Int32) then (bd (fX7_sumPrices  σ13) (fun (r27 : Int32) (σ28 : Sg) => some (r27, σ28))) else if a = (6 : Int32) then (bd (fX7_in (2 : Int32) σ13) (fun (r31 : Int32) (σ32 : Sg) => bd (fX7_sumValues r31 σ32) (fun (r34 : Int32) (σ35 : Sg) => some (r34, σ35)))) else (J125  σ13))) else (some ((0 : Int32), σ13)))) (fun (J37 : Int32 → Sg → Option (Int32 × Sg)) => if r7 = 0 then (J37 (1 : Int32) σ8) else (J37 (0 : Int32) σ8)))) else (some ((0 : Int32), σ4)))) (fun (J17 : Int32 → Sg → Option (Int32 × Sg)) => if (pX7_isBetween a (0 : Int32) (6 : Int32)) = 0 then (J17 (1 : Int32) σ) else (J17 (0 : Int32) σ))
set_option maxHeartbeats 4000000 in
theorem conX7_auction (l : Launch) (G : Gx) (ad : Nat → Nat) (a : Int32) (σ : Sg) (r : Int32) (σf : Sg)  (hf : fX7_auction a σ = some (r, σf)) : Con wM l G ad yX7_auction (Cond.code yX7_auction cX7_auction 2 (some .int)) rmX7_auction 0 0 [.ref (ad 0), .int a] σ (some (.int r)) σf := by
  refine Con.start (by decide) (Nat.le_of_ble_eq_true rfl) (fun X Q _ C F => ?_)
  refine V_eq (L' := [(0, .ref (ad 0)), (1, .int a)]) (st' := []) rfl rfl rfl ?_
  unfold fX7_auction at hf
  refine V_aload_n (q := 1) C dX7_auction_0 rfl rfl 0 rfl ?_
  refine V_iconst (v := 1) (q := 2) C dX7_auction_1 rfl ic_1 ?_
  refine V_iload_n (q := 3) C dX7_auction_2 rfl rfl 1 rfl ?_
  refine V_iconst (v := 0) (q := 4) C dX7_auction_3 rfl ic_0 ?_
  refine V_bipush (v := 6) (q := 6) C dX7_auction_4 rfl bc_6 ?_
  refine V_callS (av := [.int a, .int (0 : Int32), .int (6 : Int32)]) (st := [.int (1 : Int32), .ref (ad 0)]) (st1 := [.int (pX7_isBetween a (0 : Int32) (6 : Int32)), .int (1 : Int32), .ref (ad 0)]) (q := 9) C (conX7_isBetween _ _ _ _ _ _ _ _ rfl) q_1247 q_114 q_1245 q_1246 nmX7_isBetween (by decide) rfl rfl (Nat.le_of_ble_eq_true rfl) dX7_auction_6 rfl rfl ?_
  obtain ⟨J17, eJ17, hf⟩ := jp_s hf
  have hJ17 : ∀ (v1 : Int32) (σ2 : Sg), J17 v1 σ2 = some (r, σf) → V wM X G ad 2 Q 0 0 σ2 17 [(0, .ref (ad 0)), (1, .int a)] [.int v1, .int (1 : Int32), .ref (ad 0)] := by
    intro v1 σ2 hf
    subst eJ17
    obtain ⟨r3, σ4, h5, hf⟩ := bd_s hf
    refine V_callV (av := [.int (1 : Int32), .int v1]) (st := []) (st1 := [.int r3]) (q := 20) C 0 (by decide) (eM_0 G ad _) rfl rfl (conX7_fails _ _ _ _ _ _ _ _ h5) q_1251 q_114 q_1248 q_1250 q_64 nmX7_fails (by decide) rfl rfl (Nat.le_of_ble_eq_true rfl) dX7_auction_17 rfl rfl ?_
    refine V_if_ne (t := 43) (q := 23) C dX7_auction_20 (by decide) rfl (fun c6 => ?_) (fun c6 => ?_)
    · replace hf := (ite_s hf).2 c6
      refine V_iconst (v := 0) (q := 44) C dX7_auction_43 rfl ic_0 ?_
      obtain ⟨e1, e2⟩ := pr_s hf
      subst e1; subst e2
      exact V_iret C F (by decide) (by decide) dX7_auction_44
    · replace hf := (ite_s hf).1 c6
      refine V_aload_n (q := 24) C dX7_auction_23 rfl rfl 0 rfl ?_
      refine V_iconst (v := 2) (q := 25) C dX7_auction_24 rfl ic_2 ?_
      refine V_aload_n (q := 26) C dX7_auction_25 rfl rfl 0 rfl ?_
      obtain ⟨r7, σ8, h9, hf⟩ := bd_s hf
      refine V_callV (av := []) (st := [.int (2 : Int32), .ref (ad 0)]) (st1 := [.int r7, .int (2 : Int32), .ref (ad 0)]) (q := 29) C 0 (by decide) (eM_0 G ad _) rfl rfl (conX7_isKnown _ _ _  _ _ _ h9) q_1255 q_114 q_1252 q_1254 q_65 nmX7_isKnown (by decide) rfl rfl (Nat.le_of_ble_eq_true rfl) dX7_auction_26 rfl rfl ?_
      obtain ⟨J37, eJ37, hf⟩ := jp_s hf
      have hJ37 : ∀ (v10 : Int32) (σ11 : Sg), J37 v10 σ11 = some (r, σf) → V wM X G ad 2 Q 0 0 σ11 37 [(0, .ref (ad 0)), (1, .int a)] [.int v10, .int (2 : Int32), .ref (ad 0)] := by
        intro v10 σ11 hf
        subst eJ37
        obtain ⟨r12, σ13, h14, hf⟩ := bd_s hf
        refine V_callV (av := [.int (2 : Int32), .int v10]) (st := []) (st1 := [.int r12]) (q := 40) C 0 (by decide) (eM_0 G ad _) rfl rfl (conX7_fails _ _ _ _ _ _ _ _ h14) q_1251 q_114 q_1248 q_1250 q_64 nmX7_fails (by decide) rfl rfl (Nat.le_of_ble_eq_true rfl) dX7_auction_37 rfl rfl ?_
        refine V_if_eq (t := 45) (q := 43) C dX7_auction_40 (by decide) rfl (fun c15 => ?_) (fun c15 => ?_)
        · replace hf := (ite_s hf).1 c15
          refine V_iload_n (q := 46) C dX7_auction_45 rfl rfl 1 rfl ?_
          obtain ⟨J125, eJ125, hf⟩ := jp_s hf
          have hJ125 : ∀ (σ16 : Sg), J125 σ16 = some (r, σf) → V wM X G ad 2 Q 0 0 σ16 125 [(0, .ref (ad 0)), (1, .int a)] [] := by
            intro σ16 hf
            subst eJ125
            refine V_aload_n (q := 126) C dX7_auction_125 rfl rfl 0 rfl ?_
            refine V_iload_n (q := 127) C dX7_auction_126 rfl rfl 1 rfl ?_
            refine V_iconst (v := 2) (q := 128) C dX7_auction_127 rfl ic_2 ?_
            refine V_isub (q := 129) C dX7_auction_128 rfl ?_
            obtain ⟨r17, σ18, h19, hf⟩ := bd_s hf
            refine V_callV (av := [.int (a - (2 : Int32))]) (st := []) (st1 := [.int r17]) (q := 132) C 0 (by decide) (eM_0 G ad _) rfl rfl (conX7_in _ _ _ _ _ _ _ h19) q_1468 q_114 q_1465 q_1467 q_95 nmX7_in (by decide) rfl rfl (Nat.le_of_ble_eq_true rfl) dX7_auction_129 rfl rfl ?_
            obtain ⟨e1, e2⟩ := pr_s hf
            subst e1; subst e2
            exact V_iret C F (by decide) (by decide) dX7_auction_132
          by_cases c20 : a = (0 : Int32)
          · replace hf := (ite_s hf).1 c20
            refine V_tabIn (t := 88) C dX7_auction_46 (by rw [c20]; decide) (by rw [c20]; decide) (off := 42) (by rw [c20]; decide) (by decide) ?_
            refine V_aload_n (q := 89) C dX7_auction_88 rfl rfl 0 rfl ?_
            refine GM_0_1 (q := 92) C q_1183 dX7_auction_89 rfl ?_
            refine V_iconst (v := 3) (q := 93) C dX7_auction_92 rfl ic_3 ?_
            refine RM_1 (z := 3) (q := 94) C tn_3 (inb_in (by decide)) dX7_auction_93 rfl ?_
            obtain ⟨e1, e2⟩ := pr_s hf
            subst e1; subst e2
            exact V_iret C F (by decide) (by decide) dX7_auction_94
          · replace hf := (ite_s hf).2 c20
            by_cases c21 : a = (1 : Int32)
            · replace hf := (ite_s hf).1 c21
              refine V_tabIn (t := 95) C dX7_auction_46 (by rw [c21]; decide) (by rw [c21]; decide) (off := 49) (by rw [c21]; decide) (by decide) ?_
              refine V_aload_n (q := 96) C dX7_auction_95 rfl rfl 0 rfl ?_
              refine GM_0_1 (q := 99) C q_1183 dX7_auction_96 rfl ?_
              refine V_bipush (v := 112) (q := 101) C dX7_auction_99 rfl bc_112 ?_
              refine V_aload_n (q := 102) C dX7_auction_101 rfl rfl 0 rfl ?_
              refine GM_0_1 (q := 105) C q_1183 dX7_auction_102 rfl ?_
              refine V_iconst (v := 3) (q := 106) C dX7_auction_105 rfl ic_3 ?_
              refine RM_1 (z := 3) (q := 107) C tn_3 (inb_in (by decide)) dX7_auction_106 rfl ?_
              refine V_iadd (q := 108) C dX7_auction_107 rfl ?_
              obtain ⟨g22, hf⟩ := gd_s hf
              refine RM_1 (z := ((112 : Int32) + (σ13 1 3)).toNatClampNeg) (q := 109) C rfl (inb_in g22) dX7_auction_108 rfl ?_
              obtain ⟨e1, e2⟩ := pr_s hf
              subst e1; subst e2
              exact V_iret C F (by decide) (by decide) dX7_auction_109
            · replace hf := (ite_s hf).2 c21
              by_cases c23 : a = (2 : Int32)
              · replace hf := (ite_s hf).1 c23
                refine V_tabIn (t := 125) C dX7_auction_46 (by rw [c23]; decide) (by rw [c23]; decide) (off := 79) (by rw [c23]; decide) (by decide) ?_
                exact hJ125 _ hf
              · replace hf := (ite_s hf).2 c23
                by_cases c24 : a = (3 : Int32)
                · replace hf := (ite_s hf).1 c24
                  refine V_tabIn (t := 125) C dX7_auction_46 (by rw [c24]; decide) (by rw [c24]; decide) (off := 79) (by rw [c24]; decide) (by decide) ?_
                  exact hJ125 _ hf
                · replace hf := (ite_s hf).2 c24
                  by_cases c25 : a = (4 : Int32)
                  · replace hf := (ite_s hf).1 c25
                    refine V_tabIn (t := 125) C dX7_auction_46 (by rw [c25]; decide) (by rw [c25]; decide) (off := 79) (by rw [c25]; decide) (by decide) ?_
                    exact hJ125 _ hf
                  · replace hf := (ite_s hf).2 c25
                    by_cases c26 : a = (5 : Int32)
                    · replace hf := (ite_s hf).1 c26
                      refine V_tabIn (t := 110) C dX7_auction_46 (by rw [c26]; decide) (by rw [c26]; decide) (off := 64) (by rw [c26]; decide) (by decide) ?_
                      refine V_aload_n (q := 111) C dX7_auction_110 rfl rfl 0 rfl ?_
                      obtain ⟨r27, σ28, h29, hf⟩ := bd_s hf
                      refine V_callV (av := []) (st := []) (st1 := [.int r27]) (q := 114) C 0 (by decide) (eM_0 G ad _) rfl rfl (conX7_sumPrices _ _ _  _ _ _ h29) q_1527 q_114 q_1524 q_1526 q_100 nmX7_sumPrices (by decide) rfl rfl (Nat.le_of_ble_eq_true rfl) dX7_auction_111 rfl rfl ?_
                      obtain ⟨e1, e2⟩ := pr_s hf
                      subst e1; subst e2
                      exact V_iret C F (by decide) (by decide) dX7_auction_114
                    · replace hf := (ite_s hf).2 c26
                      by_cases c30 : a = (6 : Int32)
                      · replace hf := (ite_s hf).1 c30
                        refine V_tabIn (t := 115) C dX7_auction_46 (by rw [c30]; decide) (by rw [c30]; decide) (off := 69) (by rw [c30]; decide) (by decide) ?_
                        refine V_aload_n (q := 116) C dX7_auction_115 rfl rfl 0 rfl ?_
                        refine V_aload_n (q := 117) C dX7_auction_116 rfl rfl 0 rfl ?_
                        refine V_iconst (v := 2) (q := 118) C dX7_auction_117 rfl ic_2 ?_
                        obtain ⟨r31, σ32, h33, hf⟩ := bd_s hf
                        refine V_callV (av := [.int (2 : Int32)]) (st := [.ref (ad 0)]) (st1 := [.int r31, .ref (ad 0)]) (q := 121) C 0 (by decide) (eM_0 G ad _) rfl rfl (conX7_in _ _ _ _ _ _ _ h33) q_1468 q_114 q_1465 q_1467 q_95 nmX7_in (by decide) rfl rfl (Nat.le_of_ble_eq_true rfl) dX7_auction_118 rfl rfl ?_
                        obtain ⟨r34, σ35, h36, hf⟩ := bd_s hf
                        refine V_callV (av := [.int r31]) (st := []) (st1 := [.int r34]) (q := 124) C 0 (by decide) (eM_0 G ad _) rfl rfl (conX7_sumValues _ _ _ _ _ _ _ h36) q_1531 q_114 q_1528 q_1530 q_101 nmX7_sumValues (by decide) rfl rfl (Nat.le_of_ble_eq_true rfl) dX7_auction_121 rfl rfl ?_
                        obtain ⟨e1, e2⟩ := pr_s hf
                        subst e1; subst e2
                        exact V_iret C F (by decide) (by decide) dX7_auction_124
                      · replace hf := (ite_s hf).2 c30
                        refine V_tabOut (t := 125) C dX7_auction_46 (sw_out (h := 6) (by decide) (fun i hi => ?_)) (by decide) ?_
                        · match i, hi with
                          | 0, _ => exact c20
                          | 1, _ => exact c21
                          | 2, _ => exact c23
                          | 3, _ => exact c24
                          | 4, _ => exact c25
                          | 5, _ => exact c26
                          | 6, _ => exact c30
                          | i + 7, h => exact absurd h (by omega)
                        · exact hJ125 _ hf
        · replace hf := (ite_s hf).2 c15
          refine V_iconst (v := 0) (q := 44) C dX7_auction_43 rfl ic_0 ?_
          obtain ⟨e1, e2⟩ := pr_s hf
          subst e1; subst e2
          exact V_iret C F (by decide) (by decide) dX7_auction_44
      refine V_if_ne (t := 36) (q := 32) C dX7_auction_29 (by decide) rfl (fun c37 => ?_) (fun c37 => ?_)
      · replace hf := (ite_s hf).2 c37
        refine V_iconst (v := 0) (q := 37) C dX7_auction_36 rfl ic_0 ?_
        exact hJ37 _ _ hf
      · replace hf := (ite_s hf).1 c37
        refine V_iconst (v := 1) (q := 33) C dX7_auction_32 rfl ic_1 ?_
        refine V_goto (t := 37) C dX7_auction_33 (by decide) ?_
        exact hJ37 _ _ hf
  refine V_if_ne (t := 16) (q := 12) C dX7_auction_9 (by decide) rfl (fun c38 => ?_) (fun c38 => ?_)
  · replace hf := (ite_s hf).2 c38
    refine V_iconst (v := 0) (q := 17) C dX7_auction_16 rfl ic_0 ?_
    exact hJ17 _ _ hf
  · replace hf := (ite_s hf).1 c38
    refine V_iconst (v := 1) (q := 13) C dX7_auction_12 rfl ic_1 ?_
    refine V_goto (t := 17) C dX7_auction_13 (by decide) ?_
    exact hJ17 _ _ hf
