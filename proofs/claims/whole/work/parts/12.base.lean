/-! Small words of the printed walks -/
def rI (r : String ⊕ Int32) : String ⊕ Option Value := match r with
  | .inl e => .inl e
  | .inr a => .inr (some (.int a))
def rL (r : String ⊕ Int64) : String ⊕ Option Value := match r with
  | .inl e => .inl e
  | .inr a => .inr (some (.long a))
def rU (r : String ⊕ Unit) : String ⊕ Option Value := match r with
  | .inl e => .inl e
  | .inr _ => .inr none
theorem rI_l {r : String ⊕ Int32} {e : String} (h : rI r = .inl e) : r = .inl e := by cases r <;> simp_all [rI]
theorem rL_l {r : String ⊕ Int64} {e : String} (h : rL r = .inl e) : r = .inl e := by cases r <;> simp_all [rL]
theorem rU_l {r : String ⊕ Unit} {e : String} (h : rU r = .inl e) : r = .inl e := by cases r <;> simp_all [rU]
theorem rI_r {r : String ⊕ Int32} {v : Option Value} (h : rI r = .inr v) : ∃ a, r = .inr a ∧ v = some (.int a) := by
  cases r with
  | inl e => cases h
  | inr a => exact ⟨a, rfl, (Sum.inr.inj h).symm⟩
theorem rL_r {r : String ⊕ Int64} {v : Option Value} (h : rL r = .inr v) : ∃ a, r = .inr a ∧ v = some (.long a) := by
  cases r with
  | inl e => cases h
  | inr a => exact ⟨a, rfl, (Sum.inr.inj h).symm⟩
theorem rU_r {r : String ⊕ Unit} {v : Option Value} (h : rU r = .inr v) : ∃ a, r = .inr a ∧ v = none := by
  cases r with
  | inl e => cases h
  | inr a => exact ⟨a, rfl, (Sum.inr.inj h).symm⟩
theorem jp_s {J γ : Type} {j : J} {k : J → γ} {o : γ} (h : jp j k = o) : ∃ J1, J1 = j ∧ k J1 = o := ⟨j, rfl, h⟩
def nch (x : Int32) : Bool := decide (narrow .char (.int x) = .int x)
theorem nch_s {x : Int32} (h : nch x = true) : narrow .char (.int x) = .int x := by
  unfold nch at h
  exact of_decide_eq_true h
theorem rmk {rm rm2 : Room} {c2 s2 maxL k n : Nat} (h1 : rm2.cells = c2) (h2 : rm2.slots = s2) (h3 : rm2.frames + 1 ≤ rm.frames) (h4 : 8 + (maxL + 11) + rm2.locals ≤ rm.locals) (h5 : k + c2 ≤ rm.cells) (h6 : n + s2 ≤ rm.slots) : RmOK rm rm2 c2 s2 maxL k n := ⟨h1, h2, h3, h4, h5, h6⟩
section VB
variable {T : Type} {w : Wd T} {X : Cx} {G : Gx} {ad : Nat → Nat} {own : String} {cc : ByteArray} {nL k n pc q : Nat} {rm : Room} {Q : State → Prop} {τ τ' : T} {L : List (Nat × Value)} {st : List Value}
theorem V_let {α γ : Type} {cv : α → Value} {a : α} {F : α → γ} {o : γ} (hf : lt' a F = o) (kk : ∀ y, F y = o → V w X G ad nL Q k n τ pc L (cv y :: st)) : V w X G ad nL Q k n τ pc L (cv a :: st) := kk a hf
theorem V_lets {γ : Type} {F : T → γ} {o : γ} (hf : lt' τ F = o) (kk : ∀ y, F y = o → V w X G ad nL Q k n y pc L st) : V w X G ad nL Q k n τ pc L st := kk τ hf
theorem V_copy0 (C : OK w X G ad own cc nL rm) (i j : Nat) {index z m0 m1 : Nat} {f g : Nat → Int32} {m : Int32} (hi : i < w.1) (hj : j < w.1) (hen0 : w.2 G ad i τ = .inl (G.2.1, m0, .inl f)) (hen : w.2 G ad j τ = .inl (G.2.1, m1, .inl g)) (hz : m.toNatClampNeg = z) (h3 : ¬ m < 0) (h4 : z ≤ m0) (h5 : z ≤ m1)
    (hen2 : w.2 G ad j τ' = .inl (G.2.1, m1, .inl (va_cpy f g 0 0 z))) (ho : ∀ i, i < w.1 → i ≠ j → w.2 G ad i τ' = w.2 G ad i τ)
    (hlk : Cond.methodLink own index arraycopyName ∈ lw_tbl) (hnat : Cond.native arraycopyName ∈ lw_tbl) (hst : Cond.static arraycopyName ∈ lw_tbl) (hini : Cond.initialized "java/lang/System" ∈ lw_tbl) (hRf : 1 ≤ rm.frames) (hRl : (st.map fun v => v.category).sum + 40 ≤ rm.locals) (d : decode cc pc = .ok (.invokestatic index, 3)) (e : pc + 3 = q) (kk : V w X G ad nL Q k n τ' q L st) : V w X G ad nL Q k n τ pc L (.int m :: .int 0 :: .ref (ad j) :: .int 0 :: .ref (ad i) :: st) := by
  subst hz
  have h0 : (0 : Int32).toNatClampNeg = 0 := by decide
  exact V_copy C i j hi hj hen0 hen (by decide) (by decide) h3 (by rw [h0]; omega) (by rw [h0]; omega) (by rw [h0]; exact hen2) ho hlk hnat hst hini hRf hRl d e kk
end VB
theorem bc_10 : (Int8.ofInt 10).toInt32 = (10 : Int32) := by decide
theorem bc_100 : (Int8.ofInt 100).toInt32 = (100 : Int32) := by decide
theorem bc_101 : (Int8.ofInt 101).toInt32 = (101 : Int32) := by decide
theorem bc_112 : (Int8.ofInt 112).toInt32 = (112 : Int32) := by decide
theorem bc_12 : (Int8.ofInt 12).toInt32 = (12 : Int32) := by decide
theorem bc_126 : (Int8.ofInt 126).toInt32 = (126 : Int32) := by decide
theorem bc_127 : (Int8.ofInt 127).toInt32 = (127 : Int32) := by decide
theorem bc_16 : (Int8.ofInt 16).toInt32 = (16 : Int32) := by decide
theorem bc_23 : (Int8.ofInt 23).toInt32 = (23 : Int32) := by decide
theorem bc_24 : (Int8.ofInt 24).toInt32 = (24 : Int32) := by decide
theorem bc_28 : (Int8.ofInt 28).toInt32 = (28 : Int32) := by decide
theorem bc_33 : (Int8.ofInt 33).toInt32 = (33 : Int32) := by decide
theorem bc_40 : (Int8.ofInt 40).toInt32 = (40 : Int32) := by decide
theorem bc_45 : (Int8.ofInt 45).toInt32 = (45 : Int32) := by decide
theorem bc_48 : (Int8.ofInt 48).toInt32 = (48 : Int32) := by decide
theorem bc_49 : (Int8.ofInt 49).toInt32 = (49 : Int32) := by decide
theorem bc_52 : (Int8.ofInt 52).toInt32 = (52 : Int32) := by decide
theorem bc_57 : (Int8.ofInt 57).toInt32 = (57 : Int32) := by decide
theorem bc_59 : (Int8.ofInt 59).toInt32 = (59 : Int32) := by decide
theorem bc_6 : (Int8.ofInt 6).toInt32 = (6 : Int32) := by decide
theorem bc_63 : (Int8.ofInt 63).toInt32 = (63 : Int32) := by decide
theorem bc_64 : (Int8.ofInt 64).toInt32 = (64 : Int32) := by decide
theorem bc_7 : (Int8.ofInt 7).toInt32 = (7 : Int32) := by decide
theorem bc_76 : (Int8.ofInt 76).toInt32 = (76 : Int32) := by decide
theorem bc_8 : (Int8.ofInt 8).toInt32 = (8 : Int32) := by decide
theorem bc_88 : (Int8.ofInt 88).toInt32 = (88 : Int32) := by decide
theorem bc_9 : (Int8.ofInt 9).toInt32 = (9 : Int32) := by decide
theorem bc_97 : (Int8.ofInt 97).toInt32 = (97 : Int32) := by decide
theorem bc_99 : (Int8.ofInt 99).toInt32 = (99 : Int32) := by decide
theorem xa_100 : ∀ z ∈ vx_atS RX6 100 "java/lang/IllegalStateException" ["java/lang/RuntimeException", "java/lang/Exception"], z ∈ lw_tbl ∧ (goodWord z || warmW z) = true := by decide +kernel
theorem xg_100 : ∀ z ∈ Cond.classLink RX6 96 "java/lang/IllegalStateException" :: Cond.initialized "java/lang/IllegalStateException" :: vx_atS RX6 100 "java/lang/IllegalStateException" ["java/lang/RuntimeException", "java/lang/Exception"], vx_ot z = true := by decide +kernel
theorem xa_168 : ∀ z ∈ vx_atS RX6 168 "java/lang/IndexOutOfBoundsException" ["java/lang/RuntimeException", "java/lang/Exception"], z ∈ lw_tbl ∧ (goodWord z || warmW z) = true := by decide +kernel
theorem xg_168 : ∀ z ∈ Cond.classLink RX6 164 "java/lang/IndexOutOfBoundsException" :: Cond.initialized "java/lang/IndexOutOfBoundsException" :: vx_atS RX6 168 "java/lang/IndexOutOfBoundsException" ["java/lang/RuntimeException", "java/lang/Exception"], vx_ot z = true := by decide +kernel
theorem xa_336 : ∀ z ∈ vx_atS RX6 336 "java/lang/ArithmeticException" ["java/lang/RuntimeException", "java/lang/Exception"], z ∈ lw_tbl ∧ (goodWord z || warmW z) = true := by decide +kernel
theorem xg_336 : ∀ z ∈ Cond.classLink RX6 332 "java/lang/ArithmeticException" :: Cond.initialized "java/lang/ArithmeticException" :: vx_atS RX6 336 "java/lang/ArithmeticException" ["java/lang/RuntimeException", "java/lang/Exception"], vx_ot z = true := by decide +kernel
theorem xa_377 : ∀ z ∈ vx_atS RX6 377 "java/lang/UnsupportedOperationException" ["java/lang/RuntimeException", "java/lang/Exception"], z ∈ lw_tbl ∧ (goodWord z || warmW z) = true := by decide +kernel
theorem xg_377 : ∀ z ∈ Cond.classLink RX6 373 "java/lang/UnsupportedOperationException" :: Cond.initialized "java/lang/UnsupportedOperationException" :: vx_atS RX6 377 "java/lang/UnsupportedOperationException" ["java/lang/RuntimeException", "java/lang/Exception"], vx_ot z = true := by decide +kernel
theorem xa_87 : ∀ z ∈ vx_atS RX6 87 "java/lang/IllegalArgumentException" ["java/lang/RuntimeException", "java/lang/Exception"], z ∈ lw_tbl ∧ (goodWord z || warmW z) = true := by decide +kernel
theorem xg_87 : ∀ z ∈ Cond.classLink RX6 83 "java/lang/IllegalArgumentException" :: Cond.initialized "java/lang/IllegalArgumentException" :: vx_atS RX6 87 "java/lang/IllegalArgumentException" ["java/lang/RuntimeException", "java/lang/Exception"], vx_ot z = true := by decide +kernel
theorem ic_m1 : Int32.ofInt (-1) = (-1 : Int32) := by decide
theorem ic_m8 : Int32.ofInt (-8) = (-8 : Int32) := by decide
theorem ic_0 : Int32.ofInt 0 = (0 : Int32) := by decide
theorem ic_1 : Int32.ofInt 1 = (1 : Int32) := by decide
theorem ic_2 : Int32.ofInt 2 = (2 : Int32) := by decide
theorem ic_3 : Int32.ofInt 3 = (3 : Int32) := by decide
theorem ic_4 : Int32.ofInt 4 = (4 : Int32) := by decide
theorem ic_5 : Int32.ofInt 5 = (5 : Int32) := by decide
theorem mc_max : Cond.code Lib.Math.max.name Lib.Math.max.code 2 (some .int) ∈ lw_tbl := List.mem_of_getElem? (i := 820) (by decide +kernel)
theorem mc_min : Cond.code Lib.Math.min.name Lib.Math.min.code 2 (some .int) ∈ lw_tbl := List.mem_of_getElem? (i := 806) (by decide +kernel)
theorem nmJ6_bitCount_0f7a4 : NmOK yJ6_bitCount_0f7a4 1 := by decide +kernel
theorem nmJ7_fill_53178 : NmOK yJ7_fill_53178 2 := by decide +kernel
theorem nmJxe99ae_doubleToLongBits_ccdee : NmOK yJxe99ae_doubleToLongBits_ccdee 1 := by decide +kernel
theorem nmJxe99ae_isNaN_b9ae7 : NmOK yJxe99ae_isNaN_b9ae7 1 := by decide +kernel
theorem nmJxf58ca_floatToIntBits_5c35a : NmOK yJxf58ca_floatToIntBits_5c35a 1 := by decide +kernel
theorem nmJxf58ca_isNaN_12338 : NmOK yJxf58ca_isNaN_12338 1 := by decide +kernel
theorem nmL_addStation : NmOK yL_addStation 5 := by decide +kernel
theorem nmL_append : NmOK yL_append 3 := by decide +kernel
theorem nmL_assign : NmOK yL_assign 3 := by decide +kernel
theorem nmL_assignments : NmOK yL_assignments 3 := by decide +kernel
theorem nmL_auction : NmOK yL_auction 3 := by decide +kernel
theorem nmL_back : NmOK yL_back 3 := by decide +kernel
theorem nmL_best : NmOK yL_best 2 := by decide +kernel
theorem nmL_cancel : NmOK yL_cancel 2 := by decide +kernel
theorem nmL_channelsNeeded : NmOK yL_channelsNeeded 3 := by decide +kernel
theorem nmL_close : NmOK yL_close 2 := by decide +kernel
theorem nmL_conflicts : NmOK yL_conflicts 3 := by decide +kernel
theorem nmL_core : NmOK yL_core 4 := by decide +kernel
theorem nmL_count : NmOK yL_count 3 := by decide +kernel
theorem nmL_efficiencyBits : NmOK yL_efficiencyBits 2 := by decide +kernel
theorem nmL_event : NmOK yL_event 3 := by decide +kernel
theorem nmL_frozenBy : NmOK yL_frozenBy 3 := by decide +kernel
theorem nmL_hasConflict : NmOK yL_hasConflict 5 := by decide +kernel
theorem nmL_isFeasible : NmOK yL_isFeasible 3 := by decide +kernel
theorem nmL_leastLoss : NmOK yL_leastLoss 2 := by decide +kernel
theorem nmL_meanPriceBits : NmOK yL_meanPriceBits 2 := by decide +kernel
theorem nmL_open : NmOK yL_open 3 := by decide +kernel
theorem nmL_order : NmOK yL_order 3 := by decide +kernel
theorem nmL_price : NmOK yL_price 3 := by decide +kernel
theorem nmL_priceAt : NmOK yL_priceAt 4 := by decide +kernel
theorem nmL_removeStation : NmOK yL_removeStation 2 := by decide +kernel
theorem nmL_repack : NmOK yL_repack 3 := by decide +kernel
theorem nmL_restore : NmOK yL_restore 2 := by decide +kernel
theorem nmL_round : NmOK yL_round 3 := by decide +kernel
theorem nmL_run : NmOK yL_run 3 := by decide +kernel
theorem nmL_setAvailable : NmOK yL_setAvailable 3 := by decide +kernel
theorem nmL_setConflicts : NmOK yL_setConflicts 2 := by decide +kernel
theorem nmL_setParticipates : NmOK yL_setParticipates 4 := by decide +kernel
theorem nmL_setValue : NmOK yL_setValue 4 := by decide +kernel
theorem nmL_state : NmOK yL_state 3 := by decide +kernel
theorem nmL_station : NmOK yL_station 4 := by decide +kernel
theorem nmL_volumeBits : NmOK yL_volumeBits 3 := by decide +kernel
theorem nmX0_begin : NmOK yX0_begin 2 := by decide +kernel
theorem nmX0_copyFrom : NmOK yX0_copyFrom 1 := by decide +kernel
theorem nmX0_freeze : NmOK yX0_freeze 3 := by decide +kernel
theorem nmX0_freezeBidders : NmOK yX0_freezeBidders 0 := by decide +kernel
theorem nmX0_isOver : NmOK yX0_isOver 0 := by decide +kernel
theorem nmX0_lower : NmOK yX0_lower 1 := by decide +kernel
theorem nmX0_note : NmOK yX0_note 2 := by decide +kernel
theorem nmX0_priceBidders : NmOK yX0_priceBidders 1 := by decide +kernel
theorem nmX0_putOnAir : NmOK yX0_putOnAir 1 := by decide +kernel
theorem nmX0_returnTo : NmOK yX0_returnTo 2 := by decide +kernel
theorem nmX1_bestSet : NmOK yX1_bestSet 0 := by decide +kernel
theorem nmX1_extend : NmOK yX1_extend 5 := by decide +kernel
theorem nmX2_applyTo : NmOK yX2_applyTo 1 := by decide +kernel
theorem nmX2_digitAt : NmOK yX2_digitAt 1 := by decide +kernel
theorem nmX2_link : NmOK yX2_link 4 := by decide +kernel
theorem nmX2_read : NmOK yX2_read 1 := by decide +kernel
theorem nmX2_readPair : NmOK yX2_readPair 0 := by decide +kernel
theorem nmX2_readSeparator : NmOK yX2_readSeparator 0 := by decide +kernel
theorem nmX2_readStation : NmOK yX2_readStation 1 := by decide +kernel
theorem nmX2_skip : NmOK yX2_skip 1 := by decide +kernel
theorem nmX3_copyFrom : NmOK yX3_copyFrom 1 := by decide +kernel
theorem nmX3_degree : NmOK yX3_degree 1 := by decide +kernel
theorem nmX3_dropLast : NmOK yX3_dropLast 0 := by decide +kernel
theorem nmX3_enter : NmOK yX3_enter 3 := by decide +kernel
theorem nmX3_everyone : NmOK yX3_everyone 0 := by decide +kernel
theorem nmX3_hasNextIn : NmOK yX3_hasNextIn 1 := by decide +kernel
theorem nmX3_placedStations : NmOK yX3_placedStations 0 := by decide +kernel
theorem nmX3_priceWith : NmOK yX3_priceWith 2 := by decide +kernel
theorem nmX3_stayers : NmOK yX3_stayers 0 := by decide +kernel
theorem nmX3_usedChannels : NmOK yX3_usedChannels 0 := by decide +kernel
theorem nmX3_volume : NmOK yX3_volume 1 := by decide +kernel
theorem nmX4_allow : NmOK yX4_allow 1 := by decide +kernel
theorem nmX4_fewestChannels : NmOK yX4_fewestChannels 1 := by decide +kernel
theorem nmX4_fits : NmOK yX4_fits 1 := by decide +kernel
theorem nmX4_forget : NmOK yX4_forget 0 := by decide +kernel
theorem nmX4_give : NmOK yX4_give 3 := by decide +kernel
theorem nmX4_keep : NmOK yX4_keep 1 := by decide +kernel
theorem nmX4_lacksRoom : NmOK yX4_lacksRoom 2 := by decide +kernel
theorem nmX4_listUsers : NmOK yX4_listUsers 2 := by decide +kernel
theorem nmX4_measureSharing : NmOK yX4_measureSharing 0 := by decide +kernel
theorem nmX4_restrict : NmOK yX4_restrict 3 := by decide +kernel
theorem nmX4_search : NmOK yX4_search 4 := by decide +kernel
theorem nmX4_settle : NmOK yX4_settle 2 := by decide +kernel
theorem nmX4_smallestReason : NmOK yX4_smallestReason 2 := by decide +kernel
theorem nmX4_solutions : NmOK yX4_solutions 2 := by decide +kernel
theorem nmX4_tightest : NmOK yX4_tightest 2 := by decide +kernel
theorem nmX4_twinOf : NmOK yX4_twinOf 3 := by decide +kernel
theorem nmX4_withoutEasy : NmOK yX4_withoutEasy 2 := by decide +kernel
theorem nmX5_at : NmOK yX5_at 1 := by decide +kernel
theorem nmX5_put : NmOK yX5_put 1 := by decide +kernel
theorem nmX5_putNumber : NmOK yX5_putNumber 1 := by decide +kernel
theorem nmX6_addStation : NmOK yX6_addStation 3 := by decide +kernel
theorem nmX6_append : NmOK yX6_append 1 := by decide +kernel
theorem nmX6_assign : NmOK yX6_assign 1 := by decide +kernel
theorem nmX6_assignments : NmOK yX6_assignments 1 := by decide +kernel
theorem nmX6_auction : NmOK yX6_auction 1 := by decide +kernel
theorem nmX6_back : NmOK yX6_back 1 := by decide +kernel
theorem nmX6_best : NmOK yX6_best 0 := by decide +kernel
theorem nmX6_bitsOf : NmOK yX6_bitsOf 3 := by decide +kernel
theorem nmX6_cancel : NmOK yX6_cancel 0 := by decide +kernel
theorem nmX6_channelsNeeded : NmOK yX6_channelsNeeded 1 := by decide +kernel
theorem nmX6_close : NmOK yX6_close 0 := by decide +kernel
theorem nmX6_conflicts : NmOK yX6_conflicts 1 := by decide +kernel
theorem nmX6_consider : NmOK yX6_consider 2 := by decide +kernel
theorem nmX6_contains : NmOK yX6_contains 2 := by decide +kernel
theorem nmX6_core : NmOK yX6_core 2 := by decide +kernel
theorem nmX6_count : NmOK yX6_count 1 := by decide +kernel
theorem nmX6_describeConflicts : NmOK yX6_describeConflicts 0 := by decide +kernel
theorem nmX6_describePair : NmOK yX6_describePair 2 := by decide +kernel
theorem nmX6_doubleBits : NmOK yX6_doubleBits 1 := by decide +kernel
theorem nmX6_efficiencyBits : NmOK yX6_efficiencyBits 0 := by decide +kernel
theorem nmX6_errorPosition : NmOK yX6_errorPosition 0 := by decide +kernel
theorem nmX6_event : NmOK yX6_event 1 := by decide +kernel
theorem nmX6_floatBits : NmOK yX6_floatBits 1 := by decide +kernel
theorem nmX6_frozenBy : NmOK yX6_frozenBy 1 := by decide +kernel
theorem nmX6_hasConflict : NmOK yX6_hasConflict 3 := by decide +kernel
theorem nmX6_isFeasible : NmOK yX6_isFeasible 1 := by decide +kernel
theorem nmX6_leastLoss : NmOK yX6_leastLoss 0 := by decide +kernel
theorem nmX6_lossWithout : NmOK yX6_lossWithout 1 := by decide +kernel
theorem nmX6_meanPriceBits : NmOK yX6_meanPriceBits 0 := by decide +kernel
theorem nmX6_open : NmOK yX6_open 1 := by decide +kernel
theorem nmX6_order : NmOK yX6_order 1 := by decide +kernel
theorem nmX6_pairsIn : NmOK yX6_pairsIn 1 := by decide +kernel
theorem nmX6_playRound : NmOK yX6_playRound 0 := by decide +kernel
theorem nmX6_price : NmOK yX6_price 1 := by decide +kernel
theorem nmX6_priceAt : NmOK yX6_priceAt 2 := by decide +kernel
theorem nmX6_rankStations : NmOK yX6_rankStations 0 := by decide +kernel
theorem nmX6_removeStation : NmOK yX6_removeStation 0 := by decide +kernel
theorem nmX6_repack : NmOK yX6_repack 1 := by decide +kernel
theorem nmX6_requireAuction : NmOK yX6_requireAuction 0 := by decide +kernel
theorem nmX6_requireChannels : NmOK yX6_requireChannels 1 := by decide +kernel
theorem nmX6_requireDecrement : NmOK yX6_requireDecrement 1 := by decide +kernel
theorem nmX6_requireFeasible : NmOK yX6_requireFeasible 1 := by decide +kernel
theorem nmX6_requireFinished : NmOK yX6_requireFinished 0 := by decide +kernel
theorem nmX6_requireNoAuction : NmOK yX6_requireNoAuction 0 := by decide +kernel
theorem nmX6_requireSet : NmOK yX6_requireSet 1 := by decide +kernel
theorem nmX6_requireStation : NmOK yX6_requireStation 1 := by decide +kernel
theorem nmX6_requireValue : NmOK yX6_requireValue 1 := by decide +kernel
theorem nmX6_restore : NmOK yX6_restore 0 := by decide +kernel
theorem nmX6_round : NmOK yX6_round 1 := by decide +kernel
theorem nmX6_run : NmOK yX6_run 1 := by decide +kernel
theorem nmX6_save : NmOK yX6_save 0 := by decide +kernel
theorem nmX6_setAvailable : NmOK yX6_setAvailable 1 := by decide +kernel
theorem nmX6_setConflicts : NmOK yX6_setConflicts 0 := by decide +kernel
theorem nmX6_setParticipates : NmOK yX6_setParticipates 2 := by decide +kernel
theorem nmX6_setValue : NmOK yX6_setValue 2 := by decide +kernel
theorem nmX6_state : NmOK yX6_state 1 := by decide +kernel
theorem nmX6_station : NmOK yX6_station 2 := by decide +kernel
theorem nmX6_sumOver : NmOK yX6_sumOver 2 := by decide +kernel
theorem nmX6_volumeBits : NmOK yX6_volumeBits 1 := by decide +kernel
theorem nmX7_addStation : NmOK yX7_addStation 3 := by decide +kernel
theorem nmX7_append : NmOK yX7_append 1 := by decide +kernel
theorem nmX7_areStations : NmOK yX7_areStations 1 := by decide +kernel
theorem nmX7_assign : NmOK yX7_assign 1 := by decide +kernel
theorem nmX7_assignments : NmOK yX7_assignments 1 := by decide +kernel
theorem nmX7_auction : NmOK yX7_auction 1 := by decide +kernel
theorem nmX7_back : NmOK yX7_back 1 := by decide +kernel
theorem nmX7_best : NmOK yX7_best 0 := by decide +kernel
theorem nmX7_cancel : NmOK yX7_cancel 0 := by decide +kernel
theorem nmX7_channelsNeeded : NmOK yX7_channelsNeeded 1 := by decide +kernel
theorem nmX7_close : NmOK yX7_close 0 := by decide +kernel
theorem nmX7_conflicts : NmOK yX7_conflicts 1 := by decide +kernel
theorem nmX7_consider : NmOK yX7_consider 1 := by decide +kernel
theorem nmX7_considerAll : NmOK yX7_considerAll 0 := by decide +kernel
theorem nmX7_copy : NmOK yX7_copy 2 := by decide +kernel
theorem nmX7_core : NmOK yX7_core 2 := by decide +kernel
theorem nmX7_count : NmOK yX7_count 1 := by decide +kernel
theorem nmX7_countBits : NmOK yX7_countBits 1 := by decide +kernel
theorem nmX7_countKept : NmOK yX7_countKept 0 := by decide +kernel
theorem nmX7_countPairs : NmOK yX7_countPairs 1 := by decide +kernel
theorem nmX7_countUpTo : NmOK yX7_countUpTo 2 := by decide +kernel
theorem nmX7_degree : NmOK yX7_degree 1 := by decide +kernel
theorem nmX7_efficiencyBits : NmOK yX7_efficiencyBits 0 := by decide +kernel
theorem nmX7_errorPosition : NmOK yX7_errorPosition 0 := by decide +kernel
theorem nmX7_event : NmOK yX7_event 1 := by decide +kernel
theorem nmX7_fails : NmOK yX7_fails 2 := by decide +kernel
theorem nmX7_findBest : NmOK yX7_findBest 0 := by decide +kernel
theorem nmX7_fixNone : NmOK yX7_fixNone 0 := by decide +kernel
theorem nmX7_frozenBy : NmOK yX7_frozenBy 1 := by decide +kernel
theorem nmX7_goOn : NmOK yX7_goOn 1 := by decide +kernel
theorem nmX7_has : NmOK yX7_has 2 := by decide +kernel
theorem nmX7_hasConflict : NmOK yX7_hasConflict 3 := by decide +kernel
theorem nmX7_in : NmOK yX7_in 1 := by decide +kernel
theorem nmX7_isBetween : NmOK yX7_isBetween 3 := by decide +kernel
theorem nmX7_isChannels : NmOK yX7_isChannels 1 := by decide +kernel
theorem nmX7_isDecrement : NmOK yX7_isDecrement 1 := by decide +kernel
theorem nmX7_isFeasible : NmOK yX7_isFeasible 1 := by decide +kernel
theorem nmX7_isKnown : NmOK yX7_isKnown 0 := by decide +kernel
theorem nmX7_isOver : NmOK yX7_isOver 0 := by decide +kernel
theorem nmX7_isPossible : NmOK yX7_isPossible 1 := by decide +kernel
theorem nmX7_isPossibleFixed : NmOK yX7_isPossibleFixed 1 := by decide +kernel
theorem nmX7_isPossibleWith : NmOK yX7_isPossibleWith 2 := by decide +kernel
theorem nmX7_isStation : NmOK yX7_isStation 1 := by decide +kernel
theorem nmX7_keepFirst : NmOK yX7_keepFirst 1 := by decide +kernel
theorem nmX7_leastLoss : NmOK yX7_leastLoss 0 := by decide +kernel
theorem nmX7_lossOf : NmOK yX7_lossOf 1 := by decide +kernel
theorem nmX7_meanPriceBits : NmOK yX7_meanPriceBits 0 := by decide +kernel
theorem nmX7_note : NmOK yX7_note 2 := by decide +kernel
theorem nmX7_open : NmOK yX7_open 1 := by decide +kernel
theorem nmX7_order : NmOK yX7_order 1 := by decide +kernel
theorem nmX7_outside : NmOK yX7_outside 0 := by decide +kernel
theorem nmX7_passStation : NmOK yX7_passStation 1 := by decide +kernel
theorem nmX7_passes : NmOK yX7_passes 1 := by decide +kernel
theorem nmX7_price : NmOK yX7_price 1 := by decide +kernel
theorem nmX7_priceAt : NmOK yX7_priceAt 2 := by decide +kernel
theorem nmX7_priceNow : NmOK yX7_priceNow 1 := by decide +kernel
theorem nmX7_priceOf : NmOK yX7_priceOf 2 := by decide +kernel
theorem nmX7_print : NmOK yX7_print 0 := by decide +kernel
theorem nmX7_ranked : NmOK yX7_ranked 1 := by decide +kernel
theorem nmX7_readPair : NmOK yX7_readPair 0 := by decide +kernel
theorem nmX7_reason : NmOK yX7_reason 2 := by decide +kernel
theorem nmX7_removeStation : NmOK yX7_removeStation 0 := by decide +kernel
theorem nmX7_repack : NmOK yX7_repack 1 := by decide +kernel
theorem nmX7_restore : NmOK yX7_restore 0 := by decide +kernel
theorem nmX7_round : NmOK yX7_round 1 := by decide +kernel
theorem nmX7_run : NmOK yX7_run 1 := by decide +kernel
theorem nmX7_save : NmOK yX7_save 0 := by decide +kernel
theorem nmX7_search : NmOK yX7_search 3 := by decide +kernel
theorem nmX7_sees : NmOK yX7_sees 2 := by decide +kernel
theorem nmX7_set : NmOK yX7_set 4 := by decide +kernel
theorem nmX7_setAvailable : NmOK yX7_setAvailable 1 := by decide +kernel
theorem nmX7_setConflicts : NmOK yX7_setConflicts 0 := by decide +kernel
theorem nmX7_setParticipates : NmOK yX7_setParticipates 2 := by decide +kernel
theorem nmX7_setState : NmOK yX7_setState 2 := by decide +kernel
theorem nmX7_setValue : NmOK yX7_setValue 2 := by decide +kernel
theorem nmX7_startSearch : NmOK yX7_startSearch 2 := by decide +kernel
theorem nmX7_state : NmOK yX7_state 1 := by decide +kernel
theorem nmX7_stateOf : NmOK yX7_stateOf 1 := by decide +kernel
theorem nmX7_station : NmOK yX7_station 2 := by decide +kernel
theorem nmX7_sumPrices : NmOK yX7_sumPrices 0 := by decide +kernel
theorem nmX7_sumValues : NmOK yX7_sumValues 1 := by decide +kernel
theorem nmX7_thrown : NmOK yX7_thrown 0 := by decide +kernel
theorem nmX7_tightest : NmOK yX7_tightest 2 := by decide +kernel
theorem nmX7_volume : NmOK yX7_volume 1 := by decide +kernel
theorem nmX7_volumeBits : NmOK yX7_volumeBits 1 := by decide +kernel
theorem nmX7_write : NmOK yX7_write 1 := by decide +kernel
theorem nmX7_writeStation : NmOK yX7_writeStation 1 := by decide +kernel
theorem sc_m256 : (Int16.ofInt (-256)).toInt32 = (-256 : Int32) := by decide
theorem sc_1000 : (Int16.ofInt 1000).toInt32 = (1000 : Int32) := by decide
theorem sc_1023 : (Int16.ofInt 1023).toInt32 = (1023 : Int32) := by decide
theorem sc_144 : (Int16.ofInt 144).toInt32 = (144 : Int32) := by decide
theorem sc_1540 : (Int16.ofInt 1540).toInt32 = (1540 : Int32) := by decide
theorem sc_214 : (Int16.ofInt 214).toInt32 = (214 : Int32) := by decide
theorem sc_255 : (Int16.ofInt 255).toInt32 = (255 : Int32) := by decide
theorem sc_316 : (Int16.ofInt 316).toInt32 = (316 : Int32) := by decide
theorem sc_4096 : (Int16.ofInt 4096).toInt32 = (4096 : Int32) := by decide
theorem sc_9999 : (Int16.ofInt 9999).toInt32 = (9999 : Int32) := by decide
theorem tn_0 : (0 : Int32).toNatClampNeg = 0 := by decide
theorem tn_1 : (1 : Int32).toNatClampNeg = 1 := by decide
theorem tn_101 : (101 : Int32).toNatClampNeg = 101 := by decide
theorem tn_112 : (112 : Int32).toNatClampNeg = 112 := by decide
theorem tn_12 : (12 : Int32).toNatClampNeg = 12 := by decide
theorem tn_2 : (2 : Int32).toNatClampNeg = 2 := by decide
theorem tn_214 : (214 : Int32).toNatClampNeg = 214 := by decide
theorem tn_3 : (3 : Int32).toNatClampNeg = 3 := by decide
