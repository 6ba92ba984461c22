/-! Layer 2, 14: what a call asks for first -/
theorem any_nI (a : Int32) : ∃ x, x < 2 ^ 32 ∧ a = nI x := by
  refine ⟨a.toBitVec.toNat, a.toBitVec.isLt, ?_⟩
  apply bv_inj
  rw [zI_bv, BitVec.ofNat_toNat, BitVec.setWidth_eq]
theorem zI_inj32 {a b : Nat} (ha : a < 2 ^ 32) (hb : b < 2 ^ 32) (h : nI a = nI b) : a = b := by
  have h2 := congrArg (fun z : Int32 => z.toBitVec.toNat) h
  simp only [zI_bv, BitVec.toNat_ofNat] at h2
  rw [Nat.mod_eq_of_lt ha, Nat.mod_eq_of_lt hb] at h2
  exact h2
theorem everyone_nI {n : Nat} (hn : n ≤ 12) : ((1 : Int32) <<< (nI n &&& 31)) - (1 : Int32) = nI (2 ^ n - 1) := by
  rw [zI_one_shl (by omega)]
  exact zI_sub (b := 1) (Nat.two_pow_pos n)
theorem outside_iff {n : Nat} (hn : n ≤ 12) (a : Int32) : (a &&& (nI (2 ^ n - 1) ^^^ -1) = 0) ↔ ∃ S, S < 2 ^ n ∧ a = nI S := by
  obtain ⟨x, hx, rfl⟩ := any_nI a
  rw [zI_ndf]
  have h32 : ndf x (2 ^ n - 1) < 2 ^ 32 := ndf_lt hx
  constructor
  · intro h
    have h0 := zI_inj32 h32 (show (0 : Nat) < 2 ^ 32 by decide) h
    refine ⟨x, lt_of_tb fun i hi => ?_, rfl⟩
    have h2 := congrArg (fun z => z.testBit i) h0
    simp only [ndf_testBit, hi, Nat.testBit_two_pow_sub_one, tb_zero, Bool.true_and, Bool.not_eq_false', decide_eq_true_eq] at h2
    exact h2
  · rintro ⟨S, hS, he⟩
    have hS31 : S < 2 ^ 31 := lt12_31 (Nat.lt_of_lt_of_le hS (Nat.pow_le_pow_right (by decide) hn))
    have := zI_inj32 hx (Nat.lt_trans hS31 (by decide)) he
    rw [this, (everyone_bits n hS31).mpr hS]; rfl
/-- an int is a set of stations -/
def IsSet (n : Nat) (a : Int32) : Prop := ∃ S, S < 2 ^ n ∧ a = nI S
theorem set_dec (n : Nat) (hn : n ≤ 12) (a : Int32) : IsSet n a ∨ ¬ IsSet n a := Classical.em _
theorem reqSet_ok {M : Mk} (hn : M.n ≤ 12) {σ : Sg} (h6 : σ 3 6 = nI M.n) {S : Nat} (hS : S < 2 ^ M.n) : fX6_requireSet (nI S) σ = some (.inr (), σ) := by
  rw [fX6_requireSet, fX3_everyone, bd_some, h6, everyone_nI hn, if_pos ((outside_iff hn _).mpr ⟨S, hS, rfl⟩)]
theorem reqSet_no {M : Mk} (hn : M.n ≤ 12) {σ : Sg} (h6 : σ 3 6 = nI M.n) {a : Int32} (h : ¬ IsSet M.n a) : fX6_requireSet a σ = some (.inl "java/lang/IllegalArgumentException", σ) := by
  rw [fX6_requireSet, fX3_everyone, bd_some, h6, everyone_nI hn, if_neg fun q => h ((outside_iff hn _).mp q)]
theorem areSt_ok {M : Mk} (hn : M.n ≤ 12) {σ : Sg} (h : RefM (σ 1) M) {S : Nat} (hS : S < 2 ^ M.n) : fX7_areStations (nI S) σ = some (1, σ) := by
  rw [fX7_areStations, h.1, everyone_nI hn, if_pos ((outside_iff hn _).mpr ⟨S, hS, rfl⟩)]
theorem areSt_no {M : Mk} (hn : M.n ≤ 12) {σ : Sg} (h : RefM (σ 1) M) {a : Int32} (hS : ¬ IsSet M.n a) : fX7_areStations a σ = some (0, σ) := by
  rw [fX7_areStations, h.1, everyone_nI hn, if_neg fun q => hS ((outside_iff hn _).mp q)]
