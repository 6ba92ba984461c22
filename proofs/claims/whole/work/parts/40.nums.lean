/-! Layer 2, 1: whole numbers as ints, masks, the calculus of the printed functions -/
theorem zI_ofNat (n : Nat) : (OfNat.ofNat n : Int32) = nI n := rfl
theorem zI_add (a b : Nat) : nI a + nI b = nI (a + b) := (Int32.ofNat_add a b).symm
theorem zI_mul (a b : Nat) : nI a * nI b = nI (a * b) := (Int32.ofNat_mul a b).symm
theorem zI_sub {a b : Nat} (h : b ≤ a) : nI a - nI b = nI (a - b) := by
  have := zI_add (a - b) b
  rw [Nat.sub_add_cancel h] at this
  rw [← this, Int32.add_sub_cancel]
theorem zI_lt {a b : Nat} (ha : a < 2 ^ 31) (hb : b < 2 ^ 31) : nI a < nI b ↔ a < b := by
  rw [Int32.lt_iff_toInt_lt, nI_toInt ha, nI_toInt hb]; omega
theorem zI_le {a b : Nat} (ha : a < 2 ^ 31) (hb : b < 2 ^ 31) : nI a ≤ nI b ↔ a ≤ b := by
  rw [Int32.le_iff_toInt_le, nI_toInt ha, nI_toInt hb]; omega
theorem zI_inj {a b : Nat} (ha : a < 2 ^ 31) (hb : b < 2 ^ 31) : nI a = nI b ↔ a = b := by
  rw [← Int32.toInt_inj, nI_toInt ha, nI_toInt hb]; omega
theorem zI_clamp {a : Nat} (ha : a < 2 ^ 31) : (nI a).toNatClampNeg = a := by
  show (nI a).toInt.toNat = a
  rw [nI_toInt ha]; rfl
theorem zI_neg1 {a : Nat} (ha : a < 2 ^ 31) : nI a ≠ -1 := by
  intro h
  have := congrArg Int32.toInt h
  rw [nI_toInt ha] at this
  have h2 : (-1 : Int32).toInt = -1 := by decide
  omega
theorem zI_nn {a : Nat} (ha : a < 2 ^ 31) : ¬ nI a < 0 := by
  rw [show (0 : Int32) = nI 0 from rfl]
  exact fun h => Nat.not_lt_zero _ ((zI_lt ha (by decide)).mp h)
theorem zI_ge0 {a : Nat} (ha : a < 2 ^ 31) : 0 ≤ nI a := by
  rw [show (0 : Int32) = nI 0 from rfl]
  exact (zI_le (by decide) ha).mpr (Nat.zero_le _)
theorem inb_nI {a m : Nat} (ha : a < 2 ^ 31) : inb (nI a) m = decide (a < m) := by
  unfold inb
  rw [decide_eq_false (zI_nn ha), zI_clamp ha]
  by_cases h : a < m
  · rw [decide_eq_true h, decide_eq_false (Nat.not_le.mpr h)]; rfl
  · rw [decide_eq_false h, decide_eq_true (Nat.not_lt.mp h)]; rfl
theorem inb_ok {a m : Nat} (h : a < m) (ha : a < 2 ^ 31) : inb (nI a) m = true := by rw [inb_nI ha]; exact decide_eq_true h
theorem zI_bv (a : Nat) : (nI a).toBitVec = BitVec.ofNat 32 a := rfl
theorem bv_inj {a b : Int32} (h : a.toBitVec = b.toBitVec) : a = b := Int32.toBitVec_inj.mp h
theorem zI_and (a b : Nat) : nI a &&& nI b = nI (a &&& b) := by
  apply bv_inj
  rw [Int32.toBitVec_and, zI_bv, zI_bv, zI_bv]
  apply BitVec.eq_of_getLsbD_eq
  intro i hi
  simp [BitVec.getLsbD_ofNat, hi]
theorem zI_or (a b : Nat) : nI a ||| nI b = nI (a ||| b) := by
  apply bv_inj
  rw [Int32.toBitVec_or, zI_bv, zI_bv, zI_bv]
  apply BitVec.eq_of_getLsbD_eq
  intro i hi
  simp [BitVec.getLsbD_ofNat, hi]
theorem zI_xor (a b : Nat) : nI a ^^^ nI b = nI (a ^^^ b) := by
  apply bv_inj
  rw [Int32.toBitVec_xor, zI_bv, zI_bv, zI_bv]
  apply BitVec.eq_of_getLsbD_eq
  intro i hi
  simp [BitVec.getLsbD_ofNat, hi]
/-- the elements of a that b doesn't have -/
def ndf (a b : Nat) : Nat := a ^^^ (a &&& b)
theorem ndf_testBit (a b i : Nat) : (ndf a b).testBit i = (a.testBit i && !b.testBit i) := by
  unfold ndf
  rw [Nat.testBit_xor, Nat.testBit_and]
  cases a.testBit i <;> cases b.testBit i <;> rfl
theorem zI_ndf (a b : Nat) : nI a &&& (nI b ^^^ -1) = nI (ndf a b) := by
  apply bv_inj
  rw [Int32.toBitVec_and, Int32.toBitVec_xor, zI_bv, zI_bv, zI_bv]
  have : (-1 : Int32).toBitVec = BitVec.allOnes 32 := by decide
  rw [this]
  apply BitVec.eq_of_getLsbD_eq
  intro i hi
  rw [BitVec.getLsbD_and, BitVec.getLsbD_xor, BitVec.getLsbD_allOnes, BitVec.getLsbD_ofNat, BitVec.getLsbD_ofNat, BitVec.getLsbD_ofNat, ndf_testBit, decide_eq_true hi]
  simp
theorem zI_sh31 {k : Nat} (hk : k < 32) : nI k &&& 31 = nI k := by
  rw [show (31 : Int32) = nI 31 from rfl, zI_and]
  congr 1
  have := Nat.and_two_pow_sub_one_eq_mod k 5
  rw [show 2 ^ 5 - 1 = 31 from rfl] at this
  rw [this]; omega
theorem shl_all : ∀ k : Nat, k < 32 → (1 : Int32) <<< nI k = nI (2 ^ k) := by decide +kernel
theorem zI_one_shl {k : Nat} (hk : k < 32) : (1 : Int32) <<< (nI k &&& 31) = nI (2 ^ k) := by
  rw [zI_sh31 hk]; exact shl_all k hk
theorem smod_all : ∀ k : Nat, k < 32 → ((nI k).toBitVec.smod 32).toNat = k := by decide +kernel
theorem toInt_nI_shr {a k : Nat} (ha : a < 2 ^ 31) (hk : k < 32) : nI a >>> nI k = nI (a >>> k) := by
  apply bv_inj
  rw [Int32.toBitVec_shiftRight]
  unfold BitVec.sshiftRight'
  rw [smod_all k hk, zI_bv, zI_bv, BitVec.sshiftRight_eq_of_msb_false]
  · apply BitVec.eq_of_getLsbD_eq
    intro i hi
    rw [BitVec.getLsbD_ushiftRight, BitVec.getLsbD_ofNat, BitVec.getLsbD_ofNat, Nat.testBit_shiftRight]
    by_cases h : k + i < 32
    · simp [h, hi]
    · simp [h, hi]
      exact Nat.testBit_lt_two_pow (Nat.lt_of_lt_of_le ha (Nat.pow_le_pow_right (by decide) (by omega)))
  · rw [BitVec.msb_eq_decide]
    simp only [BitVec.toNat_ofNat]
    rw [decide_eq_false_iff_not]
    omega
theorem zI_shr {a k : Nat} (ha : a < 2 ^ 31) (hk : k < 32) : nI a >>> (nI k &&& 31) = nI (a >>> k) := by
  rw [zI_sh31 hk]; exact toInt_nI_shr ha hk
theorem bit_and1 (a k : Nat) : (a >>> k) &&& 1 = if a.testBit k then 1 else 0 := by
  rw [Nat.and_one_is_mod]
  unfold Nat.testBit
  rw [Nat.one_and_eq_mod_two]
  have := Nat.mod_two_eq_zero_or_one (a >>> k)
  rcases this with h | h <;> simp [h]
theorem bit_nI {a k : Nat} (ha : a < 2 ^ 31) (hk : k < 32) : (nI a >>> (nI k &&& 31)) &&& (1 : Int32) = if a.testBit k then (1 : Int32) else 0 := by
  rw [zI_shr ha hk, show (1 : Int32) = nI 1 from rfl, zI_and, bit_and1]
  split <;> rfl
theorem tb_lt {a n : Nat} (h : a < 2 ^ n) {i : Nat} (hi : a.testBit i = true) : i < n := by
  rcases Nat.lt_or_ge i n with q | q
  · exact q
  · rw [Nat.testBit_lt_two_pow (Nat.lt_of_lt_of_le h (Nat.pow_le_pow_right (by decide) q))] at hi; cases hi
theorem tb_not {a n : Nat} (h : a < 2 ^ n) {i : Nat} (hi : n ≤ i) : a.testBit i = false :=
  Nat.testBit_lt_two_pow (Nat.lt_of_lt_of_le h (Nat.pow_le_pow_right (by decide) hi))
theorem lt_of_tb {a n : Nat} (h : ∀ i, a.testBit i = true → i < n) : a < 2 ^ n := by
  apply Nat.lt_pow_two_of_testBit
  intro i hi
  cases q : a.testBit i with
  | false => rfl
  | true => exact absurd (h i q) (Nat.not_lt.mpr hi)
theorem ndf_le (a b : Nat) : ndf a b ≤ a := by
  apply Nat.le_of_testBit
  intro i hi
  rw [ndf_testBit] at hi
  cases q : a.testBit i with
  | true => rfl
  | false => rw [q] at hi; cases hi
/-! The calculus -/
def RR {α : Type} (x : Option (α × Sg)) (P : α → Sg → Prop) : Prop := ∃ a τ, x = some (a, τ) ∧ P a τ
theorem RR.ret {α : Type} {a : α} {τ : Sg} {P : α → Sg → Prop} (h : P a τ) : RR (some (a, τ)) P := ⟨a, τ, rfl, h⟩
theorem RR.gd {α : Type} {b : Bool} {x : Option (α × Sg)} {P : α → Sg → Prop} (hb : b = true) (h : RR x P) : RR (gd b x) P := by subst hb; exact h
theorem RR.bd {α β : Type} {x : Option (α × Sg)} {k : α → Sg → Option (β × Sg)} {P : β → Sg → Prop} {Q : α → Sg → Prop} (h : RR x Q) (hk : ∀ a τ, Q a τ → RR (k a τ) P) : RR (bd x k) P := by
  obtain ⟨a, τ, rfl, hq⟩ := h
  exact hk a τ hq
theorem RR.mono {α : Type} {x : Option (α × Sg)} {P Q : α → Sg → Prop} (h : RR x P) (hk : ∀ a τ, P a τ → Q a τ) : RR x Q := by
  obtain ⟨a, τ, e, hq⟩ := h
  exact ⟨a, τ, e, hk a τ hq⟩
theorem RR.eq {α : Type} {x : Option (α × Sg)} {a : α} {τ : Sg} (h : RR x (fun b υ => b = a ∧ υ = τ)) : x = some (a, τ) := by
  obtain ⟨b, υ, e, h1, h2⟩ := h
  rw [e, h1, h2]
theorem gd_t {α : Type} (x : Option α) : gd true x = x := rfl
theorem gd_of {α : Type} {b : Bool} (h : b = true) (x : Option α) : gd b x = x := by rw [h]; rfl
theorem bd_some {α β γ : Type} (a : α) (b : β) (k : α → β → Option γ) : bd (some (a, b)) k = k a b := rfl
theorem bx_inr {α β γ : Type} (a : α) (b : β) (kx : String → β → Option γ) (k : α → β → Option γ) : bx (some (.inr a, b)) kx k = k a b := rfl
theorem bx_inl {α β γ : Type} (e : String) (b : β) (kx : String → β → Option γ) (k : α → β → Option γ) : bx (some (.inl e, b)) kx k = kx e b := rfl
theorem lt'_eq {α γ : Type} (a : α) (k : α → γ) : lt' a k = k a := rfl
theorem jp_eq {J γ : Type} (j : J) (k : J → γ) : jp j k = k j := rfl
theorem upd_app (f : Nat → Int32) (k j : Nat) (x : Int32) : upd f k x j = if j = k then x else f j := rfl
theorem sst_app (σ : Sg) (k j : Nat) (g : Nat → Int32) : sst σ k g j = if j = k then g else σ j := rfl
theorem sup_app (σ : Sg) (k i j : Nat) (v : Int32) : sup σ k i v j = if j = k then upd (σ k) i v else σ j := rfl
theorem sst_id (σ : Sg) (k : Nat) : sst σ k (σ k) = σ := by
  funext j
  rw [sst_app]
  split
  · next h => rw [h]
  · rfl
theorem sst_sst (σ : Sg) (k : Nat) (f g : Nat → Int32) : sst (sst σ k f) k g = sst σ k g := by
  funext j
  simp only [sst_app]
  split <;> rfl
theorem sst_sup (σ : Sg) (k i : Nat) (v : Int32) (g : Nat → Int32) : sst (sup σ k i v) k g = sst σ k g := sst_sst σ k _ g
theorem sup_sst (σ : Sg) (k i : Nat) (v : Int32) (g : Nat → Int32) : sup (sst σ k g) k i v = sst σ k (upd g i v) := by
  unfold sup
  rw [sst_self, sst_sst]
