/-! Layer 2, 60: normal numbers, in any format -/
theorem log2_eq {n k : Nat} (h1 : 2 ^ k ≤ n) (h2 : n < 2 ^ (k + 1)) : n.log2 = k := by
  have hn : n ≠ 0 := by
    have := Nat.two_pow_pos k
    omega
  have a1 := Nat.log2_self_le hn
  have a2 : n < 2 ^ (n.log2 + 1) := Nat.lt_log2_self
  rcases Nat.lt_trichotomy n.log2 k with q | q | q
  · have : 2 ^ (n.log2 + 1) ≤ 2 ^ k := Nat.pow_le_pow_right (by decide) q
    omega
  · exact q
  · have : 2 ^ (k + 1) ≤ 2 ^ n.log2 := Nat.pow_le_pow_right (by decide) q
    omega
theorem log2_mul {a k : Nat} (ha : 0 < a) : (a * 2 ^ k).log2 = a.log2 + k := by
  have a1 := Nat.log2_self_le (show a ≠ 0 by omega)
  have a2 : a < 2 ^ (a.log2 + 1) := Nat.lt_log2_self
  refine log2_eq ?_ ?_
  · rw [Nat.pow_add]
    exact Nat.mul_le_mul_right _ a1
  · rw [show a.log2 + k + 1 = (a.log2 + 1) + k by omega, Nat.pow_add]
    exact Nat.mul_lt_mul_of_pos_right a2 (Nat.two_pow_pos k)
theorem nearest_mul (x d : Nat) (hd : 0 < d) : FP.Core.nearest (x * d) d = x := by
  unfold FP.Core.nearest
  rw [Nat.mul_mod_left, if_pos (by omega), Nat.mul_div_cancel _ hd]
/-- what can be written is not rounded -/
theorem nrm {f : FP.Core.Fmt} {p : Nat} (hp : f.p = p + 1) {s : Bool} {a k : Nat} {e : Int} (ha : 0 < a) (ha2 : a < 2 ^ (p + 1)) (h1 : f.qmin ≤ (a.log2 : Int) + k + e - p) (h2 : (a.log2 : Int) + k + e - p ≤ f.qmax) :
    FP.Core.roundRatio f s (a * 2 ^ k) 1 e = .fin s (a * 2 ^ (p - a.log2)) ((a.log2 : Int) + k + e - p) := by
  have hL : a.log2 ≤ p := by
    have a1 := Nat.log2_self_le (show a ≠ 0 by omega)
    rcases Nat.lt_or_ge p a.log2 with q | q
    · have : 2 ^ (p + 1) ≤ 2 ^ a.log2 := Nat.pow_le_pow_right (by decide) q
      omega
    · exact q
  have a2 : a < 2 ^ (a.log2 + 1) := Nat.lt_log2_self
  have hpos : a * 2 ^ k ≠ 0 := Nat.ne_of_gt (Nat.mul_pos ha (Nat.two_pow_pos k))
  have hc : a * 2 ^ (p - a.log2) < 2 ^ (p + 1) := by
    have : 2 ^ (p + 1) = 2 ^ (a.log2 + 1) * 2 ^ (p - a.log2) := by rw [← Nat.pow_add, show a.log2 + 1 + (p - a.log2) = p + 1 by omega]
    rw [this]
    exact Nat.mul_lt_mul_of_pos_right a2 (Nat.two_pow_pos _)
  unfold FP.Core.roundRatio
  rw [if_neg hpos]
  unfold FP.Core.roundAt FP.Core.quantum
  rw [leading_one hpos, log2_mul ha, hp]
  have hq : max f.qmin (((a.log2 + k : Nat) : Int) + e - (((p + 1 : Nat) : Int) - 1)) = (a.log2 : Int) + k + e - p := by omega
  rw [hq]
  have hu : FP.Core.nearest (FP.Core.unitsNum (a * 2 ^ k) e ((a.log2 : Int) + k + e - p)) (FP.Core.unitsDen 1 e ((a.log2 : Int) + k + e - p)) = a * 2 ^ (p - a.log2) := by
    unfold FP.Core.unitsNum FP.Core.unitsDen
    rcases Nat.lt_or_ge p (a.log2 + k) with z | z
    · have e1 : (e - ((a.log2 : Int) + k + e - p)).toNat = 0 := by omega
      have e2 : (((a.log2 : Int) + k + e - p) - e).toNat = a.log2 + k - p := by omega
      rw [e1, e2, Nat.pow_zero, Nat.mul_one, Nat.one_mul]
      have : a * 2 ^ k = a * 2 ^ (p - a.log2) * 2 ^ (a.log2 + k - p) := by rw [Nat.mul_assoc, ← Nat.pow_add, show p - a.log2 + (a.log2 + k - p) = k by omega]
      rw [this, nearest_mul _ _ (Nat.two_pow_pos _)]
    · have e1 : (e - ((a.log2 : Int) + k + e - p)).toNat = p - (a.log2 + k) := by omega
      have e2 : (((a.log2 : Int) + k + e - p) - e).toNat = 0 := by omega
      rw [e1, e2, Nat.pow_zero, Nat.mul_one, nearest_one, Nat.mul_assoc, ← Nat.pow_add, show k + (p - (a.log2 + k)) = p - a.log2 by omega]
  rw [hu]
  unfold FP.Core.settle FP.Core.bound
  rw [hp, if_pos hc, if_pos h2]
theorem nrm_ge {p a : Nat} (ha : 0 < a) (ha2 : a < 2 ^ (p + 1)) : 2 ^ p ≤ a * 2 ^ (p - a.log2) ∧ a * 2 ^ (p - a.log2) < 2 ^ (p + 1) := by
  have a1 := Nat.log2_self_le (show a ≠ 0 by omega)
  have a2 : a < 2 ^ (a.log2 + 1) := Nat.lt_log2_self
  have hL : a.log2 ≤ p := by
    rcases Nat.lt_or_ge p a.log2 with q | q
    · have : 2 ^ (p + 1) ≤ 2 ^ a.log2 := Nat.pow_le_pow_right (by decide) q
      omega
    · exact q
  constructor
  · have : 2 ^ p = 2 ^ a.log2 * 2 ^ (p - a.log2) := by rw [← Nat.pow_add, show a.log2 + (p - a.log2) = p by omega]
    rw [this]
    exact Nat.mul_le_mul_right _ a1
  · have : 2 ^ (p + 1) = 2 ^ (a.log2 + 1) * 2 ^ (p - a.log2) := by rw [← Nat.pow_add, show a.log2 + 1 + (p - a.log2) = p + 1 by omega]
    rw [this]
    exact Nat.mul_lt_mul_of_pos_right a2 (Nat.two_pow_pos _)
/-- a quotient of two normal numbers -/
theorem quo {f : FP.Core.Fmt} {p : Nat} (hp : f.p = p + 1) {s : Bool} {c d : Nat} {e : Int} (hc : 2 ^ p ≤ c) (hc2 : c < 2 ^ (p + 1)) (hd : 2 ^ p ≤ d) (hd2 : d < 2 ^ (p + 1)) (h1 : f.qmin ≤ e - p - 1) (h2 : e - p + 1 ≤ f.qmax) :
    ∃ c' q', FP.Core.roundRatio f s c d e = .fin s c' q' ∧ 2 ^ p ≤ c' ∧ c' < 2 ^ (p + 1) ∧ e - p - 1 ≤ q' ∧ q' ≤ e - p + 1 := by
  have hpp := Nat.two_pow_pos p
  have hpow : 2 ^ (p + 1) = 2 * 2 ^ p := by rw [Nat.pow_succ]; omega
  have tails : f.tails = 2 ^ p := by unfold FP.Core.Fmt.tails; rw [hp, Nat.add_sub_cancel]
  unfold FP.Core.roundRatio
  rw [if_neg (by omega)]
  unfold FP.Core.roundAt FP.Core.quantum FP.Core.leading
  rw [log2_eq hc hc2, log2_eq hd hd2]
  have e0 : ((p : Int) - (p : Int)) = 0 := by omega
  simp only [e0]
  rw [show ((0 : Int)).toNat = 0 from rfl, show (-(0 : Int)).toNat = 0 from rfl, Nat.pow_zero, Nat.mul_one, Nat.mul_one, hp]
  -- the result before settling
  have fin : ∀ (n : Nat) (q : Int), 2 ^ p ≤ n → n ≤ 2 ^ (p + 1) → e - p - 1 ≤ q → q ≤ e - p → ∃ c' q', FP.Core.settle f s n q = .fin s c' q' ∧ 2 ^ p ≤ c' ∧ c' < 2 ^ (p + 1) ∧ e - p - 1 ≤ q' ∧ q' ≤ e - p + 1 := by
    intro n q n1 n2 q1 q2
    unfold FP.Core.settle FP.Core.bound
    rw [hp, tails]
    by_cases z : n < 2 ^ (p + 1)
    · rw [if_pos z, if_pos (by omega)]
      exact ⟨n, q, rfl, n1, z, q1, by omega⟩
    · rw [if_neg z, if_pos (by omega)]
      exact ⟨2 ^ p, q + 1, rfl, Nat.le_refl _, by omega, by omega, by omega⟩
  have bnd : ∀ x : Nat, 2 ^ p ≤ x / d → x / d < 2 ^ (p + 1) → 2 ^ p ≤ FP.Core.nearest x d ∧ FP.Core.nearest x d ≤ 2 ^ (p + 1) := by
    intro x x1 x2
    have h3 := nearest_le x d
    have h4 : x / d ≤ FP.Core.nearest x d := by
      unfold FP.Core.nearest
      split
      · exact Nat.le_refl _
      · split
        · omega
        · omega
    omega
  by_cases q : d ≤ c
  · rw [if_pos q]
    have hq : max f.qmin ((0 : Int) + e - (((p + 1 : Nat) : Int) - 1)) = e - p := by omega
    rw [hq]
    unfold FP.Core.unitsNum FP.Core.unitsDen
    have e1 : (e - (e - p)).toNat = p := by omega
    have e2 : ((e - p) - e).toNat = 0 := by omega
    rw [e1, e2, Nat.pow_zero, Nat.mul_one]
    have b1 : 2 ^ p ≤ c * 2 ^ p / d := by
      rw [Nat.le_div_iff_mul_le (by omega), Nat.mul_comm]
      exact Nat.mul_le_mul_right _ q
    have b2 : c * 2 ^ p / d < 2 ^ (p + 1) := by
      rw [Nat.div_lt_iff_lt_mul (by omega)]
      have : c * 2 ^ p < 2 ^ (p + 1) * 2 ^ p := Nat.mul_lt_mul_of_pos_right hc2 hpp
      have h3 : 2 ^ (p + 1) * 2 ^ p ≤ 2 ^ (p + 1) * d := Nat.mul_le_mul_left _ hd
      omega
    obtain ⟨n1, n2⟩ := bnd _ b1 b2
    exact fin _ _ n1 n2 (by omega) (by omega)
  · rw [if_neg q]
    have hq : max f.qmin ((0 : Int) - 1 + e - (((p + 1 : Nat) : Int) - 1)) = e - p - 1 := by omega
    rw [hq]
    unfold FP.Core.unitsNum FP.Core.unitsDen
    have e1 : (e - (e - p - 1)).toNat = p + 1 := by omega
    have e2 : ((e - p - 1) - e).toNat = 0 := by omega
    rw [e1, e2, Nat.pow_zero, Nat.mul_one]
    have b1 : 2 ^ p ≤ c * 2 ^ (p + 1) / d := by
      rw [Nat.le_div_iff_mul_le (by omega)]
      have h3 : 2 ^ p * d ≤ 2 ^ p * 2 ^ (p + 1) := Nat.mul_le_mul_left _ (by omega)
      have h4 : 2 ^ p * 2 ^ (p + 1) ≤ c * 2 ^ (p + 1) := Nat.mul_le_mul_right _ hc
      omega
    have b2 : c * 2 ^ (p + 1) / d < 2 ^ (p + 1) := by
      rw [Nat.div_lt_iff_lt_mul (by omega), Nat.mul_comm]
      exact Nat.mul_lt_mul_of_pos_left (by omega) (Nat.two_pow_pos _)
    obtain ⟨n1, n2⟩ := bnd _ b1 b2
    exact fin _ _ n1 n2 (by omega) (by omega)
/-! doubles -/
theorem b64_tails : FP.Core.b64.tails = 2 ^ 52 := by decide
theorem b64_exps : FP.Core.b64.exps = 2048 := by decide
theorem b64_qmin : FP.Core.b64.qmin = -1074 := by decide
theorem b64_qmax : FP.Core.b64.qmax = 971 := by decide
theorem enc64 {c : Nat} {q : Int} (hc : 2 ^ 52 ≤ c) (h : c < 2 ^ 53) (h1 : -1074 ≤ q) (h2 : q ≤ 971) : FP.Core.encode FP.Core.b64 (.fin false c q) = (q + 1075).toNat * 2 ^ 52 + (c - 2 ^ 52) := by
  unfold FP.Core.encode FP.Core.assemble
  simp only [b64_tails, b64_exps, b64_qmin, Bool.toNat_false]
  rw [if_neg (by omega), show (q - -1074).toNat + 1 = (q + 1075).toNat by omega, Nat.zero_mul, Nat.zero_add]
theorem dec64 {e m : Nat} (h1 : 1 ≤ e) (h2 : e ≤ 2046) (hm : m < 2 ^ 52) : FP.Core.decode FP.Core.b64 (e * 2 ^ 52 + m) = .fin false (2 ^ 52 + m) ((e : Int) - 1075) := by
  unfold FP.Core.decode FP.Core.fieldE FP.Core.fieldT FP.Core.fieldS
  simp only [b64_tails, b64_exps, b64_qmin]
  have e1 : (e * 2 ^ 52 + m) / 2 ^ 52 = e := by omega
  have e2 : (e * 2 ^ 52 + m) % 2 ^ 52 = m := by omega
  rw [e1, e2, Nat.mod_eq_of_lt (by omega), if_neg (by omega), if_neg (by omega), Nat.div_eq_of_lt (by omega)]
  have e5 : -1074 + ((e : Int) - 1) = (e : Int) - 1075 := by omega
  rw [e5]
  rfl
/-- a normal double -/
def Db (e m : Nat) : UInt64 := UInt64.ofNat (e * 2 ^ 52 + m)
theorem Db_nat {e m : Nat} (h2 : e ≤ 2046) (hm : m < 2 ^ 52) : (Db e m).toNat = e * 2 ^ 52 + m := UInt64.toNat_ofNat_of_lt' (by unfold UInt64.size; omega)
theorem Db_dec {e m : Nat} (h1 : 1 ≤ e) (h2 : e ≤ 2046) (hm : m < 2 ^ 52) : FP.Core.decode FP.Core.b64 (Db e m).toNat = .fin false (2 ^ 52 + m) ((e : Int) - 1075) := by
  rw [Db_nat h2 hm, dec64 h1 h2 hm]
theorem n64_of {n : Nat} (h : n ≤ 0x7ff0000000000000) : n64 (UInt64.ofNat n) = true := by
  unfold n64
  refine decide_eq_true ?_
  rw [UInt64.le_iff_toNat_le, UInt64.toNat_and, UInt64.toNat_ofNat_of_lt' (Nat.lt_of_le_of_lt h (by decide))]
  exact Nat.le_trans Nat.and_le_left h
theorem Db_n64 {e m : Nat} (h2 : e ≤ 2046) (hm : m < 2 ^ 52) : n64 (Db e m) = true := n64_of (by omega)
theorem Db_enc {c : Nat} {q : Int} (hc : 2 ^ 52 ≤ c) (h : c < 2 ^ 53) (h1 : -1074 ≤ q) (h2 : q ≤ 971) : UInt64.ofNat (FP.Core.encode FP.Core.b64 (.fin false c q)) = Db (q + 1075).toNat (c - 2 ^ 52) := by
  rw [enc64 hc h h1 h2]
  rfl
theorem two_dec : FP.Core.decode FP.Core.b64 (4611686018427387904 : UInt64).toNat = .fin false (2 ^ 52) (-51) := by decide +kernel
theorem one_dec : FP.Core.decode FP.Core.b64 FP.dconst1.toNat = .fin false (2 ^ 52) (-52) := by decide +kernel
theorem zero_dec : FP.Core.decode FP.Core.b64 FP.dconst0.toNat = .fin false 0 (-1074) := by decide +kernel
theorem half {e m : Nat} (h1 : 2 ≤ e) (h2 : e ≤ 2046) (hm : m < 2 ^ 52) : FP.ddiv (Db e m) (4611686018427387904 : UInt64) = Db (e - 1) m := by
  show UInt64.ofNat (FP.Core.encode FP.Core.b64 (FP.Core.quotient FP.Core.b64 (FP.Core.decode FP.Core.b64 (Db e m).toNat) (FP.Core.decode FP.Core.b64 (4611686018427387904 : UInt64).toNat))) = _
  rw [Db_dec (by omega) h2 hm, two_dec]
  show UInt64.ofNat (FP.Core.encode FP.Core.b64 (if 2 ^ 52 = 0 then (if 2 ^ 52 + m = 0 then FP.Core.Datum.nan else FP.Core.Datum.inf (false != false)) else FP.Core.roundRatio FP.Core.b64 false (2 ^ 52 + m) (2 ^ 52) (((e : Int) - 1075) - -51))) = _
  rw [if_neg (by decide)]
  have hr : FP.Core.roundRatio FP.Core.b64 false (2 ^ 52 + m) (2 ^ 52) (((e : Int) - 1075) - -51) = .fin false (2 ^ 52 + m) ((e : Int) - 1076) := by
    unfold FP.Core.roundRatio
    rw [if_neg (by omega)]
    unfold FP.Core.roundAt FP.Core.quantum FP.Core.leading
    rw [log2_eq (n := 2 ^ 52 + m) (k := 52) (by omega) (by omega), log2_eq (n := 2 ^ 52) (k := 52) (by decide) (by decide)]
    have e0 : (((52 : Nat) : Int) - ((52 : Nat) : Int)) = 0 := by decide
    simp only [e0]
    rw [show ((0 : Int)).toNat = 0 from rfl, show (-(0 : Int)).toNat = 0 from rfl, Nat.pow_zero, Nat.mul_one, Nat.mul_one, if_pos (by omega), show FP.Core.b64.p = 53 from rfl, b64_qmin]
    have hq : max (-1074 : Int) ((0 : Int) + (((e : Int) - 1075) - -51) - (((53 : Nat) : Int) - 1)) = (e : Int) - 1076 := by omega
    rw [hq]
    unfold FP.Core.unitsNum FP.Core.unitsDen
    have e1 : ((((e : Int) - 1075) - -51) - ((e : Int) - 1076)).toNat = 52 := by omega
    have e2 : (((e : Int) - 1076) - (((e : Int) - 1075) - -51)).toNat = 0 := by omega
    rw [e1, e2, Nat.pow_zero, Nat.mul_one, nearest_mul _ _ (by decide)]
    unfold FP.Core.settle FP.Core.bound
    rw [show FP.Core.b64.p = 53 from rfl, b64_qmax, if_pos (by omega), if_pos (by omega)]
  rw [hr, Db_enc (by omega) (by omega) (by omega) (by omega), show ((e : Int) - 1076 + 1075).toNat = e - 1 by omega, Nat.add_sub_cancel_left]
theorem twice {e m : Nat} (h1 : 1 ≤ e) (h2 : e ≤ 2045) (hm : m < 2 ^ 52) : FP.dmul (Db e m) (4611686018427387904 : UInt64) = Db (e + 1) m := by
  show UInt64.ofNat (FP.Core.encode FP.Core.b64 (FP.Core.round FP.Core.b64 (FP.Core.exactProduct (FP.Core.decode FP.Core.b64 (Db e m).toNat) (FP.Core.decode FP.Core.b64 (4611686018427387904 : UInt64).toNat)))) = _
  rw [Db_dec h1 (by omega) hm, two_dec]
  show UInt64.ofNat (FP.Core.encode FP.Core.b64 (FP.Core.roundRatio FP.Core.b64 false ((2 ^ 52 + m) * 2 ^ 52) 1 (((e : Int) - 1075) + -51))) = _
  have hl : (2 ^ 52 + m).log2 = 52 := log2_eq (k := 52) (by omega) (by omega)
  rw [nrm (f := FP.Core.b64) (p := 52) rfl (by omega) (by omega) (by rw [hl, b64_qmin]; omega) (by rw [hl, b64_qmax]; omega), hl, Nat.sub_self, Nat.pow_zero, Nat.mul_one]
  have e1 : (((52 : Nat) : Int) + ((52 : Nat) : Int) + (((e : Int) - 1075) + -51) - ((52 : Nat) : Int)) = (e : Int) - 1074 := by omega
  rw [e1, Db_enc (by omega) (by omega) (by omega) (by omega), show ((e : Int) - 1074 + 1075).toNat = e + 1 by omega, Nat.add_sub_cancel_left]
