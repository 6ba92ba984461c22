/-! Layer 2, 32: rounding of what is small -/
theorem b32_tails : FP.Core.b32.tails = 8388608 := by decide
theorem b32_exps : FP.Core.b32.exps = 256 := by decide
theorem b32_qmin : FP.Core.b32.qmin = -149 := by decide
theorem b32_qmax : FP.Core.b32.qmax = 104 := by decide
theorem enc32 {c : Nat} {q : Int} (hc : c < 16777216) (h1 : -149 ≤ q) (h2 : q ≤ 100) :
    ∃ n, FP.Core.encode FP.Core.b32 (.fin false c q) = n ∧ n ≤ 0x7f000000 ∧ ((c < 8388608 ∧ n = c) ∨ (8388608 ≤ c ∧ n = ((q + 150).toNat) * 8388608 + (c - 8388608))) := by
  refine ⟨_, rfl, ?_⟩
  unfold FP.Core.encode FP.Core.assemble
  simp only [b32_tails, b32_exps, b32_qmin, Bool.toNat_false]
  by_cases q1 : c < 8388608
  · rw [if_pos q1]
    exact ⟨by omega, Or.inl ⟨q1, by omega⟩⟩
  · rw [if_neg q1]
    have e : (q - -149).toNat + 1 = (q + 150).toNat := by omega
    rw [e]
    have h3 : (q + 150).toNat ≤ 250 := by omega
    exact ⟨by omega, Or.inr ⟨by omega, by omega⟩⟩
theorem dec32 {n : Nat} {c : Nat} {q : Int} (hc : c < 16777216) (h1 : -149 ≤ q) (h2 : q ≤ 100) (h : (c < 8388608 ∧ n = c) ∨ (8388608 ≤ c ∧ n = ((q + 150).toNat) * 8388608 + (c - 8388608))) :
    FP.Core.decode FP.Core.b32 n = .fin false c (if c < 8388608 then -149 else q) := by
  unfold FP.Core.decode FP.Core.fieldE FP.Core.fieldT FP.Core.fieldS
  simp only [b32_tails, b32_exps, b32_qmin]
  rcases h with ⟨q1, e⟩ | ⟨q1, e⟩
  · have e1 : n / 8388608 = 0 := by omega
    have e2 : n % 8388608 = c := by omega
    rw [e1, e2, if_neg (by decide), if_pos (by decide), if_pos q1]
    rfl
  · have h3 : (q + 150).toNat ≤ 250 := by omega
    have h4 : 1 ≤ (q + 150).toNat := by omega
    have e1 : n / 8388608 = (q + 150).toNat := by omega
    have e2 : n % 8388608 = c - 8388608 := by omega
    have e3 : (q + 150).toNat % 256 = (q + 150).toNat := by omega
    have e4 : (q + 150).toNat / 256 = 0 := by omega
    rw [e1, e2, e3, e4, if_neg (by omega), if_neg (by omega), if_neg (by omega)]
    have e5 : -149 + (((q + 150).toNat : Int) - 1) = q := by omega
    have e6 : 8388608 + (c - 8388608) = c := by omega
    rw [e5, e6]
    rfl
theorem nearest_one (x : Nat) : FP.Core.nearest x 1 = x := by
  unfold FP.Core.nearest
  rw [Nat.mod_one, if_pos (by decide), Nat.div_one]
theorem nearest_le (x d : Nat) : FP.Core.nearest x d ≤ x / d + 1 := by
  unfold FP.Core.nearest
  split
  · omega
  · split
    · omega
    · omega
theorem leading_one {num : Nat} (h : num ≠ 0) : FP.Core.leading num 1 = (num.log2 : Int) := by
  unfold FP.Core.leading
  have e : ((num.log2 : Int) - ((1 : Nat).log2 : Int)) = (num.log2 : Int) := by
    rw [show (1 : Nat).log2 = 0 from by decide]
    omega
  simp only [e]
  rw [if_pos]
  have := Nat.log2_self_le h
  have e2 : ((num.log2 : Int)).toNat = num.log2 := by omega
  have e3 : (-(num.log2 : Int)).toNat = 0 := by omega
  rw [e2, e3]
  omega
theorem round32 {num : Nat} {e : Int} (hn : num < 2 ^ 48) (h1 : e ≤ -31) : ∃ c q, FP.Core.roundRatio FP.Core.b32 false num 1 e = .fin false c q ∧ c < 16777216 ∧ -149 ≤ q ∧ q ≤ -6 := by
  unfold FP.Core.roundRatio
  by_cases h0 : num = 0
  · rw [if_pos h0]
    exact ⟨0, -149, by rw [b32_qmin], by decide, by decide, by decide⟩
  · rw [if_neg h0]
    unfold FP.Core.roundAt FP.Core.quantum
    rw [leading_one h0, b32_qmin, show ((FP.Core.b32.p : Int) - 1) = 23 from by decide]
    have hL := Nat.log2_self_le h0
    have hL2 : num < 2 ^ (num.log2 + 1) := Nat.lt_log2_self
    have hL3 : num.log2 < 48 := by
      rcases Nat.lt_or_ge num.log2 48 with z | z
      · exact z
      · have : 2 ^ 48 ≤ 2 ^ num.log2 := Nat.pow_le_pow_right (by decide) z
        omega
    obtain ⟨L, hLe⟩ : ∃ L, L = num.log2 := ⟨_, rfl⟩
    rw [← hLe] at hL hL2 hL3 ⊢
    obtain ⟨q, hq⟩ : ∃ q, q = max (-149 : Int) ((L : Int) + e - 23) := ⟨_, rfl⟩
    rw [← hq]
    have hq1 : -149 ≤ q := by omega
    have hq2 : q ≤ -7 := by omega
    have hq3 : (L : Int) + e - 23 ≤ q := by omega
    have key : FP.Core.nearest (FP.Core.unitsNum num e q) (FP.Core.unitsDen 1 e q) ≤ 16777216 := by
      unfold FP.Core.unitsNum FP.Core.unitsDen
      rcases Int.lt_or_le q e with z | z
      · have e1 : (q - e).toNat = 0 := by omega
        rw [e1, Nat.pow_zero, Nat.mul_one, nearest_one]
        have h3 : num * 2 ^ (e - q).toNat < 2 ^ (L + 1) * 2 ^ (e - q).toNat := Nat.mul_lt_mul_of_pos_right hL2 (Nat.two_pow_pos _)
        rw [← Nat.pow_add] at h3
        have h4 : 2 ^ (L + 1 + (e - q).toNat) ≤ 2 ^ 24 := Nat.pow_le_pow_right (by decide) (by omega)
        omega
      · have e1 : (e - q).toNat = 0 := by omega
        rw [e1, Nat.pow_zero, Nat.mul_one, Nat.one_mul]
        refine Nat.le_trans (nearest_le _ _) ?_
        have h3 : num < 2 ^ 24 * 2 ^ (q - e).toNat := by
          rw [← Nat.pow_add]
          exact Nat.lt_of_lt_of_le hL2 (Nat.pow_le_pow_right (by decide) (by omega))
        have h4 : num / 2 ^ (q - e).toNat < 2 ^ 24 := (Nat.div_lt_iff_lt_mul (Nat.two_pow_pos _)).mpr h3
        omega
    unfold FP.Core.settle FP.Core.bound
    rw [show FP.Core.b32.p = 24 from rfl, b32_qmax, b32_tails]
    split
    · next z =>
      rw [if_pos (by omega)]
      exact ⟨_, _, rfl, by omega, by omega, by omega⟩
    · rw [if_pos (by omega)]
      exact ⟨_, _, rfl, by omega, by omega, by omega⟩
def bzc (x : UInt32) : Bool := match FP.Core.decode FP.Core.b32 x.toNat with
  | .fin false c q => decide (c < 2 ^ 24) && decide (-149 ≤ q) && decide (q ≤ -14)
  | _ => false
theorem okB_all : (List.range 1001).all (fun b => bzc (FP.i2f (nI b))) = true := by decide +kernel
theorem bzc_s {x : UInt32} (h : bzc x = true) : ∃ c q, FP.Core.decode FP.Core.b32 x.toNat = .fin false c q ∧ c < 16777216 ∧ -149 ≤ q ∧ q ≤ -14 := by
  unfold bzc at h
  split at h
  · next c q e =>
    simp only [Bool.and_eq_true, decide_eq_true_eq] at h
    exact ⟨c, q, e, by omega, by omega, by omega⟩
  · exact absurd h (by decide)
theorem vzc_s {x : UInt32} (h : vzc x = true) : ∃ c q, FP.Core.decode FP.Core.b32 x.toNat = .fin false c q ∧ 0 < c ∧ c < 16777216 ∧ -149 ≤ q ∧ q ≤ -17 := by
  unfold vzc at h
  split at h
  · next c q e =>
    simp only [Bool.and_eq_true, decide_eq_true_eq] at h
    exact ⟨c, q, e, by omega, by omega, by omega, by omega⟩
  · exact absurd h (by decide)
theorem okV_of {d w : Nat} (hd : d < 12) (h1 : 1 ≤ w) (hw : w ≤ 99) : n32 (vzp d w) = true ∧ n32 (vz d w) = true ∧ vzc (vz d w) = true := by
  have h := allR okV_all (x := 99 * d + (w - 1)) (by omega)
  unfold okV at h
  rw [show (99 * d + (w - 1)) / 99 = d by omega, show (99 * d + (w - 1)) % 99 + 1 = w by omega, Bool.and_eq_true, Bool.and_eq_true] at h
  exact ⟨h.1.1, h.1.2, h.2⟩
theorem n32_of {n : Nat} (h : n ≤ 0x7f000000) : n32 (UInt32.ofNat n) = true := by
  unfold n32
  refine decide_eq_true ?_
  rw [UInt32.le_iff_toNat_le, UInt32.toNat_and, UInt32.toNat_ofNat_of_lt' (Nat.lt_of_le_of_lt h (by decide))]
  exact Nat.le_trans Nat.and_le_left (Nat.le_trans h (by decide))
theorem price_ok {x y : UInt32} (hx : vzc x = true) (hy : bzc y = true) : n32 (FP.fmul x y) = true ∧ ∃ k, k < 2 ^ 18 ∧ FP.f2i (FP.fmul x y) = nI k := by
  obtain ⟨c, q, e1, a1, a2, a3, a4⟩ := vzc_s hx
  obtain ⟨d, r, e2, b2, b3, b4⟩ := bzc_s hy
  have hm : c * d < 2 ^ 48 := by
    have : c * d ≤ 16777215 * 16777215 := Nat.mul_le_mul (by omega) (by omega)
    omega
  obtain ⟨m, p, e3, c1, c2, c3⟩ := round32 hm (e := q + r) (by omega)
  obtain ⟨n, e4, d1, d2⟩ := enc32 c1 c2 (by omega)
  have e5 : FP.fmul x y = UInt32.ofNat n := by
    show UInt32.ofNat (FP.Core.mul FP.Core.b32 x.toNat y.toNat) = _
    unfold FP.Core.mul
    rw [e1, e2]
    show UInt32.ofNat (FP.Core.encode FP.Core.b32 (FP.Core.roundRatio FP.Core.b32 false (c * d) 1 (q + r))) = _
    rw [e3, e4]
  rw [e5]
  refine ⟨n32_of d1, ?_⟩
  have hn : (UInt32.ofNat n).toNat = n := UInt32.toNat_ofNat_of_lt' (Nat.lt_of_le_of_lt d1 (by decide))
  show ∃ k, k < 2 ^ 18 ∧ FP.Core.toI (FP.Core.decode FP.Core.b32 (UInt32.ofNat n).toNat) = nI k
  rw [hn, dec32 c1 c2 (by omega) d2]
  obtain ⟨s, hs⟩ : ∃ s, s = (if m < 8388608 then (-149 : Int) else p) := ⟨_, rfl⟩
  rw [← hs]
  have hs2 : s ≤ -6 := by rw [hs]; split <;> omega
  unfold FP.Core.toI FP.Core.toInt FP.Core.truncate FP.Core.signed
  have e6 : s.toNat = 0 := by omega
  show ∃ k, k < 2 ^ 18 ∧ Int32.ofInt (max (-2 ^ 31) (min (2 ^ 31 - 1) (if false = true then -((m * 2 ^ s.toNat / 2 ^ (-s).toNat : Nat) : Int) else ((m * 2 ^ s.toNat / 2 ^ (-s).toNat : Nat) : Int)))) = nI k
  rw [e6, Nat.pow_zero, Nat.mul_one, if_neg (by decide)]
  have h6 : 2 ^ 6 ≤ 2 ^ (-s).toNat := Nat.pow_le_pow_right (by decide) (by omega)
  have h7 : m / 2 ^ (-s).toNat ≤ m / 2 ^ 6 := Nat.div_le_div_left h6 (by decide)
  refine ⟨m / 2 ^ (-s).toNat, by omega, ?_⟩
  obtain ⟨k, hk⟩ : ∃ k, k = m / 2 ^ (-s).toNat := ⟨_, rfl⟩
  rw [← hk] at h7 ⊢
  have e7 : max (-2 ^ 31 : Int) (min (2 ^ 31 - 1) (k : Int)) = (k : Int) := by omega
  rw [e7]
  rfl
/-- the order of volumes -/
def vk (x : UInt32) : Nat := match FP.Core.decode FP.Core.b32 x.toNat with
  | .fin _ c q => c * 2 ^ (q + 149).toNat
  | _ => 0
theorem cmp_scale (a b k : Nat) : compare (a * 2 ^ k) (b * 2 ^ k) = compare a b := by
  have hk := Nat.two_pow_pos k
  rcases Nat.lt_trichotomy a b with h | h | h
  · rw [Nat.compare_eq_lt.mpr h, Nat.compare_eq_lt.mpr (Nat.mul_lt_mul_of_pos_right h hk)]
  · rw [h]
    rw [Nat.compare_eq_eq.mpr rfl, Nat.compare_eq_eq.mpr rfl]
  · rw [Nat.compare_eq_gt.mpr h, Nat.compare_eq_gt.mpr (Nat.mul_lt_mul_of_pos_right h hk)]
theorem cmp_cast (a b : Nat) : compare (a : Int) (b : Int) = compare a b := by
  rcases Nat.lt_trichotomy a b with h | h | h
  · rw [Nat.compare_eq_lt.mpr h]
    exact if_pos (by omega)
  · rw [h, Nat.compare_eq_eq.mpr rfl]
    exact (if_neg (by omega)).trans (if_pos rfl)
  · rw [Nat.compare_eq_gt.mpr h]
    exact (if_neg (by omega)).trans (if_neg (by omega))
theorem vcmp {x y : UInt32} (hx : vzc x = true) (hy : vzc y = true) : FP.fcmp x y = some (compare (vk x) (vk y)) := by
  obtain ⟨c, q, e1, a1, a2, a3, a4⟩ := vzc_s hx
  obtain ⟨d, r, e2, b1, b2, b3, b4⟩ := vzc_s hy
  show FP.Core.order (FP.Core.decode FP.Core.b32 x.toNat) (FP.Core.decode FP.Core.b32 y.toNat) = _
  unfold vk
  rw [e1, e2]
  unfold FP.Core.order FP.Core.inUnits FP.Core.signed
  simp only [Bool.false_eq_true, if_false]
  rw [cmp_cast]
  obtain ⟨k, hk⟩ : ∃ k : Nat, (k : Int) = min q r + 149 := ⟨(min q r + 149).toNat, by omega⟩
  have f1 : (q + 149).toNat = (q - min q r).toNat + k := by omega
  have f2 : (r + 149).toNat = (r - min q r).toNat + k := by omega
  rw [f1, f2, Nat.pow_add, Nat.pow_add, ← Nat.mul_assoc, ← Nat.mul_assoc, cmp_scale]
