/-! Layer 2, 61: the bits of a number -/
theorem cmpv_lt (a b : Nat) (o : CmpOp) : (Op.cmpValue (some (compare a b)) o < 0) ↔ a < b := by
  rcases Nat.lt_trichotomy a b with h | h | h
  · rw [Nat.compare_eq_lt.mpr h]
    exact ⟨fun _ => h, fun _ => (show (-1 : Int32) < 0 by decide)⟩
  · rw [Nat.compare_eq_eq.mpr h]
    exact ⟨fun z => absurd z (show ¬ (0 : Int32) < 0 by decide), fun z => by omega⟩
  · rw [Nat.compare_eq_gt.mpr h]
    exact ⟨fun z => absurd z (show ¬ (1 : Int32) < 0 by decide), fun z => by omega⟩
theorem dcmp_fin {x y : UInt64} {c d : Nat} {q r : Int} (hx : FP.Core.decode FP.Core.b64 x.toNat = .fin false c q) (hy : FP.Core.decode FP.Core.b64 y.toNat = .fin false d r) : FP.dcmp x y = some (compare (c * 2 ^ (q - min q r).toNat) (d * 2 ^ (r - min q r).toNat)) := by
  show FP.Core.order (FP.Core.decode FP.Core.b64 x.toNat) (FP.Core.decode FP.Core.b64 y.toNat) = _
  rw [hx, hy]
  unfold FP.Core.order FP.Core.inUnits FP.Core.signed
  simp only [Bool.false_eq_true, if_false]
  rw [cmp_cast]
theorem lt_two {e m : Nat} (h1 : 1 ≤ e) (h2 : e ≤ 2046) (hm : m < 2 ^ 52) : (Op.cmpValue (FP.dcmp (Db e m) (4611686018427387904 : UInt64)) CmpOp.l < 0) ↔ e ≤ 1023 := by
  rw [dcmp_fin (Db_dec h1 h2 hm) two_dec, cmpv_lt]
  rcases Nat.lt_or_ge 1023 e with z | z
  · have e1 : (((e : Int) - 1075) - min ((e : Int) - 1075) (-51)).toNat = e - 1024 := by omega
    have e2 : ((-51 : Int) - min ((e : Int) - 1075) (-51)).toNat = 0 := by omega
    rw [e1, e2, Nat.pow_zero, Nat.mul_one]
    have h3 : (2 ^ 52 + m) * 1 ≤ (2 ^ 52 + m) * 2 ^ (e - 1024) := Nat.mul_le_mul_left _ (Nat.two_pow_pos _)
    omega
  · have e1 : (((e : Int) - 1075) - min ((e : Int) - 1075) (-51)).toNat = 0 := by omega
    have e2 : ((-51 : Int) - min ((e : Int) - 1075) (-51)).toNat = (1023 - e) + 1 := by omega
    rw [e1, e2, Nat.pow_zero, Nat.mul_one, Nat.pow_succ]
    have h3 : 1 ≤ 2 ^ (1023 - e) := Nat.two_pow_pos _
    have h4 : 2 ^ 52 * (1 * 2) ≤ 2 ^ 52 * (2 ^ (1023 - e) * 2) := Nat.mul_le_mul_left _ (Nat.mul_le_mul_right _ h3)
    omega
theorem ge_one {e m : Nat} (h1 : 1 ≤ e) (h2 : e ≤ 2046) (hm : m < 2 ^ 52) : (0 ≤ Op.cmpValue (FP.dcmp (Db e m) FP.dconst1) CmpOp.g) ↔ 1023 ≤ e := by
  rw [dcmp_fin (Db_dec h1 h2 hm) one_dec, cmpv_ge]
  rcases Nat.lt_or_ge e 1023 with z | z
  · have e1 : (((e : Int) - 1075) - min ((e : Int) - 1075) (-52)).toNat = 0 := by omega
    have e2 : ((-52 : Int) - min ((e : Int) - 1075) (-52)).toNat = (1022 - e) + 1 := by omega
    rw [e1, e2, Nat.pow_zero, Nat.mul_one, Nat.pow_succ]
    have h3 : 1 ≤ 2 ^ (1022 - e) := Nat.two_pow_pos _
    have h4 : 2 ^ 52 * (1 * 2) ≤ 2 ^ 52 * (2 ^ (1022 - e) * 2) := Nat.mul_le_mul_left _ (Nat.mul_le_mul_right _ h3)
    omega
  · have e1 : (((e : Int) - 1075) - min ((e : Int) - 1075) (-52)).toNat = e - 1023 := by omega
    have e2 : ((-52 : Int) - min ((e : Int) - 1075) (-52)).toNat = 0 := by omega
    rw [e1, e2, Nat.pow_zero, Nat.mul_one]
    have h3 : (2 ^ 52 + m) * 1 ≤ (2 ^ 52 + m) * 2 ^ (e - 1023) := Nat.mul_le_mul_left _ (Nat.two_pow_pos _)
    omega
theorem gt_zero {e m : Nat} (h1 : 1 ≤ e) (h2 : e ≤ 2046) (hm : m < 2 ^ 52) : 0 < Op.cmpValue (FP.dcmp (Db e m) FP.dconst0) CmpOp.l := by
  rw [dcmp_fin (Db_dec h1 h2 hm) zero_dec, cmpv_gt, Nat.zero_mul]
  exact Nat.mul_pos (by omega) (Nat.two_pow_pos _)
theorem down_loop {m b c : Nat} (hm : m < 2 ^ 52) (hc : c ≤ 1023) (K : UInt64 → Int32 → Sg → Option (Int64 × Sg)) (σ : Sg) : ∀ k x fuel, k ≤ 1023 → x + k ≤ 2 * c → k < fuel → fX6_bitsOf_14 (nI b) (nI c) K fuel (Db (1023 + k) m) (nI x) σ = K (Db 1023 m) (nI (x + k)) σ := by
  intro k
  induction k with
  | zero =>
    intro x fuel hk hx hf
    obtain ⟨f', rfl, -⟩ := fuel_succ hf
    rw [fX6_bitsOf_14, if_pos ((lt_two (by omega) (by omega) hm).mpr (by omega))]
    rfl
  | succ k ih =>
    intro x fuel hk hx hf
    obtain ⟨f', rfl, hf⟩ := fuel_succ hf
    rw [fX6_bitsOf_14, if_neg (fun z => absurd ((lt_two (by omega) (by omega) hm).mp z) (by omega)), show (2 : Int32) = nI 2 from rfl, zI_mul, if_le (by omega) (by omega), if_neg (by omega), half (by omega) (by omega) hm, show 1023 + (k + 1) - 1 = 1023 + k by omega, gd_of (Db_n64 (by omega) hm), lt'_eq, zs_add, ih (x + 1) f' (by omega) (by omega) (by omega), show x + 1 + k = x + (k + 1) by omega]
theorem up_loop {m b : Nat} (hm : m < 2 ^ 52) (K : UInt64 → Int32 → Sg → Option (Int64 × Sg)) (σ : Sg) : ∀ k x fuel, k ≤ 1022 → x ≤ 5000 → k + 1 ≤ x → k < fuel → fX6_bitsOf_45 (nI b) K fuel (Db (1023 - k) m) (nI x) σ = K (Db 1023 m) (nI (x - k)) σ := by
  intro k
  induction k with
  | zero =>
    intro x fuel hk hx0 hx hf
    obtain ⟨f', rfl, -⟩ := fuel_succ hf
    rw [fX6_bitsOf_45, if_pos ((ge_one (by omega) (by omega) hm).mpr (by omega))]
    rfl
  | succ k ih =>
    intro x fuel hk hx0 hx hf
    obtain ⟨f', rfl, hf⟩ := fuel_succ hf
    obtain ⟨y, rfl⟩ : ∃ y, x = y + 1 := ⟨x - 1, by omega⟩
    have hle : ¬ nI (y + 1) ≤ (1 : Int32) := by
      rw [show (1 : Int32) = nI 1 from rfl, zI_le (by omega) (by decide)]
      omega
    rw [fX6_bitsOf_45, if_neg (fun z => absurd ((ge_one (by omega) (by omega) hm).mp z) (by omega)), if_neg hle, twice (by omega) (by omega) hm, show 1023 - (k + 1) + 1 = 1023 - k by omega, gd_of (Db_n64 (by omega) hm), lt'_eq, z_dec2, ih y f' (by omega) (by omega) (by omega) (by omega), show y + 1 - (k + 1) = y - k by omega]
theorem rt64 {c : Nat} {q : Int} (hc : 2 ^ 52 ≤ c) (h : c < 2 ^ 53) (h1 : -1074 ≤ q) (h2 : q ≤ 900) : n64 (UInt64.ofNat (FP.Core.encode FP.Core.b64 (.fin false c q))) = true ∧ FP.Core.decode FP.Core.b64 (UInt64.ofNat (FP.Core.encode FP.Core.b64 (.fin false c q))).toNat = .fin false c q := by
  rw [Db_enc hc h h1 (by omega)]
  refine ⟨Db_n64 (by omega) (by omega), ?_⟩
  rw [Db_dec (by omega) (by omega) (by omega), show 2 ^ 52 + (c - 2 ^ 52) = c by omega, show (((q + 1075).toNat : Nat) : Int) - 1075 = q by omega]
theorem zero_enc : UInt64.ofNat (FP.Core.encode FP.Core.b64 (.fin false 0 (-1074))) = 0 := by decide +kernel
/-- the fraction, as a whole number -/
theorem frac_eq {m fb : Nat} (hm : m < 2 ^ 52) (hfb : fb ≤ 52) {P : UInt64} (hP : FP.Core.decode FP.Core.b64 P.toNat = .fin false (2 ^ 52) ((fb : Int) - 52)) :
    n64 (FP.dsub (Db 1023 m) FP.dconst1) = true ∧ n64 (FP.dmul (FP.dsub (Db 1023 m) FP.dconst1) P) = true ∧ FP.d2l (FP.dmul (FP.dsub (Db 1023 m) FP.dconst1) P) = Int64.ofNat (m / 2 ^ (52 - fb)) := by
  have hs : FP.dsub (Db 1023 m) FP.dconst1 = UInt64.ofNat (FP.Core.encode FP.Core.b64 (FP.Core.roundRatio FP.Core.b64 false m 1 (-52))) := by
    show UInt64.ofNat (FP.Core.encode FP.Core.b64 (FP.Core.round FP.Core.b64 (FP.Core.exactSum (FP.Core.decode FP.Core.b64 (Db 1023 m).toNat) (FP.Core.negate (FP.Core.decode FP.Core.b64 FP.dconst1.toNat))))) = _
    rw [Db_dec (by decide) (by decide) hm, one_dec]
    unfold FP.Core.negate FP.Core.exactSum
    have e1 : (((1023 : Nat) : Int) - 1075) = -52 := by decide
    have e2 : FP.Core.sumUnits false (2 ^ 52 + m) (-52) (!false) (2 ^ 52) (-52) (min (-52) (-52)) = (m : Int) := by
      unfold FP.Core.sumUnits FP.Core.signed FP.Core.inUnits
      have e3 : ((-52 : Int) - min (-52) (-52)).toNat = 0 := by decide
      rw [e3, Nat.pow_zero, Nat.mul_one, Nat.mul_one, if_neg (by decide), if_pos (by decide)]
      omega
    have e4 : FP.Core.sumSign false (!false) (m : Int) = false := by
      unfold FP.Core.sumSign
      split
      · rfl
      · exact decide_eq_false (by omega)
    rw [e1]
    show UInt64.ofNat (FP.Core.encode FP.Core.b64 (FP.Core.round FP.Core.b64 (FP.Core.Datum.fin (FP.Core.sumSign false (!false) (FP.Core.sumUnits false (2 ^ 52 + m) (-52) (!false) (2 ^ 52) (-52) (min (-52) (-52)))) (FP.Core.sumUnits false (2 ^ 52 + m) (-52) (!false) (2 ^ 52) (-52) (min (-52) (-52))).natAbs (min (-52) (-52))))) = _
    rw [e2, e4]
    rfl
  rw [hs]
  rcases Nat.eq_zero_or_pos m with z | z
  · have h0 : FP.Core.roundRatio FP.Core.b64 false m 1 (-52) = .fin false 0 (-1074) := by
      unfold FP.Core.roundRatio
      rw [if_pos z, b64_qmin]
    rw [h0, zero_enc]
    have hm0 : FP.dmul (0 : UInt64) P = 0 := by
      show UInt64.ofNat (FP.Core.encode FP.Core.b64 (FP.Core.round FP.Core.b64 (FP.Core.exactProduct (FP.Core.decode FP.Core.b64 (0 : UInt64).toNat) (FP.Core.decode FP.Core.b64 P.toNat)))) = _
      rw [hP, show FP.Core.decode FP.Core.b64 (0 : UInt64).toNat = .fin false 0 (-1074) from zero_dec]
      show UInt64.ofNat (FP.Core.encode FP.Core.b64 (FP.Core.roundRatio FP.Core.b64 false (0 * 2 ^ 52) 1 (-1074 + ((fb : Int) - 52)))) = _
      have h1 : FP.Core.roundRatio FP.Core.b64 false (0 * 2 ^ 52) 1 (-1074 + ((fb : Int) - 52)) = .fin false 0 (-1074) := by
        unfold FP.Core.roundRatio
        rw [if_pos (by decide), b64_qmin]
      rw [h1, zero_enc]
    rw [hm0, z]
    refine ⟨by decide, by decide, ?_⟩
    rw [Nat.zero_div]
    decide +kernel
  · have hL : m.log2 ≤ 51 := by
      have a1 := Nat.log2_self_le (show m ≠ 0 by omega)
      rcases Nat.lt_or_ge 51 m.log2 with q | q
      · have : 2 ^ 52 ≤ 2 ^ m.log2 := Nat.pow_le_pow_right (by decide) q
        omega
      · exact q
    obtain ⟨L, hLe⟩ : ∃ L, L = m.log2 := ⟨_, rfl⟩
    have hn1 := nrm (f := FP.Core.b64) (p := 52) (s := false) (a := m) (k := 0) (e := -52) rfl z (by omega) (by rw [b64_qmin]; omega) (by rw [b64_qmax]; omega)
    obtain ⟨g1, g2⟩ := nrm_ge (p := 52) z (show m < 2 ^ 53 by omega)
    rw [Nat.pow_zero, Nat.mul_one] at hn1
    rw [← hLe] at hn1 g1 g2 hL
    have e1 : ((L : Int) + ((0 : Nat) : Int) + -52 - ((52 : Nat) : Int)) = (L : Int) - 104 := by omega
    rw [e1] at hn1
    obtain ⟨r1, r2⟩ := rt64 (c := m * 2 ^ (52 - L)) (q := (L : Int) - 104) g1 g2 (by omega) (by omega)
    rw [hn1]
    have hmul : FP.dmul (UInt64.ofNat (FP.Core.encode FP.Core.b64 (.fin false (m * 2 ^ (52 - L)) ((L : Int) - 104)))) P = UInt64.ofNat (FP.Core.encode FP.Core.b64 (.fin false (m * 2 ^ (52 - L)) ((L : Int) + fb - 104))) := by
      show UInt64.ofNat (FP.Core.encode FP.Core.b64 (FP.Core.round FP.Core.b64 (FP.Core.exactProduct (FP.Core.decode FP.Core.b64 (UInt64.ofNat (FP.Core.encode FP.Core.b64 (.fin false (m * 2 ^ (52 - L)) ((L : Int) - 104)))).toNat) (FP.Core.decode FP.Core.b64 P.toNat)))) = _
      rw [r2, hP]
      show UInt64.ofNat (FP.Core.encode FP.Core.b64 (FP.Core.roundRatio FP.Core.b64 false (m * 2 ^ (52 - L) * 2 ^ 52) 1 (((L : Int) - 104) + ((fb : Int) - 52)))) = _
      have hn2 := nrm (f := FP.Core.b64) (p := 52) (s := false) (a := m) (k := 104 - L) (e := ((L : Int) - 104) + ((fb : Int) - 52)) rfl z (by omega) (by rw [b64_qmin]; omega) (by rw [b64_qmax]; omega)
      rw [← hLe] at hn2
      have e3 : m * 2 ^ (52 - L) * 2 ^ 52 = m * 2 ^ (104 - L) := by rw [Nat.mul_assoc, ← Nat.pow_add, show 52 - L + 52 = 104 - L by omega]
      have e4 : ((L : Int) + ((104 - L : Nat) : Int) + (((L : Int) - 104) + ((fb : Int) - 52)) - ((52 : Nat) : Int)) = (L : Int) + fb - 104 := by omega
      rw [e3, hn2, e4]
    rw [hmul]
    obtain ⟨r3, r4⟩ := rt64 (c := m * 2 ^ (52 - L)) (q := (L : Int) + fb - 104) g1 g2 (by omega) (by omega)
    refine ⟨r1, r3, ?_⟩
    show FP.Core.toL (FP.Core.decode FP.Core.b64 (UInt64.ofNat (FP.Core.encode FP.Core.b64 (.fin false (m * 2 ^ (52 - L)) ((L : Int) + fb - 104)))).toNat) = _
    rw [r4]
    unfold FP.Core.toL FP.Core.toInt FP.Core.truncate FP.Core.signed
    show Int64.ofInt (max (-2 ^ 63) (min (2 ^ 63 - 1) (if false = true then -((m * 2 ^ (52 - L) * 2 ^ ((L : Int) + fb - 104).toNat / 2 ^ (-((L : Int) + fb - 104)).toNat : Nat) : Int) else ((m * 2 ^ (52 - L) * 2 ^ ((L : Int) + fb - 104).toNat / 2 ^ (-((L : Int) + fb - 104)).toNat : Nat) : Int)))) = _
    have e5 : ((L : Int) + fb - 104).toNat = 0 := by omega
    have e6 : (-((L : Int) + fb - 104)).toNat = (52 - L) + (52 - fb) := by omega
    rw [e5, e6, Nat.pow_zero, Nat.mul_one, if_neg (by decide), Nat.pow_add, ← Nat.div_div_eq_div_mul, Nat.mul_div_cancel _ (Nat.two_pow_pos _)]
    have h7 : m / 2 ^ (52 - fb) ≤ m := Nat.div_le_self _ _
    obtain ⟨k, hk⟩ : ∃ k, k = m / 2 ^ (52 - fb) := ⟨_, rfl⟩
    rw [← hk] at h7 ⊢
    have e7 : max (-2 ^ 63 : Int) (min (2 ^ 63 - 1) (k : Int)) = (k : Int) := by omega
    rw [e7]
    rfl
theorem shl_int : ∀ E : Nat, E < 2047 → ((nI E).toInt64 <<< ((nI 52).toInt64 &&& 63)) = Int64.ofNat (E * 2 ^ 52) ∧ ((nI E).toInt64 <<< ((nI 23).toInt64 &&& 63)) = Int64.ofNat (E * 2 ^ 23) := by decide +kernel
theorem p52_dec : FP.Core.decode FP.Core.b64 (FP.l2d ((1 : Int64) <<< ((nI 52).toInt64 &&& 63))).toNat = .fin false (2 ^ 52) (((52 : Nat) : Int) - 52) := by decide +kernel
theorem p23_dec : FP.Core.decode FP.Core.b64 (FP.l2d ((1 : Int64) <<< ((nI 23).toInt64 &&& 63))).toNat = .fin false (2 ^ 52) (((23 : Nat) : Int) - 52) := by decide +kernel
theorem bits_eq {e m fb c : Nat} (h1 : 1 ≤ e) (h2 : e ≤ 2046) (hm : m < 2 ^ 52) (hf : (fb = 52 ∧ c = 1023) ∨ (fb = 23 ∧ c = 127)) (hlo : 1024 ≤ e + c) (hhi : e ≤ 1023 + c) (σ : Sg) : fX6_bitsOf (Db e m) (nI fb) (nI c) σ = some (Int64.ofNat ((e + c - 1023) * 2 ^ fb + m / 2 ^ (52 - fb)), σ) := by
  have hc : c ≤ 1023 := by omega
  obtain ⟨F, hF8, hFe⟩ : ∃ F, 2000 < F ∧ FU = F := ⟨FU, by unfold FU; omega, rfl⟩
  rw [fX6_bitsOf, if_pos (gt_zero h1 h2 hm), hFe]
  -- behind the loops
  have fin : ∀ E : Nat, E = e + c - 1023 → (gd (n64 (FP.dsub (Db 1023 m) FP.dconst1)) (gd (n64 (FP.dmul (FP.dsub (Db 1023 m) FP.dconst1) (FP.l2d ((1 : Int64) <<< ((nI fb).toInt64 &&& 63))))) (some ((((nI E).toInt64 <<< ((nI fb).toInt64 &&& 63)) + (FP.d2l (FP.dmul (FP.dsub (Db 1023 m) FP.dconst1) (FP.l2d ((1 : Int64) <<< ((nI fb).toInt64 &&& 63)))))), σ)))) = some (Int64.ofNat ((e + c - 1023) * 2 ^ fb + m / 2 ^ (52 - fb)), σ) := by
    intro E hE
    obtain ⟨s1, s2⟩ := shl_int E (by omega)
    rcases hf with ⟨rfl, -⟩ | ⟨rfl, -⟩
    · obtain ⟨q1, q2, q3⟩ := frac_eq hm (by decide) p52_dec
      rw [gd_of q1, gd_of q2, q3, s1, ← Int64.ofNat_add, hE]
    · obtain ⟨q1, q2, q3⟩ := frac_eq hm (by decide) p23_dec
      rw [gd_of q1, gd_of q2, q3, s2, ← Int64.ofNat_add, hE]
  rcases Nat.lt_or_ge e 1023 with z | z
  · obtain ⟨f', hf', -⟩ := fuel_succ hF8
    have hs : fX6_bitsOf_14 (nI fb) (nI c) (fun (y5 : UInt64) (y6 : Int32) (σ11 : Sg) => fX6_bitsOf_45 (nI fb) (fun (y15 : UInt64) (y16 : Int32) (σ21 : Sg) => gd (n64 (FP.dsub y15 FP.dconst1)) (gd (n64 (FP.dmul (FP.dsub y15 FP.dconst1) (FP.l2d ((1 : Int64) <<< ((nI fb).toInt64 &&& 63))))) (some (((y16.toInt64 <<< ((nI fb).toInt64 &&& 63)) + (FP.d2l (FP.dmul (FP.dsub y15 FP.dconst1) (FP.l2d ((1 : Int64) <<< ((nI fb).toInt64 &&& 63)))))), σ21)))) F y5 y6 σ11) F (Db e m) (nI c) σ = fX6_bitsOf_45 (nI fb) (fun (y15 : UInt64) (y16 : Int32) (σ21 : Sg) => gd (n64 (FP.dsub y15 FP.dconst1)) (gd (n64 (FP.dmul (FP.dsub y15 FP.dconst1) (FP.l2d ((1 : Int64) <<< ((nI fb).toInt64 &&& 63))))) (some (((y16.toInt64 <<< ((nI fb).toInt64 &&& 63)) + (FP.d2l (FP.dmul (FP.dsub y15 FP.dconst1) (FP.l2d ((1 : Int64) <<< ((nI fb).toInt64 &&& 63)))))), σ21)))) F (Db e m) (nI c) σ := by
      conv => lhs; rw [hf']
      rw [fX6_bitsOf_14, if_pos ((lt_two h1 h2 hm).mpr (by omega)), ← hf']
    rw [hs]
    have := up_loop (b := fb) hm (fun (y15 : UInt64) (y16 : Int32) (σ21 : Sg) => gd (n64 (FP.dsub y15 FP.dconst1)) (gd (n64 (FP.dmul (FP.dsub y15 FP.dconst1) (FP.l2d ((1 : Int64) <<< ((nI fb).toInt64 &&& 63))))) (some (((y16.toInt64 <<< ((nI fb).toInt64 &&& 63)) + (FP.d2l (FP.dmul (FP.dsub y15 FP.dconst1) (FP.l2d ((1 : Int64) <<< ((nI fb).toInt64 &&& 63)))))), σ21)))) σ (1023 - e) c F (by omega) (by omega) (by omega) (by omega)
    rw [show 1023 - (1023 - e) = e by omega] at this
    rw [this]
    exact fin (c - (1023 - e)) (by omega)
  · have := down_loop (b := fb) hm hc (fun (y5 : UInt64) (y6 : Int32) (σ11 : Sg) => fX6_bitsOf_45 (nI fb) (fun (y15 : UInt64) (y16 : Int32) (σ21 : Sg) => gd (n64 (FP.dsub y15 FP.dconst1)) (gd (n64 (FP.dmul (FP.dsub y15 FP.dconst1) (FP.l2d ((1 : Int64) <<< ((nI fb).toInt64 &&& 63))))) (some (((y16.toInt64 <<< ((nI fb).toInt64 &&& 63)) + (FP.d2l (FP.dmul (FP.dsub y15 FP.dconst1) (FP.l2d ((1 : Int64) <<< ((nI fb).toInt64 &&& 63)))))), σ21)))) F y5 y6 σ11) σ (e - 1023) c F (by omega) (by omega) (by omega)
    rw [show 1023 + (e - 1023) = e by omega] at this
    rw [this]
    have := up_loop (b := fb) hm (fun (y15 : UInt64) (y16 : Int32) (σ21 : Sg) => gd (n64 (FP.dsub y15 FP.dconst1)) (gd (n64 (FP.dmul (FP.dsub y15 FP.dconst1) (FP.l2d ((1 : Int64) <<< ((nI fb).toInt64 &&& 63))))) (some (((y16.toInt64 <<< ((nI fb).toInt64 &&& 63)) + (FP.d2l (FP.dmul (FP.dsub y15 FP.dconst1) (FP.l2d ((1 : Int64) <<< ((nI fb).toInt64 &&& 63)))))), σ21)))) σ 0 (c + (e - 1023)) F (by omega) (by omega) (by omega) (by omega)
    rw [show 1023 - 0 = 1023 from rfl, Nat.sub_zero] at this
    rw [this]
    exact fin (c + (e - 1023)) (by omega)
