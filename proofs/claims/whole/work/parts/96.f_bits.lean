/-! Layer 2, 62: volumeBits, efficiencyBits, meanPriceBits -/
def Fl (e m : Nat) : UInt32 := UInt32.ofNat (e * 2 ^ 23 + m)
theorem Fl_nat {e m : Nat} (h2 : e ≤ 254) (hm : m < 2 ^ 23) : (Fl e m).toNat = e * 2 ^ 23 + m := UInt32.toNat_ofNat_of_lt' (by unfold UInt32.size; omega)
theorem Fl_dec {e m : Nat} (h1 : 1 ≤ e) (h2 : e ≤ 254) (hm : m < 2 ^ 23) : FP.Core.decode FP.Core.b32 (Fl e m).toNat = .fin false (2 ^ 23 + m) ((e : Int) - 150) := by
  rw [Fl_nat h2 hm]
  unfold FP.Core.decode FP.Core.fieldE FP.Core.fieldT FP.Core.fieldS
  simp only [b32_tails, b32_exps, b32_qmin]
  have e1 : (e * 2 ^ 23 + m) / 8388608 = e := by omega
  have e2 : (e * 2 ^ 23 + m) % 8388608 = m := by omega
  rw [e1, e2, Nat.mod_eq_of_lt (by omega), if_neg (by omega), if_neg (by omega), Nat.div_eq_of_lt (by omega)]
  have e5 : -149 + ((e : Int) - 1) = (e : Int) - 150 := by omega
  rw [e5]
  rfl
theorem Fl_enc {c : Nat} {q : Int} (hc : 2 ^ 23 ≤ c) (h : c < 2 ^ 24) (h1 : -149 ≤ q) (h2 : q ≤ 100) : UInt32.ofNat (FP.Core.encode FP.Core.b32 (.fin false c q)) = Fl (q + 150).toNat (c - 2 ^ 23) := by
  obtain ⟨n, e1, -, e2⟩ := enc32 (c := c) (q := q) (by omega) h1 h2
  rw [e1]
  rcases e2 with ⟨z, -⟩ | ⟨-, z⟩
  · omega
  · rw [z]
    rfl
theorem n32_of2 {n : Nat} (h : n ≤ 0x7f800000) : n32 (UInt32.ofNat n) = true := by
  unfold n32
  refine decide_eq_true ?_
  rw [UInt32.le_iff_toNat_le, UInt32.toNat_and, UInt32.toNat_ofNat_of_lt' (Nat.lt_of_le_of_lt h (by decide))]
  exact Nat.le_trans Nat.and_le_left h
/-- zero, or a normal positive float -/
def okF (x : UInt32) : Prop := x = 0 ∨ ∃ e m, 1 ≤ e ∧ e ≤ 254 ∧ m < 2 ^ 23 ∧ x = Fl e m
theorem okF.n32 {x : UInt32} (h : okF x) : Jvm.Pilot.CSpectrumReallocatorLaw_law_r2155_b68a8e.n32 x = true := by
  rcases h with rfl | ⟨e, m, h1, h2, h3, rfl⟩
  · decide
  · exact n32_of2 (by omega)
theorem f2d_Fl {e m : Nat} (h1 : 1 ≤ e) (h2 : e ≤ 254) (hm : m < 2 ^ 23) : FP.f2d (Fl e m) = Db (e + 896) (m * 2 ^ 29) := by
  unfold FP.f2d FP.Core.fIsNaN FP.Core.isNaN
  rw [Fl_dec h1 h2 hm, if_neg (by rw [decide_eq_false (by intro z; cases z)]; decide)]
  show UInt64.ofNat (FP.Core.encode FP.Core.b64 (FP.Core.round FP.Core.b64 (FP.Core.decode FP.Core.b32 (Fl e m).toNat))) = _
  rw [Fl_dec h1 h2 hm]
  show UInt64.ofNat (FP.Core.encode FP.Core.b64 (FP.Core.roundRatio FP.Core.b64 false (2 ^ 23 + m) 1 ((e : Int) - 150))) = _
  have hl : (2 ^ 23 + m).log2 = 23 := log2_eq (n := 2 ^ 23 + m) (k := 23) (by omega) (by omega)
  have hn := nrm (f := FP.Core.b64) (p := 52) (s := false) (a := 2 ^ 23 + m) (k := 0) (e := (e : Int) - 150) rfl (by omega) (by omega) (by rw [hl, b64_qmin]; omega) (by rw [hl, b64_qmax]; omega)
  rw [hl, Nat.pow_zero, Nat.mul_one] at hn
  have e1 : (((23 : Nat) : Int) + ((0 : Nat) : Int) + ((e : Int) - 150) - ((52 : Nat) : Int)) = (e : Int) - 179 := by omega
  rw [hn, e1, Db_enc (by omega) (by omega) (by omega) (by omega), show ((e : Int) - 179 + 1075).toNat = e + 896 by omega, show (2 ^ 23 + m) * 2 ^ (52 - 23) - 2 ^ 52 = m * 2 ^ 29 by omega]
theorem i64_i32 (n : Nat) : (Int64.ofNat n).toInt32 = nI n := by
  apply bv_inj
  show ((BitVec.ofNat 64 n).signExtend 32) = BitVec.ofNat 32 n
  rw [BitVec.signExtend_eq_setWidth_of_le _ (by decide)]
  apply BitVec.eq_of_toNat_eq
  rw [BitVec.toNat_setWidth, BitVec.toNat_ofNat, BitVec.toNat_ofNat]
  omega
theorem fcmp_self {e m : Nat} (h1 : 1 ≤ e) (h2 : e ≤ 254) (hm : m < 2 ^ 23) : FP.fcmp (Fl e m) (Fl e m) = some .eq := by
  show FP.Core.order (FP.Core.decode FP.Core.b32 (Fl e m).toNat) (FP.Core.decode FP.Core.b32 (Fl e m).toNat) = _
  rw [Fl_dec h1 h2 hm]
  unfold FP.Core.order FP.Core.signed
  simp only [Bool.false_eq_true, if_false]
  rw [cmp_cast, Nat.compare_eq_eq.mpr rfl]
theorem fbits {x : UInt32} (h : okF x) (σ : Sg) : ∃ v, fX6_floatBits x σ = some (v, σ) ∧ pJxf58ca_floatToIntBits_5c35a x = v := by
  rcases h with rfl | ⟨e, m, h1, h2, hm, rfl⟩
  · refine ⟨0, ?_, by decide +kernel⟩
    have e1 : FP.f2d 0 = 0 := by decide +kernel
    rw [fX6_floatBits, e1, gd_of (by decide), fX6_bitsOf, if_neg (by decide +kernel), bd_some]
    rfl
  · refine ⟨nI (e * 2 ^ 23 + m), ?_, ?_⟩
    · rw [fX6_floatBits, f2d_Fl h1 h2 hm, gd_of (Db_n64 (by omega) (by omega)), show (23 : Int32) = nI 23 from rfl, show (127 : Int32) = nI 127 from rfl, bits_eq (by omega) (by omega) (by omega) (Or.inr ⟨rfl, rfl⟩) (by omega) (by omega), bd_some, i64_i32, show e + 896 + 127 - 1023 = e by omega, show m * 2 ^ 29 / 2 ^ (52 - 23) = m by omega]
    · unfold pJxf58ca_floatToIntBits_5c35a pJxf58ca_isNaN_12338
      rw [fcmp_self h1 h2 hm]
      rfl
/-! whole numbers as floats and doubles -/
theorem zI_toInt {a : Nat} (h : a < 2 ^ 31) : (nI a).toInt = (a : Int) := by
  show (BitVec.ofNat 32 a).toInt = _
  rw [BitVec.toInt_eq_toNat_cond, BitVec.toNat_ofNat]
  split <;> omega
theorem i2f_dec {a : Nat} (h : a < 2 ^ 24) : (a = 0 ∧ FP.Core.decode FP.Core.b32 (FP.i2f (nI a)).toNat = .fin false 0 (-149)) ∨ (0 < a ∧ ∃ c q, FP.Core.decode FP.Core.b32 (FP.i2f (nI a)).toNat = .fin false c q ∧ 2 ^ 23 ≤ c ∧ c < 2 ^ 24 ∧ -23 ≤ q ∧ q ≤ 0) := by
  have e0 : FP.i2f (nI a) = UInt32.ofNat (FP.Core.encode FP.Core.b32 (FP.Core.roundRatio FP.Core.b32 false a 1 0)) := by
    show UInt32.ofNat (FP.Core.encode FP.Core.b32 (FP.Core.round FP.Core.b32 (FP.Core.ofInt (nI a).toInt))) = _
    rw [zI_toInt (by omega)]
    unfold FP.Core.ofInt
    rw [decide_eq_false (by omega)]
    rfl
  rw [e0]
  rcases Nat.eq_zero_or_pos a with z | z
  · refine Or.inl ⟨z, ?_⟩
    have : FP.Core.roundRatio FP.Core.b32 false a 1 0 = .fin false 0 (-149) := by
      unfold FP.Core.roundRatio
      rw [if_pos z, b32_qmin]
    rw [this]
    decide +kernel
  · have hL : a.log2 ≤ 23 := by
      have a1 := Nat.log2_self_le (show a ≠ 0 by omega)
      rcases Nat.lt_or_ge 23 a.log2 with q | q
      · have : 2 ^ 24 ≤ 2 ^ a.log2 := Nat.pow_le_pow_right (by decide) q
        omega
      · exact q
    have hn := nrm (f := FP.Core.b32) (p := 23) (s := false) (a := a) (k := 0) (e := 0) rfl z (by omega) (by rw [b32_qmin]; omega) (by rw [b32_qmax]; omega)
    obtain ⟨g1, g2⟩ := nrm_ge (p := 23) z (show a < 2 ^ 24 by omega)
    rw [Nat.pow_zero, Nat.mul_one] at hn
    have e1 : ((a.log2 : Int) + ((0 : Nat) : Int) + 0 - ((23 : Nat) : Int)) = (a.log2 : Int) - 23 := by omega
    rw [e1] at hn
    refine Or.inr ⟨z, a * 2 ^ (23 - a.log2), (a.log2 : Int) - 23, ?_, g1, g2, by omega, by omega⟩
    rw [hn, Fl_enc g1 g2 (by omega) (by omega), Fl_dec (by omega) (by omega) (by omega), show 2 ^ 23 + (a * 2 ^ (23 - a.log2) - 2 ^ 23) = a * 2 ^ (23 - a.log2) by omega, show ((((a.log2 : Int) - 23 + 150).toNat : Nat) : Int) - 150 = (a.log2 : Int) - 23 by omega]
theorem fdiv_ok {a b : Nat} (ha : a < 2 ^ 24) (hb : b < 2 ^ 24) (hb0 : 0 < b) : okF (FP.fdiv (FP.i2f (nI a)) (FP.i2f (nI b))) := by
  have e0 : FP.fdiv (FP.i2f (nI a)) (FP.i2f (nI b)) = UInt32.ofNat (FP.Core.encode FP.Core.b32 (FP.Core.quotient FP.Core.b32 (FP.Core.decode FP.Core.b32 (FP.i2f (nI a)).toNat) (FP.Core.decode FP.Core.b32 (FP.i2f (nI b)).toNat))) := rfl
  rcases i2f_dec hb with ⟨z, -⟩ | ⟨-, d, r, d1, d2, d3, d4, d5⟩
  · omega
  · rw [e0, d1]
    rcases i2f_dec ha with ⟨-, c1⟩ | ⟨-, c, q, c1, c2, c3, c4, c5⟩
    · left
      rw [c1]
      show UInt32.ofNat (FP.Core.encode FP.Core.b32 (if d = 0 then (if 0 = 0 then FP.Core.Datum.nan else FP.Core.Datum.inf (false != false)) else FP.Core.roundRatio FP.Core.b32 false 0 d (-149 - r))) = 0
      rw [if_neg (by omega)]
      have : FP.Core.roundRatio FP.Core.b32 false 0 d (-149 - r) = .fin false 0 (-149) := by
        unfold FP.Core.roundRatio
        rw [if_pos rfl, b32_qmin]
      rw [this]
      decide +kernel
    · right
      rw [c1]
      obtain ⟨c', q', g1, g2, g3, g4, g5⟩ := quo (f := FP.Core.b32) (p := 23) (s := false) (e := q - r) rfl c2 c3 d2 d3 (by rw [b32_qmin]; omega) (by rw [b32_qmax]; omega)
      have e2 : FP.Core.quotient FP.Core.b32 (.fin false c q) (.fin false d r) = .fin false c' q' := by
        show (if d = 0 then (if c = 0 then FP.Core.Datum.nan else FP.Core.Datum.inf (false != false)) else FP.Core.roundRatio FP.Core.b32 false c d (q - r)) = _
        rw [if_neg (by omega), g1]
      rw [e2, Fl_enc g2 g3 (by omega) (by omega)]
      exact ⟨_, _, by omega, by omega, by omega, rfl⟩
theorem i2d_dec {a : Nat} (h : a < 2 ^ 31) : (a = 0 ∧ FP.Core.decode FP.Core.b64 (FP.i2d (nI a)).toNat = .fin false 0 (-1074)) ∨ (0 < a ∧ ∃ c q, FP.Core.decode FP.Core.b64 (FP.i2d (nI a)).toNat = .fin false c q ∧ 2 ^ 52 ≤ c ∧ c < 2 ^ 53 ∧ -52 ≤ q ∧ q ≤ 0) := by
  have e0 : FP.i2d (nI a) = UInt64.ofNat (FP.Core.encode FP.Core.b64 (FP.Core.roundRatio FP.Core.b64 false a 1 0)) := by
    show UInt64.ofNat (FP.Core.encode FP.Core.b64 (FP.Core.round FP.Core.b64 (FP.Core.ofInt (nI a).toInt))) = _
    rw [zI_toInt h]
    unfold FP.Core.ofInt
    rw [decide_eq_false (by omega)]
    rfl
  rw [e0]
  rcases Nat.eq_zero_or_pos a with z | z
  · refine Or.inl ⟨z, ?_⟩
    have : FP.Core.roundRatio FP.Core.b64 false a 1 0 = .fin false 0 (-1074) := by
      unfold FP.Core.roundRatio
      rw [if_pos z, b64_qmin]
    rw [this]
    decide +kernel
  · have hL : a.log2 ≤ 52 := by
      have a1 := Nat.log2_self_le (show a ≠ 0 by omega)
      rcases Nat.lt_or_ge 52 a.log2 with q | q
      · have : 2 ^ 53 ≤ 2 ^ a.log2 := Nat.pow_le_pow_right (by decide) q
        omega
      · exact q
    have hn := nrm (f := FP.Core.b64) (p := 52) (s := false) (a := a) (k := 0) (e := 0) rfl z (by omega) (by rw [b64_qmin]; omega) (by rw [b64_qmax]; omega)
    obtain ⟨g1, g2⟩ := nrm_ge (p := 52) z (show a < 2 ^ 53 by omega)
    rw [Nat.pow_zero, Nat.mul_one] at hn
    have e1 : ((a.log2 : Int) + ((0 : Nat) : Int) + 0 - ((52 : Nat) : Int)) = (a.log2 : Int) - 52 := by omega
    rw [e1] at hn
    refine Or.inr ⟨z, a * 2 ^ (52 - a.log2), (a.log2 : Int) - 52, ?_, g1, g2, by omega, by omega⟩
    rw [hn]
    exact (rt64 g1 g2 (by omega) (by omega)).2
theorem ddiv_ok {a b : Nat} (ha : a < 2 ^ 31) (hb : b < 2 ^ 31) (hb0 : 0 < b) : FP.ddiv (FP.i2d (nI a)) (FP.i2d (nI b)) = 0 ∨ ∃ e m, 900 ≤ e ∧ e ≤ 1100 ∧ m < 2 ^ 52 ∧ FP.ddiv (FP.i2d (nI a)) (FP.i2d (nI b)) = Db e m := by
  have e0 : FP.ddiv (FP.i2d (nI a)) (FP.i2d (nI b)) = UInt64.ofNat (FP.Core.encode FP.Core.b64 (FP.Core.quotient FP.Core.b64 (FP.Core.decode FP.Core.b64 (FP.i2d (nI a)).toNat) (FP.Core.decode FP.Core.b64 (FP.i2d (nI b)).toNat))) := rfl
  rcases i2d_dec hb with ⟨z, -⟩ | ⟨-, d, r, d1, d2, d3, d4, d5⟩
  · omega
  · rw [e0, d1]
    rcases i2d_dec ha with ⟨-, c1⟩ | ⟨-, c, q, c1, c2, c3, c4, c5⟩
    · left
      rw [c1]
      show UInt64.ofNat (FP.Core.encode FP.Core.b64 (if d = 0 then (if 0 = 0 then FP.Core.Datum.nan else FP.Core.Datum.inf (false != false)) else FP.Core.roundRatio FP.Core.b64 false 0 d (-1074 - r))) = 0
      rw [if_neg (by omega)]
      have : FP.Core.roundRatio FP.Core.b64 false 0 d (-1074 - r) = .fin false 0 (-1074) := by
        unfold FP.Core.roundRatio
        rw [if_pos rfl, b64_qmin]
      rw [this]
      decide +kernel
    · right
      rw [c1]
      obtain ⟨c', q', g1, g2, g3, g4, g5⟩ := quo (f := FP.Core.b64) (p := 52) (s := false) (e := q - r) rfl c2 c3 d2 d3 (by rw [b64_qmin]; omega) (by rw [b64_qmax]; omega)
      have e2 : FP.Core.quotient FP.Core.b64 (.fin false c q) (.fin false d r) = .fin false c' q' := by
        show (if d = 0 then (if c = 0 then FP.Core.Datum.nan else FP.Core.Datum.inf (false != false)) else FP.Core.roundRatio FP.Core.b64 false c d (q - r)) = _
        rw [if_neg (by omega), g1]
      rw [e2, Db_enc g2 g3 (by omega) (by omega)]
      exact ⟨_, _, by omega, by omega, by omega, rfl⟩
theorem dbits {x : UInt64} (h : x = 0 ∨ ∃ e m, 900 ≤ e ∧ e ≤ 1100 ∧ m < 2 ^ 52 ∧ x = Db e m) (σ : Sg) : n64 x = true ∧ ∃ v, fX6_doubleBits x σ = some (v, σ) ∧ pJxe99ae_doubleToLongBits_ccdee x = v := by
  rcases h with rfl | ⟨e, m, h1, h2, hm, rfl⟩
  · refine ⟨by decide, 0, ?_, by decide +kernel⟩
    rw [fX6_doubleBits, fX6_bitsOf, if_neg (by decide +kernel), bd_some]
  · refine ⟨Db_n64 (by omega) hm, Int64.ofNat (e * 2 ^ 52 + m), ?_, ?_⟩
    · rw [fX6_doubleBits, show (52 : Int32) = nI 52 from rfl, show (1023 : Int32) = nI 1023 from rfl, bits_eq (by omega) (by omega) hm (Or.inl ⟨rfl, rfl⟩) (by omega) (by omega), bd_some, show e + 1023 - 1023 = e by omega, show m / 2 ^ (52 - 52) = m by omega]
    · unfold pJxe99ae_doubleToLongBits_ccdee pJxe99ae_isNaN_b9ae7
      rw [dcmp_fin (Db_dec (by omega) (by omega) hm) (Db_dec (by omega) (by omega) hm), Nat.compare_eq_eq.mpr rfl]
      rfl
def okN (k : Nat) : Bool := decide (2 ^ 23 ≤ (vz (k / 99) (k % 99 + 1)).toNat) && decide ((vz (k / 99) (k % 99 + 1)).toNat < 255 * 2 ^ 23)
theorem okN_all : (List.range 1188).all okN = true := by decide +kernel
theorem vol_okF {M : Mk} (hM : M.WF) {s : Nat} (hs : s < M.n) : okF (M.vol s) := by
  have hd := deg_lt hM hs
  have hw1 := (hM.2.2.2 s hs).2.2.1
  have hw2 := (hM.2.2.2 s hs).2.2.2.1
  have h := allR okN_all (x := 99 * M.deg s + (M.wt s - 1)) (by omega)
  unfold okN at h
  rw [show (99 * M.deg s + (M.wt s - 1)) / 99 = M.deg s by omega, show (99 * M.deg s + (M.wt s - 1)) % 99 + 1 = M.wt s by omega, Bool.and_eq_true, decide_eq_true_eq, decide_eq_true_eq] at h
  right
  refine ⟨(M.vol s).toNat / 2 ^ 23, (M.vol s).toNat % 2 ^ 23, ?_, ?_, Nat.mod_lt _ (by decide), ?_⟩
  · have : 2 ^ 23 ≤ (M.vol s).toNat := h.1
    omega
  · have : (M.vol s).toNat < 255 * 2 ^ 23 := h.2
    omega
  · unfold Fl
    rw [show (M.vol s).toNat / 2 ^ 23 * 2 ^ 23 + (M.vol s).toNat % 2 ^ 23 = (M.vol s).toNat by omega]
    exact (UInt32.ofNat_toNat).symm
theorem op_volumeBits {t : Nat} {M : Mk} {σ τ : Sg} (h : Rel t M σ τ) (a : Int32) : Agr ["java/lang/IndexOutOfBoundsException"] t (fX6_volumeBits a σ) (fX7_volumeBits a τ) := by
  have hM := h.1.2.1
  have hn := hM.1.1
  rw [fX6_volumeBits, fX7_volumeBits]
  simp only [jp_eq]
  rcases sta_dec M a with ⟨s, hs, rfl⟩ | hna
  · obtain ⟨v, e1, e2⟩ := fbits (vol_okF hM hs) σ
    rw [reqSta_ok hn h.1.1.1 hs, bx_inr, isSta_ok hn h.2.1 hs, bd_some, if_neg n10, fails0, bd_some, if_pos (show (0 : Int32) = 0 from rfl), cvol_eq hM hs h.1.1, bd_some, e1, bd_some, rvol_eq hM hs (h.s00 0).2.1, bd_some, e2]
    exact Agr.ok (h.s00 0) (s00_0 _ 0)
  · rw [reqSta_no hn h.1.1.1 hna, bx_inl, isSta_no hn h.2.1 hna, bd_some, if_pos (show (0 : Int32) = 0 from rfl), fails1, bd_some, if_neg n10]
    exact Agr.no (h.s00 1) 0 rfl (s00_0 τ 1)
theorem one_okF : okF FP.fconst1 := Or.inr ⟨127, 0, by decide, by decide, by decide, by decide +kernel⟩
theorem op_efficiencyBits {t : Nat} {M : Mk} {σ τ : Sg} (h : Rel t M σ τ) : Agr ["java/lang/IllegalStateException"] t (fX6_efficiencyBits σ) (fX7_efficiencyBits τ) := by
  rw [fX6_efficiencyBits, fX7_efficiencyBits, fX6_requireFinished]
  simp only [jp_eq]
  rcases kn_cases h with ⟨z1, z2⟩ | ⟨z1, z2, A, hA, hfe⟩
  · rw [z1, if_pos (show (0 : Int32) = 0 from rfl), bx_inl, rover0 z2, bd_some, if_pos (show (0 : Int32) = 0 from rfl), fails1, bd_some, if_neg n10]
    exact Agr.no (h.s00 1) 0 rfl (s00_0 _ 1)
  · have hM := h.1.2.1
    have hn := hM.1.1
    rw [z1, if_neg n10, over_eq hA, bd_some, rover_eq hA z2, bd_some]
    by_cases q : bidk M A A.m = 0
    · have hfl := frzk_lt hM hA.2.2.1.2.2.2.2.1 (Nat.le_refl A.m)
      have hv := vsum_lt hM (frzk A A.m)
      have hr0 := (h.s00 0).2.1
      rw [if_pos q, if_neg n10, bx_inr, if_neg n10, fails0, bd_some, if_pos (show (0 : Int32) = 0 from rfl), in2_eq hM hA.2.2.1 (hA.s00 0).2.1 (hA.s00 0).2.2.2.2.2, bd_some, hA.2.2.2.2.1.2.2.2.1, sumv_eq hM hfl (fun s hs => (h.1.1.2.2.2.1 s hs).2.1), bd_some, rsumv_eq hM hfl hr0, bd_some, if_eq0 (by omega), if_eq0 (by omega)]
      by_cases q2 : vsum M (frzk A A.m) = 0
      · obtain ⟨v, e1, e2⟩ := fbits one_okF σ
        rw [if_pos q2, if_pos q2, e1, bd_some, e2]
        exact Agr.ok (h.s00 0) (s00_0 _ 0)
      · obtain ⟨σ2, x, e3, i3', f3, p3⟩ := best_eq h.1
        obtain ⟨τ2, y, e4, i4, f4⟩ := fb_eq hM hr0
        have h2 := (h.s00 0).pcf f3 p3 f4
        have hl := vsum_lt hM (ndf M.all y)
        have hok := fdiv_ok (a := vsum M (ndf M.all y)) (b := vsum M (frzk A A.m)) (by omega) (by omega) (by omega)
        obtain ⟨v, e5, e6⟩ := fbits hok σ2
        rw [if_neg q2, if_neg q2, e3, bd_some, i3'.uniq i4, loss_eq hM p3.1, bd_some, gd_of hok.n32, e5, bd_some, e4, bd_some, rloss_eq hM h2.2.1, bd_some, gd_of hok.n32, e6]
        exact Agr.ok h2 ((f4.2 0 (by decide)).trans (s00_0 τ 0))
    · rw [if_neg q, if_pos (show (0 : Int32) = 0 from rfl), bx_inl, if_pos (show (0 : Int32) = 0 from rfl), fails1, bd_some, if_neg n10]
      exact Agr.no (h.s00 1) 0 rfl (s00_0 _ 1)
def AgrL (es : List String) (t : Nat) (x : Option ((String ⊕ Int64) × Sg)) (y : Option (Int64 × Sg)) : Prop :=
  ∃ a σ b τ M, x = some (a, σ) ∧ y = some (b, τ) ∧ Rel t M σ τ ∧ match a with
    | .inr v => τ 0 0 = 0 ∧ b = v
    | .inl E => ∃ k, es[k]? = some E ∧ τ 0 0 = nI (k + 1)
theorem op_meanPriceBits {t : Nat} {M : Mk} {σ τ : Sg} (h : Rel t M σ τ) : AgrL ["java/lang/IllegalStateException", "java/lang/ArithmeticException"] t (fX6_meanPriceBits σ) (fX7_meanPriceBits τ) := by
  rw [fX6_meanPriceBits, fX7_meanPriceBits]
  simp only [jp_eq]
  rcases kn_cases h with ⟨z1, z2⟩ | ⟨z1, z2, A, hA, hfe⟩
  · rw [reqA0 z1, bx_inl, known0 z2, bd_some, if_pos (show (0 : Int32) = 0 from rfl), fails1, bd_some, if_neg n10]
    exact ⟨_, _, _, _, M, rfl, rfl, h.s00 1, 0, rfl, s00_0 _ 1⟩
  · have hM := h.1.2.1
    have hn := hM.1.1
    have hfl := frzk_lt hM hA.2.2.1.2.2.2.2.1 (Nat.le_refl A.m)
    have hf12 := hM.1.lt12 hfl
    have hpc := pc_le12 (frzk A A.m)
    rw [reqA1 z1, bx_inr, lt'_eq, hA.2.2.2.2.1.2.2.2.1, bitCount_nI hf12, if_eq0 (by omega), known1 z2, bd_some, if_neg n10, fails0, bd_some, if_pos (show (0 : Int32) = 0 from rfl), in2_eq hM hA.2.2.1 (hA.s00 0).2.1 (hA.s00 0).2.2.2.2.2, bd_some, if_eq0 (lt12_31 hf12)]
    by_cases q : frzk A A.m = 0
    · rw [q, pc_zero, if_pos rfl, if_pos rfl, fails1, bd_some, if_neg n10]
      exact ⟨_, _, _, _, M, rfl, rfl, (h.s00 0).s00 2, 1, rfl, s00_0 _ 2⟩
    · have hpos : 0 < pc (frzk A A.m) := by
        refine Nat.pos_of_ne_zero fun z => q ?_
        refine Nat.eq_of_testBit_eq fun i => ?_
        rw [tb_zero]
        cases w : (frzk A A.m).testBit i with
        | false => rfl
        | true =>
          have := pc_pos (tb_lt hf12 w) w
          omega
      have hA2 := (hA.s00 0).s00 0
      have hp := psum_lt hn hA.2.2.1
      obtain ⟨d1, v, d2, d3⟩ := dbits (ddiv_ok (a := psum M A) (b := pc (frzk A A.m)) (by omega) (by omega) hpos) σ
      rw [if_neg (by omega), if_neg q, sump_eq hM hA.2.2.1 hA.2.2.2.2.1.2.2.2.2.2.2.1, bd_some, gd_of d1, d2, bd_some, fails0, bd_some, if_pos (show (0 : Int32) = 0 from rfl), rsump_eq hM hA.2.2.1 hA2.2.1 hA2.2.2.2.2.2, bd_some, in2_eq hM hA.2.2.1 hA2.2.1 hA2.2.2.2.2.2, bd_some, cb_eq hf12, bd_some, gd_of d1, d3]
      exact ⟨_, _, _, _, M, rfl, rfl, (h.s00 0).s00 0, s00_0 _ 0, rfl⟩
