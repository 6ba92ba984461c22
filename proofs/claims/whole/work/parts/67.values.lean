/-! Layer 2, 28: sums of values -/
def vof (M : Mk) (S : Nat) : Nat → Nat := fun s => if S.testBit s then M.vl s else 0
def vsum (M : Mk) (S : Nat) : Nat := sumTo (vof M S) M.n
theorem sumTo_bound {f : Nat → Nat} {b : Nat} : ∀ k, (∀ i, i < k → f i ≤ b) → sumTo f k ≤ k * b := by
  intro k
  induction k with
  | zero => intro _; exact Nat.zero_le _
  | succ k ih =>
    intro h
    have h1 := ih (fun i hi => h i (by omega))
    have h2 := h k (by omega)
    rw [sumTo, Nat.succ_mul]
    omega
theorem vof_le {M : Mk} (hM : M.WF) (S : Nat) {s : Nat} (hs : s < M.n) : vof M S s ≤ 9999 := by
  unfold vof
  split
  · exact (hM.2.2.2 s hs).2.1
  · omega
theorem vpart_lt {M : Mk} (hM : M.WF) (S : Nat) {k : Nat} (hk : k ≤ M.n) : sumTo (vof M S) k ≤ 119988 := by
  have hn := hM.1.1
  have h := sumTo_bound (b := 9999) k (fun i hi => vof_le hM S (s := i) (by omega))
  have : k * 9999 ≤ 12 * 9999 := Nat.mul_le_mul_right _ (by omega)
  omega
theorem vsum_lt {M : Mk} (hM : M.WF) (S : Nat) : vsum M S ≤ 119988 := vpart_lt hM S (Nat.le_refl _)
theorem sumTo_stop {f : Nat → Nat} {k m : Nat} (h : ∀ i, k ≤ i → i < m → f i = 0) (hk : k ≤ m) : sumTo f m = sumTo f k := by
  induction m with
  | zero => rw [show k = 0 by omega]
  | succ m ih =>
    rcases Nat.eq_or_lt_of_le hk with e | e
    · rw [e]
    · rw [sumTo, h m (by omega) (by omega), Nat.add_zero]
      exact ih (fun i h1 h2 => h i h1 (by omega)) (by omega)
theorem sumv_loop {M : Mk} (hM : M.WF) {S : Nat} (hS : S < 2 ^ M.n) {σ : Sg} (h12 : ∀ s, s < M.n → σ 12 s = nI (M.vl s)) : ∀ k i fuel, i + k = 12 → k < fuel →
    fX6_sumOver_12_4 (nI S) fuel (nI (sumTo (vof M S) i)) (nI i) σ = some (nI (vsum M S), σ) := by
  have hn := hM.1.1
  have stop : sumTo (vof M S) 12 = vsum M S := by
    refine sumTo_stop (fun i h1 _ => ?_) hn
    unfold vof
    rw [tb_not hS h1]; rfl
  intro k
  induction k with
  | zero =>
    intro i fuel hi hf
    obtain ⟨f', rfl, -⟩ := fuel_succ hf
    have e : i = 12 := by omega
    rw [fX6_sumOver_12_4, show (12 : Int32) = nI 12 from rfl, if_le (by omega) (by omega), if_pos (by omega), e, stop]
  | succ k ih =>
    intro i fuel hi hf
    obtain ⟨f', rfl, hf⟩ := fuel_succ hf
    have e := ih (i + 1) f' (by omega) (by omega)
    rw [sumTo] at e
    rw [fX6_sumOver_12_4, show (12 : Int32) = nI 12 from rfl, if_le (by omega) (by omega), if_neg (by omega)]
    simp only [jp_eq, lt'_eq]
    rw [if_c (hM.1.lt31 hS) (by omega), zs_add]
    by_cases q : S.testBit i = true
    · have hi' : i < M.n := tb_lt hS q
      rw [if_pos q, gd_of (inb_ok (by omega) (by omega)), zI_clamp (by omega), h12 i hi', zI_add]
      unfold vof at e
      rw [if_pos q] at e
      exact e
    · rw [if_neg q]
      unfold vof at e
      rw [if_neg q, Nat.add_zero] at e
      exact e
theorem sumv_eq {M : Mk} (hM : M.WF) {S : Nat} (hS : S < 2 ^ M.n) {σ : Sg} (h12 : ∀ s, s < M.n → σ 12 s = nI (M.vl s)) : fX6_sumOver_12 (nI S) σ = some (nI (vsum M S), σ) := by
  rw [fX6_sumOver_12, show (0 : Int32) = nI 0 from rfl]
  exact sumv_loop hM hS h12 12 0 FU (by omega) (by unfold FU; omega)
theorem rsumv_loop {M : Mk} (hM : M.WF) {S : Nat} (hS : S < 2 ^ M.n) {σ : Sg} (h : RefM (σ 1) M) : ∀ k i fuel, i + k = M.n → k < fuel →
    fX7_sumValues_4 (nI S) fuel (nI (sumTo (vof M S) i)) (nI i) σ = some (nI (vsum M S), σ) := by
  have hn := hM.1.1
  intro k
  induction k with
  | zero =>
    intro i fuel hi hf
    obtain ⟨f', rfl, -⟩ := fuel_succ hf
    have e : i = M.n := by omega
    rw [fX7_sumValues_4, h.1, if_le (by omega) (by omega), if_pos (by omega), e]
    rfl
  | succ k ih =>
    intro i fuel hi hf
    obtain ⟨f', rfl, hf⟩ := fuel_succ hf
    have e := ih (i + 1) f' (by omega) (by omega)
    rw [sumTo] at e
    rw [fX7_sumValues_4, h.1, if_le (by omega) (by omega), if_neg (by omega)]
    simp only [jp_eq, lt'_eq]
    rw [if_h (hM.1.lt31 hS) (by omega), zs_add, show (16 : Int32) + nI i = nI (16 + i) from zI_add 16 i]
    by_cases q : S.testBit i = true
    · rw [if_pos q, gd_of (inb_ok (by omega) (by omega)), zI_clamp (by omega), (h.2.2 i (by omega)).2.1, zI_add]
      unfold vof at e
      rw [if_pos q] at e
      exact e
    · rw [if_neg q, show (0 : Int32) = nI 0 from rfl, zI_add]
      unfold vof at e
      rw [if_neg q] at e
      exact e
theorem rsumv_eq {M : Mk} (hM : M.WF) {S : Nat} (hS : S < 2 ^ M.n) {σ : Sg} (h : RefM (σ 1) M) : fX7_sumValues (nI S) σ = some (nI (vsum M S), σ) := by
  rw [fX7_sumValues, show (0 : Int32) = nI 0 from rfl]
  exact rsumv_loop hM hS h M.n 0 FU (by omega) (by have := hM.1.1; unfold FU; omega)
/-! the sets of all and of those that do not take part -/
def Mk.all (M : Mk) : Nat := 2 ^ M.n - 1
def Mk.out (M : Mk) : Nat := ndf M.all M.tk
theorem all_lt (M : Mk) : M.all < 2 ^ M.n := by
  have := Nat.two_pow_pos M.n
  unfold Mk.all
  omega
theorem out_lt (M : Mk) : M.out < 2 ^ M.n := ndf_lt (all_lt M)
theorem all_tb (M : Mk) (i : Nat) : M.all.testBit i = decide (i < M.n) := by
  unfold Mk.all
  rw [Nat.testBit_two_pow_sub_one]
theorem out_tb (M : Mk) (i : Nat) : M.out.testBit i = (decide (i < M.n) && !M.tk.testBit i) := by
  unfold Mk.out
  rw [ndf_testBit, all_tb]
theorem every_eq {M : Mk} (hn : M.n ≤ 12) {σ : Sg} (h6 : σ 3 6 = nI M.n) : fX3_everyone σ = some (nI M.all, σ) := by
  rw [fX3_everyone, h6, everyone_nI hn]
  rfl
theorem stay_eq {M : Mk} {σ : Sg} (hn : M.n ≤ 12) (h : ClsM 3 11 σ M) : fX3_stayers σ = some (nI M.out, σ) := by
  rw [fX3_stayers, every_eq hn h.1, bd_some, h.2.1, zI_ndf]
  rfl
theorem outs_loop {M : Mk} (hM : M.WF) {σ : Sg} (h : RefM (σ 1) M) : ∀ k i fuel x, i + k = M.n → k < fuel → x < 2 ^ i → (∀ t, t < i → x.testBit t = M.out.testBit t) →
    fX7_outside_4 fuel (nI x) (nI i) σ = some (nI M.out, σ) := by
  have hn := hM.1.1
  intro k
  induction k with
  | zero =>
    intro i fuel x hi hf hx hb
    obtain ⟨f', rfl, -⟩ := fuel_succ hf
    have e : x = M.out := by
      refine Nat.eq_of_testBit_eq fun t => ?_
      rcases Nat.lt_or_ge t i with q | q
      · exact hb t q
      · rw [tb_not hx q, tb_not (out_lt M) (by omega)]
    rw [fX7_outside_4, h.1, if_le (by omega) (by omega), if_pos (by omega), e]
  | succ k ih =>
    intro i fuel x hi hf hx hb
    obtain ⟨f', rfl, hf⟩ := fuel_succ hf
    have hx2 : x < 2 ^ (i + 1) := Nat.lt_trans hx (Nat.pow_lt_pow_right (by decide) (by omega))
    rw [fX7_outside_4, h.1, if_le (by omega) (by omega), if_neg (by omega)]
    simp only [jp_eq, lt'_eq]
    rw [zs_add, show (40 : Int32) + nI i = nI (40 + i) from zI_add 40 i, gd_of (inb_ok (by omega) (by omega)), zI_clamp (by omega), (h.2.2 i (by omega)).2.2.2.1, zI_one_shl (by omega)]
    by_cases q : M.tk.testBit i = true
    · rw [if_pos q]
      have hno : M.out.testBit i = false := by rw [out_tb, q]; cases decide (i < M.n) <;> rfl
      first
        | rw [if_neg (show ¬ (1 : Int32) = 0 by decide)]
        | skip
      rw [show (0 : Int32) = nI 0 from rfl, zI_or, Nat.or_zero]
      refine ih (i + 1) f' x (by omega) (by omega) hx2 fun t ht => ?_
      rcases Nat.lt_or_ge t i with z | z
      · exact hb t z
      · rw [show t = i by omega, tb_not hx (Nat.le_refl i), hno]
    · rw [if_neg q]
      have hyes : M.out.testBit i = true := by rw [out_tb, decide_eq_true (by omega : i < M.n), Bool.eq_false_iff.mpr q]; rfl
      first
        | rw [if_pos (show (0 : Int32) = 0 from rfl)]
        | rw [if_pos trivial]
      rw [zI_or]
      refine ih (i + 1) f' (x ||| 2 ^ i) (by omega) (by omega) (or_lt hx2 (Nat.pow_lt_pow_right (by decide) (by omega))) fun t ht => ?_
      rw [Nat.testBit_or, tb_pow]
      rcases Nat.lt_or_ge t i with z | z
      · rw [decide_eq_false (by omega : ¬ t = i), Bool.or_false]
        exact hb t z
      · rw [show t = i by omega, decide_eq_true rfl, Bool.or_true, hyes]
theorem outs_eq {M : Mk} (hM : M.WF) {σ : Sg} (h : RefM (σ 1) M) : fX7_outside σ = some (nI M.out, σ) := by
  rw [fX7_outside, show (0 : Int32) = nI 0 from rfl]
  exact outs_loop hM h M.n 0 FU 0 (by omega) (by have := hM.1.1; unfold FU; omega) (by decide) (fun t ht => absurd ht (Nat.not_lt_zero t))
theorem loss_eq {M : Mk} {S : Nat} (hM : M.WF) {σ : Sg} (h : ClsM 3 11 σ M) : fX6_lossWithout (nI S) σ = some (nI (vsum M (ndf M.all S)), σ) := by
  have hn := hM.1.1
  rw [fX6_lossWithout, every_eq hn h.1, bd_some, zI_ndf, sumv_eq hM (ndf_lt (all_lt M)) (fun s hs => (h.2.2.2.1 s hs).2.1), bd_some]
theorem rloss_eq {M : Mk} {S : Nat} (hM : M.WF) {σ : Sg} (h : RefM (σ 1) M) : fX7_lossOf (nI S) σ = some (nI (vsum M (ndf M.all S)), σ) := by
  have hn := hM.1.1
  rw [fX7_lossOf, h.1, everyone_nI hn, zI_ndf, show 2 ^ M.n - 1 = M.all from rfl, rsumv_eq hM (ndf_lt (all_lt M)) h, bd_some]
