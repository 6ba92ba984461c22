/-! Layer 2, 26: the subsets of a set in ascending order -/
def pb : Nat → Nat → Nat
  | 0, _ => 0
  | f + 1, s => s % 2 + pb f (s / 2)
def dep : Nat → Nat → Nat → Nat
  | 0, _, _ => 0
  | f + 1, s, j => if s % 2 = 1 then 2 * dep f (s / 2) (j / 2) + j % 2 else 2 * dep f (s / 2) j
theorem pb_countP : ∀ f s, pb f s = (List.range f).countP s.testBit := by
  intro f
  induction f with
  | zero => intro s; rfl
  | succ f ih =>
    intro s
    rw [pb, ih, List.range_succ_eq_map, List.countP_cons, List.countP_map]
    have e : (s.testBit ∘ Nat.succ) = (s / 2).testBit := by
      funext i
      show s.testBit (i + 1) = _
      rw [Nat.testBit_succ]
    rw [e, Nat.testBit_zero]
    by_cases q : s % 2 = 1
    · rw [q, decide_eq_true (rfl : 1 = 1), if_pos rfl]; omega
    · rw [decide_eq_false q, if_neg (by decide)]; omega
theorem pb_pc (s : Nat) : pb 12 s = pc s := pb_countP 12 s
theorem dep_sub : ∀ f s j i, (dep f s j).testBit i = true → s.testBit i = true := by
  intro f
  induction f with
  | zero => intro s j i h; rw [dep, tb_zero] at h; exact absurd h (by decide)
  | succ f ih =>
    intro s j i h
    rw [dep] at h
    by_cases q : s % 2 = 1
    · rw [if_pos q] at h
      cases i with
      | zero => rw [Nat.testBit_zero]; exact decide_eq_true q
      | succ i =>
        rw [Nat.testBit_succ, show (2 * dep f (s / 2) (j / 2) + j % 2) / 2 = dep f (s / 2) (j / 2) by omega] at h
        rw [Nat.testBit_succ]
        exact ih _ _ _ h
    · rw [if_neg q] at h
      cases i with
      | zero =>
        rw [Nat.testBit_zero, decide_eq_true_eq] at h
        omega
      | succ i =>
        rw [Nat.testBit_succ, show (2 * dep f (s / 2) j) / 2 = dep f (s / 2) j by omega] at h
        rw [Nat.testBit_succ]
        exact ih _ _ _ h
theorem dep_mono : ∀ f s j j', j < j' → j' < 2 ^ pb f s → dep f s j < dep f s j' := by
  intro f
  induction f with
  | zero => intro s j j' h h2; rw [pb] at h2; omega
  | succ f ih =>
    intro s j j' h h2
    rw [pb] at h2
    rw [dep, dep]
    by_cases q : s % 2 = 1
    · rw [q, Nat.add_comm, Nat.pow_succ] at h2
      rw [if_pos q, if_pos q]
      rcases Nat.lt_or_ge (j / 2) (j' / 2) with z | z
      · have := ih (s / 2) (j / 2) (j' / 2) z (by omega)
        omega
      · rw [show j' / 2 = j / 2 by omega]
        omega
    · rw [show s % 2 = 0 by omega, Nat.zero_add] at h2
      rw [if_neg q, if_neg q]
      have := ih (s / 2) j j' h h2
      omega
theorem dep_surj : ∀ f s x, (∀ i, x.testBit i = true → s.testBit i = true) → s < 2 ^ f → ∃ j, j < 2 ^ pb f s ∧ dep f s j = x := by
  intro f
  induction f with
  | zero =>
    intro s x h hs
    refine ⟨0, by rw [pb]; decide, ?_⟩
    rw [dep]
    refine Nat.eq_of_testBit_eq fun i => ?_
    rw [tb_zero]
    cases q : x.testBit i with
    | false => rfl
    | true =>
      have := h i q
      rw [show s = 0 by omega, tb_zero] at this
      exact absurd this (by decide)
  | succ f ih =>
    intro s x h hs
    rw [Nat.pow_succ] at hs
    obtain ⟨j, h1, h2⟩ := ih (s / 2) (x / 2) (fun i hi => by
      rw [← Nat.testBit_succ] at hi ⊢
      exact h _ hi) (by omega)
    have h0 := h 0
    rw [Nat.testBit_zero, Nat.testBit_zero, decide_eq_true_eq, decide_eq_true_eq] at h0
    by_cases q : s % 2 = 1
    · refine ⟨2 * j + x % 2, ?_, ?_⟩
      · rw [pb, q, Nat.add_comm 1, Nat.pow_succ]
        omega
      · rw [dep, if_pos q, show (2 * j + x % 2) / 2 = j by omega, h2]
        omega
    · refine ⟨j, ?_, ?_⟩
      · rw [pb, show s % 2 = 0 by omega, Nat.zero_add]
        exact h1
      · rw [dep, if_neg q, h2]
        omega
theorem ndf_dbl (a e b f : Nat) (he : e < 2) (hf : f < 2) : ndf (2 * a + e) (2 * b + f) = 2 * ndf a b + (if e = 1 ∧ f = 0 then 1 else 0) := by
  refine Nat.eq_of_testBit_eq fun i => ?_
  rw [ndf_testBit]
  cases i with
  | zero =>
    rw [Nat.testBit_zero, Nat.testBit_zero, Nat.testBit_zero]
    rcases (by omega : e = 0 ∨ e = 1) with rfl | rfl <;> rcases (by omega : f = 0 ∨ f = 1) with rfl | rfl <;> simp
  | succ i =>
    rw [Nat.testBit_succ, Nat.testBit_succ, Nat.testBit_succ, show (2 * a + e) / 2 = a by omega, show (2 * b + f) / 2 = b by omega, show (2 * ndf a b + (if e = 1 ∧ f = 0 then 1 else 0)) / 2 = ndf a b by split <;> omega, ndf_testBit]
theorem ndf_ndf {s d : Nat} (h : ∀ i, d.testBit i = true → s.testBit i = true) : ndf s (ndf s d) = d := by
  refine Nat.eq_of_testBit_eq fun i => ?_
  rw [ndf_testBit, ndf_testBit]
  cases q : d.testBit i with
  | true => rw [h i q]; rfl
  | false => cases s.testBit i <;> rfl
theorem ndf_odd0 {s : Nat} (q : s % 2 = 1) (b : Nat) : ndf s (2 * b) = 2 * ndf (s / 2) b + 1 := by
  have h := ndf_dbl (s / 2) (s % 2) b 0 (by omega) (by omega)
  rw [show 2 * (s / 2) + s % 2 = s by omega, q, Nat.add_zero] at h
  exact h
theorem ndf_odd1 {s : Nat} (q : s % 2 = 1) (b : Nat) : ndf s (2 * b + 1) = 2 * ndf (s / 2) b := by
  have h := ndf_dbl (s / 2) (s % 2) b 1 (by omega) (by omega)
  rw [show 2 * (s / 2) + s % 2 = s by omega, q] at h
  exact h
theorem ndf_even0 {s : Nat} (q : ¬ s % 2 = 1) (b : Nat) : ndf s (2 * b) = 2 * ndf (s / 2) b := by
  have h := ndf_dbl (s / 2) (s % 2) b 0 (by omega) (by omega)
  rw [show 2 * (s / 2) + s % 2 = s by omega, show s % 2 = 0 by omega, Nat.add_zero] at h
  exact h
theorem ndf_even1 {s : Nat} (q : ¬ s % 2 = 1) (b : Nat) : ndf s (2 * b + 1) = 2 * ndf (s / 2) b := by
  have h := ndf_dbl (s / 2) (s % 2) b 1 (by omega) (by omega)
  rw [show 2 * (s / 2) + s % 2 = s by omega, show s % 2 = 0 by omega] at h
  exact h
theorem dep_next : ∀ f s j, s < 2 ^ f → j + 1 < 2 ^ pb f s → 1 ≤ ndf s (dep f s j) ∧ ndf s (ndf s (dep f s j) - 1) = dep f s (j + 1) := by
  intro f
  induction f with
  | zero => intro s j hs h; rw [pb] at h; omega
  | succ f ih =>
    intro s j hs h
    rw [Nat.pow_succ] at hs
    rw [pb] at h
    rw [dep, dep]
    by_cases q : s % 2 = 1
    · rw [q, Nat.add_comm 1, Nat.pow_succ] at h
      rw [if_pos q, if_pos q]
      have hd := dep_sub f (s / 2) (j / 2)
      rcases (by omega : j % 2 = 0 ∨ j % 2 = 1) with z | z
      · rw [z, Nat.add_zero, ndf_odd0 q]
        refine ⟨by omega, ?_⟩
        rw [Nat.add_sub_cancel, ndf_odd0 q, ndf_ndf hd, show (j + 1) / 2 = j / 2 by omega, show (j + 1) % 2 = 1 by omega]
      · obtain ⟨g1, g2⟩ := ih (s / 2) (j / 2) (by omega) (by omega)
        rw [z, ndf_odd1 q]
        refine ⟨by omega, ?_⟩
        rw [show 2 * ndf (s / 2) (dep f (s / 2) (j / 2)) - 1 = 2 * (ndf (s / 2) (dep f (s / 2) (j / 2)) - 1) + 1 by omega, ndf_odd1 q, g2, show (j + 1) / 2 = j / 2 + 1 by omega, show (j + 1) % 2 = 0 by omega]
        exact (Nat.add_zero _).symm
    · rw [show s % 2 = 0 by omega, Nat.zero_add] at h
      rw [if_neg q, if_neg q]
      obtain ⟨g1, g2⟩ := ih (s / 2) j (by omega) h
      rw [ndf_even0 q]
      refine ⟨by omega, ?_⟩
      rw [show 2 * ndf (s / 2) (dep f (s / 2) j) - 1 = 2 * (ndf (s / 2) (dep f (s / 2) j) - 1) + 1 by omega, ndf_even1 q, g2]
theorem dep_zero : ∀ f s, dep f s 0 = 0 := by
  intro f
  induction f with
  | zero => intro s; rfl
  | succ f ih => intro s; rw [dep, ih]; split <;> rfl
theorem sub_add {s x : Nat} (h : ∀ i, x.testBit i = true → s.testBit i = true) : x + ndf s x = s := by
  have e : x ||| ndf s x = s := by
    refine Nat.eq_of_testBit_eq fun i => ?_
    rw [Nat.testBit_or, ndf_testBit]
    cases q : x.testBit i with
    | true => rw [h i q]; rfl
    | false => cases s.testBit i <;> rfl
  have e0 : x &&& ndf s x = 0 := by
    refine Nat.eq_of_testBit_eq fun i => ?_
    rw [Nat.testBit_and, ndf_testBit, tb_zero]
    cases x.testBit i <;> cases s.testBit i <;> rfl
  have e2 : ndf s x = s - x := by
    have := ndf_le s x
    have hx : x ≤ s := by
      have : x &&& s = x := by
        refine Nat.eq_of_testBit_eq fun i => ?_
        rw [Nat.testBit_and]
        cases q : x.testBit i with
        | true => rw [h i q]; rfl
        | false => rfl
      rw [← this]
      exact Nat.and_le_right
    have k : ∀ n a b : Nat, a < 2 ^ n → (∀ i, b.testBit i = true → a.testBit i = true) → b + ndf a b = a := by
      intro n
      induction n with
      | zero =>
        intro a b ha hb
        have hb0 : b = 0 := by
          refine Nat.eq_of_testBit_eq fun i => ?_
          rw [tb_zero]
          cases q : b.testBit i with
          | false => rfl
          | true =>
            have := hb i q
            rw [show a = 0 by omega, tb_zero] at this
            exact absurd this (by decide)
        rw [show a = 0 by omega, hb0]
        decide
      | succ n ih =>
        intro a b ha hb
        rw [Nat.pow_succ] at ha
        have h1 := ih (a / 2) (b / 2) (by omega) (fun i hi => by
          rw [← Nat.testBit_succ] at hi ⊢
          exact hb _ hi)
        have h0 := hb 0
        rw [Nat.testBit_zero, Nat.testBit_zero, decide_eq_true_eq, decide_eq_true_eq] at h0
        have e3 := ndf_dbl (a / 2) (a % 2) (b / 2) (b % 2) (by omega) (by omega)
        rw [show 2 * (a / 2) + a % 2 = a by omega, show 2 * (b / 2) + b % 2 = b by omega] at e3
        rw [e3]
        split
        · next q => omega
        · next q => omega
    have := k s s x (Nat.lt_two_pow_self) h
    omega
  have hx : x ≤ s := by
    rw [← e]
    exact Nat.left_le_or
  omega
theorem sub_step {s x : Nat} (hs : s < 2 ^ 31) (h : ∀ i, x.testBit i = true → s.testBit i = true) (h1 : 1 ≤ ndf s x) : (nI x - nI s) &&& nI s = nI (ndf s (ndf s x - 1)) := by
  have e := sub_add h
  rw [← zI_ndf]
  have : nI x - nI s = nI (ndf s x - 1) ^^^ (-1 : Int32) := by
    apply bv_inj
    rw [Int32.toBitVec_sub, Int32.toBitVec_xor, show (-1 : Int32).toBitVec = BitVec.allOnes 32 from by decide, BitVec.xor_allOnes, zI_bv, zI_bv, zI_bv]
    apply BitVec.eq_of_toNat_eq
    rw [BitVec.toNat_sub, BitVec.toNat_not, BitVec.toNat_ofNat, BitVec.toNat_ofNat, BitVec.toNat_ofNat]
    omega
  rw [this]
  apply bv_inj
  rw [Int32.toBitVec_and, Int32.toBitVec_and, BitVec.and_comm]
