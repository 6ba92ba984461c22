/-! Layer 2, 27: the smallest reason -/
/-- a set x is not feasible with the station a -/
def bad (M : Mk) (a x : Nat) : Bool := decide (¬ 0 < M.cnt M.av (x ||| 2 ^ a))
def sbs (x b : Nat) : Prop := ∀ i, x.testBit i = true → b.testBit i = true
/-- the set x is the smallest reason -/
def Rsn (M : Mk) (a b x : Nat) : Prop := sbs x b ∧ bad M a x = true ∧ ∀ y, sbs y b → bad M a y = true → pc x < pc y ∨ (pc x = pc y ∧ x ≤ y)
theorem Rsn.uniq {M : Mk} {a b x y : Nat} (h : Rsn M a b x) (h2 : Rsn M a b y) : x = y := by
  have h3 := h.2.2 y h2.1 h2.2.1
  have h4 := h2.2.2 x h.1 h.2.1
  omega
theorem sbs_lt {x b k : Nat} (h : sbs x b) (hb : b < 2 ^ k) : x < 2 ^ k := lt_of_tb fun i hi => tb_lt hb (h i hi)
theorem sbs_le {x b : Nat} (h : sbs x b) : x ≤ b := by
  have := sub_add h
  omega
theorem sbs_pc {x b : Nat} (h : sbs x b) (hb : b < 2 ^ 12) : pc x ≤ pc b ∧ (pc x = pc b → x = b) := by
  refine ⟨pc_le fun i _ hi => h i hi, fun e => ?_⟩
  refine Nat.eq_of_testBit_eq fun i => ?_
  cases q : x.testBit i with
  | true => rw [h i q]
  | false =>
    cases q2 : b.testBit i with
    | false => rfl
    | true =>
      have h1 := pc_take (tb_lt hb q2) q2
      have h2 : pc x ≤ pc (ndf b (2 ^ i)) := pc_le fun t _ ht => by
        rw [ndf_testBit, h t ht, tb_pow]
        by_cases z : t = i
        · rw [z, q] at ht
          exact absurd ht (by decide)
        · rw [decide_eq_false z]; rfl
      omega
theorem lst_no {p : Nat → Bool} {k c : Nat} (h : p c = false) : lst p (k + 1) c = lst p k (c + 1) := by
  rw [lst, h]; rfl
theorem lst_yes {p : Nat → Bool} {k c : Nat} (h : p c = true) : lst p (k + 1) c = c := by
  rw [lst, h]; rfl
theorem sr_in {B : Nat} {M : Mk} {a s num' : Nat} (ha : a < M.n) (hs : s < 2 ^ M.n) (hnum : num' < 2 ^ 31) (K : Sg → Option (Int32 × Sg)) : ∀ k j fuel (x : Int32) (σ : Sg), j + k = 2 ^ pc s → k < fuel → (j < 2 ^ pc s → x = nI (dep 12 s j)) → PkI B M σ →
    ∃ τ, fX4_smallestReason_30 (nI a) (nI s) (nI (pc s)) (nI num') K fuel x (nI j) σ = (if lst (fun j => bad M a (dep 12 s j) && decide (pc (dep 12 s j) = num')) k j < 2 ^ pc s then some (nI (dep 12 s (lst (fun j => bad M a (dep 12 s j) && decide (pc (dep 12 s j) = num')) k j)), τ) else K τ) ∧ PkF σ τ ∧ PkI B M τ := by
  have hpc := pc_le12 s
  have hp : 2 ^ pc s ≤ 2 ^ 12 := Nat.pow_le_pow_right (by decide) hpc
  intro k
  induction k with
  | zero =>
    intro j fuel x σ hj hf hx h
    obtain ⟨f', rfl, -⟩ := fuel_succ hf
    refine ⟨σ, ?_, PkF.refl σ, h⟩
    rw [fX4_smallestReason_30, zI_one_shl (by omega), if_le (by omega) (by omega), if_pos (by omega), lst, if_neg (by omega)]
  | succ k ih =>
    intro j fuel x σ hj hf hx h
    obtain ⟨f', rfl, hf⟩ := fuel_succ hf
    have hn := h.2.1.1.1
    have hs12 := h.2.1.1.lt12 hs
    have hsub : sbs (dep 12 s j) s := dep_sub 12 s j
    have hd := sbs_lt hsub hs
    have hd12 := h.2.1.1.lt12 hd
    have hdpc := pc_le12 (dep 12 s j)
    rw [fX4_smallestReason_30, zI_one_shl (by omega), if_le (by omega) (by omega), if_neg (by omega), hx (by omega), zs_add]
    simp only [jp_eq, lt'_eq]
    rw [bitCount_nI hd12, if_eq (by omega) hnum, zI_one_shl (by omega), zI_or]
    have hx' : j + 1 < 2 ^ pc s → (nI (dep 12 s j) - nI s) &&& nI s = nI (dep 12 s (j + 1)) := by
      intro hj1
      rw [← pb_pc] at hj1
      obtain ⟨g1, g2⟩ := dep_next 12 s j hs12 hj1
      rw [sub_step (lt12_31 hs12) hsub g1, g2]
    have tail : ∀ τ, PkF σ τ → PkI B M τ → (bad M a (dep 12 s j) && decide (pc (dep 12 s j) = num')) = false → ∃ υ, fX4_smallestReason_30 (nI a) (nI s) (nI (pc s)) (nI num') K f' ((nI (dep 12 s j) - nI s) &&& nI s) (nI (j + 1)) τ = (if lst (fun j => bad M a (dep 12 s j) && decide (pc (dep 12 s j) = num')) (k + 1) j < 2 ^ pc s then some (nI (dep 12 s (lst (fun j => bad M a (dep 12 s j) && decide (pc (dep 12 s j) = num')) (k + 1) j)), υ) else K υ) ∧ PkF σ υ ∧ PkI B M υ := by
      intro τ hf1 hp hno
      obtain ⟨υ, e1, f1, p1⟩ := ih (j + 1) f' _ τ (by omega) (by omega) hx' hp
      refine ⟨υ, ?_, hf1.trans f1, p1⟩
      rw [e1, lst_no hno]
    by_cases q1 : pc (dep 12 s j) = num'
    · rw [if_pos q1]
      have hS : dep 12 s j ||| 2 ^ a < 2 ^ M.n := or_lt hd (Nat.pow_lt_pow_right (by decide) ha)
      obtain ⟨τ, e1, f1, p1⟩ := fits_eq h hS
      rw [e1, bd_some]
      by_cases q2 : 0 < M.cnt M.av (dep 12 s j ||| 2 ^ a)
      · rw [if_pos q2, if_neg (by decide)]
        refine tail τ f1 p1 ?_
        unfold bad
        rw [decide_eq_false (fun z => z q2), Bool.false_and]
      · rw [if_neg q2, if_pos rfl]
        refine ⟨τ, ?_, f1, p1⟩
        have e2 : (bad M a (dep 12 s j) && decide (pc (dep 12 s j) = num')) = true := by
          unfold bad
          rw [decide_eq_true q2, decide_eq_true q1]
          rfl
        rw [lst_yes e2, if_pos (by omega)]
    · rw [if_neg q1]
      refine tail σ (PkF.refl σ) h ?_
      rw [decide_eq_false q1, Bool.and_false]
theorem sr_out {B : Nat} {M : Mk} {a s : Nat} (ha : a < M.n) (hs : s < 2 ^ M.n) (hbad : bad M a s = true) : ∀ k i fuel (σ : Sg), i + k = pc s → k < fuel → PkI B M σ → (∀ y, sbs y s → bad M a y = true → i ≤ pc y) →
    ∃ τ x, fX4_smallestReason_17 (nI a) (nI s) (nI (pc s)) fuel (nI i) σ = some (nI x, τ) ∧ Rsn M a s x ∧ PkF σ τ ∧ PkI B M τ := by
  have hpc := pc_le12 s
  have hp : 2 ^ pc s ≤ 2 ^ 12 := Nat.pow_le_pow_right (by decide) hpc
  intro k
  induction k with
  | zero =>
    intro i fuel σ hi hf h hlow
    obtain ⟨f', rfl, -⟩ := fuel_succ hf
    refine ⟨σ, s, ?_, ⟨fun _ z => z, hbad, fun y hy hb => ?_⟩, PkF.refl σ, h⟩
    · rw [fX4_smallestReason_17, if_le (by omega) (by omega), if_pos (by omega)]
    · have h1 := hlow y hy hb
      have h2 := sbs_pc hy (h.2.1.1.lt12 hs)
      have h3 := h2.2 (by omega)
      rw [h3]
      exact Or.inr ⟨rfl, Nat.le_refl _⟩
  | succ k ih =>
    intro i fuel σ hi hf h hlow
    obtain ⟨f', rfl, hf⟩ := fuel_succ hf
    obtain ⟨F, hF8, hFe⟩ : ∃ F, 4096 < F ∧ FU = F := ⟨FU, by unfold FU; omega, rfl⟩
    have hs12 := h.2.1.1.lt12 hs
    rw [fX4_smallestReason_17, if_le (by omega) (by omega), if_neg (by omega), hFe, show (0 : Int32) = nI 0 from rfl, zs_add]
    obtain ⟨τ, e1, f1, p1⟩ := sr_in ha hs (show i < 2 ^ 31 by omega) (fun (σ17 : Sg) => fX4_smallestReason_17 (nI a) (nI s) (nI (pc s)) f' (nI (i + 1)) σ17) (2 ^ pc s) 0 F (nI 0) σ (by omega) (by omega) (fun _ => by rw [dep_zero]) h
    rw [e1]
    have e12 : pb 12 s = pc s := pb_pc s
    by_cases q : lst (fun j => bad M a (dep 12 s j) && decide (pc (dep 12 s j) = i)) (2 ^ pc s) 0 < 2 ^ pc s
    · rw [if_pos q]
      obtain ⟨j0, hj0⟩ : ∃ j0, j0 = lst (fun j => bad M a (dep 12 s j) && decide (pc (dep 12 s j) = i)) (2 ^ pc s) 0 := ⟨_, rfl⟩
      have hex : ∃ c', 0 ≤ c' ∧ c' < 0 + 2 ^ pc s ∧ (bad M a (dep 12 s c') && decide (pc (dep 12 s c') = i)) = true := by
        refine Classical.byContradiction fun hno => ?_
        have := lst_none (p := fun j => bad M a (dep 12 s j) && decide (pc (dep 12 s j) = i)) (2 ^ pc s) 0 (fun d h1 h2 => by
          cases z : (bad M a (dep 12 s d) && decide (pc (dep 12 s d) = i)) with
          | false => rfl
          | true => exact absurd ⟨d, h1, h2, z⟩ hno)
        omega
      obtain ⟨-, g2, g3, g4⟩ := lst_spec (p := fun j => bad M a (dep 12 s j) && decide (pc (dep 12 s j) = i)) (2 ^ pc s) 0 hex
      rw [← hj0] at g2 g3 g4 q ⊢
      rw [Bool.and_eq_true, decide_eq_true_eq] at g3
      refine ⟨τ, dep 12 s j0, rfl, ⟨dep_sub 12 s j0, g3.1, fun y hy hb => ?_⟩, f1, p1⟩
      have h1 := hlow y hy hb
      rw [g3.2]
      rcases Nat.lt_or_ge i (pc y) with z | z
      · exact Or.inl z
      · refine Or.inr ⟨by omega, ?_⟩
        obtain ⟨j, k1, k2⟩ := dep_surj 12 s y hy hs12
        rw [e12] at k1
        rcases Nat.lt_or_ge j j0 with z2 | z2
        · have := g4 j (Nat.zero_le j) z2
          rw [k2, hb, decide_eq_true (by omega : pc y = i)] at this
          exact absurd this (by decide)
        · rcases Nat.eq_or_lt_of_le z2 with z3 | z3
          · rw [z3, k2]
            exact Nat.le_refl _
          · have := dep_mono 12 s j0 j z3 (by rw [e12]; exact k1)
            omega
    · rw [if_neg q]
      obtain ⟨υ, x, e2, r2, f2, p2⟩ := ih (i + 1) f' τ (by omega) (by omega) p1 (fun y hy hb => by
        have h1 := hlow y hy hb
        rcases Nat.eq_or_lt_of_le h1 with z | z
        · exfalso
          obtain ⟨j, k1, k2⟩ := dep_surj 12 s y hy hs12
          rw [e12] at k1
          obtain ⟨-, g2, -⟩ := lst_spec (p := fun j => bad M a (dep 12 s j) && decide (pc (dep 12 s j) = i)) (2 ^ pc s) 0 ⟨j, Nat.zero_le j, by omega, by rw [k2, hb, decide_eq_true z.symm]; rfl⟩
          omega
        · exact z)
      exact ⟨υ, x, e2, r2, f1.trans f2, p2⟩
theorem ndf_bit_or {b a : Nat} : ndf b (2 ^ a) ||| 2 ^ a = b ||| 2 ^ a := by
  refine Nat.eq_of_testBit_eq fun i => ?_
  rw [Nat.testBit_or, Nat.testBit_or, ndf_testBit]
  cases (2 ^ a).testBit i <;> cases b.testBit i <;> rfl
theorem sr_eq {B : Nat} {M : Mk} {a b : Nat} (ha : a < M.n) (hb : b < 2 ^ M.n) (hbad : bad M a b = true) {σ : Sg} (h : PkI B M σ) : ∃ τ x, fX4_smallestReason (nI a) (nI b) σ = some (nI x, τ) ∧ Rsn M a (ndf b (2 ^ a)) x ∧ PkF σ τ ∧ PkI B M τ := by
  have hn := h.2.1.1.1
  have hs : ndf b (2 ^ a) < 2 ^ M.n := ndf_lt hb
  rw [fX4_smallestReason]
  simp only [lt'_eq]
  rw [zI_one_shl (by omega), zI_ndf, bitCount_nI (h.2.1.1.lt12 hs), show (0 : Int32) = nI 0 from rfl]
  refine sr_out ha hs ?_ (pc (ndf b (2 ^ a))) 0 FU σ (by omega) (by have := pc_le12 (ndf b (2 ^ a)); unfold FU; omega) h (fun _ _ _ => Nat.zero_le _)
  unfold bad at hbad ⊢
  rw [ndf_bit_or]
  exact hbad
/-! the reference -/
def RsI (M : Mk) (a b i : Nat) (o : Int32) : Prop := (o = -1 ∧ ∀ y, y < i → sbs y b → bad M a y = false) ∨ ∃ x, o = nI x ∧ x < i ∧ sbs x b ∧ bad M a x = true ∧ ∀ y, y < i → sbs y b → bad M a y = true → pc x < pc y ∨ (pc x = pc y ∧ x ≤ y)
theorem ndf_sbs {x b : Nat} : ndf x b = 0 ↔ sbs x b := by
  constructor
  · intro h i hi
    have := congrArg (fun z => z.testBit i) h
    simp only [ndf_testBit, hi, tb_zero, Bool.true_and, Bool.not_eq_false'] at this
    exact this
  · intro h
    refine Nat.eq_of_testBit_eq fun i => ?_
    rw [ndf_testBit, tb_zero]
    cases q : x.testBit i with
    | false => rfl
    | true => rw [h i q]; rfl
theorem RsI.skip {M : Mk} {a b i : Nat} {o : Int32} (h : RsI M a b i o) (hno : ¬ (sbs i b ∧ bad M a i = true)) : RsI M a b (i + 1) o := by
  rcases h with ⟨h1, h2⟩ | ⟨x, h1, h2, h3, h4, h5⟩
  · refine Or.inl ⟨h1, fun y hy hs => ?_⟩
    rcases Nat.lt_or_ge y i with z | z
    · exact h2 y z hs
    · rw [show y = i by omega] at hs ⊢
      cases q : bad M a i with
      | false => rfl
      | true => exact absurd ⟨hs, q⟩ hno
  · refine Or.inr ⟨x, h1, by omega, h3, h4, fun y hy hs hb => ?_⟩
    rcases Nat.lt_or_ge y i with z | z
    · exact h5 y z hs hb
    · rw [show y = i by omega] at hs hb
      exact absurd ⟨hs, hb⟩ hno
theorem rr_loop {M : Mk} (hM : M.WF) {a b : Nat} (ha : a < M.n) (hb : b < 2 ^ M.n) : ∀ k i fuel (o : Int32) (σ : Sg), i + k = b + 1 → k < fuel → RsI M a b i o → RefM (σ 1) M →
    ∃ τ o', fX7_reason_5 (nI a) (nI b) fuel o (nI i) σ = some (o', τ) ∧ RsI M a b (b + 1) o' ∧ RpF σ τ := by
  have hn := hM.1.1
  have hb12 := hM.1.lt12 hb
  intro k
  induction k with
  | zero =>
    intro i fuel o σ hi hf hI h
    obtain ⟨f', rfl, -⟩ := fuel_succ hf
    refine ⟨σ, o, ?_, ?_, RpF.refl σ⟩
    · rw [fX7_reason_5, if_lt (by omega) (by omega), if_pos (by omega)]
    · rw [show b + 1 = i by omega]
      exact hI
  | succ k ih =>
    intro i fuel o σ hi hf hI h
    obtain ⟨f', rfl, hf⟩ := fuel_succ hf
    have hi12 : i < 2 ^ 12 := by omega
    have hpi := pc_le12 i
    rw [fX7_reason_5, if_lt (by omega) (by omega), if_neg (by omega)]
    simp only [jp_eq]
    rw [zI_ndf, if_eq0 (Nat.lt_trans (ndf_lt hi12) (by decide)), zs_add, zI_one_shl (by omega), zI_or]
    have skip : ¬ (sbs i b ∧ bad M a i = true) → ∀ τ, RpF σ τ → ∃ υ o', fX7_reason_5 (nI a) (nI b) f' o (nI (i + 1)) τ = some (o', υ) ∧ RsI M a b (b + 1) o' ∧ RpF σ υ := by
      intro hno τ hf1
      obtain ⟨υ, o', e1, i1, f1⟩ := ih (i + 1) f' o τ (by omega) (by omega) (hI.skip hno) (h.rp hf1)
      exact ⟨υ, o', e1, i1, hf1.trans f1⟩
    have try1 : (∀ x, x < 2 ^ 31 → o = nI x → pc i < pc x) → ∀ V : Int32, V = 1 → ∃ υ o', (if ndf i b = 0 then (if V = 0 then fX7_reason_5 (nI a) (nI b) f' o (nI (i + 1)) σ else bd (fX7_isPossible (nI (i ||| 2 ^ a)) σ) (fun (r11 : Int32) (σ12 : Sg) => if r11 = 0 then fX7_reason_5 (nI a) (nI b) f' (nI i) (nI (i + 1)) σ12 else fX7_reason_5 (nI a) (nI b) f' o (nI (i + 1)) σ12)) else fX7_reason_5 (nI a) (nI b) f' o (nI (i + 1)) σ) = some (o', υ) ∧ RsI M a b (b + 1) o' ∧ RpF σ υ := by
      intro hless V hV
      by_cases q : ndf i b = 0
      · have hsb := ndf_sbs.mp q
        rw [if_pos q, hV, if_neg (by decide)]
        have hS : i ||| 2 ^ a < 2 ^ M.n := or_lt (sbs_lt hsb hb) (Nat.pow_lt_pow_right (by decide) ha)
        obtain ⟨τ, e1, f1⟩ := poss_eq hM hS h
        rw [e1, bd_some]
        by_cases q2 : 0 < M.cnt M.av (i ||| 2 ^ a)
        · rw [if_pos q2, if_neg (by decide)]
          exact skip (fun z => by
            have := z.2
            unfold bad at this
            rw [decide_eq_true_eq] at this
            exact this q2) τ f1
        · rw [if_neg q2, if_pos rfl]
          have hbi : bad M a i = true := decide_eq_true q2
          obtain ⟨υ, o', e2, i2, f2⟩ := ih (i + 1) f' (nI i) τ (by omega) (by omega) (Or.inr ⟨i, rfl, by omega, hsb, hbi, fun y hy hs hb' => by
            rcases Nat.lt_or_ge y i with z | z
            · rcases hI with ⟨-, h2⟩ | ⟨x, h1, h2, -, -, h5⟩
              · rw [h2 y z hs] at hb'
                exact absurd hb' (by decide)
              · have := h5 y z hs hb'
                have := hless x (by omega) h1
                omega
            · rw [show y = i by omega]
              exact Or.inr ⟨rfl, Nat.le_refl _⟩⟩) (h.rp f1)
          exact ⟨υ, o', e2, i2, f1.trans f2⟩
      · rw [if_neg q]
        exact skip (fun z => q (ndf_sbs.mpr z.1)) σ (RpF.refl σ)
    rcases hI with ⟨h1, h2⟩ | ⟨x, h1, h2, h3, h4, h5⟩
    · have hI : RsI M a b i o := Or.inl ⟨h1, h2⟩
      rw [if_pos (show o < 0 by rw [h1]; decide)]
      refine try1 (fun x hx31 hx => ?_) 1 rfl
      rw [h1] at hx
      exact absurd hx.symm (zI_neg1 hx31)
    · have hI : RsI M a b i o := Or.inr ⟨x, h1, h2, h3, h4, h5⟩
      have hx12 : x < 2 ^ 12 := by omega
      have hpx := pc_le12 x
      rw [h1, if_neg (zI_nn (by omega)), cb_eq hi12, bd_some, cb_eq hx12, bd_some, if_le (by omega) (by omega), ← h1]
      by_cases q : pc x ≤ pc i
      · rw [if_pos q, if_eq0 (Nat.lt_trans (ndf_lt hi12) (by decide))]
        by_cases q3 : ndf i b = 0
        · rw [if_pos q3, if_pos trivial]
          obtain ⟨υ, o', e1, i1, f1⟩ := ih (i + 1) f' o σ (by omega) (by omega) (Or.inr ⟨x, h1, by omega, h3, h4, fun y hy hs hb' => by
            rcases Nat.lt_or_ge y i with z | z
            · exact h5 y z hs hb'
            · rw [show y = i by omega]
              omega⟩) h
          exact ⟨υ, o', e1, i1, f1⟩
        · rw [if_neg q3]
          exact skip (fun z => q3 (ndf_sbs.mpr z.1)) σ (RpF.refl σ)
      · rw [if_neg q, if_eq0 (Nat.lt_trans (ndf_lt hi12) (by decide))]
        refine try1 (fun x' h31 hx' => ?_) 1 rfl
        rw [h1] at hx'
        rw [← (zI_inj (by omega) h31).mp hx']
        omega
theorem reason_eq {M : Mk} (hM : M.WF) {a b : Nat} (ha : a < M.n) (hb : b < 2 ^ M.n) (hbad : bad M a b = true) {σ : Sg} (h : RefM (σ 1) M) : ∃ τ x, fX7_reason (nI a) (nI b) σ = some (nI x, τ) ∧ Rsn M a b x ∧ RpF σ τ := by
  have hb12 := hM.1.lt12 hb
  obtain ⟨τ, o, e1, i1, f1⟩ := rr_loop hM ha hb (b + 1) 0 FU (-1) σ (by omega) (by unfold FU; omega) (Or.inl ⟨rfl, fun y hy => absurd hy (Nat.not_lt_zero y)⟩) h
  rcases i1 with ⟨-, h2⟩ | ⟨x, h1, h2, h3, h4, h5⟩
  · rw [h2 b (by omega) (fun _ z => z)] at hbad
    exact absurd hbad (by decide)
  · refine ⟨τ, x, ?_, ⟨h3, h4, fun y hy hb' => h5 y (by have := sbs_le hy; omega) hy hb'⟩, f1⟩
    rw [fX7_reason, show (0 : Int32) = nI 0 from rfl, e1, h1]
