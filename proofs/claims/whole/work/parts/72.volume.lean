/-! Layer 2, 33: volumes and prices on both sides -/
def Mk.deg (M : Mk) (s : Nat) : Nat := pc (M.sm s ||| M.nx s)
def Mk.vol (M : Mk) (s : Nat) : UInt32 := vz (M.deg s) (M.wt s)
def pz (M : Mk) (s b : Nat) : Int32 := FP.f2i (FP.fmul (M.vol s) (FP.i2f (nI b)))
theorem or_back {x s : Nat} (h : x.testBit s = false) : ndf (x ||| 2 ^ s) (2 ^ s) = x := by
  refine Nat.eq_of_testBit_eq fun i => ?_
  rw [ndf_testBit, Nat.testBit_or, tb_pow]
  by_cases e : i = s
  · rw [e, decide_eq_true rfl, h]; rfl
  · rw [decide_eq_false e]; simp
theorem pc_or {x s : Nat} (hs : s < 12) (h : x.testBit s = false) : pc (x ||| 2 ^ s) = pc x + 1 := by
  have := pc_take (x := x ||| 2 ^ s) hs (by rw [Nat.testBit_or, tb_pow, decide_eq_true rfl, Bool.or_true])
  rw [or_back h] at this
  exact this
theorem deg_lt {M : Mk} (hM : M.WF) {s : Nat} (hs : s < M.n) : M.deg s < 12 := by
  have hn := hM.1.1
  have h : (M.sm s ||| M.nx s).testBit s = false := by rw [Nat.testBit_or, hM.1.2.2.2.2.2.1 s, hM.1.2.2.2.2.2.2 s]; rfl
  have h2 := pc_or (show s < 12 by omega) h
  have h3 := pc_le12 (M.sm s ||| M.nx s ||| 2 ^ s)
  unfold Mk.deg
  omega
theorem vol_ok {M : Mk} (hM : M.WF) {s : Nat} (hs : s < M.n) : n32 (vzp (M.deg s) (M.wt s)) = true ∧ n32 (vz (M.deg s) (M.wt s)) = true ∧ vzc (M.vol s) = true :=
  okV_of (deg_lt hM hs) (hM.2.2.2 s hs).2.2.1 (hM.2.2.2 s hs).2.2.2.1
theorem pz_ok {M : Mk} (hM : M.WF) {s b : Nat} (hs : s < M.n) (hb : b ≤ 1000) : n32 (FP.fmul (M.vol s) (FP.i2f (nI b))) = true ∧ ∃ k, k < 2 ^ 18 ∧ pz M s b = nI k :=
  price_ok (vol_ok hM hs).2.2 (allR okB_all (by omega))
theorem cdeg_eq {M : Mk} (hM : M.WF) {s : Nat} (hs : s < M.n) {σ : Sg} (h : ClsM 3 11 σ M) : fX3_degree (nI s) σ = some (nI (M.deg s), σ) := by
  have hn := hM.1.1
  have hd : M.sm s ||| M.nx s < 2 ^ 12 := hM.1.lt12 (or_lt (hM.1.2.1 s) (hM.1.2.2.1 s))
  obtain ⟨a1, a2⟩ := h.2.2.2.2 s (by omega)
  have a1' : σ 15 s = nI (M.sm s) := a1
  have a2' : σ 16 s = nI (M.nx s) := a2
  rw [fX3_degree, gd_of (inb_ok (by omega) (by omega)), gd_of (inb_ok (by omega) (by omega)), zI_clamp (by omega), a1', a2', zI_or, bitCount_nI hd]
  rfl
theorem cvol_eq {M : Mk} (hM : M.WF) {s : Nat} (hs : s < M.n) {σ : Sg} (h : ClsM 3 11 σ M) : fX3_volume (nI s) σ = some (M.vol s, σ) := by
  have hn := hM.1.1
  have hd : M.sm s ||| M.nx s < 2 ^ 12 := hM.1.lt12 (or_lt (hM.1.2.1 s) (hM.1.2.2.1 s))
  have hw : σ 13 s = nI (M.wt s) := (h.2.2.2.1 s hs).2.2.1
  obtain ⟨g1, g2, -⟩ := vol_ok hM hs
  rw [fX3_volume, cdeg_eq hM hs h, bd_some, gd_of (inb_ok (by omega) (by omega)), zI_clamp (by omega), hw]
  unfold vzp at g1
  unfold vz vzp at g2
  rw [gd_of g1, gd_of g2]
  rfl
theorem cprice_eq {M : Mk} (hM : M.WF) {s b : Nat} (hs : s < M.n) (hb : b ≤ 1000) {σ : Sg} (h : ClsM 3 11 σ M) : fX3_priceWith (nI s) (nI b) σ = some (pz M s b, σ) := by
  rw [fX3_priceWith, cvol_eq hM hs h, bd_some, gd_of (pz_ok hM hs hb).1]
  rfl
theorem rdeg_eq {M : Mk} (hM : M.WF) {s : Nat} (hs : s < M.n) {σ : Sg} (h : RefM (σ 1) M) : fX7_degree (nI s) σ = some (nI (M.deg s), σ) := by
  have hn := hM.1.1
  have hd : M.sm s ||| M.nx s < 2 ^ 12 := hM.1.lt12 (or_lt (hM.1.2.1 s) (hM.1.2.2.1 s))
  rw [fX7_degree, show (64 : Int32) + nI s = nI (64 + s) from zI_add 64 s, show (76 : Int32) + nI s = nI (76 + s) from zI_add 76 s, gd_of (inb_ok (by omega) (by omega)), gd_of (inb_ok (by omega) (by omega)), zI_clamp (by omega), zI_clamp (by omega), (h.2.2 s hs).2.2.2.2.2.1, (h.2.2 s hs).2.2.2.2.2.2, zI_or, cb_eq hd, bd_some]
  rfl
theorem rvol_eq {M : Mk} (hM : M.WF) {s : Nat} (hs : s < M.n) {σ : Sg} (h : RefM (σ 1) M) : fX7_volume (nI s) σ = some (M.vol s, σ) := by
  have hn := hM.1.1
  obtain ⟨g1, g2, -⟩ := vol_ok hM hs
  rw [fX7_volume, rdeg_eq hM hs h, bd_some, show (28 : Int32) + nI s = nI (28 + s) from zI_add 28 s, gd_of (inb_ok (by omega) (by omega)), zI_clamp (by omega), (h.2.2 s hs).2.2.1]
  unfold vzp at g1
  unfold vz vzp at g2
  rw [gd_of g1, gd_of g2]
  rfl
theorem rprice_eq {M : Mk} (hM : M.WF) {s b : Nat} (hs : s < M.n) (hb : b ≤ 1000) {σ : Sg} (h : RefM (σ 1) M) : fX7_priceOf (nI s) (nI b) σ = some (pz M s b, σ) := by
  rw [fX7_priceOf, rvol_eq hM hs h, bd_some, gd_of (pz_ok hM hs hb).1]
  rfl
/-! the ranking -/
def Mk.key (M : Mk) (s : Nat) : Nat := vk (M.vol s)
/-- t stands before s -/
def bef (M : Mk) (t s : Nat) : Bool := decide (M.key s < M.key t) || (decide (M.key t = M.key s) && decide (t < s))
theorem bef_iff {M : Mk} {t s : Nat} : bef M t s = true ↔ M.key s < M.key t ∨ (M.key t = M.key s ∧ t < s) := by
  unfold bef
  rw [Bool.or_eq_true, Bool.and_eq_true, decide_eq_true_eq, decide_eq_true_eq, decide_eq_true_eq]
def Rkd (M : Mk) (m : Nat) (R : Nat → Nat) : Prop := m ≤ 12 ∧ (∀ i, i < m → M.tk.testBit (R i) = true) ∧ (∀ t, M.tk.testBit t = true → ∃ i, i < m ∧ R i = t) ∧ ∀ i j, i < j → j < m → bef M (R i) (R j) = true
/-- how many stand before -/
def rnk (M : Mk) (s : Nat) : Nat := (els M.tk).countP fun t => bef M t s
theorem Rkd.bef_iff {M : Mk} {m : Nat} {R : Nat → Nat} (h : Rkd M m R) {i j : Nat} (hi : i < m) (hj : j < m) : bef M (R i) (R j) = decide (i < j) := by
  rcases Nat.lt_trichotomy i j with q | q | q
  · rw [h.2.2.2 i j q hj, decide_eq_true q]
  · rw [q, decide_eq_false (Nat.lt_irrefl j)]
    cases z : bef M (R j) (R j) with
    | false => rfl
    | true =>
      have := _root_.Jvm.Pilot.CSpectrumReallocatorLaw_law_r2155_b68a8e.bef_iff.mp z
      omega
  · rw [decide_eq_false (by omega)]
    have h1 := _root_.Jvm.Pilot.CSpectrumReallocatorLaw_law_r2155_b68a8e.bef_iff.mp (h.2.2.2 j i q hi)
    cases z : bef M (R i) (R j) with
    | false => rfl
    | true =>
      have := _root_.Jvm.Pilot.CSpectrumReallocatorLaw_law_r2155_b68a8e.bef_iff.mp z
      omega
theorem Rkd.perm {M : Mk} (hM : M.WF) {m : Nat} {R : Nat → Nat} (h : Rkd M m R) : (els M.tk).Perm ((List.range m).map R) := by
  have htk := hM.1.lt12 hM.2.2.1
  refine (List.perm_ext_iff_of_nodup (els_nodup _) ?_).mpr fun t => ?_
  · refine List.Pairwise.map R (R := fun i j => i < j ∧ j < m) (fun i j hij e => ?_) ?_
    · have h1 := h.bef_iff (i := i) (j := j) (by omega) hij.2
      have h2 := h.bef_iff (i := j) (j := j) hij.2 hij.2
      rw [e, h2] at h1
      rw [decide_eq_true hij.1, decide_eq_false (Nat.lt_irrefl j)] at h1
      exact absurd h1 (by decide)
    · have := List.pairwise_lt_range (n := m)
      exact List.Pairwise.imp_of_mem (fun {a b} ha hb hab => ⟨hab, List.mem_range.mp hb⟩) this
  · rw [mem_els' htk, List.mem_map]
    constructor
    · intro ht
      obtain ⟨i, h1, h2⟩ := h.2.2.1 t ht
      exact ⟨i, List.mem_range.mpr h1, h2⟩
    · rintro ⟨i, h1, rfl⟩
      exact h.2.1 i (List.mem_range.mp h1)
theorem countP_lt_range (m j : Nat) (hj : j ≤ m) : (List.range m).countP (fun i => decide (i < j)) = j := by
  induction m with
  | zero => rw [show j = 0 by omega]; rfl
  | succ m ih =>
    rw [List.range_succ, List.countP_append, List.countP_singleton]
    rcases Nat.eq_or_lt_of_le hj with e | e
    · rw [e]
      have : (List.range m).countP (fun i => decide (i < m + 1)) = (List.range m).length := List.countP_eq_length.mpr fun i hi => by
        have := List.mem_range.mp hi
        exact decide_eq_true (by omega)
      rw [this, List.length_range, decide_eq_true (by omega), if_pos rfl]
    · rw [ih (by omega), decide_eq_false (by omega), if_neg (by decide)]
      rfl
theorem rnk_R {M : Mk} (hM : M.WF) {m : Nat} {R : Nat → Nat} (h : Rkd M m R) {j : Nat} (hj : j < m) : rnk M (R j) = j := by
  unfold rnk
  rw [(h.perm hM).countP_eq, List.countP_map]
  have : (List.range m).countP ((fun t => bef M t (R j)) ∘ R) = (List.range m).countP (fun i => decide (i < j)) := List.countP_congr fun i hi => by
    rw [Function.comp, h.bef_iff (List.mem_range.mp hi) hj]
  rw [this, countP_lt_range m j (by omega)]
