/-! Layer 2, 24: a market with a new kept assignment; the channels that it uses -/
def Mk.wkp (M : Mk) (k : Nat → Int32) : Mk := (M.n, M.av, M.tk, M.ch, M.vl, M.wt, M.sm, M.nx, k)
def KpOK (n : Nat) (k : Nat → Int32) : Prop := ∀ s, s < n → k s = -1 ∨ ∃ c, c < 8 ∧ k s = nI c
theorem Mk.WF.wkp {M : Mk} (h : M.WF) {k : Nat → Int32} (hk : KpOK M.n k) : (M.wkp k).WF := ⟨h.1, h.2.1, h.2.2.1, fun s hs => ⟨(h.2.2.2 s hs).1, (h.2.2.2 s hs).2.1, (h.2.2.2 s hs).2.2.1, (h.2.2.2 s hs).2.2.2.1, hk s hs⟩⟩
theorem Mk.WF.kpOK {M : Mk} (h : M.WF) : KpOK M.n M.kp := fun s hs => (h.2.2.2 s hs).2.2.2.2
theorem RefM.wkp {g : Nat → Int32} {M : Mk} (h : RefM g M) (hn : M.n ≤ 12) (k : Nat → Int32) : RefM (kpr M.n k g) (M.wkp k) := by
  have e : ∀ j, ¬(52 ≤ j ∧ j < 52 + M.n) → kpr M.n k g j = g j := fun j hj => if_neg hj
  refine ⟨(e 0 (by omega)).trans h.1, (e 1 (by omega)).trans h.2.1, fun s hs => ?_⟩
  have hs' : s < M.n := hs
  obtain ⟨a1, a2, a3, a4, a5, a6, a7⟩ := h.2.2 s hs
  refine ⟨(e _ (by omega)).trans a1, (e _ (by omega)).trans a2, (e _ (by omega)).trans a3, (e _ (by omega)).trans a4, ?_, (e _ (by omega)).trans a6, (e _ (by omega)).trans a7⟩
  unfold kpr
  rw [if_pos (by omega), show 52 + s - 52 = s by omega]
  rfl
theorem PkI.wkp {B : Nat} {M : Mk} {σ : Sg} (h : PkI B M σ) {k : Nat → Int32} (hk : KpOK M.n k) {g : Nat → Int32} (hg : ∀ s, s < M.n → g s = k s) : PkI B (M.wkp k) (sst σ 14 g) := by
  refine ⟨⟨(congrFun (sst_ne (by decide)) 6).trans h.1.1, (congrFun (sst_ne (by decide)) 7).trans h.1.2.1, (congrFun (sst_ne (by decide)) 8).trans h.1.2.2.1, fun s hs => ?_, fun s hs => ?_⟩, h.2.1.wkp hk, h.2.2.1.same (sst_ne (by decide)) (sst_ne (by decide)), h.2.2.2.keep (by rw [sst_ne (by decide)]) (sst_ne (by decide))⟩
  · obtain ⟨a1, a2, a3, a4⟩ := h.1.2.2.2.1 s hs
    exact ⟨(congrFun (sst_ne (by decide)) s).trans a1, (congrFun (sst_ne (by decide)) s).trans a2, (congrFun (sst_ne (by decide)) s).trans a3, (congrFun (sst_self σ 14 g) s).trans (hg s hs)⟩
  · obtain ⟨a1, a2⟩ := h.1.2.2.2.2 s hs
    exact ⟨(congrFun (sst_ne (by decide)) s).trans a1, (congrFun (sst_ne (by decide)) s).trans a2⟩
theorem nkp_ok {M : Mk} (hM : M.WF) {S : Nat} (hS : S < 2 ^ M.n) (hfeas : 0 < M.cnt M.av S) (b : Bool) : KpOK M.n (nkp S (fnl M S b)) := by
  intro s hs
  unfold nkp
  by_cases q : S.testBit s = true
  · obtain ⟨c, h1, h2, -⟩ := fin_some hM hS hfeas b q
    rw [if_pos q, h2]
    exact Or.inr ⟨c, h1, rfl⟩
  · rw [if_neg q]
    exact Or.inl rfl
/-- the channels used by the first i stations -/
def usd (k : Nat → Int32) : Nat → Nat
  | 0 => 0
  | i + 1 => usd k i ||| (if k i = -1 then 0 else 2 ^ (k i).toNatClampNeg)
theorem usd_lt {n : Nat} {k : Nat → Int32} (hk : KpOK n k) : ∀ i, i ≤ n → usd k i < 2 ^ 8 := by
  intro i
  induction i with
  | zero => intro _; rw [usd]; decide
  | succ i ih =>
    intro hi
    rw [usd]
    refine or_lt (ih (by omega)) ?_
    split
    · decide
    · rcases hk i (by omega) with h | ⟨c, hc, h⟩
      · contradiction
      · rw [h, zI_clamp (by omega)]
        exact Nat.pow_lt_pow_right (by decide) hc
theorem used_loop {M : Mk} (hn : M.n ≤ 12) {k : Nat → Int32} (hk : KpOK M.n k) {σ : Sg} (h6 : σ 3 6 = nI M.n) (h14 : ∀ s, s < M.n → σ 14 s = k s) : ∀ j i fuel, i + j = M.n → j < fuel → fX3_usedChannels_4 fuel (nI (usd k i)) (nI i) σ = some (nI (usd k M.n), σ) := by
  intro j
  induction j with
  | zero =>
    intro i fuel hi hf
    obtain ⟨f', rfl, -⟩ := fuel_succ hf
    have e : i = M.n := by omega
    rw [fX3_usedChannels_4, h6, if_le (by omega) (by omega), if_pos (by omega), e]
  | succ j ih =>
    intro i fuel hi hf
    obtain ⟨f', rfl, hf⟩ := fuel_succ hf
    have e := ih (i + 1) f' (by omega) (by omega)
    rw [usd] at e
    rw [fX3_usedChannels_4, h6, if_le (by omega) (by omega), if_neg (by omega), gd_of (inb_ok (by omega) (by omega))]
    simp only [jp_eq, lt'_eq]
    rw [gd_of (inb_ok (by omega) (by omega)), zI_clamp (by omega), h14 i (by omega), zs_add]
    by_cases q : k i = -1
    · rw [if_pos q, Nat.or_zero] at e
      rw [if_pos q]
      exact e
    · rw [if_neg q] at e
      rw [if_neg q]
      rcases hk i (by omega) with h | ⟨c, hc, h⟩
      · contradiction
      · rw [h, zI_clamp (by omega)] at e
        rw [h, zI_one_shl (by omega), zI_or]
        exact e
theorem rused_loop {M : Mk} (hn : M.n ≤ 12) {k : Nat → Int32} (hk : KpOK M.n k) (K : Int32 → Sg → Option (Int32 × Sg)) {σ : Sg} (h6 : σ 1 0 = nI M.n) (h52 : ∀ s, s < M.n → σ 1 (52 + s) = k s) : ∀ j i fuel, i + j = M.n → j < fuel → fX7_assign_57 K fuel (nI (usd k i)) (nI i) σ = K (nI (usd k M.n)) σ := by
  intro j
  induction j with
  | zero =>
    intro i fuel hi hf
    obtain ⟨f', rfl, -⟩ := fuel_succ hf
    have e : i = M.n := by omega
    rw [fX7_assign_57, h6, if_le (by omega) (by omega), if_pos (by omega), e]
  | succ j ih =>
    intro i fuel hi hf
    obtain ⟨f', rfl, hf⟩ := fuel_succ hf
    have e := ih (i + 1) f' (by omega) (by omega)
    rw [usd] at e
    rw [fX7_assign_57, h6, if_le (by omega) (by omega), if_neg (by omega), show (52 : Int32) + nI i = nI (52 + i) from zI_add 52 i, gd_of (inb_ok (by omega) (by omega))]
    simp only [jp_eq, lt'_eq]
    rw [gd_of (inb_ok (by omega) (by omega)), zI_clamp (by omega), h52 i (by omega), zs_add]
    by_cases q : k i = -1
    · rw [if_pos q, Nat.or_zero] at e
      rw [q, if_pos (by decide), show (0 : Int32) = nI 0 from rfl, zI_or, Nat.or_zero]
      exact e
    · rw [if_neg q] at e
      rcases hk i (by omega) with h | ⟨c, hc, h⟩
      · contradiction
      · rw [h, zI_clamp (by omega)] at e
        rw [h, if_neg (zI_nn (by omega)), zI_one_shl (by omega), zI_or]
        exact e
