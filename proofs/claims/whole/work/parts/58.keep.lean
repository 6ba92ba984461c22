/-! Layer 2, 19: keep of the class -/
/-- the kept channels behind a choice -/
def nkp (S : Nat) (φ : Nat → Option Nat) (s : Nat) : Int32 := if S.testBit s then (match φ s with
  | none => -1
  | some c => nI c) else -1
def chg (M : Mk) (S : Nat) (φ : Nat → Option Nat) : Nat → Nat
  | 0 => 0
  | i + 1 => chg M S φ i + (if S.testBit i ∧ nkp S φ i ≠ M.kp i then 1 else 0)
theorem chg_le (M : Mk) (S : Nat) (φ : Nat → Option Nat) (i : Nat) : chg M S φ i ≤ i := by
  induction i with
  | zero => exact Nat.le_refl 0
  | succ i ih =>
    rw [chg]
    split <;> omega
theorem pow_pred : ∀ c : Nat, c < 8 → pJ6_bitCount_0f7a4 (nI (2 ^ c) - (1 : Int32)) = nI c := by decide +kernel
theorem keep_loop {M : Mk} (hM : M.WF) {S : Nat} (hS : S < 2 ^ M.n) {φ : Nat → Option Nat} (hφ : ∀ t, S.testBit t = true → ∃ c, c < 8 ∧ φ t = some c ∧ fl M φ t = 2 ^ c) : ∀ k i fuel (σ : Sg), i + k = M.n → k < fuel → σ 3 6 = nI M.n → (∀ t, t < M.n → σ 35 t = nI (fl M φ t)) → (∀ t, i ≤ t → t < M.n → σ 14 t = M.kp t) →
    fX4_keep_4 (nI S) fuel (nI (chg M S φ i)) (nI i) σ = some (nI (chg M S φ M.n), sst σ 14 (fun j => if i ≤ j ∧ j < M.n then nkp S φ j else σ 14 j)) := by
  have hn := hM.1.1
  intro k
  induction k with
  | zero =>
    intro i fuel σ hi hf h6 h35 h14
    obtain ⟨f', rfl, -⟩ := fuel_succ hf
    have e : i = M.n := by omega
    rw [fX4_keep_4, h6, if_le (by omega) (by omega), if_pos (by omega)]
    have : (fun j => if i ≤ j ∧ j < M.n then nkp S φ j else σ 14 j) = σ 14 := by
      funext j
      rw [if_neg (by omega)]
    rw [this, sst_id, e]
  | succ k ih =>
    intro i fuel σ hi hf h6 h35 h14
    obtain ⟨f', rfl, hf⟩ := fuel_succ hf
    rw [fX4_keep_4, h6, if_le (by omega) (by omega), if_neg (by omega)]
    simp only [jp_eq, lt'_eq]
    rw [if_c (hM.1.lt31 hS) (by omega), zI_clamp (show i < 2 ^ 31 by omega), zs_add, zs_add, h14 i (Nat.le_refl i) (by omega), h35 i (by omega)]
    have tail : ∀ y v, nI y = nI (chg M S φ (i + 1)) → v = nkp S φ i → (gd (inb (nI i) 12) (fX4_keep_4 (nI S) f' (nI y) (nI (i + 1)) (sup σ 14 i v))) = some (nI (chg M S φ M.n), sst σ 14 (fun j => if i ≤ j ∧ j < M.n then nkp S φ j else σ 14 j)) := by
      intro y v hy hv
      rw [gd_of (inb_ok (by omega) (by omega)), hy, hv, ih (i + 1) f' _ (by omega) (by omega) (by rw [sup_ne (by decide)]; exact h6) (fun t ht => by rw [sup_ne (by decide)]; exact h35 t ht) (fun t h1 h2 => by rw [sup_self, upd_app, if_neg (by omega)]; exact h14 t (by omega) h2)]
      congr 2
      rw [sst_sup]
      congr 1
      funext j
      rw [sup_self, upd_app]
      by_cases q : j = i
      · subst q
        rw [if_neg (show ¬(j + 1 ≤ j ∧ j < M.n) by omega), if_pos (show j = j from rfl), if_pos (show j ≤ j ∧ j < M.n by omega)]
      · rw [if_neg q]
        by_cases q2 : i ≤ j ∧ j < M.n
        · rw [if_pos q2, if_pos (by omega)]
        · rw [if_neg q2, if_neg (by omega)]
    by_cases hb : S.testBit i = true
    · obtain ⟨c, hc, h1, h2⟩ := hφ i hb
      have hk : nkp S φ i = nI c := by unfold nkp; rw [if_pos hb, h1]
      rw [if_pos hb, h2, gd_of (inb_ok (by omega) (by omega)), pow_pred c hc, if_neg (zI_neg1 (by omega)), gd_of (inb_ok (by omega) (by omega))]
      by_cases q : nI c = M.kp i
      · rw [if_pos q]
        exact tail _ _ (by rw [chg, if_neg (by rw [hk]; exact fun z => z.2 q)]; rfl) hk.symm
      · rw [if_neg q]
        exact tail _ _ (by rw [chg, if_pos ⟨hb, by rw [hk]; exact q⟩]) hk.symm
    · have hk : nkp S φ i = -1 := by unfold nkp; rw [if_neg hb]
      rw [if_neg hb, if_pos trivial]
      exact tail _ _ (by rw [chg, if_neg (fun z => hb z.1)]; rfl) hk.symm
