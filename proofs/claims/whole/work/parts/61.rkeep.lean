/-! Layer 2, 22: the reference keeps an assignment -/
theorem kw_loop {M : Mk} (hM : M.WF) {S : Nat} (hS : S < 2 ^ M.n) {φ : Nat → Option Nat} : ∀ k i fuel (σ : Sg), i + k = M.n → k < fuel → σ 1 0 = nI M.n → (∀ t, t < M.n → σ 8 t = fxv φ t) →
    fX7_keepFirst_65 (nI S) fuel (nI i) σ = some ((), sst σ 1 (fun j => if 52 + i ≤ j ∧ j < 52 + M.n then nkp S φ (j - 52) else σ 1 j)) := by
  have hn := hM.1.1
  intro k
  induction k with
  | zero =>
    intro i fuel σ hi hf h6 h8
    obtain ⟨f', rfl, -⟩ := fuel_succ hf
    rw [fX7_keepFirst_65, h6, if_le (by omega) (by omega), if_pos (by omega)]
    have : (fun j => if 52 + i ≤ j ∧ j < 52 + M.n then nkp S φ (j - 52) else σ 1 j) = σ 1 := by
      funext j
      rw [if_neg (by omega)]
    rw [this, sst_id]
  | succ k ih =>
    intro i fuel σ hi hf h6 h8
    obtain ⟨f', rfl, hf⟩ := fuel_succ hf
    rw [fX7_keepFirst_65, h6, if_le (by omega) (by omega), if_neg (by omega)]
    simp only [jp_eq, lt'_eq]
    rw [if_h (hM.1.lt31 hS) (by omega), zI_clamp (show i < 2 ^ 31 by omega), zs_add, h8 i (by omega), show (52 : Int32) + nI i = nI (52 + i) from zI_add 52 i, zI_clamp (show 52 + i < 2 ^ 31 by omega)]
    have tail : ∀ v, v = nkp S φ i → (gd (inb (nI (52 + i)) 2764) (fX7_keepFirst_65 (nI S) f' (nI (i + 1)) (sup σ 1 (52 + i) v))) = some ((), sst σ 1 (fun j => if 52 + i ≤ j ∧ j < 52 + M.n then nkp S φ (j - 52) else σ 1 j)) := by
      intro v hv
      rw [gd_of (inb_ok (by omega) (by omega)), hv, ih (i + 1) f' _ (by omega) (by omega) (by rw [sup_self, upd_app, if_neg (by omega)]; exact h6) (fun t ht => by rw [sup_ne (by decide)]; exact h8 t ht)]
      congr 2
      rw [sst_sup]
      congr 1
      funext j
      rw [sup_self, upd_app]
      by_cases q : j = 52 + i
      · subst q
        rw [if_neg (show ¬(52 + (i + 1) ≤ 52 + i ∧ 52 + i < 52 + M.n) by omega), if_pos rfl, if_pos (show 52 + i ≤ 52 + i ∧ 52 + i < 52 + M.n by omega), show 52 + i - 52 = i by omega]
      · rw [if_neg q]
        by_cases q2 : 52 + i ≤ j ∧ j < 52 + M.n
        · rw [if_pos q2, if_pos (by omega)]
        · rw [if_neg q2, if_neg (by omega)]
    by_cases hb : S.testBit i = true
    · rw [if_pos hb, gd_of (inb_ok (by omega) (by omega))]
      exact tail _ (by unfold nkp fxv; rw [if_pos hb]; cases φ i <;> rfl)
    · rw [if_neg hb]
      exact tail _ (by unfold nkp; rw [if_neg hb])
