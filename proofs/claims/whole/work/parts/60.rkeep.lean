/-! Layer 2, 21: keepFirst and repack of the reference -/
def RkF (σ τ : Sg) : Prop := (∀ k, k ≠ 0 → k ≠ 8 → ¬(10 ≤ k ∧ k ≤ 22) → τ k = σ k) ∧ ∀ j, j ≠ 14 → τ 0 j = σ 0 j
theorem RkF.refl (σ : Sg) : RkF σ σ := ⟨fun _ _ _ _ => rfl, fun _ _ => rfl⟩
theorem RkF.trans {σ τ υ : Sg} (h : RkF σ τ) (h2 : RkF τ υ) : RkF σ υ := ⟨fun k a b c => (h2.1 k a b c).trans (h.1 k a b c), fun j a => (h2.2 j a).trans (h.2 j a)⟩
theorem RpF.rk {σ τ : Sg} (h : RpF σ τ) : RkF σ τ := ⟨fun k a _ c => h.1 k a c, h.2⟩
theorem RefM.rk {σ τ : Sg} {M : Mk} (h : RefM (σ 1) M) (hf : RkF σ τ) : RefM (τ 1) M := by rw [hf.1 1 (by decide) (by decide) (by decide)]; exact h
theorem fxv_put (φ : Nat → Option Nat) (s c t : Nat) : fxv (put φ s c) t = if t = s then nI c else fxv φ t := by
  unfold fxv put
  by_cases q : t = s
  · rw [if_pos q, if_pos q]
  · rw [if_neg q, if_neg q]
theorem kf_in {M : Mk} (hM : M.WF) {S s : Nat} (hS : S < 2 ^ M.n) (hs : s < M.n) {φ : Nat → Option Nat} (hφ : ∀ t c, φ t = some c → c < 8) (K : Sg → Option (Unit × Sg)) : ∀ k c fuel (σ : Sg), c + k = 8 → k < fuel → RefM (σ 1) M → (∀ t, t < M.n → σ 8 t = fxv (put φ s c) t) →
    (∃ c', c ≤ c' ∧ c' < c + k ∧ fe M S (put φ s c') = true) →
    ∃ τ, fX7_keepFirst_36 (nI S) (nI s) K fuel σ = K τ ∧ RkF σ τ ∧ ∀ t, t < M.n → τ 8 t = fxv (put φ s (lst (fun c => fe M S (put φ s c)) k c)) t := by
  have hn := hM.1.1
  intro k
  induction k with
  | zero => rintro c fuel σ hc hf h h8 ⟨c', h1, h2, -⟩; omega
  | succ k ih =>
    rintro c fuel σ hc hf h h8 hex
    obtain ⟨f', rfl, hf⟩ := fuel_succ hf
    have hφ' : ∀ t d, put φ s c t = some d → d < 8 := by
      intro t d hd
      unfold put at hd
      split at hd
      · cases hd; omega
      · exact hφ t d hd
    obtain ⟨τ, e1, f1⟩ := ipf_eq hM hS hφ' h h8
    rw [fX7_keepFirst_36, e1, bd_some, lst]
    by_cases q : fe M S (put φ s c) = true
    · rw [if_pos q, if_neg (by decide), if_pos q]
      exact ⟨τ, rfl, f1.rk, fun t ht => by rw [f1.1 8 (by decide) (by decide)]; exact h8 t ht⟩
    · rw [if_neg q, if_pos rfl, if_neg q, gd_of (inb_ok (by omega) (by omega)), gd_of (inb_ok (by omega) (by omega)), lt'_eq, zI_clamp (by omega), f1.1 8 (by decide) (by decide), h8 s hs, fxv_put, if_pos rfl, zs_add]
      have f2 : RkF σ (sup τ 8 s (nI (c + 1))) := f1.rk.trans ⟨fun k a b c => sup_ne b, fun j a => by rw [sup_ne (by decide)]⟩
      obtain ⟨τ2, e2, f3, l3⟩ := ih (c + 1) f' (sup τ 8 s (nI (c + 1))) (by omega) (by omega) (h.rk f2) (fun t ht => by
        rw [sup_self, upd_app, fxv_put]
        split
        · rfl
        · next q2 =>
          rw [f1.1 8 (by decide) (by decide), h8 t ht, fxv_put, if_neg q2]) (by
        obtain ⟨c', h1, h2, h3⟩ := hex
        refine ⟨c', ?_, by omega, h3⟩
        rcases Nat.eq_or_lt_of_le h1 with e | e
        · rw [← e] at h3
          exact absurd h3 q
        · exact e)
      exact ⟨τ2, e2, f2.trans f3, l3⟩
