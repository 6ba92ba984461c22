/-! Layer 2, 21: keepFirst and repack of the reference -/
def RkF (σ τ : Sg) : Prop := (∀ k, k ≠ 0 → k ≠ 8 → ¬(10 ≤ k ∧ k ≤ 22) → τ k = σ k) ∧ ∀ j, j ≠ 14 → τ 0 j = σ 0 j
theorem RkF.refl (σ : Sg) : RkF σ σ := ⟨fun _ _ _ _ => rfl, fun _ _ => rfl⟩
theorem RkF.trans {σ τ υ : Sg} (h : RkF σ τ) (h2 : RkF τ υ) : RkF σ υ := ⟨fun k a b c => (h2.1 k a b c).trans (h.1 k a b c), fun j a => (h2.2 j a).trans (h.2 j a)⟩
theorem RpF.rk {σ τ : Sg} (h : RpF σ τ) : RkF σ τ := ⟨fun k a _ c => h.1 k a c, h.2⟩
theorem RefM.rk {σ τ : Sg} {M : Mk} (h : RefM (σ 1) M) (hf : RkF σ τ) : RefM (τ 1) M := by rw [hf.1 1 (by decide) (by decide) (by decide)]; exact h
theorem fxv_put (φ : Nat → Option Nat) (s c t : Nat) : fxv (put φ s c) t = if t = s then nI c else fxv φ t := by
  unfold fxv put
  by_cases q : t = s
  · rw [if_pos q, if_pos q]
  · rw [if_neg q, if_neg q]
theorem kf_in {M : Mk} (hM : M.WF) {S s : Nat} (hS : S < 2 ^ M.n) (hs : s < M.n) {φ : Nat → Option Nat} (hφ : ∀ t c, φ t = some c → c < 8) (K : Sg → Option (Unit × Sg)) : ∀ k c fuel (σ : Sg), c + k = 8 → k < fuel → RefM (σ 1) M → (∀ t, t < M.n → σ 8 t = fxv (put φ s c) t) →
    (∃ c', c ≤ c' ∧ c' < c + k ∧ fe M S (put φ s c') = true) →
    ∃ τ, fX7_keepFirst_36 (nI S) (nI s) K fuel σ = K τ ∧ RkF σ τ ∧ ∀ t, t < M.n → τ 8 t = fxv (put φ s (lst (fun c => fe M S (put φ s c)) k c)) t := by
  have hn := hM.1.1
  intro k
  induction k with
  | zero => rintro c fuel σ hc hf h h8 ⟨c', h1, h2, -⟩; omega
  | succ k ih =>
    rintro c fuel σ hc hf h h8 hex
    obtain ⟨f', rfl, hf⟩ := fuel_succ hf
    have hφ' : ∀ t d, put φ s c t = some d → d < 8 := by
      intro t d hd
      unfold put at hd
      split at hd
      · cases hd; omega
      · exact hφ t d hd
    obtain ⟨τ, e1, f1⟩ := ipf_eq hM hS hφ' h h8
    rw [fX7_keepFirst_36, e1, bd_some, lst]
    by_cases q : fe M S (put φ s c) = true
    · rw [if_pos q, if_neg (by decide), if_pos q]
      exact ⟨τ, rfl, f1.rk, fun t ht => by rw [f1.1 8 (by decide) (by decide)]; exact h8 t ht⟩
    · rw [if_neg q, if_pos rfl, if_neg q, gd_of (inb_ok (by omega) (by omega)), gd_of (inb_ok (by omega) (by omega)), lt'_eq, zI_clamp (by omega), f1.1 8 (by decide) (by decide), h8 s hs, fxv_put, if_pos rfl, zs_add]
      have f2 : RkF σ (sup τ 8 s (nI (c + 1))) := f1.rk.trans ⟨fun k a b c => sup_ne b, fun j a => by rw [sup_ne (by decide)]⟩
      obtain ⟨τ2, e2, f3, l3⟩ := ih (c + 1) f' (sup τ 8 s (nI (c + 1))) (by omega) (by omega) (h.rk f2) (fun t ht => by
        rw [sup_self, upd_app, fxv_put]
        split
        · rfl
        · next q2 =>
          rw [f1.1 8 (by decide) (by decide), h8 t ht, fxv_put, if_neg q2]) (by
        obtain ⟨c', h1, h2, h3⟩ := hex
        refine ⟨c', ?_, by omega, h3⟩
        rcases Nat.eq_or_lt_of_le h1 with e | e
        · rw [← e] at h3
          exact absurd h3 q
        · exact e)
      exact ⟨τ2, e2, f2.trans f3, l3⟩
theorem ph2_lt {M : Mk} {S s : Nat} (hs : s < 12) {φ : Nat → Option Nat} (hfe : fe M S φ = true) (hφ : ∀ t c, φ t = some c → c < 8) : ∀ t c, ph2 M S φ s t = some c → c < 8 := by
  intro t c h
  by_cases hb : S.testBit s = true
  · cases hk : φ s with
    | some d => rw [ph2_some hk] at h; exact hφ t c h
    | none =>
      rw [ph2_none hb hk] at h
      have h' : (if t = s then some (lst (fun c => fe M S (put φ s c)) 8 0) else φ t) = some c := h
      split at h'
      · obtain ⟨d, h1, h2, h3⟩ := fe_ex hs hb hfe
        have := lst_spec (p := fun c => fe M S (put φ s c)) 8 0 ⟨d, Nat.zero_le d, by omega, h3⟩
        cases h'
        omega
      · exact hφ t c h'
  · rw [ph2_no hb] at h; exact hφ t c h
theorem kf_loop {M : Mk} (hM : M.WF) {S : Nat} (hS : S < 2 ^ M.n) (φ0 : Nat → Option Nat) (K : Sg → Option (Unit × Sg)) : ∀ k i fuel (σ : Sg), i + k = M.n → k < fuel → RefM (σ 1) M → (∀ t, t < M.n → σ 8 t = fxv (phs (ph2 M S) φ0 i) t) → fe M S (phs (ph2 M S) φ0 i) = true → (∀ t c, phs (ph2 M S) φ0 i t = some c → c < 8) →
    ∃ τ, fX7_keepFirst_2 (nI S) K fuel (nI i) σ = K τ ∧ RkF σ τ ∧ ∀ t, t < M.n → τ 8 t = fxv (phs (ph2 M S) φ0 M.n) t := by
  have hn := hM.1.1
  intro k
  induction k with
  | zero =>
    intro i fuel σ hi hf h h8 hfe hlt
    obtain ⟨f', rfl, -⟩ := fuel_succ hf
    refine ⟨σ, ?_, RkF.refl σ, ?_⟩
    · rw [fX7_keepFirst_2, h.1, if_le (by omega) (by omega), if_pos (by omega)]
    · rw [show M.n = i by omega]
      rw [show M.n = i by omega] at h8
      exact h8
  | succ k ih =>
    intro i fuel σ hi hf h h8 hfe hlt
    obtain ⟨f', rfl, hf⟩ := fuel_succ hf
    obtain ⟨F, hF8, hFe⟩ : ∃ F, 12 < F ∧ FU = F := ⟨FU, by unfold FU; omega, rfl⟩
    have hin : i < M.n := by omega
    rw [fX7_keepFirst_2, h.1, if_le (by omega) (by omega), if_neg (by omega), hFe]
    simp only [jp_eq, lt'_eq]
    rw [if_h (hM.1.lt31 hS) (by omega), gd_of (inb_ok (by omega) (by omega)), gd_of (inb_ok (by omega) (by omega)), zI_clamp (by omega), h8 i hin, zs_add]
    have hfe2 : fe M S (phs (ph2 M S) φ0 (i + 1)) = true := ph2_fe (by omega) hfe
    have hlt2 : ∀ t c, phs (ph2 M S) φ0 (i + 1) t = some c → c < 8 := ph2_lt (by omega) hfe hlt
    by_cases hb : S.testBit i = true
    · rw [if_pos hb]
      cases hk : phs (ph2 M S) φ0 i i with
      | some c =>
        have hv : fxv (phs (ph2 M S) φ0 i) i = nI c := by unfold fxv; rw [hk]
        rw [hv, if_pos (zI_ge0 (by have := hlt i c hk; omega))]
        exact ih (i + 1) f' σ (by omega) (by omega) h (by rw [phs, ph2_some hk]; exact h8) hfe2 hlt2
      | none =>
        have hv : fxv (phs (ph2 M S) φ0 i) i = -1 := by unfold fxv; rw [hk]
        rw [hv, if_neg (by decide)]
        obtain ⟨d, h1, h2, h3⟩ := fe_ex (show i < 12 by omega) hb hfe
        obtain ⟨τ, e1, f1, l1⟩ := kf_in hM hS hin hlt (fun (σ18 : Sg) => fX7_keepFirst_2 (nI S) K f' (nI (i + 1)) σ18) 8 0 F (sup σ 8 i (0 : Int32)) (by omega) (by omega) (by rw [sup_ne (by decide)]; exact h) (fun t ht => by
          rw [sup_self, upd_app, fxv_put]
          split
          · rfl
          · exact h8 t ht) ⟨d, Nat.zero_le d, by omega, h3⟩
        have f0 : RkF σ (sup σ 8 i (0 : Int32)) := ⟨fun k a b c => sup_ne b, fun j a => by rw [sup_ne (by decide)]⟩
        obtain ⟨τ2, e2, f2, l2⟩ := ih (i + 1) f' τ (by omega) (by omega) (h.rk (f0.trans f1)) (by rw [phs, ph2_none hb hk]; exact l1) hfe2 hlt2
        exact ⟨τ2, e1.trans e2, (f0.trans f1).trans f2, l2⟩
    · rw [if_neg hb]
      exact ih (i + 1) f' σ (by omega) (by omega) h (by rw [phs, ph2_no hb]; exact h8) hfe2 hlt2
