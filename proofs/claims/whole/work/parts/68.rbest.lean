/-! Layer 2, 29: the best set of the reference -/
/-- a set that may be the best one -/
def Cand (M : Mk) (y : Nat) : Prop := sbs M.out y ∧ y < 2 ^ M.n ∧ (y = M.out ∨ 0 < M.cnt M.av y)
/-- the set x is the best -/
def Bst (M : Mk) (x : Nat) : Prop := Cand M x ∧ ∀ y, Cand M y → vsum M y < vsum M x ∨ (vsum M y = vsum M x ∧ x ≤ y)
theorem Bst.uniq {M : Mk} {x y : Nat} (h : Bst M x) (h2 : Bst M y) : x = y := by
  have h3 := h.2 y h2.1
  have h4 := h2.2 x h.1
  omega
theorem out_cand (M : Mk) : Cand M M.out := ⟨fun _ z => z, out_lt M, Or.inl rfl⟩
def FbI (M : Mk) (i x : Nat) : Prop := Cand M x ∧ ∀ y, y < i → Cand M y → vsum M y < vsum M x ∨ (vsum M y = vsum M x ∧ x ≤ y)
theorem fb_loop {M : Mk} (hM : M.WF) : ∀ k i fuel x (σ : Sg), i + k = 2 ^ M.n → k < fuel → FbI M i x → (x < i ∨ x = M.out) → RefM (σ 1) M →
    ∃ τ x', fX7_findBest_16 (nI M.out) fuel (nI x) (nI (vsum M x)) (nI i) σ = some (nI x', τ) ∧ FbI M (2 ^ M.n) x' ∧ RpF σ τ := by
  have hn := hM.1.1
  have hp : 2 ^ M.n ≤ 2 ^ 12 := Nat.pow_le_pow_right (by decide) hn
  intro k
  induction k with
  | zero =>
    intro i fuel x σ hi hf hI hx h
    obtain ⟨f', rfl, -⟩ := fuel_succ hf
    refine ⟨σ, x, ?_, ?_, RpF.refl σ⟩
    · rw [fX7_findBest_16, h.1, zI_one_shl (by omega), if_le (by omega) (by omega), if_pos (by omega)]
    · rw [← show i = 2 ^ M.n by omega]
      exact hI
  | succ k ih =>
    intro i fuel x σ hi hf hI hx h
    obtain ⟨f', rfl, hf⟩ := fuel_succ hf
    have hin : i < 2 ^ M.n := by omega
    have hi12 : i < 2 ^ 12 := by omega
    have b1 := vsum_lt hM x
    have b2 := vsum_lt hM i
    rw [fX7_findBest_16, h.1, zI_one_shl (by omega), if_le (by omega) (by omega), if_neg (by omega), zI_ndf]
    simp only [jp_eq]
    rw [if_eq0 (Nat.lt_trans (ndf_lt (out_lt M)) (pow_lt31 (by omega))), zs_add]
    have skip : (∀ y, y = i → Cand M y → vsum M y < vsum M x ∨ (vsum M y = vsum M x ∧ x ≤ y)) → (x < i + 1 ∨ x = M.out) → ∀ τ, RpF σ τ → ∃ υ x', fX7_findBest_16 (nI M.out) f' (nI x) (nI (vsum M x)) (nI (i + 1)) τ = some (nI x', υ) ∧ FbI M (2 ^ M.n) x' ∧ RpF σ υ := by
      intro h1 h2 τ hf1
      obtain ⟨υ, x', e1, i1, f1⟩ := ih (i + 1) f' x τ (by omega) (by omega) ⟨hI.1, fun y hy hc => by
        rcases Nat.lt_or_ge y i with z | z
        · exact hI.2 y z hc
        · exact h1 y (by omega) hc⟩ h2 (h.rp hf1)
      exact ⟨υ, x', e1, i1, hf1.trans f1⟩
    by_cases q1 : ndf M.out i = 0
    · have hs1 := ndf_sbs.mp q1
      have hle := sbs_le hs1
      rw [if_pos q1, rsumv_eq hM hin h, bd_some, if_le (by omega) (by omega)]
      by_cases q2 : vsum M i ≤ vsum M x
      · rw [if_pos q2]
        refine skip (fun y hy hc => ?_) (by omega) σ (RpF.refl σ)
        rw [hy]
        rcases Nat.lt_or_ge (vsum M i) (vsum M x) with z | z
        · exact Or.inl z
        · refine Or.inr ⟨by omega, ?_⟩
          rcases hx with hx | hx
          · omega
          · rw [hx]; exact hle
      · rw [if_neg q2]
        obtain ⟨τ, e1, f1⟩ := poss_eq hM hin h
        rw [e1, bd_some]
        by_cases q3 : 0 < M.cnt M.av i
        · rw [if_pos q3, if_neg (by decide), rsumv_eq hM hin (h.rp f1), bd_some]
          obtain ⟨υ, x', e2, i2, f2⟩ := ih (i + 1) f' i τ (by omega) (by omega) ⟨⟨hs1, hin, Or.inr q3⟩, fun y hy hc => by
            rcases Nat.lt_or_ge y i with z | z
            · have := hI.2 y z hc
              omega
            · rw [show y = i by omega]
              exact Or.inr ⟨rfl, Nat.le_refl _⟩⟩ (Or.inl (by omega)) (h.rp f1)
          exact ⟨υ, x', e2, i2, f1.trans f2⟩
        · rw [if_neg q3, if_pos rfl]
          refine skip (fun y hy hc => ?_) (by omega) τ f1
          rw [hy] at hc ⊢
          rcases hc.2.2 with z | z
          · have h3 := sbs_le hI.1.1
            rcases hx with hx | hx
            · omega
            · rw [hx, z] at q2
              exact absurd (Nat.le_refl _) q2
          · exact absurd z q3
    · rw [if_neg q1]
      refine skip (fun y hy hc => ?_) ?_ σ (RpF.refl σ)
      · rw [hy] at hc
        exact absurd (ndf_sbs.mpr hc.1) q1
      · rcases hx with hx | hx
        · exact Or.inl (by omega)
        · exact Or.inr hx
theorem fb_eq {M : Mk} (hM : M.WF) {σ : Sg} (h : RefM (σ 1) M) : ∃ τ x, fX7_findBest σ = some (nI x, τ) ∧ Bst M x ∧ RpF σ τ := by
  have hn := hM.1.1
  have hp : 2 ^ M.n ≤ 2 ^ 12 := Nat.pow_le_pow_right (by decide) hn
  obtain ⟨τ, x, e1, i1, f1⟩ := fb_loop hM (2 ^ M.n) 0 FU M.out σ (by omega) (by unfold FU; omega) ⟨out_cand M, fun y hy => absurd hy (Nat.not_lt_zero y)⟩ (Or.inr rfl) h
  refine ⟨τ, x, ?_, ⟨i1.1, fun y hy => i1.2 y hy.2.1 hy⟩, f1⟩
  rw [fX7_findBest, outs_eq hM h, bd_some, rsumv_eq hM (out_lt M) h, bd_some, show (0 : Int32) = nI 0 from rfl, e1]
