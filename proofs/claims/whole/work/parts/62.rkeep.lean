/-! Layer 2, 23: keepFirst, and the old channels, of the reference -/
/-- what the reference's work leaves as it was -/
def RF (σ τ : Sg) : Prop := τ 1 = σ 1 ∧ τ 2 = σ 2 ∧ τ 3 = σ 3 ∧ ∀ j, j ≠ 14 → τ 0 j = σ 0 j
theorem RF.refl (σ : Sg) : RF σ σ := ⟨rfl, rfl, rfl, fun _ _ => rfl⟩
theorem RF.trans {σ τ υ : Sg} (h : RF σ τ) (h2 : RF τ υ) : RF σ υ := ⟨h2.1.trans h.1, h2.2.1.trans h.2.1, h2.2.2.1.trans h.2.2.1, fun j a => (h2.2.2.2 j a).trans (h.2.2.2 j a)⟩
theorem RkF.rf {σ τ : Sg} (h : RkF σ τ) : RF σ τ := ⟨h.1 1 (by decide) (by decide) (by decide), h.1 2 (by decide) (by decide) (by decide), h.1 3 (by decide) (by decide) (by decide), h.2⟩
theorem RpF.rf {σ τ : Sg} (h : RpF σ τ) : RF σ τ := h.rk.rf
theorem RefM.rf {σ τ : Sg} {M : Mk} (h : RefM (σ 1) M) (hf : RF σ τ) : RefM (τ 1) M := by rw [hf.1]; exact h
theorem RF.sup {σ : Sg} {k i : Nat} {v : Int32} (h : 4 ≤ k) : RF σ (sup σ k i v) := ⟨sup_ne (by omega), sup_ne (by omega), sup_ne (by omega), fun j _ => by rw [sup_ne (by omega)]⟩
/-- the row of now with a new kept assignment -/
def kpr (n : Nat) (k : Nat → Int32) (g : Nat → Int32) : Nat → Int32 := fun j => if 52 ≤ j ∧ j < 52 + n then k (j - 52) else g j
theorem rkeepFirst_eq {M : Mk} (hM : M.WF) {S : Nat} (hS : S < 2 ^ M.n) {φ0 : Nat → Option Nat} (hfe : fe M S φ0 = true) (hlt : ∀ t c, φ0 t = some c → c < 8) {σ : Sg} (h : RefM (σ 1) M) (h8 : ∀ t, t < M.n → σ 8 t = fxv φ0 t) :
    ∃ τ, fX7_keepFirst (nI S) σ = some ((), sst τ 1 (kpr M.n (nkp S (phs (ph2 M S) φ0 M.n)) (σ 1))) ∧ RkF σ τ := by
  have hn := hM.1.1
  obtain ⟨F, hF8, hFe⟩ : ∃ F, 12 < F ∧ FU = F := ⟨FU, by unfold FU; omega, rfl⟩
  rw [fX7_keepFirst, hFe, show (0 : Int32) = nI 0 from rfl]
  obtain ⟨τ, e1, f1, l1⟩ := kf_loop hM hS φ0 (fun (σ19 : Sg) => fX7_keepFirst_65 (nI S) F (nI 0) σ19) M.n 0 F σ (by omega) (by omega) h h8 hfe hlt
  refine ⟨τ, ?_, f1⟩
  rw [e1, kw_loop hM hS M.n 0 F τ (by omega) (by omega) (h.rk f1).1 l1, f1.1 1 (by decide) (by decide) (by decide)]
  rfl
theorem rp_loop {M : Mk} (hM : M.WF) {S : Nat} (hS : S < 2 ^ M.n) (K : Sg → Option (Int32 × Sg)) : ∀ k i fuel (σ : Sg), i + k = M.n → k < fuel → RefM (σ 1) M → (∀ t, t < M.n → σ 8 t = fxv (phs (ph1 M S) (fun _ => none) i) t) → (∀ t, i ≤ t → phs (ph1 M S) (fun _ => none) i t = none) → (∀ t c, phs (ph1 M S) (fun _ => none) i t = some c → c < 8) → (∀ t, t < i → σ 9 t = M.kp t) →
    ∃ τ, fX7_repack_50 (nI S) K fuel (nI i) σ = K τ ∧ RF σ τ ∧ (∀ t, t < M.n → τ 8 t = fxv (phs (ph1 M S) (fun _ => none) M.n) t) ∧ (∀ t c, phs (ph1 M S) (fun _ => none) M.n t = some c → c < 8) ∧ ∀ t, t < M.n → τ 9 t = M.kp t := by
  have hn := hM.1.1
  intro k
  induction k with
  | zero =>
    intro i fuel σ hi hf h h8 hno hlt h9
    obtain ⟨f', rfl, -⟩ := fuel_succ hf
    refine ⟨σ, ?_, RF.refl σ, ?_, ?_, ?_⟩
    · rw [fX7_repack_50, h.1, if_le (by omega) (by omega), if_pos (by omega)]
    · rw [show M.n = i by omega]
      rw [show M.n = i by omega] at h8
      exact h8
    · rw [show M.n = i by omega]
      exact hlt
    · rw [show M.n = i by omega]
      exact h9
  | succ k ih =>
    intro i fuel σ hi hf h h8 hno hlt h9
    obtain ⟨f', rfl, hf⟩ := fuel_succ hf
    have hin : i < M.n := by omega
    rw [fX7_repack_50, h.1, if_le (by omega) (by omega), if_neg (by omega)]
    simp only [jp_eq, lt'_eq]
    have e52 : (52 : Int32) + nI i = nI (52 + i) := zI_add 52 i
    have hkp : σ 1 (52 + i) = M.kp i := (h.2.2 i hin).2.2.2.2.1
    have hno2 : ∀ t, i + 1 ≤ t → phs (ph1 M S) (fun _ => none) (i + 1) t = none := fun t ht => by rw [phs, ph1_other (by omega)]; exact hno t (by omega)
    rw [e52, gd_of (inb_ok (by omega) (by omega)), gd_of (inb_ok (by omega) (by omega)), if_h (hM.1.lt31 hS) (by omega), zI_clamp (show 52 + i < 2 ^ 31 by omega), zI_clamp (show i < 2 ^ 31 by omega), hkp, zs_add]
    have f9 : RF σ (sup σ 9 i (M.kp i)) := RF.sup (k := 9) (by decide)
    have h91 : (sup σ 9 i (M.kp i)) 1 = σ 1 := f9.1
    rw [h91, hkp]
    have tail0 : ∀ υ : Sg, RF σ υ → (∀ t, t < M.n → υ 8 t = fxv (phs (ph1 M S) (fun _ => none) (i + 1)) t) → (∀ t c, phs (ph1 M S) (fun _ => none) (i + 1) t = some c → c < 8) → (∀ t, t < i + 1 → υ 9 t = M.kp t) →
        ∃ τ, fX7_repack_50 (nI S) K f' (nI (i + 1)) υ = K τ ∧ RF σ τ ∧ (∀ t, t < M.n → τ 8 t = fxv (phs (ph1 M S) (fun _ => none) M.n) t) ∧ (∀ t c, phs (ph1 M S) (fun _ => none) M.n t = some c → c < 8) ∧ ∀ t, t < M.n → τ 9 t = M.kp t := by
      intro υ f0 g8 glt g9
      obtain ⟨τ, e1, f1, l⟩ := ih (i + 1) f' υ (by omega) (by omega) (h.rf f0) g8 hno2 glt g9
      exact ⟨τ, e1, f0.trans f1, l⟩
    have up8 : ∀ (υ : Sg) (v : Int32), υ 8 = σ 8 → v = fxv (phs (ph1 M S) (fun _ => none) (i + 1)) i → ∀ t, t < M.n → (sup υ 8 i v) 8 t = fxv (phs (ph1 M S) (fun _ => none) (i + 1)) t := by
      intro υ v hυ hv t ht
      rw [sup_self, upd_app]
      by_cases q : t = i
      · rw [if_pos q, hv, q]
      · rw [if_neg q, hυ, h8 t ht]
        unfold fxv
        rw [phs, ph1_other q]
    have up9 : ∀ (υ : Sg), υ 9 = (sup σ 9 i (M.kp i)) 9 → ∀ t, t < i + 1 → υ 9 t = M.kp t := by
      intro υ hυ t ht
      rw [hυ, sup_self, upd_app]
      by_cases q : t = i
      · rw [if_pos q, q]
      · rw [if_neg q]
        exact h9 t (by omega)
    by_cases hb : S.testBit i = true
    · rw [if_pos hb, gd_of (inb_ok (by omega) (by omega)), gd_of (inb_ok (by omega) (by omega)), gd_of (inb_ok (by omega) (by omega)), sup_self, upd_app, if_pos rfl]
      cases hk : M.ko i with
      | none =>
        rw [ko_none hk, if_pos (by decide)]
        have e : phs (ph1 M S) (fun _ => none) (i + 1) = phs (ph1 M S) (fun _ => none) i := by rw [phs, ph1_none hk]
        refine tail0 _ (f9.trans (RF.sup (by omega))) (up8 _ _ (sup_ne (by decide)) ?_) (by rw [e]; exact hlt) (up9 _ (by rw [sup_ne (by decide), ko_none hk]))
        rw [e]
        unfold fxv
        rw [hno i (Nat.le_refl i)]
      | some c =>
        obtain ⟨hc, hkc⟩ := ko_some hM hin hk
        rw [hkc, if_neg (zI_nn (by omega)), ← hkc]
        have hlt' : ∀ t d, put (phs (ph1 M S) (fun _ => none) i) i c t = some d → d < 8 := by
          intro t d hd
          unfold put at hd
          split at hd
          · cases hd; omega
          · exact hlt t d hd
        have g1 : RF σ (sup (sup σ 9 i (M.kp i)) 8 i (M.kp i)) := f9.trans (RF.sup (by omega))
        obtain ⟨τ, e1, f1⟩ := ipf_eq hM hS hlt' (h.rf g1) (σ := sup (sup σ 9 i (M.kp i)) 8 i (M.kp i)) (fun t ht => by
          rw [sup_self, upd_app, fxv_put]
          split
          · exact hkc
          · rw [sup_ne (by decide)]
            exact h8 t ht)
        have eph : phs (ph1 M S) (fun _ => none) (i + 1) = if fe M S (put (phs (ph1 M S) (fun _ => none) i) i c) then put (phs (ph1 M S) (fun _ => none) i) i c else phs (ph1 M S) (fun _ => none) i := by rw [phs, ph1_some hb hk]
        rw [e1, bd_some]
        by_cases q : fe M S (put (phs (ph1 M S) (fun _ => none) i) i c) = true
        · rw [if_pos q, if_neg (by decide)]
          rw [if_pos q] at eph
          refine tail0 τ (g1.trans f1.rf) (fun t ht => ?_) (by rw [eph]; exact hlt') (up9 _ (by rw [f1.1 9 (by decide) (by decide), sup_ne (by decide)]))
          rw [f1.1 8 (by decide) (by decide)]
          refine up8 _ _ (sup_ne (by decide)) ?_ t ht
          rw [eph, fxv_put, if_pos rfl, hkc]
        · rw [if_neg q, if_pos rfl, gd_of (inb_ok (by omega) (by omega))]
          rw [if_neg q] at eph
          refine tail0 (sup τ 8 i (-1 : Int32)) ((g1.trans f1.rf).trans (RF.sup (by omega))) (fun t ht => ?_) (by rw [eph]; exact hlt) (up9 _ (by rw [sup_ne (by decide), f1.1 9 (by decide) (by decide), sup_ne (by decide)]))
          rw [sup_self, upd_app]
          by_cases q2 : t = i
          · rw [if_pos q2, eph, q2]
            unfold fxv
            rw [hno i (Nat.le_refl i)]
          · rw [if_neg q2, f1.1 8 (by decide) (by decide), sup_self, upd_app, if_neg q2, sup_ne (by decide), eph]
            exact h8 t ht
    · rw [if_neg hb, gd_of (inb_ok (by omega) (by omega)), gd_of (inb_ok (by omega) (by omega)), sup_self, upd_app, if_pos rfl, if_pos (by decide)]
      have e : phs (ph1 M S) (fun _ => none) (i + 1) = phs (ph1 M S) (fun _ => none) i := by rw [phs, ph1_no hb]
      refine tail0 _ (f9.trans (RF.sup (by omega))) (up8 _ _ (sup_ne (by decide)) ?_) (by rw [e]; exact hlt) (up9 _ (sup_ne (by decide)))
      rw [e]
      unfold fxv
      rw [hno i (Nat.le_refl i)]
theorem rchg_loop {M : Mk} (hM : M.WF) {S : Nat} (hS : S < 2 ^ M.n) {φ : Nat → Option Nat} : ∀ k i fuel (σ : Sg), i + k = M.n → k < fuel → σ 1 0 = nI M.n → (∀ t, t < M.n → σ 1 (52 + t) = nkp S φ t) → (∀ t, t < M.n → σ 9 t = M.kp t) →
    fX7_repack_141 (nI S) fuel (nI (chg M S φ i)) (nI i) σ = some (nI (chg M S φ M.n), σ) := by
  have hn := hM.1.1
  intro k
  induction k with
  | zero =>
    intro i fuel σ hi hf h6 h1 h9
    obtain ⟨f', rfl, -⟩ := fuel_succ hf
    have e : i = M.n := by omega
    rw [fX7_repack_141, h6, if_le (by omega) (by omega), if_pos (by omega), e]
  | succ k ih =>
    intro i fuel σ hi hf h6 h1 h9
    obtain ⟨f', rfl, hf⟩ := fuel_succ hf
    rw [fX7_repack_141, h6, if_le (by omega) (by omega), if_neg (by omega)]
    simp only [jp_eq, lt'_eq]
    rw [if_h (hM.1.lt31 hS) (by omega), zI_clamp (show i < 2 ^ 31 by omega), zs_add, show (52 : Int32) + nI i = nI (52 + i) from zI_add 52 i, zI_clamp (show 52 + i < 2 ^ 31 by omega), h1 i (by omega), h9 i (by omega)]
    have e := ih (i + 1) f' σ (by omega) (by omega) h6 h1 h9
    rw [gd_of (inb_ok (by omega) (by omega)), gd_of (inb_ok (by omega) (by omega)), zs_add]
    have a0 : nI (chg M S φ i) + 0 = nI (chg M S φ i) := by rw [show (0 : Int32) = nI 0 from rfl, zI_add, Nat.add_zero]
    rw [a0]
    by_cases hb : S.testBit i = true
    · rw [if_pos hb]
      by_cases q : nkp S φ i = M.kp i
      · rw [if_pos q]
        rw [chg, if_neg (fun z => z.2 q), Nat.add_zero] at e
        exact e
      · rw [if_neg q]
        rw [chg, if_pos ⟨hb, q⟩] at e
        exact e
    · rw [if_neg hb]
      rw [chg, if_neg (fun z => hb z.1), Nat.add_zero] at e
      exact e
