/-! Layer 2, 20: the reference's choice of channels -/
/-- the reference's row of fixed channels says a choice -/
def fxv (φ : Nat → Option Nat) (s : Nat) : Int32 := match φ s with
  | none => -1
  | some c => nI c
theorem fxn_loop : ∀ k i fuel (σ : Sg), i + k = 12 → k < fuel → fX7_fixNone_2 fuel (nI i) σ = some ((), sst σ 8 (fun j => if i ≤ j ∧ j < 12 then -1 else σ 8 j)) := by
  intro k
  induction k with
  | zero =>
    intro i fuel σ hi hf
    obtain ⟨f, rfl, -⟩ := fuel_succ hf
    rw [fX7_fixNone_2, show (12 : Int32) = nI 12 from rfl, if_le (by decide) (by omega), if_pos (by omega)]
    have : (fun j => if i ≤ j ∧ j < 12 then (-1 : Int32) else σ 8 j) = σ 8 := by
      funext j
      rw [if_neg (by omega)]
    rw [this, sst_id]
  | succ k ih =>
    intro i fuel σ hi hf
    obtain ⟨f, rfl, hf⟩ := fuel_succ hf
    rw [fX7_fixNone_2, show (12 : Int32) = nI 12 from rfl, if_le (by decide) (by omega), if_neg (by omega), gd_of (inb_ok (by omega) (by omega)), lt'_eq, zI_clamp (by omega), zs_add, ih (i + 1) f _ (by omega) (by omega)]
    congr 2
    rw [sst_sup]
    congr 1
    funext j
    rw [sup_self, upd_app]
    by_cases q : j = i
    · subst q
      rw [if_neg (show ¬(j + 1 ≤ j ∧ j < 12) by omega), if_pos (show j = j from rfl), if_pos (show j ≤ j ∧ j < 12 by omega)]
    · rw [if_neg q]
      by_cases q2 : i ≤ j ∧ j < 12
      · rw [if_pos q2, if_pos (by omega)]
      · rw [if_neg q2, if_neg (by omega)]
theorem fxn_eq (σ : Sg) : ∃ τ, fX7_fixNone σ = some ((), τ) ∧ (∀ k, k ≠ 8 → τ k = σ k) ∧ ∀ s, s < 12 → τ 8 s = -1 := by
  refine ⟨_, fxn_loop 12 0 FU σ (by omega) (by unfold FU; omega), fun k hk => sst_ne hk, fun s hs => ?_⟩
  rw [sst_self, if_pos ⟨Nat.zero_le s, hs⟩]
def gl (M : Mk) (S : Nat) (φ : Nat → Option Nat) : Nat → Nat := fun s => if S.testBit s then fl M φ s else 0
theorem zI_and_neg (x : Nat) : nI x &&& (-1 : Int32) = nI x := by
  apply bv_inj
  rw [Int32.toBitVec_and, show (-1 : Int32).toBitVec = BitVec.allOnes 32 from by decide, BitVec.and_allOnes]
theorem ipf_loop {M : Mk} (hM : M.WF) {S : Nat} (hS : S < 2 ^ M.n) {φ : Nat → Option Nat} (hφ : ∀ t c, φ t = some c → c < 8) (K : Sg → Option (Int32 × Sg)) : ∀ k i fuel (σ : Sg), i + k = M.n → k < fuel → σ 1 0 = nI M.n → (∀ t, t < M.n → σ 8 t = fxv φ t) → (∀ t, i ≤ t → t < M.n → σ 10 t = nI (sl M S M.av t)) →
    fX7_isPossibleFixed_13 (nI S) K fuel (nI i) σ = K (sst σ 10 (fun j => if i ≤ j ∧ j < M.n then nI (gl M S φ j) else σ 10 j)) := by
  have hn := hM.1.1
  intro k
  induction k with
  | zero =>
    intro i fuel σ hi hf h6 h8 h10
    obtain ⟨f', rfl, -⟩ := fuel_succ hf
    rw [fX7_isPossibleFixed_13, h6, if_le (by omega) (by omega), if_pos (by omega)]
    have : (fun j => if i ≤ j ∧ j < M.n then nI (gl M S φ j) else σ 10 j) = σ 10 := by
      funext j
      rw [if_neg (by omega)]
    rw [this, sst_id]
  | succ k ih =>
    intro i fuel σ hi hf h6 h8 h10
    obtain ⟨f', rfl, hf⟩ := fuel_succ hf
    rw [fX7_isPossibleFixed_13, h6, if_le (by omega) (by omega), if_neg (by omega), gd_of (inb_ok (by omega) (by omega))]
    simp only [jp_eq, lt'_eq]
    rw [if_h (hM.1.lt31 hS) (by omega), zI_clamp (show i < 2 ^ 31 by omega), zs_add, h8 i (by omega), h10 i (Nat.le_refl i) (by omega)]
    have tail : ∀ y, y = nI (gl M S φ i) → (gd (inb (nI i) 12) (fX7_isPossibleFixed_13 (nI S) K f' (nI (i + 1)) (sup σ 10 i y))) = K (sst σ 10 (fun j => if i ≤ j ∧ j < M.n then nI (gl M S φ j) else σ 10 j)) := by
      intro y hy
      rw [gd_of (inb_ok (by omega) (by omega)), hy, ih (i + 1) f' _ (by omega) (by omega) (by rw [sup_ne (by decide)]; exact h6) (fun t ht => by rw [sup_ne (by decide)]; exact h8 t ht) (fun t h1 h2 => by rw [sup_self, upd_app, if_neg (by omega)]; exact h10 t (by omega) h2)]
      congr 1
      rw [sst_sup]
      congr 1
      funext j
      rw [sup_self, upd_app]
      by_cases q : j = i
      · subst q
        rw [if_neg (show ¬(j + 1 ≤ j ∧ j < M.n) by omega), if_pos (show j = j from rfl), if_pos (show j ≤ j ∧ j < M.n by omega)]
      · rw [if_neg q]
        by_cases q2 : i ≤ j ∧ j < M.n
        · rw [if_pos q2, if_pos (by omega)]
        · rw [if_neg q2, if_neg (by omega)]
    by_cases hb : S.testBit i = true
    · rw [if_pos hb, gd_of (inb_ok (by omega) (by omega))]
      have hsl : sl M S M.av i = M.lf M.av i := by unfold sl Mk.lf; rw [if_pos hb]
      have hgl : gl M S φ i = fl M φ i := by unfold gl; rw [if_pos hb]
      cases hk : φ i with
      | none =>
        have : fxv φ i = -1 := by unfold fxv; rw [hk]
        rw [this, if_pos (by decide), zI_and_neg]
        exact tail _ (by rw [hsl, hgl]; unfold fl; rw [hk])
      | some c =>
        have hc := hφ i c hk
        have : fxv φ i = nI c := by unfold fxv; rw [hk]
        rw [this, if_neg (zI_nn (by omega)), gd_of (inb_ok (by omega) (by omega)), zI_one_shl (by omega), zI_and]
        exact tail _ (by rw [hsl, hgl]; unfold fl; rw [hk])
    · rw [if_neg hb, zI_and_neg]
      exact tail _ (by unfold sl gl; rw [if_neg hb, if_neg hb])
theorem gl_num (M : Mk) (S : Nat) (φ : Nat → Option Nat) : num M.sm M.nx (els S) (gl M S φ) = num M.sm M.nx (els S) (fl M φ) := by
  refine num_congr fun s hs c _ => ?_
  unfold gl
  rw [if_pos (mem_els.mp hs).2]
theorem ipf_eq {M : Mk} (hM : M.WF) {S : Nat} (hS : S < 2 ^ M.n) {φ : Nat → Option Nat} (hφ : ∀ t c, φ t = some c → c < 8) {σ : Sg} (h : RefM (σ 1) M) (h8 : ∀ t, t < M.n → σ 8 t = fxv φ t) :
    ∃ τ, fX7_isPossibleFixed (nI S) σ = some (if fe M S φ then 1 else 0, τ) ∧ RpF σ τ := by
  have hn := hM.1.1
  obtain ⟨τ1, e1, f1, l1⟩ := start_eq hM hS (a := M.av) h
  have f2 : RpF σ (sst τ1 10 (fun j => if 0 ≤ j ∧ j < M.n then nI (gl M S φ j) else τ1 10 j)) := f1.trans ⟨fun k a b => sst_ne (by omega), fun j a => by rw [sst_ne (by decide)]⟩
  obtain ⟨τ2, e2, f3⟩ := count_eq hM hS (Nat.le_refl 1) (by decide) (left := gl M S φ) (fun s hs => by
    unfold gl
    split
    · exact fl_lt hM φ s hs
    · decide) (h.rp f2) (fun s hs => by rw [sst_self, if_pos ⟨Nat.zero_le s, hs⟩])
  refine ⟨τ2, ?_, f2.trans f3⟩
  rw [fX7_isPossibleFixed, h.2.1, e1, bd_some, show (0 : Int32) = nI 0 from rfl, show (1 : Int32) = nI 1 from rfl,
    ipf_loop hM hS hφ _ M.n 0 FU τ1 (by omega) (by unfold FU; omega) (h.rp f1).1 (fun t ht => by rw [f1.1 8 (by decide) (by decide)]; exact h8 t ht) (fun t _ ht => l1 t ht)]
  rw [e2, bd_some, if_le (by omega) (by decide), gl_num]
  unfold fe
  by_cases q : 0 < num M.sm M.nx (els S) (fl M φ)
  · rw [decide_eq_true q, if_neg (by omega), if_pos rfl]
  · rw [decide_eq_false q, if_pos (by omega), if_neg (by decide)]
