/-! Layer 2, 13: what the reference answers about a set -/
def RpF (σ τ : Sg) : Prop := (∀ k, k ≠ 0 → ¬(10 ≤ k ∧ k ≤ 22) → τ k = σ k) ∧ ∀ j, j ≠ 14 → τ 0 j = σ 0 j
theorem RpF.refl (σ : Sg) : RpF σ σ := ⟨fun _ _ _ => rfl, fun _ _ => rfl⟩
theorem RpF.trans {σ τ υ : Sg} (h : RpF σ τ) (h2 : RpF τ υ) : RpF σ υ := ⟨fun k a b => (h2.1 k a b).trans (h.1 k a b), fun j a => (h2.2 j a).trans (h.2 j a)⟩
theorem RsF.rp {d : Nat} {σ τ : Sg} (h : RsF d σ τ) : RpF σ τ := ⟨fun k a b => h.1 k a (by omega), h.2⟩
theorem RefM.rs {σ : Sg} {M : Mk} (h : RefM (σ 1) M) : RsP M.n M.sm M.nx σ := ⟨h.1, fun s hs => ⟨(h.2.2 s hs).2.2.2.2.2.1, (h.2.2 s hs).2.2.2.2.2.2⟩⟩
theorem RefM.rp {σ τ : Sg} {M : Mk} (h : RefM (σ 1) M) (hf : RpF σ τ) : RefM (τ 1) M := by rw [hf.1 1 (by decide) (by decide)]; exact h
def sl (M : Mk) (S a : Nat) : Nat → Nat := fun s => if S.testBit s then M.ch s &&& a else 0
theorem start_loop {M : Mk} (hM : M.WF) {S a : Nat} (hS : S < 2 ^ M.n) : ∀ k i fuel (σ : Sg), i + k = M.n → k < fuel → RefM (σ 1) M →
    fX7_startSearch_2 (nI S) (nI a) fuel (nI i) σ = some ((), sst σ 10 (fun j => if i ≤ j ∧ j < M.n then nI (sl M S a j) else σ 10 j)) := by
  have hn := hM.1.1
  intro k
  induction k with
  | zero =>
    intro i fuel σ hi hf h1
    obtain ⟨f', rfl, -⟩ := fuel_succ hf
    rw [fX7_startSearch_2, h1.1, if_le (by omega) (by omega), if_pos (by omega)]
    have : (fun j => if i ≤ j ∧ j < M.n then nI (sl M S a j) else σ 10 j) = σ 10 := by
      funext j
      rw [if_neg (by omega)]
    rw [this, sst_id]
  | succ k ih =>
    intro i fuel σ hi hf h1
    obtain ⟨f', rfl, hf⟩ := fuel_succ hf
    rw [fX7_startSearch_2, h1.1, if_le (by omega) (by omega), if_neg (by omega)]
    simp only [jp_eq, lt'_eq]
    rw [if_h (hM.1.lt31 hS) (by omega), show (4 : Int32) + nI i = nI (4 + i) from zI_add 4 i, gd_of (inb_ok (show 4 + i < 2764 by omega) (by omega)), zI_clamp (show 4 + i < 2 ^ 31 by omega), zI_clamp (show i < 2 ^ 31 by omega), (h1.2.2 i (by omega)).1, zI_and, zs_add]
    have tail : ∀ y : Int32, y = nI (sl M S a i) → (gd (inb (nI i) 12) (fX7_startSearch_2 (nI S) (nI a) f' (nI (i + 1)) (sup σ 10 i y))) = some ((), sst σ 10 (fun j => if i ≤ j ∧ j < M.n then nI (sl M S a j) else σ 10 j)) := by
      intro y hy
      rw [gd_of (inb_ok (by omega) (by omega)), ih (i + 1) f' _ (by omega) (by omega) (by rw [sup_ne (by decide)]; exact h1), hy]
      congr 2
      rw [sst_sup]
      congr 1
      funext j
      rw [sup_self, upd_app]
      by_cases q : j = i
      · subst q
        rw [if_neg (show ¬(j + 1 ≤ j ∧ j < M.n) by omega), if_pos (show j = j from rfl), if_pos (show j ≤ j ∧ j < M.n by omega)]
      · rw [if_neg q]
        by_cases q2 : i ≤ j ∧ j < M.n
        · rw [if_pos q2, if_pos (by omega)]
        · rw [if_neg q2, if_neg (by omega)]
    by_cases hb : S.testBit i = true
    · rw [if_pos hb]
      exact tail _ (by unfold sl; rw [if_pos hb])
    · rw [if_neg hb]
      exact tail _ (by unfold sl; rw [if_neg hb]; rfl)
theorem start_eq {M : Mk} (hM : M.WF) {S a : Nat} (hS : S < 2 ^ M.n) {σ : Sg} (h : RefM (σ 1) M) : ∃ τ, fX7_startSearch (nI S) (nI a) σ = some ((), τ) ∧ RpF σ τ ∧ (∀ s, s < M.n → τ 10 s = nI (sl M S a s)) := by
  have hn := hM.1.1
  refine ⟨_, start_loop hM hS M.n 0 FU σ (by omega) (by unfold FU; omega) h, ⟨fun k a b => sst_ne (by omega), fun j a => by rw [sst_ne (by decide)]⟩, fun s hs => ?_⟩
  rw [sst_self, if_pos ⟨Nat.zero_le _, hs⟩]
theorem count_eq {M : Mk} (hM : M.WF) {S l : Nat} (hS : S < 2 ^ M.n) (hl1 : 1 ≤ l) (hl : l ≤ 1000) {left : Nat → Nat} (hleft : ∀ s, s < M.n → left s < 2 ^ 8) {σ : Sg} (h : RefM (σ 1) M) (h10 : ∀ s, s < M.n → σ 10 s = nI (left s)) :
    ∃ τ, fX7_countUpTo (nI S) (nI l) σ = some (nI (min l (num M.sm M.nx (els S) left)), τ) ∧ RpF σ τ := by
  obtain ⟨τ, e1, e2, e3⟩ := rsearch_eq hM.1 14 0 S l 0 left (sup σ 0 14 (0 : Int32)) (by omega) (by have := pc_le12 S; omega) hS hl1 hl hleft (by
    have := h.rs
    unfold RsP at this ⊢
    rw [sup_ne (by decide)]; exact this) (fun s hs => by rw [sup_ne (by decide)]; exact h10 s hs) (by rw [sup_self, upd_app, if_pos rfl]; rfl)
  refine ⟨τ, ?_, RpF.trans ⟨fun k a b => sup_ne a, fun j a => by rw [sup_self, upd_app, if_neg a]⟩ e3.rp⟩
  rw [fX7_countUpTo, lt'_eq, show (0 : Int32) = nI 0 from rfl]
  rw [show (0 : Int32) = nI 0 from rfl] at e1
  rw [e1, bd_some, e2, Nat.zero_add]
theorem sl_lt {M : Mk} (hM : M.WF) (S a : Nat) : ∀ s, s < M.n → sl M S a s < 2 ^ 8 := by
  intro s hs
  unfold sl
  split
  · exact and_lt (hM.2.2.2 s hs).1
  · decide
theorem sl_num (M : Mk) (S a : Nat) : num M.sm M.nx (els S) (sl M S a) = M.cnt a S := by
  unfold Mk.cnt
  refine num_congr fun s hs c _ => ?_
  unfold sl Mk.lf
  rw [if_pos (mem_els.mp hs).2]
theorem with_eq {M : Mk} (hM : M.WF) {S a : Nat} (hS : S < 2 ^ M.n) {σ : Sg} (h : RefM (σ 1) M) : ∃ τ, fX7_isPossibleWith (nI S) (nI a) σ = some (if 0 < M.cnt a S then 1 else 0, τ) ∧ RpF σ τ := by
  obtain ⟨τ1, e1, f1, l1⟩ := start_eq hM hS (a := a) h
  obtain ⟨τ2, e2, f2⟩ := count_eq hM hS (Nat.le_refl 1) (by decide) (sl_lt hM S a) (h.rp f1) l1
  refine ⟨τ2, ?_, f1.trans f2⟩
  rw [fX7_isPossibleWith, e1, bd_some, show (1 : Int32) = nI 1 from rfl, e2, bd_some, show (0 : Int32) = nI 0 from rfl, if_le (by omega) (by decide), sl_num]
  by_cases q : 0 < M.cnt a S
  · rw [if_pos q, if_neg (by omega)]
  · rw [if_neg q, if_pos (by omega)]
theorem poss_eq {M : Mk} (hM : M.WF) {S : Nat} (hS : S < 2 ^ M.n) {σ : Sg} (h : RefM (σ 1) M) : ∃ τ, fX7_isPossible (nI S) σ = some (if 0 < M.cnt M.av S then 1 else 0, τ) ∧ RpF σ τ := by
  obtain ⟨τ, e1, e2⟩ := with_eq hM hS (a := M.av) h
  refine ⟨τ, ?_, e2⟩
  rw [fX7_isPossible, h.2.1, e1, bd_some]
  split <;> rfl
/-! the sets of stations -/
theorem everyone_bits (n : Nat) {x : Nat} (hx : x < 2 ^ 31) : ndf x (2 ^ n - 1) = 0 ↔ x < 2 ^ n := by
  constructor
  · intro h
    refine lt_of_tb fun i hi => ?_
    have h2 := congrArg (fun z => z.testBit i) h
    simp only [ndf_testBit, hi, Nat.testBit_two_pow_sub_one, tb_zero, Bool.true_and, Bool.not_eq_false', decide_eq_true_eq] at h2
    exact h2
  · intro h
    refine Nat.eq_of_testBit_eq fun i => ?_
    rw [ndf_testBit, Nat.testBit_two_pow_sub_one, tb_zero]
    cases q : x.testBit i with
    | false => rfl
    | true => rw [decide_eq_true (tb_lt h q)]; rfl
