/-! Layer 2, 10: what the class answers about a set -/
def PkF (σ τ : Sg) : Prop := (∀ k, k ≠ 35 → k ≠ 39 → k ≠ 40 → k ≠ 2 → ¬(41 ≤ k ∧ k ≤ 76) → τ k = σ k) ∧ τ 2 8 = σ 2 8
theorem PkF.refl (σ : Sg) : PkF σ σ := ⟨fun _ _ _ _ _ _ => rfl, rfl⟩
theorem PkF.trans {σ τ υ : Sg} (h : PkF σ τ) (h2 : PkF τ υ) : PkF σ υ := ⟨fun k a b c d e => (h2.1 k a b c d e).trans (h.1 k a b c d e), h2.2.trans h.2⟩
theorem solutions_eq {n : Nat} {sm nx : Nat → Nat} (hg : Gr n sm nx) {S l : Nat} (hS : S < 2 ^ n) (hl1 : 1 ≤ l) (hl : l ≤ 1000) {left : Nat → Nat} (hleft : ∀ s, s < n → left s < 2 ^ 8) {σ : Sg} (h6 : σ 3 6 = nI n) (h1 : ∀ s, s < 12 → σ 15 s = nI (sm s) ∧ σ 16 s = nI (nx s)) (h35 : ∀ s, s < n → σ 35 s = nI (left s)) (hsh : ShInv n sm σ) :
    ∃ τ, fX4_solutions (nI S) (nI l) σ = some (nI (min l (num sm nx (els S) left)), τ) ∧ PkF σ τ ∧ τ 35 = σ 35 ∧ τ 40 = σ 40 ∧ ShInv n sm τ := by
  have hn := hg.1
  obtain ⟨τ, e1, e2, e3⟩ := search_eq hg 14 0 S l left (sst σ 41 (va_cpy (σ 35) (σ 41) 0 0 12)) (by omega) (by have := pc_le12 S; omega) hS hl1 hl hleft
    ⟨by rw [sst_ne (by decide)]; exact h6, fun s hs => by rw [sst_ne (by decide), sst_ne (by decide)]; exact h1 s hs, fun _ s hs => by
      rw [sst_self]
      unfold va_cpy
      rw [if_pos (by omega), show 0 + (s - 0) = s by omega]
      exact h35 s hs, hsh.same (sst_ne (by decide)) (sst_ne (by decide))⟩
  refine ⟨τ, ?_, ⟨fun k a b c d e => ?_, ?_⟩, ?_, ?_, e3⟩
  · rw [fX4_solutions, lt'_eq, show (0 : Int32) = nI 0 from rfl, e1, bd_some]
  · rw [e2.1 k b d (by omega) (by omega) (by omega), sst_ne (by omega)]
  · rw [e2.2, sst_ne (by decide)]
  · rw [e2.1 35 (by decide) (by decide) (by omega) (by omega) (by omega), sst_ne (by decide)]
  · rw [e2.1 40 (by decide) (by decide) (by omega) (by omega) (by omega), sst_ne (by decide)]
def Mk.lf (M : Mk) (a : Nat) : Nat → Nat := fun s => M.ch s &&& a
/-- the number of assignments with the channels a -/
def Mk.cnt (M : Mk) (a S : Nat) : Nat := num M.sm M.nx (els S) (M.lf a)
def Mk.feas (M : Mk) (S : Nat) : Prop := 0 < M.cnt M.av S
def VdOK (B : Nat) (M : Mk) (σ : Sg) : Prop := ∃ v, σ 2 8 = nI v ∧ v ≤ B ∧ B < 2 ^ 20 ∧ ∀ S, S < 2 ^ 12 → ∃ w, σ 40 S = nI w ∧ w / 2 ≤ v ∧ (w / 2 = v → S < 2 ^ M.n → (w % 2 = 1 ↔ M.feas S))
def PkI (B : Nat) (M : Mk) (σ : Sg) : Prop := ClsM 3 11 σ M ∧ M.WF ∧ ShInv M.n M.sm σ ∧ VdOK B M σ
theorem ClsM.pk {σ τ : Sg} {M : Mk} (h : ClsM 3 11 σ M) (hf : PkF σ τ) : ClsM 3 11 τ M := by
  have e : ∀ k, 3 ≤ k → k ≤ 16 → τ k = σ k := fun k a b => hf.1 k (by omega) (by omega) (by omega) (by omega) (by omega)
  unfold ClsM at h ⊢
  rw [e 3 (by decide) (by decide), e 11 (by decide) (by decide), e (11 + 1) (by decide) (by decide), e (11 + 2) (by decide) (by decide), e (11 + 3) (by decide) (by decide), e (11 + 4) (by decide) (by decide), e (11 + 5) (by decide) (by decide)]
  exact h
theorem VdOK.keep {B : Nat} {M : Mk} {σ τ : Sg} (h : VdOK B M σ) (h8 : τ 2 8 = σ 2 8) (h40 : τ 40 = σ 40) : VdOK B M τ := by
  unfold VdOK at h ⊢
  rw [h8, h40]; exact h
theorem PkI.rows {B : Nat} {M : Mk} {σ : Sg} (h : PkI B M σ) : σ 3 6 = nI M.n ∧ (∀ s, s < 12 → σ 15 s = nI (M.sm s) ∧ σ 16 s = nI (M.nx s)) := ⟨h.1.1, fun s hs => h.1.2.2.2.2 s hs⟩
theorem lf_lt {M : Mk} (h : M.WF) (a : Nat) : ∀ s, s < M.n → M.lf a s < 2 ^ 8 := fun s hs => and_lt (h.2.2.2 s hs).1
theorem allow_pk {B : Nat} {M : Mk} {σ : Sg} (h : PkI B M σ) {a : Nat} : ∃ τ, fX4_allow (nI a) σ = some ((), τ) ∧ PkF σ τ ∧ (∀ s, s < M.n → τ 35 s = nI (M.lf a s)) ∧ τ 40 = σ 40 ∧ PkI B M τ := by
  have hn := h.2.1.1.1
  have hf : PkF σ (sst σ 35 (fun j => if j < M.n then σ 11 j &&& nI a else σ 35 j)) := ⟨fun k a b c d e => sst_ne a, by rw [sst_ne (by decide)]⟩
  refine ⟨_, allow_eq hn (nI a) h.1.1, hf, fun s hs => ?_, sst_ne (by decide), h.1.pk hf, h.2.1, h.2.2.1.same (sst_ne (by decide)) (sst_ne (by decide)), h.2.2.2.keep hf.2 (sst_ne (by decide))⟩
  rw [sst_self, if_pos hs, (h.1.2.2.2.1 s hs).1, zI_and]; rfl
theorem fits_eq {B : Nat} {M : Mk} {σ : Sg} (h : PkI B M σ) {S : Nat} (hS : S < 2 ^ M.n) : ∃ τ, fX4_fits (nI S) σ = some (if 0 < M.cnt M.av S then 1 else 0, τ) ∧ PkF σ τ ∧ PkI B M τ := by
  have hg := h.2.1.1
  have hn := hg.1
  have hS12 := hg.lt12 hS
  have hS31 := lt12_31 hS12
  obtain ⟨v, a1, a2, a3, a4⟩ := h.2.2.2
  obtain ⟨w, b1, b2, b3⟩ := a4 S hS12
  have hw : w < 2 ^ 22 := by omega
  -- what is read at the end
  have last : ∀ (τ : Sg) (w' : Nat), τ 40 S = nI w' → w' < 2 ^ 22 → (w' % 2 = 1 ↔ 0 < M.cnt M.av S) → (gd (inb (nI S) 4096) (if ((τ 40 S) &&& (1 : Int32)) = (1 : Int32) then (some ((1 : Int32), τ)) else (some ((0 : Int32), τ)))) = some (if 0 < M.cnt M.av S then 1 else 0, τ) := by
    intro τ w' e1 e2 e3
    rw [gd_of (inb_ok hS12 hS31), e1, show (1 : Int32) = nI 1 from rfl, zI_and, Nat.and_one_is_mod, if_eq (by omega) (by decide)]
    by_cases q : w' % 2 = 1
    · rw [if_pos q, if_pos (e3.mp q)]
    · rw [if_neg q, if_neg fun z => q (e3.mpr z)]
  rw [fX4_fits, if_neg (zI_nn hS31), show (4096 : Int32) = nI 4096 from rfl, if_lt hS31 (by decide), if_pos hS12, gd_of (inb_ok hS12 hS31)]
  simp only [jp_eq, lt'_eq]
  rw [zI_clamp hS31, b1, a1, show (1 : Int32) &&& 31 = nI 1 &&& 31 from rfl, zI_shr (by omega) (by decide), if_eq (by rw [Nat.shiftRight_eq_div_pow]; omega) (by omega)]
  by_cases hq : w >>> 1 = v
  · rw [if_pos hq]
    have hq2 : w / 2 = v := by rw [← hq, Nat.shiftRight_eq_div_pow]
    refine ⟨σ, ?_, PkF.refl σ, h⟩
    have := last σ w b1 hw (b3 hq2 hS)
    rwa [b1] at this
  · rw [if_neg hq, h.1.2.2.1]
    obtain ⟨τ1, e1, f1, l1, k1, p1⟩ := allow_pk h (a := M.av)
    rw [e1, bd_some]
    obtain ⟨τ2, e2, f2, -, k2, p2⟩ := solutions_eq hg hS (Nat.le_refl 1) (by decide) (lf_lt h.2.1 M.av) p1.1.1 p1.rows.2 l1 p1.2.2.1
    rw [show (1 : Int32) = nI 1 from rfl, e2, bd_some, gd_of (inb_ok hS12 hS31), f1.2, a1, show (2 : Int32) = nI 2 from rfl, zI_mul, zI_add]
    have hbit : min 1 (num M.sm M.nx (els S) (M.lf M.av)) ≤ 1 := Nat.min_le_left _ _
    have hmod : (2 * v + min 1 (num M.sm M.nx (els S) (M.lf M.av))) % 2 = 1 ↔ 0 < M.cnt M.av S := by
      unfold Mk.cnt
      omega
    have f3 : PkF σ (sup τ2 40 S (nI (2 * v + min 1 (num M.sm M.nx (els S) (M.lf M.av))))) := (f1.trans f2).trans ⟨fun k a b c d e => sup_ne c, by rw [sup_ne (by decide)]⟩
    refine ⟨sup τ2 40 S (nI (2 * v + min 1 (num M.sm M.nx (els S) (M.lf M.av)))), last _ (2 * v + min 1 (num M.sm M.nx (els S) (M.lf M.av))) (by rw [sup_self, upd_app, if_pos rfl]) (by omega) hmod, f3, h.1.pk f3, h.2.1, p2.same (sup_ne (by decide)) (sup_ne (by decide)), v, by rw [f3.2]; exact a1, a2, a3, fun S' hS' => ?_⟩
    rw [sup_self, upd_app]
    by_cases q : S' = S
    · rw [if_pos q]
      refine ⟨_, rfl, by omega, fun _ _ => ?_⟩
      rw [q]; exact hmod
    · rw [if_neg q, k2, k1]
      exact a4 S' hS'
