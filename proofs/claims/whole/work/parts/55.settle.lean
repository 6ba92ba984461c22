/-! Layer 2, 16: the class settles an assignment -/
/-- the first of the k channels from c on that has a property; c + k if none has it -/
def lst (p : Nat → Bool) : Nat → Nat → Nat
  | 0, c => c
  | k + 1, c => if p c then c else lst p k (c + 1)
/-- the channel of the kept assignment -/
def Mk.ko (M : Mk) (s : Nat) : Option Nat := if M.kp s = -1 then none else some (M.kp s).toNatClampNeg
def ph1 (M : Mk) (S : Nat) (φ : Nat → Option Nat) (s : Nat) : Nat → Option Nat :=
  if S.testBit s then (match M.ko s with
    | none => φ
    | some c => if fe M S (put φ s c) then put φ s c else φ) else φ
def ph2 (M : Mk) (S : Nat) (φ : Nat → Option Nat) (s : Nat) : Nat → Option Nat :=
  if S.testBit s then (match φ s with
    | none => put φ s (lst (fun c => fe M S (put φ s c)) 8 0)
    | some _ => φ) else φ
def phs (f : (Nat → Option Nat) → Nat → (Nat → Option Nat)) (φ : Nat → Option Nat) : Nat → (Nat → Option Nat)
  | 0 => φ
  | i + 1 => f (phs f φ i) i
theorem ko_some {M : Mk} (hM : M.WF) {s c : Nat} (hs : s < M.n) (h : M.ko s = some c) : c < 8 ∧ M.kp s = nI c := by
  unfold Mk.ko at h
  split at h
  · cases h
  · next q =>
    rcases (hM.2.2.2 s hs).2.2.2.2 with h1 | ⟨c', h1, h2⟩
    · exact absurd h1 q
    · rw [h2, zI_clamp (by omega)] at h
      cases h
      exact ⟨h1, h2⟩
theorem ko_none {M : Mk} {s : Nat} (h : M.ko s = none) : M.kp s = -1 := by
  unfold Mk.ko at h
  split at h
  · next q => exact q
  · cases h
theorem fe_bit {M : Mk} {S s c : Nat} (hs : s < 12) (hc : c < 8) (hb : S.testBit s = true) {φ : Nat → Option Nat} (h : fe M S (put φ s c) = true) : (M.lf M.av s).testBit c = true := by
  have hp := of_decide_eq_true h
  obtain ⟨a, h1, -⟩ := (num_pos (els_nodup S)).mp hp
  obtain ⟨h2, h3⟩ := h1 s (mem_els.mpr ⟨hs, hb⟩)
  have e : fl M (put φ s c) s = M.lf M.av s &&& 2 ^ c := by
    unfold fl put
    rw [if_pos rfl]
  rw [e, Nat.testBit_and, tb_pow] at h3
  obtain ⟨h4, h5⟩ := Bool.and_eq_true_iff.mp h3
  rw [← of_decide_eq_true h5]; exact h4
theorem ph1_no {M : Mk} {S s : Nat} {φ : Nat → Option Nat} (h : ¬ S.testBit s = true) : ph1 M S φ s = φ := by
  unfold ph1
  rw [if_neg h]
theorem ph1_none {M : Mk} {S s : Nat} {φ : Nat → Option Nat} (h : M.ko s = none) : ph1 M S φ s = φ := by
  unfold ph1
  rw [h]
  split <;> rfl
theorem ph1_some {M : Mk} {S s c : Nat} {φ : Nat → Option Nat} (hb : S.testBit s = true) (h : M.ko s = some c) : ph1 M S φ s = if fe M S (put φ s c) then put φ s c else φ := by
  unfold ph1
  rw [if_pos hb, h]
theorem ph1_other {M : Mk} {S s t : Nat} {φ : Nat → Option Nat} (h : t ≠ s) : ph1 M S φ s t = φ t := by
  by_cases hb : S.testBit s = true
  · cases hk : M.ko s with
    | none => rw [ph1_none hk]
    | some c =>
      rw [ph1_some hb hk]
      split
      · unfold put
        rw [if_neg h]
      · rfl
  · rw [ph1_no hb]
theorem ph2_no {M : Mk} {S s : Nat} {φ : Nat → Option Nat} (h : ¬ S.testBit s = true) : ph2 M S φ s = φ := by
  unfold ph2
  rw [if_neg h]
theorem ph2_some {M : Mk} {S s c : Nat} {φ : Nat → Option Nat} (h : φ s = some c) : ph2 M S φ s = φ := by
  unfold ph2
  rw [h]
  split <;> rfl
theorem ph2_none {M : Mk} {S s : Nat} {φ : Nat → Option Nat} (hb : S.testBit s = true) (h : φ s = none) : ph2 M S φ s = put φ s (lst (fun c => fe M S (put φ s c)) 8 0) := by
  unfold ph2
  rw [if_pos hb, h]
theorem settle1 {B : Nat} {M : Mk} {S : Nat} (hS : S < 2 ^ M.n) (K : Sg → Option (Unit × Sg)) : ∀ k i fuel (σ : Sg), i + k = M.n → k < fuel → PkI B M σ → (∀ t, t < M.n → σ 35 t = nI (fl M (phs (ph1 M S) (fun _ => none) i) t)) → (∀ t, i ≤ t → phs (ph1 M S) (fun _ => none) i t = none) →
    ∃ τ, fX4_settle_17 (nI S) K fuel (nI i) σ = K τ ∧ PkF σ τ ∧ PkI B M τ ∧ ∀ t, t < M.n → τ 35 t = nI (fl M (phs (ph1 M S) (fun _ => none) M.n) t) := by
  intro k
  induction k with
  | zero =>
    intro i fuel σ hi hf hP h35 hnone
    have hn := hP.2.1.1.1
    obtain ⟨f', rfl, -⟩ := fuel_succ hf
    refine ⟨σ, ?_, PkF.refl σ, hP, ?_⟩
    · rw [fX4_settle_17, hP.rows.1, if_le (by omega) (by omega), if_pos (by omega)]
    · rw [show M.n = i by omega]
      rw [show M.n = i by omega] at h35
      exact h35
  | succ k ih =>
    intro i fuel σ hi hf hP h35 hnone
    have hn := hP.2.1.1.1
    obtain ⟨f', rfl, hf⟩ := fuel_succ hf
    have hin : i < M.n := by omega
    have hstep : ∀ t, i + 1 ≤ t → phs (ph1 M S) (fun _ => none) (i + 1) t = none := by
      intro t ht
      rw [phs, ph1_other (by omega)]
      exact hnone t (by omega)
    rw [fX4_settle_17, hP.rows.1, if_le (by omega) (by omega), if_neg (by omega), gd_of (inb_ok (by omega) (by omega)), lt'_eq]
    simp only [jp_eq]
    rw [zI_clamp (by omega), show σ 14 i = M.kp i from (hP.1.2.2.2.1 i hin).2.2.2, if_c (hP.2.1.1.lt31 hS) (by omega), zs_add]
    have same : phs (ph1 M S) (fun _ => none) (i + 1) = phs (ph1 M S) (fun _ => none) i → ∃ τ, fX4_settle_17 (nI S) K f' (nI (i + 1)) σ = K τ ∧ PkF σ τ ∧ PkI B M τ ∧ ∀ t, t < M.n → τ 35 t = nI (fl M (phs (ph1 M S) (fun _ => none) M.n) t) := fun e =>
      ih (i + 1) f' σ (by omega) (by omega) hP (by rw [e]; exact h35) hstep
    by_cases hb : S.testBit i = true
    · rw [if_pos hb]
      cases hko : M.ko i with
      | none =>
        rw [if_pos (ko_none hko)]
        exact same (by rw [phs, ph1_none hko])
      | some c =>
        obtain ⟨hc8, hkc⟩ := ko_some hP.2.1 hin hko
        have hfl : fl M (phs (ph1 M S) (fun _ => none) i) i = M.lf M.av i := by
          unfold fl
          rw [hnone i (Nat.le_refl i)]
        rw [hkc, if_neg (zI_neg1 (by omega)), gd_of (inb_ok (by omega) (by omega)), h35 i hin, hfl, if_c (lt8_31 (lf_lt hP.2.1 M.av i hin)) (by omega)]
        by_cases hbc : (M.lf M.av i).testBit c = true
        · rw [if_pos hbc, zI_one_shl (by omega)]
          obtain ⟨τ, e1, f1, p1, l1⟩ := restrict_eq hP hS hin hc8 h35 (by rw [hfl]; exact hbc)
          rw [e1, bd_some]
          obtain ⟨τ2, e2, f2, p2, l2⟩ := ih (i + 1) f' τ (by omega) (by omega) p1 (by
            intro t ht
            rw [l1 t ht, phs, ph1_some hb hko]) hstep
          exact ⟨τ2, e2, f1.trans f2, p2, l2⟩
        · rw [if_neg hbc]
          refine same ?_
          rw [phs, ph1_some hb hko, if_neg fun q => hbc (fe_bit (by omega) hc8 hb q)]
    · rw [if_neg hb]
      exact same (by rw [phs, ph1_no hb])
