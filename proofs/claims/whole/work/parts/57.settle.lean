/-! Layer 2, 18: settle and keep of the class -/
theorem fe_nil {M : Mk} {S : Nat} : fe M S (fun _ => none) = decide (0 < M.cnt M.av S) := rfl
theorem ph1_fe {M : Mk} {S s : Nat} {φ : Nat → Option Nat} (h : fe M S φ = true) : fe M S (ph1 M S φ s) = true := by
  by_cases hb : S.testBit s = true
  · cases hk : M.ko s with
    | none => rw [ph1_none hk]; exact h
    | some c =>
      rw [ph1_some hb hk]
      split
      · next q => exact q
      · exact h
  · rw [ph1_no hb]; exact h
theorem phs_fe {M : Mk} {S : Nat} {f : (Nat → Option Nat) → Nat → (Nat → Option Nat)} (hf : ∀ φ s, s < 12 → fe M S φ = true → fe M S (f φ s) = true) {φ : Nat → Option Nat} (h : fe M S φ = true) : ∀ i, i ≤ 12 → fe M S (phs f φ i) = true := by
  intro i
  induction i with
  | zero => intro _; exact h
  | succ i ih => intro hi; exact hf _ i (by omega) (ih (by omega))
/-- the assignment that assign (b false) or repack (b true) chooses -/
def fnl (M : Mk) (S : Nat) (b : Bool) : Nat → Option Nat := phs (ph2 M S) (if b then phs (ph1 M S) (fun _ => none) M.n else fun _ => none) M.n
theorem settle_eq {B : Nat} {M : Mk} {σ : Sg} (h : PkI B M σ) {S : Nat} (hS : S < 2 ^ M.n) (hfeas : 0 < M.cnt M.av S) (b : Bool) :
    ∃ τ, fX4_settle (nI S) (if b then 1 else 0) σ = some ((), τ) ∧ PkF σ τ ∧ PkI B M τ ∧ ∀ t, t < M.n → τ 35 t = nI (fl M (fnl M S b) t) := by
  have hn := h.2.1.1.1
  have h0 : fe M S (fun _ => none) = true := decide_eq_true hfeas
  obtain ⟨F, hF8, hFe⟩ : ∃ F, 12 < F ∧ FU = F := ⟨FU, by unfold FU; omega, rfl⟩
  obtain ⟨τ1, e1, f1, l1, -, p1⟩ := allow_pk h (a := M.av)
  rw [fX4_settle, h.1.2.2.1, e1, bd_some, hFe]
  simp only [jp_eq]
  cases b with
  | false =>
    rw [if_pos (show (if false = true then (1 : Int32) else 0) = 0 by decide), show (0 : Int32) = nI 0 from rfl]
    obtain ⟨τ2, e2, f2, p2, l2⟩ := settle2 hS (fun _ => none) M.n 0 F τ1 (by omega) (by omega) p1 l1 h0
    exact ⟨τ2, e2, f1.trans f2, p2, l2⟩
  | true =>
    rw [if_neg (show ¬ ((if true = true then (1 : Int32) else 0) = 0) by decide), show (0 : Int32) = nI 0 from rfl]
    obtain ⟨τ2, e2, f2, p2, l2⟩ := settle1 hS (fun (σ40 : Sg) => fX4_settle_86 (nI S) F (nI 0) σ40) M.n 0 F τ1 (by omega) (by omega) p1 l1 (fun _ _ => rfl)
    obtain ⟨τ3, e3, f3, p3, l3⟩ := settle2 hS (phs (ph1 M S) (fun _ => none) M.n) M.n 0 F τ2 (by omega) (by omega) p2 l2 (phs_fe (fun φ s _ h => ph1_fe h) h0 M.n hn)
    exact ⟨τ3, e2.trans e3, (f1.trans f2).trans f3, p3, l3⟩
theorem ph2_other {M : Mk} {S s t : Nat} {φ : Nat → Option Nat} (h : t ≠ s) : ph2 M S φ s t = φ t := by
  by_cases hb : S.testBit s = true
  · cases hk : φ s with
    | some c => rw [ph2_some hk]
    | none =>
      rw [ph2_none hb hk]
      unfold put
      rw [if_neg h]
  · rw [ph2_no hb]
theorem phs2_keep {M : Mk} {S : Nat} {φ : Nat → Option Nat} {t c : Nat} (h : φ t = some c) : ∀ i, phs (ph2 M S) φ i t = some c := by
  intro i
  induction i with
  | zero => exact h
  | succ i ih =>
    rw [phs]
    by_cases q : t = i
    · rw [← q]
      rw [← q] at ih
      rw [ph2_some ih]; exact ih
    · rw [ph2_other q]; exact ih
theorem phs2_some {M : Mk} {S : Nat} {φ : Nat → Option Nat} {t : Nat} (hb : S.testBit t = true) : ∀ i, t < i → ∃ c, phs (ph2 M S) φ i t = some c := by
  intro i
  induction i with
  | zero => intro h; omega
  | succ i ih =>
    intro ht
    rw [phs]
    by_cases q : t = i
    · subst q
      cases hk : phs (ph2 M S) φ t t with
      | some c => exact ⟨c, by rw [ph2_some hk]; exact hk⟩
      | none =>
        rw [ph2_none hb hk]
        unfold put
        rw [if_pos rfl]
        exact ⟨_, rfl⟩
    · rw [ph2_other q]; exact ih (by omega)
/-- each station of the set has just one channel in it, one that it may have -/
theorem fin_some {M : Mk} (hM : M.WF) {S : Nat} (hS : S < 2 ^ M.n) (hfeas : 0 < M.cnt M.av S) (b : Bool) {t : Nat} (hb : S.testBit t = true) : ∃ c, c < 8 ∧ fnl M S b t = some c ∧ fl M (fnl M S b) t = 2 ^ c := by
  have ht := tb_lt hS hb
  have hn := hM.1.1
  have h0 : fe M S (fun _ => none) = true := decide_eq_true hfeas
  obtain ⟨c, hc⟩ : ∃ c, fnl M S b t = some c := phs2_some hb M.n ht
  have hfe : fe M S (fnl M S b) = true := by
    unfold fnl
    refine phs_fe (fun φ s hs h => ph2_fe hs h) ?_ M.n hn
    split
    · exact phs_fe (fun φ s _ h => ph1_fe h) h0 M.n hn
    · exact h0
  obtain ⟨d, h1, h2, -⟩ := fe_ex (show t < 12 by omega) hb hfe
  have e : fl M (fnl M S b) t = M.lf M.av t &&& 2 ^ c := by
    rw [fl, hc]
  rw [e, Nat.testBit_and, tb_pow] at h2
  obtain ⟨h3, h4⟩ := Bool.and_eq_true_iff.mp h2
  have h5 := of_decide_eq_true h4
  subst h5
  exact ⟨d, h1, hc, by rw [e, and_pow h3]⟩
