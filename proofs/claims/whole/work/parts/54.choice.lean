/-! Layer 2, 15: the choice of channels, one station after the other -/
def fl (M : Mk) (φ : Nat → Option Nat) : Nat → Nat := fun s => match φ s with
  | none => M.lf M.av s
  | some c => M.lf M.av s &&& 2 ^ c
/-- whether the set still has an assignment with the channels chosen -/
def fe (M : Mk) (S : Nat) (φ : Nat → Option Nat) : Bool := decide (0 < num M.sm M.nx (els S) (fl M φ))
def put (φ : Nat → Option Nat) (s c : Nat) : Nat → Option Nat := fun t => if t = s then some c else φ t
theorem fl_lt {M : Mk} (hM : M.WF) (φ : Nat → Option Nat) : ∀ s, s < M.n → fl M φ s < 2 ^ 8 := by
  intro s hs
  have := lf_lt hM M.av s hs
  unfold fl
  split
  · exact this
  · exact and_lt this
theorem and_pow {x c : Nat} (h : x.testBit c = true) : x &&& 2 ^ c = 2 ^ c := by
  refine Nat.eq_of_testBit_eq fun i => ?_
  rw [Nat.testBit_and, tb_pow]
  by_cases q : i = c
  · rw [q, h]; rfl
  · rw [decide_eq_false q, Bool.and_false]
theorem fl_put {M : Mk} {φ : Nat → Option Nat} {s c : Nat} (h : (fl M φ s).testBit c = true) (t : Nat) : fl M (put φ s c) t = if t = s then 2 ^ c else fl M φ t := by
  by_cases q : t = s
  · rw [if_pos q]
    subst q
    unfold fl put
    rw [if_pos rfl]
    refine and_pow ?_
    unfold fl at h
    split at h
    · exact h
    · rw [Nat.testBit_and] at h
      exact (Bool.and_eq_true_iff.mp h).1
  · rw [if_neg q]
    unfold fl put
    rw [if_neg q]
theorem restrict_eq {B : Nat} {M : Mk} {σ : Sg} (h : PkI B M σ) {S s c : Nat} (hS : S < 2 ^ M.n) (hs : s < M.n) (hc : c < 8) {φ : Nat → Option Nat} (h35 : ∀ t, t < M.n → σ 35 t = nI (fl M φ t)) (hcb : (fl M φ s).testBit c = true) :
    ∃ τ, fX4_restrict (nI s) (nI (2 ^ c)) (nI S) σ = some (if fe M S (put φ s c) then 1 else 0, τ) ∧ PkF σ τ ∧ PkI B M τ ∧ ∀ t, t < M.n → τ 35 t = nI (fl M (if fe M S (put φ s c) then put φ s c else φ) t) := by
  have hn := h.2.1.1.1
  have f1 : PkF σ (sup σ 35 s (nI (2 ^ c))) := ⟨fun k a b c d e => sup_ne a, by rw [sup_ne (by decide)]⟩
  obtain ⟨τ, e1, f2, k35, k40, sh⟩ := solutions_eq h.2.1.1 hS (Nat.le_refl 1) (by decide) (fl_lt h.2.1 (put φ s c)) (σ := sup σ 35 s (nI (2 ^ c))) (by rw [sup_ne (by decide)]; exact h.rows.1) (fun t ht => by rw [sup_ne (by decide), sup_ne (by decide)]; exact h.rows.2 t ht) (fun t ht => by
    rw [sup_self, upd_app, fl_put hcb]
    split
    · rfl
    · exact h35 t ht) (h.2.2.1.same (sup_ne (by decide)) (sup_ne (by decide)))
  rw [fX4_restrict, gd_of (inb_ok (by omega) (by omega)), lt'_eq, gd_of (inb_ok (by omega) (by omega)), lt'_eq, zI_clamp (by omega), show (1 : Int32) = nI 1 from rfl, e1, bd_some, if_eq0 (by omega)]
  have hfe : fe M S (put φ s c) = decide (0 < num M.sm M.nx (els S) (fl M (put φ s c))) := rfl
  by_cases q : 0 < num M.sm M.nx (els S) (fl M (put φ s c))
  · rw [if_neg (by omega), hfe, decide_eq_true q, if_pos rfl, if_pos rfl]
    refine ⟨τ, rfl, f1.trans f2, ⟨h.1.pk (f1.trans f2), h.2.1, sh, h.2.2.2.keep (f1.trans f2).2 (by rw [k40, sup_ne (by decide)])⟩, fun t ht => ?_⟩
    rw [k35, sup_self, upd_app, fl_put hcb]
    split
    · rfl
    · exact h35 t ht
  · rw [if_pos (by omega), hfe, decide_eq_false q, gd_of (inb_ok (by omega) (by omega)), lt'_eq]
    have f3 : PkF σ (sup τ 35 s (σ 35 s)) := (f1.trans f2).trans ⟨fun k a b c d e => sup_ne a, by rw [sup_ne (by decide)]⟩
    refine ⟨_, rfl, f3, ⟨h.1.pk f3, h.2.1, sh.same (sup_ne (by decide)) (sup_ne (by decide)), h.2.2.2.keep f3.2 (by rw [sup_ne (by decide), k40, sup_ne (by decide)])⟩, fun t ht => ?_⟩
    rw [sup_self, upd_app, k35, sup_self, upd_app]
    split
    · next q2 => rw [q2]; exact h35 s hs
    · exact h35 t ht
