/-! Layer 2, 17: the class settles an assignment, second half -/
theorem lst_spec {p : Nat → Bool} : ∀ k c, (∃ c', c ≤ c' ∧ c' < c + k ∧ p c' = true) → c ≤ lst p k c ∧ lst p k c < c + k ∧ p (lst p k c) = true ∧ ∀ c', c ≤ c' → c' < lst p k c → p c' = false := by
  intro k
  induction k with
  | zero => rintro c ⟨c', h1, h2, -⟩; omega
  | succ k ih =>
    rintro c ⟨c', h1, h2, h3⟩
    rw [lst]
    by_cases q : p c = true
    · rw [if_pos q]
      exact ⟨Nat.le_refl c, by omega, q, fun c' a b => by omega⟩
    · rw [if_neg q]
      have hne : c ≠ c' := fun e => q (e ▸ h3)
      obtain ⟨a1, a2, a3, a4⟩ := ih (c + 1) ⟨c', by omega, by omega, h3⟩
      refine ⟨by omega, by omega, a3, fun d d1 d2 => ?_⟩
      rcases Nat.eq_or_lt_of_le d1 with e | e
      · rw [← e]; simpa using q
      · exact a4 d e d2
theorem lst_congr {p q : Nat → Bool} : ∀ k c, (∀ d, c ≤ d → d < c + k → p d = q d) → lst p k c = lst q k c := by
  intro k
  induction k with
  | zero => intro c _; rfl
  | succ k ih =>
    intro c h
    rw [lst, lst, h c (Nat.le_refl c) (by omega), ih (c + 1) fun d a b => h d (by omega) (by omega)]
theorem settle_in {B : Nat} {M : Mk} {S s : Nat} (hS : S < 2 ^ M.n) (hs : s < M.n) {φ : Nat → Option Nat} (K : Sg → Option (Unit × Sg)) {x : Nat} (hx : x = fl M φ s) : ∀ k c fuel (σ : Sg), c + k = 8 → k < fuel → PkI B M σ → (∀ t, t < M.n → σ 35 t = nI (fl M φ t)) →
    (∃ c', c ≤ c' ∧ c' < c + k ∧ ((fl M φ s).testBit c' && fe M S (put φ s c')) = true) →
    ∃ τ, fX4_settle_123 (nI S) (nI s) (nI x) K fuel (0 : Int32) (nI c) σ = K τ ∧ PkF σ τ ∧ PkI B M τ ∧ ∀ t, t < M.n → τ 35 t = nI (fl M (put φ s (lst (fun c => (fl M φ s).testBit c && fe M S (put φ s c)) k c)) t) := by
  subst hx
  intro k
  induction k with
  | zero => rintro c fuel σ hc hf hP h35 ⟨c', h1, h2, -⟩; omega
  | succ k ih =>
    rintro c fuel σ hc hf hP h35 hex
    obtain ⟨f', rfl, hf⟩ := fuel_succ hf
    have hn := hP.2.1.1.1
    have hfl8 := fl_lt hP.2.1 φ s hs
    rw [fX4_settle_123, show (8 : Int32) = nI 8 from rfl, if_le (by decide) (by omega), if_neg (by omega), if_pos rfl]
    simp only [jp_eq]
    rw [if_c (lt8_31 hfl8) (by omega), zs_add, lst]
    by_cases hb : (fl M φ s).testBit c = true
    · rw [if_pos hb, zI_one_shl (by omega)]
      obtain ⟨τ, e1, f1, p1, l1⟩ := restrict_eq hP hS hs (by omega) h35 hb
      rw [e1, bd_some]
      by_cases hfe : fe M S (put φ s c) = true
      · have hdone : ∃ τ', fX4_settle_123 (nI S) (nI s) (nI (fl M φ s)) K f' (1 : Int32) (nI (c + 1)) τ = K τ' ∧ τ' = τ := by
          obtain ⟨f'', rfl⟩ : ∃ g, f' = g + 1 := ⟨f' - 1, by omega⟩
          refine ⟨τ, ?_, rfl⟩
          rw [fX4_settle_123]
          split
          · rfl
          · rw [if_neg (by decide)]
        obtain ⟨τ', e2, rfl⟩ := hdone
        rw [if_pos hfe, if_neg (by decide), if_pos (by rw [hb, hfe]; rfl)]
        refine ⟨τ', e2, f1, p1, ?_⟩
        rw [if_pos hfe] at l1
        exact l1
      · rw [if_neg hfe, if_pos rfl, if_neg (by rw [hb]; simpa using hfe)]
        rw [if_neg hfe] at l1
        obtain ⟨τ2, e2, f2, p2, l2⟩ := ih (c + 1) f' τ (by omega) (by omega) p1 l1 (by
          obtain ⟨c', h1, h2, h3⟩ := hex
          refine ⟨c', ?_, by omega, h3⟩
          rcases Nat.eq_or_lt_of_le h1 with e | e
          · rw [← e] at h3
            exact absurd (Bool.and_eq_true_iff.mp h3).2 hfe
          · exact e)
        exact ⟨τ2, e2, f1.trans f2, p2, l2⟩
    · rw [if_neg hb, if_neg (by rw [Bool.not_eq_true] at hb; rw [hb]; simp)]
      obtain ⟨τ2, e2, f2, p2, l2⟩ := ih (c + 1) f' σ (by omega) (by omega) hP h35 (by
        obtain ⟨c', h1, h2, h3⟩ := hex
        refine ⟨c', ?_, by omega, h3⟩
        rcases Nat.eq_or_lt_of_le h1 with e | e
        · rw [← e] at h3
          exact absurd (Bool.and_eq_true_iff.mp h3).1 hb
        · exact e)
      exact ⟨τ2, e2, f2, p2, l2⟩
theorem put_same {φ : Nat → Option Nat} {s c : Nat} (h : φ s = some c) : put φ s c = φ := by
  funext t
  unfold put
  split
  · next q => rw [q, h]
  · rfl
/-- a feasible choice leaves each station of the set a channel -/
theorem fe_ex {M : Mk} {S s : Nat} (hs : s < 12) (hb : S.testBit s = true) {φ : Nat → Option Nat} (h : fe M S φ = true) : ∃ c, c < 8 ∧ (fl M φ s).testBit c = true ∧ fe M S (put φ s c) = true := by
  have hp := of_decide_eq_true h
  obtain ⟨a, h1, h2⟩ := (num_pos (els_nodup S)).mp hp
  obtain ⟨h3, h4⟩ := h1 s (mem_els.mpr ⟨hs, hb⟩)
  refine ⟨a s, h3, h4, decide_eq_true ((num_pos (els_nodup S)).mpr ⟨a, fun t ht => ⟨(h1 t ht).1, ?_⟩, h2⟩)⟩
  rw [fl_put h4]
  split
  · next q => rw [q, tb_pow]; exact decide_eq_true rfl
  · exact (h1 t ht).2
theorem lst_pick {M : Mk} {S s : Nat} (hs : s < 12) (hb : S.testBit s = true) {φ : Nat → Option Nat} (h : fe M S φ = true) :
    put φ s (lst (fun c => (fl M φ s).testBit c && fe M S (put φ s c)) 8 0) = ph2 M S φ s ∧ fe M S (ph2 M S φ s) = true := by
  obtain ⟨c, hc, h1, h2⟩ := fe_ex hs hb h
  obtain ⟨l1, l2, l3, l4⟩ := lst_spec (p := fun c => (fl M φ s).testBit c && fe M S (put φ s c)) 8 0 ⟨c, Nat.zero_le c, by omega, by rw [h1, h2]; rfl⟩
  cases q : φ s with
  | none =>
    rw [ph2_none hb q]
    have e : lst (fun c => (fl M φ s).testBit c && fe M S (put φ s c)) 8 0 = lst (fun c => fe M S (put φ s c)) 8 0 := by
      refine lst_congr 8 0 fun d _ hd => ?_
      cases q2 : fe M S (put φ s d) with
      | false => simp
      | true =>
        have : fl M φ s = M.lf M.av s := by
          unfold fl
          rw [q]
        rw [this, fe_bit hs (by omega) hb q2]; rfl
    rw [← e]
    exact ⟨rfl, (Bool.and_eq_true_iff.mp l3).2⟩
  | some c0 =>
    rw [ph2_some q]
    have hbit : (fl M φ s).testBit (lst (fun c => (fl M φ s).testBit c && fe M S (put φ s c)) 8 0) = true := (Bool.and_eq_true_iff.mp l3).1
    have : lst (fun c => (fl M φ s).testBit c && fe M S (put φ s c)) 8 0 = c0 := by
      have e : fl M φ s = M.lf M.av s &&& 2 ^ c0 := by
        unfold fl
        rw [q]
      rw [e] at hbit
      rw [Nat.testBit_and, tb_pow] at hbit
      rw [e]
      exact of_decide_eq_true (Bool.and_eq_true_iff.mp hbit).2
    rw [this, put_same q]
    exact ⟨rfl, h⟩
theorem ph2_fe {M : Mk} {S s : Nat} (hs : s < 12) {φ : Nat → Option Nat} (h : fe M S φ = true) : fe M S (ph2 M S φ s) = true := by
  by_cases hb : S.testBit s = true
  · exact (lst_pick hs hb h).2
  · rw [ph2_no hb]; exact h
theorem settle2 {B : Nat} {M : Mk} {S : Nat} (hS : S < 2 ^ M.n) (φ0 : Nat → Option Nat) : ∀ k i fuel (σ : Sg), i + k = M.n → k < fuel → PkI B M σ → (∀ t, t < M.n → σ 35 t = nI (fl M (phs (ph2 M S) φ0 i) t)) → fe M S (phs (ph2 M S) φ0 i) = true →
    ∃ τ, fX4_settle_86 (nI S) fuel (nI i) σ = some ((), τ) ∧ PkF σ τ ∧ PkI B M τ ∧ ∀ t, t < M.n → τ 35 t = nI (fl M (phs (ph2 M S) φ0 M.n) t) := by
  intro k
  induction k with
  | zero =>
    intro i fuel σ hi hf hP h35 hfe
    have hn := hP.2.1.1.1
    obtain ⟨f', rfl, -⟩ := fuel_succ hf
    refine ⟨σ, ?_, PkF.refl σ, hP, ?_⟩
    · rw [fX4_settle_86, hP.rows.1, if_le (by omega) (by omega), if_pos (by omega)]
    · rw [show M.n = i by omega]
      rw [show M.n = i by omega] at h35
      exact h35
  | succ k ih =>
    intro i fuel σ hi hf hP h35 hfe
    have hn := hP.2.1.1.1
    obtain ⟨f', rfl, hf⟩ := fuel_succ hf
    obtain ⟨F, hF8, hFe⟩ : ∃ F, 8 < F ∧ FU = F := ⟨FU, by unfold FU; omega, rfl⟩
    have hin : i < M.n := by omega
    rw [fX4_settle_86, hP.rows.1, if_le (by omega) (by omega), if_neg (by omega), hFe]
    simp only [jp_eq, lt'_eq]
    rw [if_c (hP.2.1.1.lt31 hS) (by omega), gd_of (inb_ok (by omega) (by omega)), gd_of (inb_ok (by omega) (by omega)), zI_clamp (by omega), h35 i hin, zs_add]
    by_cases hb : S.testBit i = true
    · rw [if_pos hb]
      obtain ⟨hpick, hpf⟩ := lst_pick (show i < 12 by omega) hb hfe
      obtain ⟨c, hc, h1, h2⟩ := fe_ex (show i < 12 by omega) hb hfe
      obtain ⟨τ, e1, f1, p1, l1⟩ := settle_in hS hin (fun (σ24 : Sg) => fX4_settle_86 (nI S) f' (nI (i + 1)) σ24) rfl 8 0 F σ (by omega) hF8 hP h35 ⟨c, Nat.zero_le c, by omega, by rw [h1, h2]; rfl⟩
      rw [hpick] at l1
      obtain ⟨τ2, e2, f2, p2, l2⟩ := ih (i + 1) f' τ (by omega) (by omega) p1 l1 hpf
      rw [show (0 : Int32) = nI 0 from rfl] at e1 ⊢
      exact ⟨τ2, e1.trans e2, f1.trans f2, p2, l2⟩
    · rw [if_neg hb]
      obtain ⟨g, rfl⟩ : ∃ g, F = g + 1 := ⟨F - 1, by omega⟩
      have e1 : fX4_settle_123 (nI S) (nI i) (nI (fl M (phs (ph2 M S) φ0 i) i)) (fun (σ24 : Sg) => fX4_settle_86 (nI S) f' (nI (i + 1)) σ24) (g + 1) (1 : Int32) (0 : Int32) σ = fX4_settle_86 (nI S) f' (nI (i + 1)) σ := by
        rw [fX4_settle_123, if_neg (by decide), if_neg (by decide)]
      obtain ⟨τ2, e2, f2, p2, l2⟩ := ih (i + 1) f' σ (by omega) (by omega) hP (by rw [phs, ph2_no hb]; exact h35) (by rw [phs, ph2_no hb]; exact hfe)
      exact ⟨τ2, e1.trans e2, f2, p2, l2⟩
