/-! Layer 2, 44: the calls about sets -/
theorem Rel.pk {t : Nat} {M : Mk} {σ τ σ' τ' : Sg} (h : Rel t M σ τ) (f : PkF σ σ') (p : PkI t M σ') (e : τ' 1 = τ 1) (m : MF τ τ') : Rel t M σ' τ' :=
  h.fr f.xf m p (by rw [e]; exact h.2.1) (by rw [e]; exact h.2.2.1.pk f)
theorem rpx {σ τ : Sg} {v : Int32} (f : RpF (sup σ 0 0 v) τ) : τ 1 = σ 1 ∧ MF σ τ ∧ τ 0 0 = v :=
  ⟨(f.1 1 (by decide) (by decide)).trans (s00_1 σ v), (MF.s00 σ v).trans f.mf, (f.2 0 (by decide)).trans (s00_0 σ v)⟩
theorem op_isFeasible {t : Nat} {M : Mk} {σ τ : Sg} (h : Rel t M σ τ) (a : Int32) : Agr ["java/lang/IllegalArgumentException"] t (fX6_isFeasible a σ) (fX7_isFeasible a τ) := by
  have hp := h.1
  have hr := h.2.1
  have hM := hp.2.1
  have hn := hM.1.1
  rw [fX6_isFeasible, fX7_isFeasible]
  rcases set_dec M.n hn a with ⟨S, hS, rfl⟩ | hno
  · rw [reqSet_ok hn hp.1.1 hS, bx_inr, areSt_ok hn hr hS, bd_some]
    simp only [jp_eq]
    rw [if_neg (by decide), fails0, bd_some, if_pos rfl]
    obtain ⟨σ1, e1, f1, p1⟩ := fits_eq hp hS
    obtain ⟨τ1, e2, f2⟩ := poss_eq hM hS (σ := sup τ 0 0 0) (by rw [s00_1]; exact hr)
    obtain ⟨k1, k2, k3⟩ := rpx f2
    rw [e1, bd_some, e2, bd_some]
    by_cases q : 0 < M.cnt M.av S
    · rw [if_pos q, if_neg (by decide), gd_of (by decide)]
      exact Agr.ok (h.pk f1 p1 k1 k2) k3
    · rw [if_neg q, if_pos rfl, gd_of (by decide)]
      exact Agr.ok (h.pk f1 p1 k1 k2) k3
  · rw [reqSet_no hn hp.1.1 hno, bx_inl, areSt_no hn hr hno, bd_some]
    simp only [jp_eq]
    rw [if_pos trivial, fails1, bd_some, if_neg (by decide)]
    exact Agr.no (h.s00 1) 0 rfl (s00_0 τ 1)
theorem op_assignments {t : Nat} {M : Mk} {σ τ : Sg} (h : Rel t M σ τ) (a : Int32) : Agr ["java/lang/IllegalArgumentException"] t (fX6_assignments a σ) (fX7_assignments a τ) := by
  have hp := h.1
  have hr := h.2.1
  have hM := hp.2.1
  have hn := hM.1.1
  rw [fX6_assignments, fX7_assignments]
  rcases set_dec M.n hn a with ⟨S, hS, rfl⟩ | hno
  · rw [reqSet_ok hn hp.1.1 hS, bx_inr, areSt_ok hn hr hS, bd_some]
    simp only [jp_eq]
    rw [if_neg (by decide), fails0, bd_some, if_pos rfl]
    obtain ⟨σ1, e1, f1, l1, k0, p1⟩ := allow_pk hp (a := M.av)
    obtain ⟨σ2, e2, f2, -, kk, p2⟩ := solutions_eq hM.1 hS (show 1 ≤ 1000 by decide) (by decide) (lf_lt hM M.av) p1.1.1 p1.rows.2 l1 p1.2.2.1
    have hp2 : PkI t M σ2 := ⟨p1.1.pk f2, p1.2.1, p2, p1.2.2.2.keep f2.2 kk⟩
    have hr0 : RefM ((sup τ 0 0 0) 1) M := by rw [s00_1]; exact hr
    obtain ⟨τ1, g1, g2, g3⟩ := start_eq hM hS (a := M.av) hr0
    obtain ⟨τ2, g4, g5⟩ := count_eq hM hS (show 1 ≤ 1000 by decide) (by decide) (sl_lt hM S M.av) (hr0.rp g2) g3
    obtain ⟨k1, k2, k3⟩ := rpx (g2.trans g5)
    rw [hp.1.2.2.1, e1, bd_some, show (1000 : Int32) = nI 1000 from rfl, e2, bd_some, hr0.2.1, g1, bd_some, g4, bd_some, sl_num]
    exact Agr.ok (h.pk (f1.trans f2) hp2 k1 k2) k3
  · rw [reqSet_no hn hp.1.1 hno, bx_inl, areSt_no hn hr hno, bd_some]
    simp only [jp_eq]
    rw [if_pos trivial, fails1, bd_some, if_neg (by decide)]
    exact Agr.no (h.s00 1) 0 rfl (s00_0 τ 1)
theorem reqFe_ok {B : Nat} {M : Mk} {σ : Sg} (h : PkI B M σ) {S : Nat} (hS : S < 2 ^ M.n) (hf : 0 < M.cnt M.av S) : ∃ τ, fX6_requireFeasible (nI S) σ = some (.inr (), τ) ∧ PkF σ τ ∧ PkI B M τ := by
  obtain ⟨τ, e1, f1, p1⟩ := fits_eq h hS
  rw [fX6_requireFeasible, e1, bd_some, if_pos hf, if_neg (by decide)]
  exact ⟨τ, rfl, f1, p1⟩
theorem reqFe_no {B : Nat} {M : Mk} {σ : Sg} (h : PkI B M σ) {S : Nat} (hS : S < 2 ^ M.n) (hf : ¬ 0 < M.cnt M.av S) : ∃ τ, fX6_requireFeasible (nI S) σ = some (.inl "java/lang/IllegalStateException", τ) ∧ PkF σ τ ∧ PkI B M τ := by
  obtain ⟨τ, e1, f1, p1⟩ := fits_eq h hS
  rw [fX6_requireFeasible, e1, bd_some, if_neg hf, if_pos rfl]
  exact ⟨τ, rfl, f1, p1⟩
/-- the beginning of a call that wants a feasible set -/
theorem fe_start {t : Nat} {M : Mk} {σ τ : Sg} (h : Rel t M σ τ) {S : Nat} (hS : S < 2 ^ M.n) :
    (0 < M.cnt M.av S ∧ ∃ σ1 τ1, fX6_requireFeasible (nI S) σ = some (.inr (), σ1) ∧ fX7_isPossible (nI S) (sup τ 0 0 0) = some (1, τ1) ∧ Rel t M σ1 (sup τ1 0 0 0) ∧ PkF σ σ1) ∨
    (¬ 0 < M.cnt M.av S ∧ ∃ σ1 τ1, fX6_requireFeasible (nI S) σ = some (.inl "java/lang/IllegalStateException", σ1) ∧ fX7_isPossible (nI S) (sup τ 0 0 0) = some (0, τ1) ∧ Rel t M σ1 τ1) := by
  obtain ⟨τ1, e2, f2⟩ := poss_eq h.1.2.1 hS (σ := sup τ 0 0 0) (by rw [s00_1]; exact h.2.1)
  obtain ⟨k1, k2, k3⟩ := rpx f2
  by_cases q : 0 < M.cnt M.av S
  · obtain ⟨σ1, e1, f1, p1⟩ := reqFe_ok h.1 hS q
    rw [if_pos q] at e2
    exact Or.inl ⟨q, σ1, τ1, e1, e2, (h.pk f1 p1 k1 k2).s00 0, f1⟩
  · obtain ⟨σ1, e1, f1, p1⟩ := reqFe_no h.1 hS q
    rw [if_neg q] at e2
    exact Or.inr ⟨q, σ1, τ1, e1, e2, h.pk f1 p1 k1 k2⟩
theorem op_channelsNeeded {t : Nat} {M : Mk} {σ τ : Sg} (h : Rel t M σ τ) (a : Int32) : Agr ["java/lang/IllegalArgumentException", "java/lang/IllegalStateException"] t (fX6_channelsNeeded a σ) (fX7_channelsNeeded a τ) := by
  have hp := h.1
  have hr := h.2.1
  have hM := hp.2.1
  have hn := hM.1.1
  rw [fX6_channelsNeeded, fX7_channelsNeeded]
  rcases set_dec M.n hn a with ⟨S, hS, rfl⟩ | hno
  · rw [reqSet_ok hn hp.1.1 hS, bx_inr, areSt_ok hn hr hS, bd_some]
    simp only [jp_eq]
    rw [if_neg (by decide), fails0, bd_some, if_pos rfl]
    rcases fe_start h hS with ⟨q, σ1, τ1, e1, e2, h1, -⟩ | ⟨q, σ1, τ1, e1, e2, h1⟩
    · rw [e1, bx_inr, e2, bd_some, if_neg (by decide), fails0, bd_some, if_pos rfl]
      obtain ⟨σ2, e3, f3, p3⟩ := few_eq hS h1.1
      obtain ⟨F, hF8, hFe⟩ : ∃ F, 256 < F ∧ FU = F := ⟨FU, by unfold FU; omega, rfl⟩
      obtain ⟨τ2, e4, f4⟩ := rnd_loop hM hS 256 0 F (sup τ1 0 0 0) (by omega) (by omega) h1.2.1
      rw [e3, bd_some, hFe]
      rw [show nI (rnn M S 0) = (8 : Int32) from rfl, show nI 0 = (0 : Int32) from rfl] at e4
      rw [e4]
      exact Agr.ok (h1.pk f3 p3 (f4.1 1 (by decide) (by decide)) f4.mf) ((f4.2 0 (by decide)).trans (s00_0 τ1 0))
    · rw [e1, bx_inl, e2, bd_some, if_pos rfl, fails1, bd_some, if_neg (by decide)]
      exact Agr.no (h1.s00 2) 1 rfl (s00_0 τ1 2)
  · rw [reqSet_no hn hp.1.1 hno, bx_inl, areSt_no hn hr hno, bd_some]
    simp only [jp_eq]
    rw [if_pos trivial, fails1, bd_some, if_neg (by decide)]
    exact Agr.no (h.s00 1) 0 rfl (s00_0 τ 1)
theorem op_core {t : Nat} {M : Mk} {σ τ : Sg} (h : Rel t M σ τ) (a b : Int32) : Agr ["java/lang/IndexOutOfBoundsException", "java/lang/IllegalArgumentException", "java/util/NoSuchElementException"] t (fX6_core a b σ) (fX7_core a b τ) := by
  have hp := h.1
  have hr := h.2.1
  have hM := hp.2.1
  have hn := hM.1.1
  rw [fX6_core, fX7_core]
  rcases sta_dec M a with ⟨s, hs, rfl⟩ | hna
  · rw [reqSta_ok hn hp.1.1 hs, bx_inr, isSta_ok hn hr hs, bd_some]
    simp only [jp_eq]
    rw [if_neg (by decide), fails0, bd_some, if_pos rfl]
    have hr0 : RefM ((sup τ 0 0 0) 1) M := by rw [s00_1]; exact hr
    rcases set_dec M.n hn b with ⟨S, hS, rfl⟩ | hno
    · rw [reqSet_ok hn hp.1.1 hS, bx_inr, areSt_ok hn hr0 hS, bd_some, if_neg (by decide), fails0, bd_some, if_pos rfl]
      have hr1 : RefM ((sup (sup τ 0 0 0) 0 0 0) 1) M := by rw [s00_1]; exact hr0
      have hS2 : S ||| 2 ^ s < 2 ^ M.n := or_lt hS (Nat.pow_lt_pow_right (by decide) hs)
      obtain ⟨σ1, e1, f1, p1⟩ := fits_eq hp hS2
      obtain ⟨τ1, e2, f2⟩ := poss_eq hM hS2 hr1
      obtain ⟨k1, k2, k3⟩ := rpx f2
      have h1 : Rel t M σ1 τ1 := (h.s00 0).pk f1 p1 k1 k2
      rw [zI_one_shl (by omega), zI_or, e1, bd_some, e2, bd_some]
      by_cases q : 0 < M.cnt M.av (S ||| 2 ^ s)
      · rw [if_pos q, if_neg (by decide), fails1, bd_some, if_neg (by decide)]
        exact Agr.no (h1.s00 3) 2 rfl (s00_0 τ1 3)
      · rw [if_neg q, if_pos rfl, fails0, bd_some, if_pos rfl, zI_ndf]
        have hbad : bad M s S = true := decide_eq_true q
        have hbad2 : bad M s (ndf S (2 ^ s)) = true := by
          unfold bad
          rw [ndf_bit_or]
          exact hbad
        obtain ⟨σ2, x, e3, i3', f3, p3⟩ := sr_eq hs hS hbad p1
        obtain ⟨τ2, y, e4, i4, f4⟩ := reason_eq hM hs (ndf_lt hS) hbad2 (h1.s00 0).2.1
        obtain ⟨k4, k5, k6⟩ := rpx f4
        rw [e3, bd_some, e4, bd_some, i3'.uniq i4]
        exact Agr.ok (h1.pk f3 p3 k4 k5) k6
    · rw [reqSet_no hn hp.1.1 hno, bx_inl, areSt_no hn hr0 hno, bd_some, if_pos rfl, fails1, bd_some, if_neg (by decide)]
      exact Agr.no ((h.s00 0).s00 2) 1 rfl (s00_0 _ 2)
  · rw [reqSta_no hn hp.1.1 hna, bx_inl, isSta_no hn hr hna, bd_some]
    simp only [jp_eq]
    rw [if_pos trivial, fails1, bd_some, if_neg (by decide)]
    exact Agr.no (h.s00 1) 0 rfl (s00_0 τ 1)
