/-! Layer 2, 45: assign, repack -/
theorem bidk_wkp {M : Mk} {k : Nat → Int32} {A : Au} : ∀ i, bidk (M.wkp k) A i = bidk M A i := by
  intro i
  induction i with
  | zero => rfl
  | succ i ih => rw [bidk, bidk, ih]
theorem airk_wkp {M : Mk} {k : Nat → Int32} {A : Au} : ∀ i, airk (M.wkp k) A i = airk M A i := by
  intro i
  induction i with
  | zero => rfl
  | succ i ih => rw [airk, airk, ih]
theorem stt_wkp {M : Mk} {k : Nat → Int32} {A : Au} (i s : Nat) : stt (M.wkp k) A i s = stt M A i s := by
  unfold stt
  rw [bidk_wkp]
theorem AucOK.wkp {M : Mk} {k : Nat → Int32} {A : Au} (h : AucOK M A) : AucOK (M.wkp k) A := by
  obtain ⟨h1, h2, h3, h4, h5, h6, h7, h8⟩ := h
  refine ⟨h1, h2, h3, h4, fun i hi => ?_, h6, h7, h8⟩
  rw [bidk_wkp, airk_wkp]
  exact h5 i hi
theorem AEnd.wkp {M : Mk} {k : Nat → Int32} {A : Au} (h : AEnd M A) : AEnd (M.wkp k) A := by
  unfold AEnd at h ⊢
  rw [bidk_wkp]
  exact h
theorem AucX.wkp {f r : Nat} {σ : Sg} {M : Mk} {k : Nat → Int32} {A : Au} (h : AucX f r σ M A) : AucX f r σ (M.wkp k) A := by
  unfold AucX at h ⊢
  rw [airk_wkp, bidk_wkp]
  obtain ⟨g5, g6, g7, g8, g9, gb, gp, ge⟩ := h
  refine ⟨g5, g6, g7, g8, g9, gb, gp, fun i hi => ?_⟩
  rw [airk_wkp]
  exact ge i hi
theorem AucM.wkp {g : Nat → Int32} {M : Mk} {k : Nat → Int32} {A : Au} (h : AucM g M A) : AucM g (M.wkp k) A := by
  obtain ⟨g3, gr, gp, gc, ge⟩ := h
  refine ⟨g3, fun i hi => ?_, fun i hi s hs => ?_, gc, fun i hi => ?_⟩
  · obtain ⟨a1, a2, a3⟩ := gr i hi
    refine ⟨a1, a2, fun s hs => ?_⟩
    rw [stt_wkp]
    exact a3 s hs
  · rw [bidk_wkp]
    exact gp i hi s hs
  · rw [airk_wkp]
    exact ge i hi
theorem AucM.of88 {g g' : Nat → Int32} {M : Mk} {A : Au} (h : AucM g M A) (e : ∀ j, 88 ≤ j ∨ j = 3 → g' j = g j) : AucM g' M A := by
  obtain ⟨g3, gr, gp, gc, ge⟩ := h
  refine ⟨(e 3 (by omega)).trans g3, fun i hi => ?_, fun i hi s hs => ?_, fun s hs => ?_, fun i hi => ?_⟩
  · obtain ⟨a1, a2, a3⟩ := gr i hi
    refine ⟨(e _ (by omega)).trans a1, (e _ (by omega)).trans a2, fun s hs => ?_⟩
    rw [e _ (by omega)]
    exact a3 s hs
  · rw [e _ (by omega)]
    exact gp i hi s hs
  · rw [e _ (by omega)]
    exact gc s hs
  · rw [e _ (by omega), e _ (by omega)]
    exact ge i hi
theorem KnR.wkp {σ σ' : Sg} {g g' : Nat → Int32} {M : Mk} {k : Nat → Int32} (h : KnR 7 27 σ g M) (e7 : σ' 7 = σ 7) (e1 : σ' 27 = σ 27) (e2 : σ' 28 = σ 28) (e3 : σ' 29 = σ 29) (e4 : σ' 30 = σ 30) (e : ∀ j, 88 ≤ j ∨ j = 3 ∨ j = 2 → g' j = g j) : KnR 7 27 σ' g' (M.wkp k) := by
  have h' := h.fr e7 e1 e2 e3 e4
  rcases h' with ⟨a, b⟩ | ⟨a, b, A, c1, c2, c3, c4, c5⟩
  · exact Or.inl ⟨a, (e 2 (by omega)).trans b⟩
  · exact Or.inr ⟨a, (e 2 (by omega)).trans b, A, c1.wkp, c2.wkp, c3.wkp, (c4.of88 fun j hj => e j (by omega)).wkp, by unfold Fe at c5 ⊢; rw [airk_wkp]; exact c5⟩
/-- the class settles and keeps -/
theorem keep_eq {B : Nat} {M : Mk} {σ : Sg} (h : PkI B M σ) {S : Nat} (hS : S < 2 ^ M.n) (hfeas : 0 < M.cnt M.av S) (b : Bool) :
    ∃ τ g, fX4_settle (nI S) (if b then 1 else 0) σ = some ((), τ) ∧ fX4_keep (nI S) τ = some (nI (chg M S (fnl M S b) M.n), sst τ 14 g) ∧ PkF σ τ ∧ PkI B M τ ∧ ∀ s, s < M.n → g s = nkp S (fnl M S b) s := by
  have hM := h.2.1
  have hn := hM.1.1
  obtain ⟨τ, e1, f1, p1, l1⟩ := settle_eq h hS hfeas b
  refine ⟨τ, (fun j => if 0 ≤ j ∧ j < M.n then nkp S (fnl M S b) j else τ 14 j), e1, ?_, f1, p1, fun s hs => ?_⟩
  · rw [fX4_keep, show (0 : Int32) = nI (chg M S (fnl M S b) 0) from rfl]
    exact keep_loop hM hS (fun t ht => fin_some hM hS hfeas b ht) M.n 0 FU τ (by omega) (by unfold FU; omega) p1.1.1 l1 (fun t _ ht => (p1.1.2.2.2.1 t ht).2.2.2)
  · exact if_pos ⟨Nat.zero_le s, hs⟩
theorem Rel.wkp {t : Nat} {M : Mk} {σ τ σ' τ' : Sg} (h : Rel t M σ τ) (f : PkF σ σ') (p : PkI t M σ') {k g : Nat → Int32} (hk : KpOK M.n k) (hg : ∀ s, s < M.n → g s = k s) (e : τ' 1 = kpr M.n k (τ 1)) (m : MF τ τ') : Rel t (M.wkp k) (sst σ' 14 g) τ' := by
  have hn := p.2.1.1.1
  refine h.fr (f.xf.trans fun j hj => sst_ne (by omega)) m (p.wkp hk hg) (by rw [e]; exact h.2.1.wkp hn k) ?_
  have hkn := h.2.2.1.pk f
  refine hkn.wkp (sst_ne (by decide)) (sst_ne (by decide)) (sst_ne (by decide)) (sst_ne (by decide)) (sst_ne (by decide)) fun j hj => ?_
  rw [e]
  unfold kpr
  rw [if_neg (by omega)]
/-- the reference fixes nothing and keeps -/
theorem rkeep0 {M : Mk} (hM : M.WF) {S : Nat} (hS : S < 2 ^ M.n) (hfeas : 0 < M.cnt M.av S) {τ : Sg} (hr : RefM (τ 1) M) :
    ∃ τ1 τ2, fX7_fixNone τ = some ((), τ1) ∧ fX7_keepFirst (nI S) τ1 = some ((), τ2) ∧ τ2 1 = kpr M.n (nkp S (fnl M S false)) (τ 1) ∧ MF τ τ2 ∧ τ2 0 0 = τ 0 0 := by
  obtain ⟨τ1, e1, g1, g2⟩ := fxn_eq τ
  have r1 : RefM (τ1 1) M := by rw [g1 1 (by decide)]; exact hr
  obtain ⟨τ2, e2, f2⟩ := rkeepFirst_eq hM hS (φ0 := fun _ => none) (decide_eq_true hfeas) (fun t c hc => by cases hc) r1 (fun t ht => by
    rw [g2 t (by have := hM.1.1; omega)]
    rfl)
  refine ⟨τ1, _, e1, e2, ?_, ?_, ?_⟩
  · rw [sst_self, g1 1 (by decide)]
    rfl
  · have hm := f2.rf.mf
    refine ⟨?_, ?_, ?_, ?_, ?_⟩
    · rw [sst_ne (by decide), hm.1, g1 2 (by decide)]
    · rw [sst_ne (by decide), hm.2.1, g1 3 (by decide)]
    · rw [sst_ne (by decide), hm.2.2.1, g1 0 (by decide)]
    · rw [sst_ne (by decide), hm.2.2.2.1, g1 0 (by decide)]
    · rw [sst_ne (by decide), hm.2.2.2.2, g1 0 (by decide)]
  · rw [sst_ne (by decide), f2.2 0 (by decide), g1 0 (by decide)]
theorem op_assign {t : Nat} {M : Mk} {σ τ : Sg} (h : Rel t M σ τ) (a : Int32) : Agr ["java/lang/IllegalArgumentException", "java/lang/IllegalStateException"] t (fX6_assign a σ) (fX7_assign a τ) := by
  have hp := h.1
  have hr := h.2.1
  have hM := hp.2.1
  have hn := hM.1.1
  rw [fX6_assign, fX7_assign]
  rcases set_dec M.n hn a with ⟨S, hS, rfl⟩ | hno
  · rw [reqSet_ok hn hp.1.1 hS, bx_inr, areSt_ok hn hr hS, bd_some]
    simp only [jp_eq]
    rw [if_neg (by decide), fails0, bd_some, if_pos rfl]
    rcases fe_start h hS with ⟨q, σ1, τ1, e1, e2, h1, -⟩ | ⟨q, σ1, τ1, e1, e2, h1⟩
    · rw [e1, bx_inr, e2, bd_some, if_neg (by decide), fails0, bd_some, if_pos rfl]
      obtain ⟨σ2, g, e3, e4, f3, p3, hg⟩ := keep_eq h1.1 hS q false
      obtain ⟨τ2, τ3, d1, d2, d3, d4, d5⟩ := rkeep0 hM hS q h1.2.1
      have hkp := nkp_ok hM hS q false
      have h2 := h1.wkp f3 p3 hkp hg d3 d4
      obtain ⟨F, hF8, hFe⟩ : ∃ F, 12 < F ∧ FU = F := ⟨FU, by unfold FU; omega, rfl⟩
      have u1 : fX3_usedChannels (sst σ2 14 g) = some (nI (usd (nkp S (fnl M S false)) M.n), sst σ2 14 g) := by
        rw [fX3_usedChannels, hFe]
        exact used_loop hn hkp h2.1.1.1 (fun s hs => (h2.1.1.2.2.2.1 s hs).2.2.2) M.n 0 F (by omega) (by omega)
      have u3 : usd (nkp S (fnl M S false)) M.n < 2 ^ 12 := Nat.lt_trans (usd_lt hkp M.n (Nat.le_refl _)) (by decide)
      have u2 : ∀ K : Int32 → Sg → Option (Int32 × Sg), fX7_assign_57 K F 0 0 τ3 = K (nI (usd (nkp S (fnl M S false)) M.n)) τ3 := fun K =>
        rused_loop hn hkp K h2.2.1.1 (fun s hs => (h2.2.1.2.2 s hs).2.2.2.2.1) M.n 0 F (by omega) (by omega)
      have e3' : fX4_settle (nI S) 0 σ1 = some ((), σ2) := e3
      rw [e3', bd_some, e4, bd_some, u1, bd_some, d1, bd_some, d2, bd_some, hFe, u2, bitCount_nI u3, cb_eq u3, bd_some]
      exact Agr.ok h2 (d5.trans (s00_0 τ1 0))
    · rw [e1, bx_inl, e2, bd_some, if_pos rfl, fails1, bd_some, if_neg (by decide)]
      exact Agr.no (h1.s00 2) 1 rfl (s00_0 τ1 2)
  · rw [reqSet_no hn hp.1.1 hno, bx_inl, areSt_no hn hr hno, bd_some]
    simp only [jp_eq]
    rw [if_pos trivial, fails1, bd_some, if_neg (by decide)]
    exact Agr.no (h.s00 1) 0 rfl (s00_0 τ 1)
theorem op_repack {t : Nat} {M : Mk} {σ τ : Sg} (h : Rel t M σ τ) (a : Int32) : Agr ["java/lang/IllegalArgumentException", "java/lang/IllegalStateException"] t (fX6_repack a σ) (fX7_repack a τ) := by
  have hp := h.1
  have hr := h.2.1
  have hM := hp.2.1
  have hn := hM.1.1
  rw [fX6_repack, fX7_repack]
  rcases set_dec M.n hn a with ⟨S, hS, rfl⟩ | hno
  · rw [reqSet_ok hn hp.1.1 hS, bx_inr, areSt_ok hn hr hS, bd_some]
    simp only [jp_eq]
    rw [if_neg (by decide), fails0, bd_some, if_pos rfl]
    rcases fe_start h hS with ⟨q, σ1, τ1, e1, e2, h1, -⟩ | ⟨q, σ1, τ1, e1, e2, h1⟩
    · rw [e1, bx_inr, e2, bd_some, if_neg (by decide), fails0, bd_some, if_pos rfl]
      obtain ⟨σ2, g, e3, e4, f3, p3, hg⟩ := keep_eq h1.1 hS q true
      have e3' : fX4_settle (nI S) 1 σ1 = some ((), σ2) := e3
      rw [e3', bd_some, e4, bd_some]
      obtain ⟨F, hF8, hFe⟩ : ∃ F, 12 < F ∧ FU = F := ⟨FU, by unfold FU; omega, rfl⟩
      obtain ⟨τ2, d1, g1, g2⟩ := fxn_eq (sup τ1 0 0 0)
      have r2 : RefM (τ2 1) M := by rw [g1 1 (by decide)]; exact h1.2.1
      rw [d1, bd_some, hFe, show (0 : Int32) = nI 0 from rfl]
      obtain ⟨τ3, d2, f2, l2, l3, l4⟩ := rp_loop hM hS (fun (σ42 : Sg) => bd (fX7_keepFirst (nI S) σ42) (fun (_ : Unit) (σ43 : Sg) => fX7_repack_141 (nI S) F (nI 0) (nI 0) σ43)) M.n 0 F τ2 (by omega) (by omega) r2 (fun s hs => by
        rw [g2 s (by omega)]
        rfl) (fun _ _ => rfl) (fun s c hc => by cases hc) (fun s hs => absurd hs (Nat.not_lt_zero s))
      have r3 := r2.rf f2
      have hfe : fe M S (phs (ph1 M S) (fun _ => none) M.n) = true := phs_fe (fun φ s _ h => ph1_fe h) (show fe M S (fun _ => none) = true from decide_eq_true q) M.n hn
      obtain ⟨τ4, d3, f3'⟩ := rkeepFirst_eq hM hS hfe l3 r3 l2
      have d4 : (sst τ4 1 (kpr M.n (nkp S (phs (ph2 M S) (phs (ph1 M S) (fun _ => none) M.n) M.n)) (τ3 1))) 1 = kpr M.n (nkp S (fnl M S true)) ((sup τ1 0 0 0) 1) := by
        rw [sst_self, f2.1, g1 1 (by decide)]
        rfl
      have m4 : MF (sup τ1 0 0 0) (sst τ4 1 (kpr M.n (nkp S (phs (ph2 M S) (phs (ph1 M S) (fun _ => none) M.n) M.n)) (τ3 1))) := by
        have hm := f3'.rf.mf
        have hm2 := f2.mf
        refine ⟨?_, ?_, ?_, ?_, ?_⟩
        · rw [sst_ne (by decide), hm.1, hm2.1, g1 2 (by decide)]
        · rw [sst_ne (by decide), hm.2.1, hm2.2.1, g1 3 (by decide)]
        · rw [sst_ne (by decide), hm.2.2.1, hm2.2.2.1, g1 0 (by decide)]
        · rw [sst_ne (by decide), hm.2.2.2.1, hm2.2.2.2.1, g1 0 (by decide)]
        · rw [sst_ne (by decide), hm.2.2.2.2, hm2.2.2.2.2, g1 0 (by decide)]
      have h2 := h1.wkp f3 p3 (nkp_ok hM hS q true) hg d4 m4
      have d5 := rchg_loop hM hS (φ := fnl M S true) M.n 0 F (sst τ4 1 (kpr M.n (nkp S (phs (ph2 M S) (phs (ph1 M S) (fun _ => none) M.n) M.n)) (τ3 1))) (by omega) (by omega) h2.2.1.1 (fun s hs => (h2.2.1.2.2 s hs).2.2.2.2.1) (fun s hs => by
        rw [sst_ne (by decide)]
        have e9 : τ4 9 = τ3 9 := f3'.1 9 (by decide) (by decide) (by decide)
        rw [e9]
        exact l4 s hs)
      rw [show nI (chg M S (fnl M S true) 0) = nI 0 from rfl] at d5
      rw [d2, d3, bd_some, d5]
      refine Agr.ok h2 ?_
      rw [sst_ne (by decide), f3'.2 0 (by decide), f2.2.2.2 0 (by decide), g1 0 (by decide)]
      exact s00_0 τ1 0
    · rw [e1, bx_inl, e2, bd_some, if_pos rfl, fails1, bd_some, if_neg (by decide)]
      exact Agr.no (h1.s00 2) 1 rfl (s00_0 τ1 2)
  · rw [reqSet_no hn hp.1.1 hno, bx_inl, areSt_no hn hr hno, bd_some]
    simp only [jp_eq]
    rw [if_pos trivial, fails1, bd_some, if_neg (by decide)]
    exact Agr.no (h.s00 1) 0 rfl (s00_0 τ 1)
