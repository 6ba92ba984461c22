/-! Layer 2, 46: open, round, run, back, close, cancel -/
def AS (t : Nat) (M : Mk) (σ τ : Sg) (A : Au) : Prop := PkI t M σ ∧ RefM (τ 1) M ∧ AucOK M A ∧ AEnd M A ∧ AucX 7 27 σ M A ∧ AucM (τ 1) M A
theorem kn_cases {t : Nat} {M : Mk} {σ τ : Sg} (h : Rel t M σ τ) : (σ 7 4 = 0 ∧ τ 1 2 = 0) ∨ (σ 7 4 = 1 ∧ τ 1 2 = 1 ∧ ∃ A, AS t M σ τ A ∧ Fe M A) := by
  rcases h.2.2.1 with z | ⟨a, b, A, c1, c2, c3, c4, c5⟩
  · exact Or.inl z
  · exact Or.inr ⟨a, b, A, ⟨h.1, h.2.1, c1, c2, c3, c4⟩, c5⟩
theorem AS.s00 {t : Nat} {M : Mk} {σ τ : Sg} {A : Au} (h : AS t M σ τ A) (v : Int32) : AS t M σ (sup τ 0 0 v) A := by
  unfold AS at h ⊢
  rw [s00_1]
  exact h
theorem known0 {σ : Sg} (h : σ 1 2 = 0) : fX7_isKnown σ = some (0, σ) := by
  rw [fX7_isKnown, h, if_neg (by decide)]
theorem known1 {σ : Sg} (h : σ 1 2 = 1) : fX7_isKnown σ = some (1, σ) := by
  rw [fX7_isKnown, h, if_pos rfl]
theorem reqA0 {σ : Sg} (h : σ 7 4 = 0) : fX6_requireAuction σ = some (.inl "java/lang/IllegalStateException", σ) := by
  rw [fX6_requireAuction, h, if_pos rfl]
theorem reqA1 {σ : Sg} (h : σ 7 4 = 1) : fX6_requireAuction σ = some (.inr (), σ) := by
  rw [fX6_requireAuction, h, if_neg (by decide)]
theorem reqN0 {σ : Sg} (h : σ 7 4 = 0) : fX6_requireNoAuction σ = some (.inr (), σ) := by
  rw [fX6_requireNoAuction, h, if_pos rfl]
theorem reqN1 {σ : Sg} (h : σ 7 4 = 1) : fX6_requireNoAuction σ = some (.inl "java/lang/UnsupportedOperationException", σ) := by
  rw [fX6_requireNoAuction, h, if_neg (by decide)]
theorem bid_pc {t : Nat} {M : Mk} {σ τ : Sg} {A : Au} (h : AS t M σ τ A) : pJ6_bitCount_0f7a4 (σ 7 7) = nI (pc (bidk M A A.m)) := by
  rw [h.2.2.2.2.1.2.2.1, bitCount_nI (h.1.2.1.1.lt12 (bidk_lt h.1.2.1 _))]
theorem rbid_pc {t : Nat} {M : Mk} {σ τ : Sg} {A : Au} (h : AS t M σ τ A) : bd (fX7_in 1 τ) (fun (r18 : Int32) (σ19 : Sg) => bd (fX7_countBits r18 σ19) (fun (r21 : Int32) (σ22 : Sg) => some (r21, σ22))) = some (nI (pc (bidk M A A.m)), τ) := by
  have hM := h.1.2.1
  rw [in1_eq hM h.2.2.1 h.2.1 h.2.2.2.2.2, bd_some, cb_eq (hM.1.lt12 (bidk_lt hM _)), bd_some]
theorem over_eq {t : Nat} {M : Mk} {σ τ : Sg} {A : Au} (h : AS t M σ τ A) : fX0_isOver σ = some (if bidk M A A.m = 0 then 1 else 0, σ) := by
  rw [fX0_isOver, h.2.2.2.2.1.2.2.1, if_eq0 (h.1.2.1.1.lt31 (bidk_lt h.1.2.1 _))]
  split <;> rfl
theorem rover_eq {t : Nat} {M : Mk} {σ τ : Sg} {A : Au} (h : AS t M σ τ A) (hk : τ 1 2 = 1) : fX7_isOver τ = some (if bidk M A A.m = 0 then 1 else 0, τ) := by
  have hM := h.1.2.1
  rw [fX7_isOver, known1 hk, bd_some]
  simp only [jp_eq]
  rw [if_neg (by decide), in1_eq hM h.2.2.1 h.2.1 h.2.2.2.2.2, bd_some, if_eq0 (hM.1.lt31 (bidk_lt hM _))]
  split <;> rfl
theorem rover0 {τ : Sg} (hk : τ 1 2 = 0) : fX7_isOver τ = some (0, τ) := by
  rw [fX7_isOver, known0 hk, bd_some]
  simp only [jp_eq]
  rw [if_pos trivial]
/-- a relation behind an auction's step -/
theorem Rel.as {t : Nat} {M : Mk} {σ τ σ' τ' : Sg} {A : Au} (h : Rel t M σ τ) (hx : XF σ σ') (hm : MF τ τ') (ha : AS t M σ' τ' A) (hf : Fe M A) (h4 : σ' 7 4 = 1) (h2 : τ' 1 2 = 1) : Rel t M σ' τ' :=
  h.fr hx hm ha.1 ha.2.1 (Or.inr ⟨h4, h2, A, ha.2.2.1, ha.2.2.2.1, ha.2.2.2.2.1, ha.2.2.2.2.2, hf⟩)
theorem air_mono {M : Mk} {A : Au} : ∀ k j, j ≤ k → sbs (airk M A j) (airk M A k) := by
  intro k
  induction k with
  | zero => intro j hj; rw [show j = 0 by omega]; exact fun _ z => z
  | succ k ih =>
    intro j hj
    rcases Nat.eq_or_lt_of_le hj with e | e
    · rw [e]; exact fun _ z => z
    · intro i hi
      have := ih j (by omega) i hi
      rw [airk]
      split
      · rw [Nat.testBit_or, this]; rfl
      · exact this
theorem Fe.cons {M : Mk} {A : Au} (h : Fe M A) (s : Nat) : Fe M (cons M A s) := by
  unfold Fe at h ⊢
  unfold Jvm.Pilot.CSpectrumReallocatorLaw_law_r2155_b68a8e.cons
  split
  · next q =>
    split
    · rw [airk_prc]
      exact h
    · show 0 < M.cnt M.av (airk M (A.add s 0) (A.m + 1))
      rw [air_add1, if_pos rfl]
      exact q
  · show 0 < M.cnt M.av (airk M (A.add s 1) (A.m + 1))
    rw [air_add1, if_neg (by decide)]
    exact h
theorem Fe.play {M : Mk} {A : Au} (h : Fe M A) (R : Nat → Nat) (m : Nat) : Fe M (play M R m A) := by
  have h1 : ∀ j, Fe M (rall M R A j) := by
    intro j
    induction j with
    | zero => exact h
    | succ j ih =>
      rw [rall, rstep]
      split
      · exact ih.cons _
      · exact ih
  have h2 : ∀ j, Fe M (fall M (rall M R A m) j) := by
    intro j
    induction j with
    | zero => exact h1 m
    | succ j ih =>
      rw [fall, fstep]
      split
      · unfold Fe at ih ⊢
        show 0 < M.cnt M.av (airk M ((fall M (rall M R A m) j).add j 2) ((fall M (rall M R A m) j).m + 1))
        rw [air_add1, if_neg (by decide)]
        exact ih
      · exact ih
  unfold Jvm.Pilot.CSpectrumReallocatorLaw_law_r2155_b68a8e.play
  split
  · exact h2 M.n
  · exact h1 m
theorem Fe.low {M : Mk} {A : Au} (h : Fe M A) (d : Nat) : Fe M (A.low d) := by
  unfold Fe at h ⊢
  show 0 < M.cnt M.av (airk M (A.low d) A.m)
  rw [airk_st (A := A.low d) (B := A) rfl rfl]
  exact h
theorem Fe.bk {M : Mk} (hM : M.WF) {A : Au} (hA : AucOK M A) (h : Fe M A) {r : Nat} (hr : r ≤ A.now) : Fe M (A.bk M r) := by
  unfold Fe at h ⊢
  show 0 < M.cnt M.av (airk M (A.bk M r) (A.c r))
  rw [airk_st (A := A.bk M r) (B := A) rfl rfl]
  exact feas_sub hM h (air_mono A.m (A.c r) (hA.2.2.2.2.2.1 r hr).1)
theorem step_eq {t : Nat} {M : Mk} {σ τ : Sg} {A : Au} (h : AS t M σ τ A) (hfe : Fe M A) (hb : bidk M A A.m ≠ 0) {d : Nat} (h1 : 10 ≤ d) (h2 : d ≤ 1000) :
    ∃ σ1 σ2 τ' A', fX0_lower (nI d) σ = some ((), σ1) ∧ fX6_playRound σ1 = some ((), σ2) ∧ fX7_goOn (nI d) τ = some ((), τ') ∧ CF σ σ2 ∧ RX τ τ' ∧ τ' 1 2 = τ 1 2 ∧ AS t M σ2 τ' A' ∧ A'.now = A.now + 1 ∧ Fe M A' := by
  obtain ⟨hp, hr, hA, hE, hX, hR⟩ := h
  have hM := hp.2.1
  have hn := hM.1.1
  obtain ⟨hL, h99⟩ := low_ok hA hE hb h1
  obtain ⟨σ1, e1, f1, x1⟩ := lower_eq hA h99 h2 hX
  obtain ⟨σ2, m, R, e2, f2, p2, hRk, x2⟩ := play_eq hL (hp.af f1) x1
  obtain ⟨τ', e3, f3, k3, x3⟩ := goOn_eq hM hA hE hb h1 h2 hr hR hRk
  obtain ⟨o1, o2, o3, -⟩ := play_ok hM hRk hL
  exact ⟨σ1, σ2, τ', _, e1, e2, e3, f1.cf.trans f2, f3, k3, ⟨p2, hr.rx hn f3, o1, o2, x2, x3⟩, o3, (hfe.low d).play R m⟩
theorem dec_cases (a : Int32) : (∃ d, 10 ≤ d ∧ d ≤ 1000 ∧ a = nI d) ∨ ¬ ∃ d, 10 ≤ d ∧ d ≤ 1000 ∧ a = nI d := Classical.em _
theorem reqD_ok {σ : Sg} {d : Nat} (h1 : 10 ≤ d) (h2 : d ≤ 1000) : fX6_requireDecrement (nI d) σ = some (.inr (), σ) := by
  rw [fX6_requireDecrement]
  simp only [jp_eq]
  obtain ⟨g1, g2⟩ := (btw_lo (a := nI d) (lo := 10) (hi := 1000) (by decide) (by decide)).mpr ⟨d, h1, h2, rfl⟩
  rw [show (10 : Int32) = nI 10 from rfl, show (1000 : Int32) = nI 1000 from rfl, if_neg g1, if_pos g2]
theorem reqD_no {σ : Sg} {a : Int32} (h : ¬ ∃ d, 10 ≤ d ∧ d ≤ 1000 ∧ a = nI d) : fX6_requireDecrement a σ = some (.inl "java/lang/IllegalArgumentException", σ) := by
  rw [fX6_requireDecrement]
  simp only [jp_eq]
  rw [show (10 : Int32) = nI 10 from rfl, show (1000 : Int32) = nI 1000 from rfl]
  by_cases q : a < nI 10
  · rw [if_pos q]
  · rw [if_neg q]
    by_cases q2 : a ≤ nI 1000
    · exact absurd ((btw_lo (by decide) (by decide)).mp ⟨q, q2⟩) h
    · rw [if_neg q2]
theorem isD_ok {d : Nat} (h1 : 10 ≤ d) (h2 : d ≤ 1000) : pX7_isDecrement (nI d) = 1 := isb_yes (by decide) h1 h2 rfl
theorem isD_no {a : Int32} (h : ¬ ∃ d, 10 ≤ d ∧ d ≤ 1000 ∧ a = nI d) : pX7_isDecrement a = 0 := isb_no (by decide) (by decide) h
theorem op_round {t : Nat} {M : Mk} {σ τ : Sg} (h : Rel t M σ τ) (a : Int32) : Agr ["java/lang/IllegalArgumentException", "java/lang/IllegalStateException"] t (fX6_round a σ) (fX7_round a τ) := by
  rw [fX6_round, fX7_round]
  simp only [jp_eq]
  rcases dec_cases a with ⟨d, h1, h2, rfl⟩ | hno
  · rw [reqD_ok h1 h2, bx_inr, isD_ok h1 h2, if_neg (by decide), fails0, bd_some, if_pos rfl]
    rcases kn_cases h with ⟨z1, z2⟩ | ⟨z1, z2, A, hA, hfe⟩
    · rw [reqA0 z1, bx_inl, known0 (by rw [s00_1]; exact z2), bd_some, if_pos rfl, fails1, bd_some, if_neg (by decide)]
      exact Agr.no ((h.s00 0).s00 2) 1 rfl (s00_0 _ 2)
    · have hk : (sup τ 0 0 0) 1 2 = 1 := by rw [s00_1]; exact z2
      rw [reqA1 z1, bx_inr, known1 hk, bd_some, if_neg (by decide), over_eq hA, bd_some, rover_eq (hA.s00 0) hk, bd_some]
      by_cases q : bidk M A A.m = 0
      · rw [if_pos q, if_neg (by decide), if_neg (by decide), fails1, bd_some, if_neg (by decide)]
        exact Agr.no ((h.s00 0).s00 2) 1 rfl (s00_0 _ 2)
      · obtain ⟨σ1, σ2, τ', A', e1, e2, e3, f1, f2, k2, hA', -, hfe'⟩ := step_eq ((hA.s00 0).s00 0) hfe q h1 h2
        rw [if_neg q, if_pos rfl, if_pos rfl, e1, bd_some, e2, bd_some, fails0, bd_some, if_pos rfl, e3, bd_some, rbid_pc hA', bid_pc hA']
        refine Agr.ok (((h.s00 0).s00 0).as f1.xf f2.mf hA' hfe' (f1.2.2.trans z1) (k2.trans (by rw [s00_1, s00_1]; exact z2))) ?_
        exact (f2.2.2.2 0 (by decide)).trans (s00_0 _ 0)
  · rw [reqD_no hno, bx_inl, isD_no hno, if_pos rfl, fails1, bd_some, if_neg (by decide)]
    exact Agr.no (h.s00 1) 0 rfl (s00_0 τ 1)
theorem run_loop {t : Nat} {M : Mk} {d : Nat} (h1 : 10 ≤ d) (h2 : d ≤ 1000) : ∀ k made fuel fuel' (A : Au) (σ τ : Sg), A.now + k = 100 → made ≤ A.now → k < fuel → k < fuel' → AS t M σ τ A → Fe M A → τ 1 2 = 1 →
    ∃ v σ' τ' A', fX6_run_11 (nI d) (fun (y15 : Int32) (σ25 : Sg) => some (.inr y15, σ25)) fuel (nI made) σ = some (.inr v, σ') ∧ fX7_run_44 (nI d) fuel' (nI made) τ = some (v, τ') ∧ CF σ σ' ∧ RX τ τ' ∧ τ' 1 2 = 1 ∧ AS t M σ' τ' A' ∧ Fe M A' := by
  intro k
  induction k with
  | zero =>
    intro made fuel fuel' A σ τ hA hm hf hf' h hfe hk
    obtain ⟨f, rfl, -⟩ := fuel_succ hf
    obtain ⟨f', rfl, -⟩ := fuel_succ hf'
    have hb : bidk M A A.m = 0 := by
      refine Classical.byContradiction fun q => ?_
      have := (low_ok h.2.2.1 h.2.2.2.1 q h1).2
      omega
    refine ⟨nI made, σ, τ, A, ?_, ?_, CF.refl σ, RX.refl τ, hk, h, hfe⟩
    · rw [fX6_run_11, show (101 : Int32) = nI 101 from rfl, if_le (by decide) (by omega), if_neg (by omega), over_eq h, bd_some, if_pos hb, if_neg (by decide)]
    · rw [fX7_run_44, rover_eq h hk, bd_some, if_pos hb, if_neg (by decide)]
  | succ k ih =>
    intro made fuel fuel' A σ τ hA hm hf hf' h hfe hk
    obtain ⟨f, rfl, hf⟩ := fuel_succ hf
    obtain ⟨f', rfl, hf'⟩ := fuel_succ hf'
    rw [fX6_run_11, show (101 : Int32) = nI 101 from rfl, if_le (by decide) (by omega), if_neg (by omega), over_eq h, bd_some, fX7_run_44, rover_eq h hk, bd_some]
    by_cases q : bidk M A A.m = 0
    · rw [if_pos q, if_neg (by decide), if_neg (by decide)]
      exact ⟨nI made, σ, τ, A, rfl, rfl, CF.refl σ, RX.refl τ, hk, h, hfe⟩
    · obtain ⟨σ1, σ2, τ', A', e1, e2, e3, g1, g2, g3, g4, g5, g6⟩ := step_eq h hfe q h1 h2
      rw [if_neg q, if_pos rfl, if_pos rfl, e1, bd_some, e2, bd_some, e3, bd_some, zs_add]
      obtain ⟨v, σ3, τ3, A3, r1, r2, r3, r4, r5, r6⟩ := ih (made + 1) f f' A' σ2 τ' (by omega) (by omega) (by omega) (by omega) g4 g6 (g3.trans hk)
      exact ⟨v, σ3, τ3, A3, r1, r2, g1.trans r3, g2.trans r4, r5, r6⟩
theorem op_run {t : Nat} {M : Mk} {σ τ : Sg} (h : Rel t M σ τ) (a : Int32) : Agr ["java/lang/IllegalArgumentException", "java/lang/IllegalStateException"] t (fX6_run a σ) (fX7_run a τ) := by
  obtain ⟨F, hF8, hFe⟩ : ∃ F, 100 < F ∧ FU = F := ⟨FU, by unfold FU; omega, rfl⟩
  rw [fX6_run, fX7_run, hFe]
  simp only [jp_eq]
  rcases dec_cases a with ⟨d, h1, h2, rfl⟩ | hno
  · rw [reqD_ok h1 h2, bx_inr, isD_ok h1 h2, if_neg (by decide), fails0, bd_some, if_pos rfl]
    rcases kn_cases h with ⟨z1, z2⟩ | ⟨z1, z2, A, hA, hfe⟩
    · rw [reqA0 z1, bx_inl, known0 (by rw [s00_1]; exact z2), bd_some, if_pos rfl, fails1, bd_some, if_neg (by decide)]
      exact Agr.no ((h.s00 0).s00 2) 1 rfl (s00_0 _ 2)
    · have hk : (sup τ 0 0 0) 1 2 = 1 := by rw [s00_1]; exact z2
      have hnow := hA.2.2.1.1
      rw [reqA1 z1, bx_inr, known1 hk, bd_some, if_neg (by decide), fails0, bd_some, if_pos rfl]
      obtain ⟨v, σ3, τ3, A3, r1, r2, r3, r4, r5, r6⟩ := run_loop h1 h2 (100 - A.now) 0 F F A σ (sup (sup τ 0 0 0) 0 0 0) (by omega) (by omega) (by omega) (by omega) ((hA.s00 0).s00 0) hfe (by rw [s00_1, s00_1]; exact z2)
      rw [show nI 0 = (0 : Int32) from rfl] at r1 r2
      rw [r1, r2]
      exact Agr.ok (((h.s00 0).s00 0).as r3.xf r4.mf r6.1 r6.2 (r3.2.2.trans z1) r5) ((r4.2.2.2 0 (by decide)).trans (s00_0 _ 0))
  · rw [reqD_no hno, bx_inl, isD_no hno, if_pos rfl, fails1, bd_some, if_neg (by decide)]
    exact Agr.no (h.s00 1) 0 rfl (s00_0 τ 1)
theorem op_cancel {t : Nat} {M : Mk} {σ τ : Sg} (h : Rel t M σ τ) : Agr ["java/lang/IllegalStateException"] t (fX6_cancel σ) (fX7_cancel τ) := by
  rw [fX6_cancel, fX7_cancel]
  simp only [jp_eq]
  rcases kn_cases h with ⟨z1, z2⟩ | ⟨z1, z2, A, hA, hfe⟩
  · rw [reqA0 z1, bx_inl, known0 z2, bd_some, if_pos rfl, fails1, bd_some, if_neg (by decide)]
    exact Agr.no (h.s00 1) 0 rfl (s00_0 _ 1)
  · rw [reqA1 z1, bx_inr, lt'_eq, known1 z2, bd_some, if_neg (by decide), fails0, bd_some, if_pos rfl, lt'_eq]
    have hn := h.1.2.1.1.1
    have e1 : (sup σ 7 4 0) 7 5 = nI A.now := by rw [sup_self, upd_app, if_neg (by decide)]; exact hA.2.2.2.2.1.1
    have e2 : (sup (sup τ 0 0 0) 1 2 0) 1 3 = nI A.now := by rw [sup_self, upd_app, if_neg (by decide), s00_1]; exact hA.2.2.2.2.2.1
    rw [e1, e2]
    refine Agr.ok ((h.s00 0).fr (fun k hk => sup_ne (by omega)) (RX.s1 (Or.inr (Or.inl rfl))).mf (h.1.oth fun k hk => sup_ne (by omega)) ((h.s00 0).2.1.rx hn (RX.s1 (Or.inr (Or.inl rfl)))) (Or.inl ⟨by rw [sup_self, upd_app, if_pos rfl], by rw [sup_self, upd_app, if_pos rfl]⟩)) ?_
    rw [sup_ne (by decide)]
    exact s00_0 τ 0
theorem isb0_yes {a : Int32} {hi k : Nat} (hh : hi < 2 ^ 31) (h2 : k ≤ hi) (h : a = nI k) : pX7_isBetween a 0 (nI hi) = 1 := isb_yes (lo := 0) hh (Nat.zero_le k) h2 h
theorem isb0_no {a : Int32} {hi : Nat} (hh : hi < 2 ^ 31) (h : ¬ ∃ k, 0 ≤ k ∧ k ≤ hi ∧ a = nI k) : pX7_isBetween a 0 (nI hi) = 0 := isb_no (lo := 0) (by decide) hh h
theorem op_back {t : Nat} {M : Mk} {σ τ : Sg} (h : Rel t M σ τ) (a : Int32) : Agr ["java/lang/IllegalStateException", "java/lang/IndexOutOfBoundsException"] t (fX6_back a σ) (fX7_back a τ) := by
  rw [fX6_back, fX7_back]
  simp only [jp_eq]
  rcases kn_cases h with ⟨z1, z2⟩ | ⟨z1, z2, A, hA, hfe⟩
  · rw [reqA0 z1, bx_inl, known0 z2, bd_some, if_pos rfl, fails1, bd_some, if_neg (by decide)]
    exact Agr.no (h.s00 1) 0 rfl (s00_0 _ 1)
  · have hnow := hA.2.2.1.1
    have hM := h.1.2.1
    have hn := hM.1.1
    have e2 : (sup τ 0 0 0) 1 3 = nI A.now := by rw [s00_1]; exact hA.2.2.2.2.2.1
    rw [reqA1 z1, bx_inr, known1 z2, bd_some, if_neg (show ¬ (1 : Int32) = 0 by decide), fails0, bd_some, if_pos (show (0 : Int32) = 0 from rfl), hA.2.2.2.2.1.1, e2]
    rcases Classical.em (∃ k, 0 ≤ k ∧ k ≤ A.now ∧ a = nI k) with ⟨r, -, h2, rfl⟩ | hno
    · rw [if_neg (zI_nn (by omega)), if_le (by omega) (by omega), if_pos h2, isb0_yes (by omega) h2 rfl, if_neg (show ¬ (1 : Int32) = 0 by decide), fails0, bd_some, if_pos rfl, lt'_eq]
      obtain ⟨σ1, e1, f1, x1⟩ := back_eq hM hA.2.2.1 h2 h.1.1 hA.2.2.2.2.1
      obtain ⟨o1, o2⟩ := bk_ok hM hA.2.2.1 hA.2.2.2.1 h2
      have hrow : (sup (sup (sup τ 0 0 0) 0 0 0) 1 3 (nI r)) 1 = upd (τ 1) 3 (nI r) := by rw [sup_self, s00_1, s00_1]
      have fx : RX (sup (sup τ 0 0 0) 0 0 0) (sup (sup (sup τ 0 0 0) 0 0 0) 1 3 (nI r)) := RX.s1 (Or.inr (Or.inr rfl))
      have hA' : AS t M σ1 (sup (sup (sup τ 0 0 0) 0 0 0) 1 3 (nI r)) (A.bk M r) := ⟨h.1.af f1, ((h.s00 0).s00 0).2.1.rx hn fx, o1, o2, x1, by rw [hrow]; exact rback_eq hM hA.2.2.1 hA.2.2.2.1 h2 hA.2.2.2.2.2⟩
      rw [e1, bd_some, rbid_pc hA', bid_pc hA']
      refine Agr.ok (((h.s00 0).s00 0).as f1.xf fx.mf hA' (hfe.bk hM hA.2.2.1 h2) (f1.2.trans z1) ?_) ?_
      · rw [hrow, upd_app, if_neg (by decide)]; exact z2
      · rw [sup_ne (by decide)]
        exact s00_0 _ 0
    · have e0 : (if a < 0 then some ((Sum.inl "java/lang/IndexOutOfBoundsException" : String ⊕ Int32), σ) else if a ≤ nI A.now then bd (fX0_returnTo a σ) (fun (_ : Unit) (σ10 : Sg) => some (.inr (pJ6_bitCount_0f7a4 (σ10 7 7)), σ10)) else some (.inl "java/lang/IndexOutOfBoundsException", σ)) = some (.inl "java/lang/IndexOutOfBoundsException", σ) := by
        by_cases q : a < 0
        · rw [if_pos q]
        · rw [if_neg q]
          by_cases q2 : a ≤ nI A.now
          · exact absurd ((btw_lo (lo := 0) (by decide) (by omega)).mp ⟨q, q2⟩) hno
          · rw [if_neg q2]
      rw [e0, isb0_no (by omega) hno, if_pos rfl, fails1, bd_some, if_neg (by decide)]
      exact Agr.no ((h.s00 0).s00 2) 1 rfl (s00_0 _ 2)
theorem op_close {t : Nat} {M : Mk} {σ τ : Sg} (h : Rel t M σ τ) : Agr ["java/lang/IllegalStateException"] t (fX6_close σ) (fX7_close τ) := by
  rw [fX6_close, fX7_close, fX6_requireFinished]
  simp only [jp_eq]
  rcases kn_cases h with ⟨z1, z2⟩ | ⟨z1, z2, A, hA, hfe⟩
  · rw [z1, if_pos rfl, bx_inl, rover0 z2, bd_some, if_pos rfl, fails1, bd_some, if_neg (by decide)]
    exact Agr.no (h.s00 1) 0 rfl (s00_0 _ 1)
  · have hM := h.1.2.1
    have hn := hM.1.1
    rw [z1, if_neg (by decide), over_eq hA, bd_some, rover_eq hA z2, bd_some]
    by_cases q : bidk M A A.m = 0
    · have hair := airk_lt hM hA.2.2.1.2.2.2.2.1 (Nat.le_refl A.m)
      have hf : 0 < M.cnt M.av (airk M A A.m) := hfe
      rw [if_pos q, if_neg (by decide), bx_inr, if_neg (by decide), fails0, bd_some, if_pos rfl, in0_eq hM hA.2.2.1 (hA.s00 0).2.1 (hA.s00 0).2.2.2.2.2, bd_some, hA.2.2.2.2.1.2.1]
      obtain ⟨σ2, g, e3, e4, f3, p3, hg⟩ := keep_eq h.1 hair hf false
      have e3' : fX4_settle (nI (airk M A A.m)) 0 σ = some ((), σ2) := e3
      have x2 := hA.2.2.2.2.1.pkf f3
      obtain ⟨τ2, τ3, d1, d2, d3, d4, d5⟩ := rkeep0 hM hair hf (hA.s00 0).2.1
      have hkp := nkp_ok hM hair hf false
      have h2 := (h.s00 0).wkp f3 p3 hkp hg d3 d4
      rw [e3', bd_some, x2.2.1, e4, bd_some, lt'_eq, d1, bd_some, d2, bd_some, lt'_eq, cb_eq (hM.1.lt12 hair), bd_some]
      have e6 : (sup (sst σ2 14 g) 7 4 0) 7 6 = nI (airk M A A.m) := by rw [sup_self, upd_app, if_neg (by decide), sst_ne (by decide)]; exact x2.2.1
      rw [e6, bitCount_nI (hM.1.lt12 hair)]
      refine Agr.ok (h2.fr (fun k hk => sup_ne (by omega)) (RX.s1 (Or.inr (Or.inl rfl))).mf (h2.1.oth fun k hk => sup_ne (by omega)) (h2.2.1.rx hn (RX.s1 (Or.inr (Or.inl rfl)))) (Or.inl ⟨by rw [sup_self, upd_app, if_pos rfl], by rw [sup_self, upd_app, if_pos rfl]⟩)) ?_
      rw [sup_ne (by decide), d5]
      exact s00_0 τ 0
    · rw [if_neg q, if_pos rfl, bx_inl, if_pos rfl, fails1, bd_some, if_neg (by decide)]
      exact Agr.no (h.s00 1) 0 rfl (s00_0 _ 1)
