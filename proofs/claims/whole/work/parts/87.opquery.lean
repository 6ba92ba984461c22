/-! Layer 2, 48: sums of prices; event, order, best, leastLoss, auction -/
def pof (A : Au) (S : Nat) : Nat → Nat := fun s => if S.testBit s then (A.cur s).toNatClampNeg else 0
def psum (M : Mk) (A : Au) : Nat := sumTo (pof A (frzk A A.m)) M.n
theorem cur_nI {M : Mk} {A : Au} (hA : AucOK M A) {s : Nat} (hs : M.tk.testBit s = true) : A.cur s = nI (A.cur s).toNatClampNeg ∧ (A.cur s).toNatClampNeg < 2 ^ 18 := by
  obtain ⟨k, k1, k2⟩ := hA.2.2.2.2.2.2.2 s hs
  rw [k2, zI_clamp (by omega)]
  exact ⟨rfl, k1⟩
theorem frz_tk {M : Mk} {A : Au} (hA : AucOK M A) {s : Nat} (hs : (frzk A A.m).testBit s = true) : M.tk.testBit s = true := by
  obtain ⟨j, j1, j2, -⟩ := frz_ev A.m s hs
  have := (hA.2.2.2.2.1 j j1).1
  rw [j2] at this
  exact bidk_tk j s this
theorem pof_le {M : Mk} {A : Au} (hA : AucOK M A) (s : Nat) : pof A (frzk A A.m) s ≤ 262143 := by
  unfold pof
  split
  · next q =>
    have := (cur_nI hA (frz_tk hA q)).2
    omega
  · omega
theorem ppart_le {M : Mk} {A : Au} (hA : AucOK M A) {k : Nat} (hk : k ≤ 12) : sumTo (pof A (frzk A A.m)) k ≤ 3145716 := by
  have h := sumTo_bound (b := 262143) k (fun i _ => pof_le hA i)
  have : k * 262143 ≤ 12 * 262143 := Nat.mul_le_mul_right _ hk
  omega
theorem psum_lt {M : Mk} (hn : M.n ≤ 12) {A : Au} (hA : AucOK M A) : psum M A ≤ 3145716 := ppart_le hA hn
theorem sump_loop {M : Mk} (hM : M.WF) {A : Au} (hA : AucOK M A) {σ : Sg} (h28 : ∀ s, M.tk.testBit s = true → σ 28 s = A.cur s) : ∀ k i fuel, i + k = 12 → k < fuel →
    fX6_sumOver_28_4 (nI (frzk A A.m)) fuel (nI (sumTo (pof A (frzk A A.m)) i)) (nI i) σ = some (nI (psum M A), σ) := by
  have hn := hM.1.1
  have hS := frzk_lt hM hA.2.2.2.2.1 (Nat.le_refl A.m)
  have stop : sumTo (pof A (frzk A A.m)) 12 = psum M A := by
    refine sumTo_stop (fun i h1 _ => ?_) hn
    unfold pof
    rw [tb_not hS h1]; rfl
  intro k
  induction k with
  | zero =>
    intro i fuel hi hf
    obtain ⟨f', rfl, -⟩ := fuel_succ hf
    have e : i = 12 := by omega
    rw [fX6_sumOver_28_4, show (12 : Int32) = nI 12 from rfl, if_le (by omega) (by omega), if_pos (by omega), e, stop]
  | succ k ih =>
    intro i fuel hi hf
    obtain ⟨f', rfl, hf⟩ := fuel_succ hf
    have e := ih (i + 1) f' (by omega) (by omega)
    rw [sumTo] at e
    rw [fX6_sumOver_28_4, show (12 : Int32) = nI 12 from rfl, if_le (by omega) (by omega), if_neg (by omega)]
    simp only [jp_eq, lt'_eq]
    rw [if_c (hM.1.lt31 hS) (by omega), zs_add]
    by_cases q : (frzk A A.m).testBit i = true
    · have ht := frz_tk hA q
      rw [if_pos q, gd_of (inb_ok (by omega) (by omega)), zI_clamp (by omega), h28 i ht, (cur_nI hA ht).1, zI_add]
      unfold pof at e
      rw [if_pos q] at e
      exact e
    · rw [if_neg q]
      unfold pof at e
      rw [if_neg q, Nat.add_zero] at e
      exact e
theorem sump_eq {M : Mk} (hM : M.WF) {A : Au} (hA : AucOK M A) {σ : Sg} (h28 : ∀ s, M.tk.testBit s = true → σ 28 s = A.cur s) : fX6_sumOver_28 (nI (frzk A A.m)) σ = some (nI (psum M A), σ) := by
  rw [fX6_sumOver_28, show (0 : Int32) = nI 0 from rfl]
  exact sump_loop hM hA h28 12 0 FU (by omega) (by unfold FU; omega)
theorem stt_two {M : Mk} (hM : M.WF) {A : Au} (hA : AucOK M A) {s : Nat} (hs : s < M.n) : nI (stt M A A.m s) = 2 ↔ (frzk A A.m).testBit s = true := by
  rw [stt_state]
  rcases (part_k hM hA.2.2.2.2.1 A.m (Nat.le_refl _) s).1 hs with ⟨a, b, c⟩ | ⟨a, b, c⟩ | ⟨a, b, c⟩ <;> rw [a, c] <;> simp
theorem rsump_loop {M : Mk} (hM : M.WF) {A : Au} (hA : AucOK M A) {σ : Sg} (hr : RefM (σ 1) M) (h : AucM (σ 1) M A) : ∀ k i fuel, i + k = M.n → k < fuel →
    fX7_sumPrices_4 fuel (nI (sumTo (pof A (frzk A A.m)) i)) (nI i) σ = some (nI (psum M A), σ) := by
  have hn := hM.1.1
  intro k
  induction k with
  | zero =>
    intro i fuel hi hf
    obtain ⟨f', rfl, -⟩ := fuel_succ hf
    have e : i = M.n := by omega
    rw [fX7_sumPrices_4, hr.1, if_le (by omega) (by omega), if_pos (by omega), e]
    rfl
  | succ k ih =>
    intro i fuel hi hf
    obtain ⟨f', rfl, hf⟩ := fuel_succ hf
    have hin : i < M.n := by omega
    have e := ih (i + 1) f' (by omega) (by omega)
    rw [sumTo] at e
    rw [fX7_sumPrices_4, hr.1, if_le (by omega) (by omega), if_neg (by omega), stof_eq hA.1 hA.2.2.2.2.2.2.1 hn h hin, bd_some]
    simp only [jp_eq, lt'_eq]
    rw [zs_add]
    by_cases q : (frzk A A.m).testBit i = true
    · have ht := frz_tk hA q
      rw [if_pos ((stt_two hM hA hin).mpr q), prn_eq hM hA.1 h ht, bd_some, (cur_nI hA ht).1, zI_add]
      unfold pof at e
      rw [if_pos q] at e
      exact e
    · rw [if_neg (fun z => q ((stt_two hM hA hin).mp z)), show (0 : Int32) = nI 0 from rfl, zI_add]
      unfold pof at e
      rw [if_neg q] at e
      exact e
theorem rsump_eq {M : Mk} (hM : M.WF) {A : Au} (hA : AucOK M A) {σ : Sg} (hr : RefM (σ 1) M) (h : AucM (σ 1) M A) : fX7_sumPrices σ = some (nI (psum M A), σ) := by
  rw [fX7_sumPrices, show (0 : Int32) = nI 0 from rfl]
  exact rsump_loop hM hA hr h M.n 0 FU (by omega) (by have := hM.1.1; unfold FU; omega)
theorem op_event {t : Nat} {M : Mk} {σ τ : Sg} (h : Rel t M σ τ) (a : Int32) : Agr ["java/lang/IllegalStateException", "java/util/NoSuchElementException"] t (fX6_event a σ) (fX7_event a τ) := by
  rw [fX6_event, fX7_event]
  simp only [jp_eq]
  rcases kn_cases h with ⟨z1, z2⟩ | ⟨z1, z2, A, hA, hfe⟩
  · rw [reqA0 z1, bx_inl, known0 z2, bd_some, if_pos rfl, fails1, bd_some, if_neg (by decide)]
    exact Agr.no (h.s00 1) 0 rfl (s00_0 _ 1)
  · have hM := h.1.2.1
    have hn := hM.1.1
    have hnow := hA.2.2.1.1
    have hm12 := ev_le hM hA.2.2.1.2.2.2.2.1
    have e3 : (sup τ 0 0 0) 1 3 = nI A.now := by rw [s00_1]; exact hA.2.2.2.2.2.1
    have e214 : (sup τ 0 0 0) 1 (214 + A.now) = nI A.m := by rw [s00_1, (hA.2.2.2.2.2.2.1 A.now (Nat.le_refl _)).2.1, hA.2.2.1.2.2.2.2.2.2.1]
    rw [reqA1 z1, bx_inr, known1 z2, bd_some, if_neg n10, fails0, bd_some, if_pos rfl, e3, show (214 : Int32) = nI 214 from rfl, zI_add, gd_of (inb_ok (by omega) (by omega)), zI_clamp (by omega), e214, hA.2.2.2.2.1.2.2.2.2.1]
    rcases Classical.em (∃ k, k < A.m ∧ a = nI k) with ⟨k, h1, rfl⟩ | hno
    · have ez : nI A.m - 1 = nI (A.m - 1) := by rw [show (1 : Int32) = nI 1 from rfl, zI_sub (by omega)]
      have e30 : σ 30 k = nI (evn A k) := (hA.2.2.2.2.1.2.2.2.2.2.2.2 k h1).2.2
      have e100 : (sup (sup τ 0 0 0) 0 0 0) 1 (100 + k) = nI (evn A k) := by rw [s00_1, s00_1]; exact (hA.2.2.2.2.2.2.2.2.2 k h1).2.2
      rw [if_neg (zI_nn (by omega)), if_lt (by omega) (by omega), if_pos h1, ez, isb0_yes (by omega) (show k ≤ A.m - 1 by omega) rfl, if_neg n10, fails0, bd_some, if_pos rfl, gd_of (inb_ok (show k < 12 by omega) (by omega)), zI_clamp (show k < 2 ^ 31 by omega), e30, show (100 : Int32) = nI 100 from rfl, zI_add, gd_of (inb_ok (by omega) (by omega)), zI_clamp (by omega), e100]
      exact Agr.ok ((h.s00 0).s00 0) (s00_0 _ 0)
    · have e0 : ∀ x : Option ((String ⊕ Int32) × Sg), (if a < 0 then some ((Sum.inl "java/util/NoSuchElementException" : String ⊕ Int32), σ) else if a < nI A.m then x else some (.inl "java/util/NoSuchElementException", σ)) = some (.inl "java/util/NoSuchElementException", σ) := by
        intro x
        by_cases q : a < 0
        · rw [if_pos q]
        · rw [if_neg q]
          by_cases q2 : a < nI A.m
          · exact absurd ((lt_nI (by omega)).mp ⟨q, q2⟩) hno
          · rw [if_neg q2]
      have e1 : pX7_isBetween a 0 (nI A.m - 1) = 0 := by
        rcases Nat.eq_zero_or_pos A.m with z | z
        · rw [z]
          unfold pX7_isBetween
          rw [jp_eq]
          by_cases q : a < 0
          · rw [if_pos q]
          · rw [if_neg q, if_pos]
            rcases int_cases a with ⟨k, k1, k2⟩ | hh
            · rw [k2]
              exact Int32.lt_of_lt_of_le (show nI 0 - 1 < (0 : Int32) by decide) (zI_ge0 k1)
            · exact absurd hh q
        · rw [show nI A.m - 1 = nI (A.m - 1) by rw [show (1 : Int32) = nI 1 from rfl, zI_sub (by omega)]]
          exact isb0_no (by omega) fun ⟨k, _, k1, k2⟩ => hno ⟨k, by omega, k2⟩
      rw [e0, e1, if_pos rfl, fails1, bd_some, if_neg (by decide)]
      exact Agr.no ((h.s00 0).s00 2) 1 rfl (s00_0 _ 2)
theorem op_order {t : Nat} {M : Mk} {σ τ : Sg} (h : Rel t M σ τ) (a : Int32) : Agr ["java/util/NoSuchElementException"] t (fX6_order a σ) (fX7_order a τ) := by
  have hM := h.1.2.1
  obtain ⟨m, R, σ1, e1, hR, h10, f1⟩ := rank_eq hM h.1.1
  have hm := hR.1
  obtain ⟨v, e2, hv⟩ := ranked_eq hM hR a h.2.1
  have hrel : ∀ x : Int32, Rel t M σ1 (sup τ 0 0 x) := fun x => (h.s00 x).fr f1.xf (MF.refl _) (h.1.oth fun k hk => f1 k (by omega)) (h.s00 x).2.1 ((h.s00 x).2.2.1.f10 f1)
  rw [fX6_order, fX7_order, e1, bd_some, e2, bd_some]
  simp only [jp_eq]
  rcases hv with ⟨j, j1, j2, j3⟩ | ⟨j1, j2⟩
  · have hRn := tb_lt hM.2.2.1 (hR.2.1 j j1)
    have hn := hM.1.1
    rw [j2, j3, if_neg (zI_nn (by omega)), if_lt (by omega) (by omega), if_pos j1, gd_of (inb_ok (by omega) (by omega)), zI_clamp (by omega), h10 j j1, if_pos (zI_ge0 (by omega)), fails0, bd_some, if_pos rfl]
    exact Agr.ok (hrel 0) (s00_0 τ 0)
  · have e0 : ∀ x : Option ((String ⊕ Int32) × Sg), (if a < 0 then some ((Sum.inl "java/util/NoSuchElementException" : String ⊕ Int32), σ1) else if a < nI m then x else some (.inl "java/util/NoSuchElementException", σ1)) = some (.inl "java/util/NoSuchElementException", σ1) := by
      intro x
      by_cases q : a < 0
      · rw [if_pos q]
      · rw [if_neg q]
        by_cases q2 : a < nI m
        · obtain ⟨k, k1, k2⟩ := (lt_nI (by omega)).mp ⟨q, q2⟩
          exact absurd k2 (j1 k k1)
        · rw [if_neg q2]
    rw [e0, j2, if_neg (show ¬ (0 : Int32) ≤ -1 by decide), fails1, bd_some, if_neg (by decide)]
    exact Agr.no (hrel 1) 0 rfl (s00_0 τ 1)
theorem Rel.pcf {t : Nat} {M : Mk} {σ τ σ' τ' : Sg} (h : Rel t M σ τ) (f : PcF σ σ') (p : PkI t M σ') (f2 : RpF τ τ') : Rel t M σ' τ' := by
  have e : τ' 1 = τ 1 := f2.1 1 (by decide) (by decide)
  exact h.fr f.xf f2.mf p (by rw [e]; exact h.2.1) (by rw [e]; exact h.2.2.1.pc f)
theorem op_best {t : Nat} {M : Mk} {σ τ : Sg} (h : Rel t M σ τ) : Agr ["java/lang/IllegalStateException"] t (fX6_best σ) (fX7_best τ) := by
  have hM := h.1.2.1
  have hn := hM.1.1
  have hr0 : RefM (τ 1) M := h.2.1
  obtain ⟨τ1, e2, f2⟩ := poss_eq hM (out_lt M) hr0
  have k1 : τ1 1 = τ 1 := f2.1 1 (by decide) (by decide)
  rw [fX6_best, fX7_best, stay_eq hn h.1.1, bd_some, outs_eq hM hr0, bd_some, e2, bd_some]
  simp only [jp_eq]
  by_cases q : 0 < M.cnt M.av M.out
  · obtain ⟨σ1, e1, f1, p1⟩ := reqFe_ok h.1 (out_lt M) q
    have h1 := (h.pk f1 p1 k1 f2.mf).s00 0
    obtain ⟨σ2, x, e3, i3', f3, p3⟩ := best_eq p1
    obtain ⟨τ2, y, e4, i4, f4⟩ := fb_eq hM h1.2.1
    rw [e1, bx_inr, e3, bd_some, if_pos q, if_neg n10, fails0, bd_some, if_pos rfl, e4, bd_some, i3'.uniq i4]
    exact Agr.ok (h1.pcf f3 p3 f4) ((f4.2 0 (by decide)).trans (s00_0 τ1 0))
  · obtain ⟨σ1, e1, f1, p1⟩ := reqFe_no h.1 (out_lt M) q
    have h1 := h.pk f1 p1 k1 f2.mf
    rw [e1, bx_inl, if_neg q, if_pos rfl, fails1, bd_some, if_neg (by decide)]
    exact Agr.no (h1.s00 1) 0 rfl (s00_0 τ1 1)
theorem op_leastLoss {t : Nat} {M : Mk} {σ τ : Sg} (h : Rel t M σ τ) : Agr ["java/lang/IllegalStateException"] t (fX6_leastLoss σ) (fX7_leastLoss τ) := by
  have hM := h.1.2.1
  have hn := hM.1.1
  have hr0 : RefM (τ 1) M := h.2.1
  obtain ⟨τ1, e2, f2⟩ := poss_eq hM (out_lt M) hr0
  have k1 : τ1 1 = τ 1 := f2.1 1 (by decide) (by decide)
  rw [fX6_leastLoss, fX7_leastLoss, stay_eq hn h.1.1, bd_some, outs_eq hM hr0, bd_some, e2, bd_some]
  simp only [jp_eq]
  by_cases q : 0 < M.cnt M.av M.out
  · obtain ⟨σ1, e1, f1, p1⟩ := reqFe_ok h.1 (out_lt M) q
    have h1 := (h.pk f1 p1 k1 f2.mf).s00 0
    obtain ⟨σ2, x, e3, i3', f3, p3⟩ := best_eq p1
    obtain ⟨τ2, y, e4, i4, f4⟩ := fb_eq hM h1.2.1
    have h2 := h1.pcf f3 p3 f4
    rw [e1, bx_inr, e3, bd_some, if_pos q, if_neg n10, fails0, bd_some, if_pos rfl, e4, bd_some, i3'.uniq i4, loss_eq hM p3.1, bd_some, rloss_eq hM h2.2.1, bd_some]
    exact Agr.ok h2 ((f4.2 0 (by decide)).trans (s00_0 τ1 0))
  · obtain ⟨σ1, e1, f1, p1⟩ := reqFe_no h.1 (out_lt M) q
    have h1 := h.pk f1 p1 k1 f2.mf
    rw [e1, bx_inl, if_neg q, if_pos rfl, fails1, bd_some, if_neg (by decide)]
    exact Agr.no (h1.s00 1) 0 rfl (s00_0 τ1 1)
theorem op_auction {t : Nat} {M : Mk} {σ τ : Sg} (h : Rel t M σ τ) (a : Int32) : Agr ["java/lang/IllegalArgumentException", "java/lang/IllegalStateException"] t (fX6_auction a σ) (fX7_auction a τ) := by
  have hM := h.1.2.1
  have hn := hM.1.1
  rw [fX6_auction, fX7_auction]
  simp only [jp_eq]
  rcases Classical.em (∃ k, 0 ≤ k ∧ k ≤ 6 ∧ a = nI k) with ⟨k, -, h2, rfl⟩ | hno
  · have e1 : pX7_isBetween (nI k) 0 6 = 1 := isb0_yes (hi := 6) (by decide) h2 rfl
    have e6 : (nI k ≤ 6) := (zI_le (b := 6) (by omega) (by decide)).mpr h2
    rw [if_neg (zI_nn (by omega)), if_pos e6, e1, if_neg n10, fails0, bd_some, if_pos (show (0 : Int32) = 0 from rfl)]
    rcases kn_cases h with ⟨z1, z2⟩ | ⟨z1, z2, A, hA, hfe⟩
    · rw [reqA0 z1, bx_inl, known0 (by rw [s00_1]; exact z2), bd_some, if_pos (show (0 : Int32) = 0 from rfl), fails1, bd_some, if_neg (by decide)]
      exact Agr.no ((h.s00 0).s00 2) 1 rfl (s00_0 _ 2)
    · have hA2 := (hA.s00 0).s00 0
      have hrel := (h.s00 0).s00 0
      have hok := hA.2.2.1
      have hnow := hok.1
      rw [reqA1 z1, bx_inr, known1 (by rw [s00_1]; exact z2), bd_some, if_neg n10, fails0, bd_some, if_pos (show (0 : Int32) = 0 from rfl)]
      obtain ⟨x5, x6, x7, x8, x9, xb, xp, xe⟩ := hA.2.2.2.2.1
      have g3 := hA2.2.2.2.2.2.1
      have g112 := (hA2.2.2.2.2.2.2.1 A.now (Nat.le_refl _)).1
      rcases (by omega : k = 0 ∨ k = 1 ∨ k = 2 ∨ k = 3 ∨ k = 4 ∨ k = 5 ∨ k = 6) with rfl | rfl | rfl | rfl | rfl | rfl | rfl
      · rw [if_pos (by decide), if_pos (by decide), x5, g3]
        exact Agr.ok hrel (s00_0 _ 0)
      · rw [if_neg (by decide), if_pos (by decide), if_neg (by decide), if_pos (by decide), x5, gd_of (inb_ok (show A.now < 101 by omega) (by omega)), zI_clamp (by omega), xb A.now (Nat.le_refl _), g3, show (112 : Int32) = nI 112 from rfl, zI_add, gd_of (inb_ok (by omega) (by omega)), zI_clamp (by omega), g112]
        exact Agr.ok hrel (s00_0 _ 0)
      · rw [if_neg (by decide), if_neg (by decide), if_pos (by decide), if_neg (by decide), if_neg (by decide), if_pos (by decide), x6, show nI 2 - 2 = 0 by decide, in0_eq hM hok hA2.2.1 hA2.2.2.2.2.2, bd_some]
        exact Agr.ok hrel (s00_0 _ 0)
      · rw [if_neg (by decide), if_neg (by decide), if_neg (by decide), if_pos (by decide), if_neg (by decide), if_neg (by decide), if_neg (by decide), if_pos (by decide), x7, show nI 3 - 2 = 1 by decide, in1_eq hM hok hA2.2.1 hA2.2.2.2.2.2, bd_some]
        exact Agr.ok hrel (s00_0 _ 0)
      · rw [if_neg (by decide), if_neg (by decide), if_neg (by decide), if_neg (by decide), if_pos (by decide), if_neg (by decide), if_neg (by decide), if_neg (by decide), if_neg (by decide), if_pos (by decide), x8, show nI 4 - 2 = 2 by decide, in2_eq hM hok hA2.2.1 hA2.2.2.2.2.2, bd_some]
        exact Agr.ok hrel (s00_0 _ 0)
      · rw [if_neg (by decide), if_neg (by decide), if_neg (by decide), if_neg (by decide), if_neg (by decide), if_pos (by decide), if_neg (by decide), if_neg (by decide), if_neg (by decide), if_neg (by decide), if_neg (by decide), if_pos (by decide), x8, sump_eq hM hok xp, bd_some, rsump_eq hM hok hA2.2.1 hA2.2.2.2.2.2, bd_some]
        exact Agr.ok hrel (s00_0 _ 0)
      · rw [if_neg (by decide), if_neg (by decide), if_neg (by decide), if_neg (by decide), if_neg (by decide), if_neg (by decide), if_neg (by decide), if_neg (by decide), if_neg (by decide), if_neg (by decide), if_neg (by decide), if_neg (by decide), if_pos (by decide), x8, sumv_eq hM (frzk_lt hM hok.2.2.2.2.1 (Nat.le_refl _)) (fun s hs => (h.1.1.2.2.2.1 s hs).2.1), bd_some, in2_eq hM hok hA2.2.1 hA2.2.2.2.2.2, bd_some, rsumv_eq hM (frzk_lt hM hok.2.2.2.2.1 (Nat.le_refl _)) hA2.2.1, bd_some]
        exact Agr.ok hrel (s00_0 _ 0)
  · have e1 : pX7_isBetween a 0 6 = 0 := isb0_no (hi := 6) (by decide) hno
    have e0 : ∀ x : Option ((String ⊕ Int32) × Sg), (if a < 0 then some ((Sum.inl "java/lang/IllegalArgumentException" : String ⊕ Int32), σ) else if a ≤ 6 then x else some (.inl "java/lang/IllegalArgumentException", σ)) = some (.inl "java/lang/IllegalArgumentException", σ) := by
      intro x
      by_cases q : a < 0
      · rw [if_pos q]
      · rw [if_neg q]
        by_cases q2 : a ≤ 6
        · exact absurd ((btw_lo (lo := 0) (hi := 6) (by decide) (by decide)).mp ⟨q, q2⟩) hno
        · rw [if_neg q2]
    rw [e0, e1, if_pos (show (0 : Int32) = 0 from rfl), fails1, bd_some, if_neg (by decide)]
    exact Agr.no (h.s00 1) 0 rfl (s00_0 τ 1)
