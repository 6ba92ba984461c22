/-! Layer 2, 34: the ranking on both sides -/
theorem cmpv_ge (a b : Nat) (o : CmpOp) : (0 ≤ Op.cmpValue (some (compare a b)) o) ↔ b ≤ a := by
  rcases Nat.lt_trichotomy a b with h | h | h
  · rw [Nat.compare_eq_lt.mpr h]
    exact ⟨fun z => absurd z (show ¬ (0 : Int32) ≤ -1 by decide), fun z => by omega⟩
  · rw [Nat.compare_eq_eq.mpr h]
    exact ⟨fun _ => by omega, fun _ => (show (0 : Int32) ≤ 0 by decide)⟩
  · rw [Nat.compare_eq_gt.mpr h]
    exact ⟨fun _ => by omega, fun _ => (show (0 : Int32) ≤ 1 by decide)⟩
theorem cmpv_gt (a b : Nat) (o : CmpOp) : (0 < Op.cmpValue (some (compare a b)) o) ↔ b < a := by
  rcases Nat.lt_trichotomy a b with h | h | h
  · rw [Nat.compare_eq_lt.mpr h]
    exact ⟨fun z => absurd z (show ¬ (0 : Int32) < -1 by decide), fun z => by omega⟩
  · rw [Nat.compare_eq_eq.mpr h]
    exact ⟨fun z => absurd z (show ¬ (0 : Int32) < 0 by decide), fun z => by omega⟩
  · rw [Nat.compare_eq_gt.mpr h]
    exact ⟨fun _ => by omega, fun _ => (show (0 : Int32) < 1 by decide)⟩
theorem cmpv_eq (a b : Nat) (o : CmpOp) : (Op.cmpValue (some (compare a b)) o = 0) ↔ a = b := by
  rcases Nat.lt_trichotomy a b with h | h | h
  · rw [Nat.compare_eq_lt.mpr h]
    exact ⟨fun z => absurd z (show ¬ (-1 : Int32) = 0 by decide), fun z => by omega⟩
  · rw [Nat.compare_eq_eq.mpr h]
    exact ⟨fun _ => h, fun _ => rfl⟩
  · rw [Nat.compare_eq_gt.mpr h]
    exact ⟨fun z => absurd z (show ¬ (1 : Int32) = 0 by decide), fun z => by omega⟩
theorem z_dec (p : Nat) : nI (p + 1) - (1 : Int32) = nI p := by rw [show (1 : Int32) = nI 1 from rfl, zI_sub (by omega), Nat.add_sub_cancel]
theorem z_dec2 (p : Nat) : nI (p + 1) + (-1 : Int32) = nI p := by
  rw [← zI_add p 1, show (-1 : Int32) = nI 4294967295 from by decide, zI_add, zI_add]
  apply bv_inj
  rw [zI_bv, zI_bv]
  apply BitVec.eq_of_toNat_eq
  rw [BitVec.toNat_ofNat, BitVec.toNat_ofNat]
  omega
def F10 (σ τ : Sg) : Prop := ∀ k, k ≠ 10 → τ k = σ k
theorem F10.refl (σ : Sg) : F10 σ σ := fun _ _ => rfl
theorem F10.trans {σ τ υ : Sg} (h : F10 σ τ) (h2 : F10 τ υ) : F10 σ υ := fun k a => (h2 k a).trans (h k a)
theorem ClsM.f10 {σ τ : Sg} {M : Mk} (h : ClsM 3 11 σ M) (hf : F10 σ τ) : ClsM 3 11 τ M := by
  unfold ClsM at h ⊢
  rw [hf 3 (by decide), hf 11 (by decide), hf (11 + 1) (by decide), hf (11 + 2) (by decide), hf (11 + 3) (by decide), hf (11 + 4) (by decide), hf (11 + 5) (by decide)]
  exact h
theorem rk_in {M : Mk} (hM : M.WF) {s m : Nat} (hs : s < M.n) (hm : m < 12) {R : Nat → Nat} (hR : ∀ i, i < m → R i < M.n) (x1 x2 : Int32) (K : Int32 → Sg → Option (Int32 × Sg)) : ∀ p fuel (σ : Sg), p ≤ m → p < fuel → ClsM 3 11 σ M → (∀ i, i < p → σ 10 i = nI (R i)) → (∀ i, p < i → i ≤ m → σ 10 i = nI (R (i - 1))) → (∀ j, p ≤ j → j < m → M.key (R j) < M.key s) →
    ∃ p' τ, fX6_rankStations_41 x1 x2 (M.vol s) K fuel (nI p) σ = K (nI p') τ ∧ p' ≤ p ∧ F10 σ τ ∧ (∀ i, i < p' → τ 10 i = nI (R i)) ∧ (∀ i, p' < i → i ≤ m → τ 10 i = nI (R (i - 1))) ∧ (∀ j, p' ≤ j → j < m → M.key (R j) < M.key s) ∧ (p' = 0 ∨ M.key s ≤ M.key (R (p' - 1))) := by
  have hn := hM.1.1
  intro p
  induction p with
  | zero =>
    intro fuel σ hp hf h h1 h2 h3
    obtain ⟨f', rfl, -⟩ := fuel_succ hf
    refine ⟨0, σ, ?_, Nat.le_refl 0, F10.refl σ, h1, h2, h3, Or.inl rfl⟩
    rw [fX6_rankStations_41, if_pos (by decide)]
  | succ p ih =>
    intro fuel σ hp hf h h1 h2 h3
    obtain ⟨f', rfl, hf⟩ := fuel_succ hf
    rw [fX6_rankStations_41, show (0 : Int32) = nI 0 from rfl, if_le (by omega) (by decide), if_neg (by omega), z_dec, gd_of (inb_ok (by omega) (by omega)), zI_clamp (by omega), h1 p (by omega), cvol_eq hM (hR p (by omega)) h, bd_some, vcmp (vol_ok hM (hR p (by omega))).2.2 (vol_ok hM hs).2.2]
    by_cases q : M.key s ≤ M.key (R p)
    · have hq : nI 0 ≤ Op.cmpValue (some (compare (vk (M.vol (R p))) (vk (M.vol s)))) CmpOp.g := (cmpv_ge _ _ _).mpr q
      rw [if_pos hq]
      exact ⟨p + 1, σ, rfl, Nat.le_refl _, F10.refl σ, h1, h2, h3, Or.inr q⟩
    · have hq : ¬ nI 0 ≤ Op.cmpValue (some (compare (vk (M.vol (R p))) (vk (M.vol s)))) CmpOp.g := fun z => q ((cmpv_ge _ _ _).mp z)
      rw [if_neg hq, gd_of (inb_ok (by omega) (by omega)), gd_of (inb_ok (by omega) (by omega)), lt'_eq, zI_clamp (by omega), z_dec2, h1 p (by omega)]
      have hf10 : F10 σ (sup σ 10 (p + 1) (nI (R p))) := fun k hk => sup_ne hk
      obtain ⟨p', τ, e1, e2, e3, e4, e5, e6, e7⟩ := ih f' (sup σ 10 (p + 1) (nI (R p))) (by omega) (by omega) (h.f10 hf10) (fun i hi => by rw [sup_self, upd_app, if_neg (by omega)]; exact h1 i (by omega)) (fun i hi hi2 => by
        rw [sup_self, upd_app]
        by_cases z : i = p + 1
        · rw [if_pos z, z, Nat.add_sub_cancel]
        · rw [if_neg z]
          exact h2 i (by omega) hi2) (fun j hj hj2 => by
        rcases Nat.eq_or_lt_of_le hj with z | z
        · rw [← z]
          omega
        · exact h3 j z hj2)
      exact ⟨p', τ, e1, by omega, hf10.trans e3, e4, e5, e6, e7⟩
def RkP (M : Mk) (i m : Nat) (R : Nat → Nat) : Prop := m ≤ i ∧ (∀ a, a < m → M.tk.testBit (R a) = true ∧ R a < i) ∧ (∀ t, t < i → M.tk.testBit t = true → ∃ a, a < m ∧ R a = t) ∧ ∀ a b, a < b → b < m → bef M (R a) (R b) = true
def ins (R : Nat → Nat) (p s : Nat) : Nat → Nat := fun a => if a < p then R a else if a = p then s else R (a - 1)
theorem RkP.ins {M : Mk} {s m p : Nat} {R : Nat → Nat} (h : RkP M s m R) (ht : M.tk.testBit s = true) (hp : p ≤ m) (h6 : ∀ j, p ≤ j → j < m → M.key (R j) < M.key s) (h7 : p = 0 ∨ M.key s ≤ M.key (R (p - 1))) : RkP M (s + 1) (m + 1) (ins R p s) := by
  obtain ⟨k1, k2, k3, k4⟩ := h
  have i1 : ∀ a, a < p → _root_.Jvm.Pilot.CSpectrumReallocatorLaw_law_r2155_b68a8e.ins R p s a = R a := fun a ha => if_pos ha
  have i2 : _root_.Jvm.Pilot.CSpectrumReallocatorLaw_law_r2155_b68a8e.ins R p s p = s := (if_neg (Nat.lt_irrefl p)).trans (if_pos rfl)
  have i3 : ∀ a, p < a → _root_.Jvm.Pilot.CSpectrumReallocatorLaw_law_r2155_b68a8e.ins R p s a = R (a - 1) := fun a ha => (if_neg (by omega)).trans (if_neg (by omega))
  refine ⟨by omega, fun a ha => ?_, fun t hts htt => ?_, fun a b hab hb => ?_⟩
  · rcases Nat.lt_trichotomy a p with z | z | z
    · rw [i1 a z]
      have := k2 a (by omega)
      exact ⟨this.1, by omega⟩
    · rw [z, i2]
      exact ⟨ht, by omega⟩
    · rw [i3 a z]
      have := k2 (a - 1) (by omega)
      exact ⟨this.1, by omega⟩
  · rcases Nat.lt_or_ge t s with z | z
    · obtain ⟨a, h1, h2⟩ := k3 t z htt
      rcases Nat.lt_or_ge a p with z2 | z2
      · exact ⟨a, by omega, by rw [i1 a z2, h2]⟩
      · exact ⟨a + 1, by omega, by rw [i3 (a + 1) (by omega), Nat.add_sub_cancel, h2]⟩
    · exact ⟨p, by omega, by rw [i2]; omega⟩
  · rcases Nat.lt_trichotomy b p with z | z | z
    · rw [i1 a (by omega), i1 b z]
      exact k4 a b hab (by omega)
    · rw [z, i2, i1 a (by omega)]
      have h1 : M.key s ≤ M.key (R a) := by
        rcases h7 with e | e
        · omega
        · rcases Nat.eq_or_lt_of_le (show a ≤ p - 1 by omega) with e2 | e2
          · rw [e2]; exact e
          · have := bef_iff.mp (k4 a (p - 1) e2 (by omega))
            omega
      have h2 := (k2 a (by omega)).2
      refine bef_iff.mpr ?_
      omega
    · rw [i3 b z]
      have h1 := h6 (b - 1) (by omega) (by omega)
      rcases Nat.lt_trichotomy a p with z2 | z2 | z2
      · rw [i1 a z2]
        exact k4 a (b - 1) (by omega) (by omega)
      · rw [z2, i2]
        exact bef_iff.mpr (Or.inl h1)
      · rw [i3 a z2]
        exact k4 (a - 1) (b - 1) (by omega) (by omega)
theorem rk_out {M : Mk} (hM : M.WF) : ∀ k i m fuel R (σ : Sg), i + k = M.n → k < fuel → ClsM 3 11 σ M → RkP M i m R → (∀ a, a < m → σ 10 a = nI (R a)) →
    ∃ m' R' τ, fX6_rankStations_4 fuel (nI m) (nI i) σ = some (nI m', τ) ∧ RkP M M.n m' R' ∧ (∀ a, a < m' → τ 10 a = nI (R' a)) ∧ F10 σ τ := by
  have hn := hM.1.1
  intro k
  induction k with
  | zero =>
    intro i m fuel R σ hi hf h hR h10
    obtain ⟨f', rfl, -⟩ := fuel_succ hf
    refine ⟨m, R, σ, ?_, ?_, h10, F10.refl σ⟩
    · rw [fX6_rankStations_4, h.1, if_le (by omega) (by omega), if_pos (by omega)]
    · rw [show M.n = i by omega]
      exact hR
  | succ k ih =>
    intro i m fuel R σ hi hf h hR h10
    obtain ⟨f', rfl, hf⟩ := fuel_succ hf
    obtain ⟨F, hF8, hFe⟩ : ∃ F, 12 < F ∧ FU = F := ⟨FU, by unfold FU; omega, rfl⟩
    have hmi := hR.1
    rw [fX6_rankStations_4, h.1, if_le (by omega) (by omega), if_neg (by omega), hFe]
    simp only [jp_eq]
    rw [h.2.1, if_c (hM.1.lt31 hM.2.2.1) (by omega), zs_add, zs_add]
    by_cases q : M.tk.testBit i = true
    · rw [if_pos q, cvol_eq hM (by omega) h, bd_some]
      obtain ⟨p, τ, e1, e2, e3, e4, e5, e6, e7⟩ := rk_in hM (show i < M.n by omega) (show m < 12 by omega) (R := R) (fun a ha => tb_lt hM.2.2.1 (hR.2.1 a ha).1) (nI m) (nI i) (fun (y13 : Int32) (σ23 : Sg) => gd (inb y13 12) (lt' (sup σ23 10 y13.toNatClampNeg (nI i)) (fun (σ25 : Sg) => fX6_rankStations_4 f' (nI (m + 1)) (nI (i + 1)) σ25))) m F σ (Nat.le_refl m) (by omega) h h10 (fun a h1 h2 => by omega) (fun j h1 h2 => by omega)
      rw [e1, gd_of (inb_ok (by omega) (by omega)), lt'_eq, zI_clamp (by omega)]
      have hf2 : F10 τ (sup τ 10 p (nI i)) := fun k hk => sup_ne hk
      obtain ⟨m', R', υ, g1, g2, g3, g4⟩ := ih (i + 1) (m + 1) f' (ins R p i) (sup τ 10 p (nI i)) (by omega) (by omega) ((h.f10 e3).f10 hf2) (hR.ins q e2 e6 e7) (fun a ha => by
        rw [sup_self, upd_app]
        unfold ins
        rcases Nat.lt_trichotomy a p with z | z | z
        · rw [if_neg (by omega), if_pos z]
          exact e4 a z
        · rw [if_pos z, if_neg (by omega), if_pos z]
        · rw [if_neg (by omega), if_neg (by omega), if_neg (by omega)]
          exact e5 a z (by omega))
      exact ⟨m', R', υ, g1, g2, g3, (e3.trans hf2).trans g4⟩
    · rw [if_neg q]
      exact ih (i + 1) m f' R σ (by omega) (by omega) h ⟨by omega, fun a ha => ⟨(hR.2.1 a ha).1, by have := (hR.2.1 a ha).2; omega⟩, fun t h1 h2 => by
        rcases Nat.lt_or_ge t i with z | z
        · exact hR.2.2.1 t z h2
        · rw [show t = i by omega] at h2
          exact absurd h2 q, hR.2.2.2⟩ h10
theorem rank_eq {M : Mk} (hM : M.WF) {σ : Sg} (h : ClsM 3 11 σ M) : ∃ m R τ, fX6_rankStations σ = some (nI m, τ) ∧ Rkd M m R ∧ (∀ a, a < m → τ 10 a = nI (R a)) ∧ F10 σ τ := by
  have hn := hM.1.1
  obtain ⟨m, R, τ, e1, e2, e3, e4⟩ := rk_out hM M.n 0 0 FU (fun _ => 0) σ (by omega) (by unfold FU; omega) h ⟨Nat.le_refl 0, fun a ha => absurd ha (Nat.not_lt_zero a), fun t ht => absurd ht (Nat.not_lt_zero t), fun a b _ hb => absurd hb (Nat.not_lt_zero b)⟩ (fun a ha => absurd ha (Nat.not_lt_zero a))
  refine ⟨m, R, τ, ?_, ⟨by have := e2.1; omega, fun i hi => (e2.2.1 i hi).1, fun t ht => e2.2.2.1 t (tb_lt hM.2.2.1 ht) ht, e2.2.2.2⟩, e3, e4⟩
  rw [fX6_rankStations, show (0 : Int32) = nI 0 from rfl, e1]
/-! the reference -/
def cntb (M : Mk) (s : Nat) : Nat → Nat
  | 0 => 0
  | i + 1 => cntb M s i + (if M.tk.testBit i && bef M i s then 1 else 0)
theorem cntb_range (M : Mk) (s i : Nat) : cntb M s i = (List.range i).countP (fun t => bef M t s && M.tk.testBit t) := by
  induction i with
  | zero => rfl
  | succ i ih =>
    rw [cntb, ih, List.range_succ, List.countP_append, List.countP_singleton, Bool.and_comm]
theorem cntb_le (M : Mk) (s i : Nat) : cntb M s i ≤ i := by
  induction i with
  | zero => exact Nat.le_refl 0
  | succ i ih =>
    rw [cntb]
    split <;> omega
theorem cntb_stop {M : Mk} (hM : M.WF) (s : Nat) : cntb M s M.n = rnk M s := by
  have h : ∀ k, M.n ≤ k → cntb M s k = cntb M s M.n := by
    intro k
    induction k with
    | zero => intro h; rw [show M.n = 0 by omega]
    | succ k ih =>
      intro h
      rcases Nat.eq_or_lt_of_le h with e | e
      · rw [← e]
      · rw [cntb, tb_not hM.2.2.1 (by omega), Bool.false_and, if_neg (by decide)]
        exact ih (by omega)
  rw [← h 12 hM.1.1, cntb_range]
  unfold rnk
  rw [countP_els]
theorem rr_in {M : Mk} (hM : M.WF) {s : Nat} (hs : s < M.n) (a : Int32) (K : Int32 → Sg → Option (Int32 × Sg)) {σ : Sg} (h : RefM (σ 1) M) : ∀ k i fuel, i + k = M.n → k < fuel →
    fX7_ranked_17 a (nI s) K fuel (nI (cntb M s i)) (nI i) σ = K (nI (rnk M s)) σ := by
  have hn := hM.1.1
  intro k
  induction k with
  | zero =>
    intro i fuel hi hf
    obtain ⟨f', rfl, -⟩ := fuel_succ hf
    have e : i = M.n := by omega
    rw [fX7_ranked_17, h.1, if_le (by omega) (by omega), if_pos (by omega), e, cntb_stop hM]
  | succ k ih =>
    intro i fuel hi hf
    obtain ⟨f', rfl, hf⟩ := fuel_succ hf
    have hin : i < M.n := by omega
    have e := ih (i + 1) f' (by omega) (by omega)
    rw [cntb] at e
    rw [fX7_ranked_17, h.1, if_le (by omega) (by omega), if_neg (by omega), rvol_eq hM hin h]
    simp only [jp_eq, lt'_eq, bd_some]
    rw [rvol_eq hM hs h]
    simp only [bd_some]
    rw [vcmp (vol_ok hM hin).2.2 (vol_ok hM hs).2.2, show (40 : Int32) + nI i = nI (40 + i) from zI_add 40 i, zI_clamp (by omega), (h.2.2 i hin).2.2.2.1, zs_add]
    have a0 : nI (cntb M s i) + (0 : Int32) = nI (cntb M s i + 0) := by rw [show (0 : Int32) = nI 0 from rfl, zI_add]
    have a1 : nI (cntb M s i) + (1 : Int32) = nI (cntb M s i + 1) := by rw [show (1 : Int32) = nI 1 from rfl, zI_add]
    have yes : bef M i s = true → ∀ (V : Prop) [Decidable V], ¬ V → (if (if M.tk.testBit i = true then (1 : Int32) else 0) = 1 then (if V then fX7_ranked_17 a (nI s) K f' (nI (cntb M s i) + 0) (nI (i + 1)) σ else fX7_ranked_17 a (nI s) K f' (nI (cntb M s i) + 1) (nI (i + 1)) σ) else fX7_ranked_17 a (nI s) K f' (nI (cntb M s i) + 0) (nI (i + 1)) σ) = K (nI (rnk M s)) σ := by
      intro hb V _ hV
      rw [hb, Bool.and_true] at e
      by_cases q : M.tk.testBit i = true
      · rw [if_pos q] at e
        rw [if_pos (by rw [if_pos q]), if_neg hV, a1]
        exact e
      · rw [if_neg q] at e
        rw [if_neg (by rw [if_neg q]; decide), a0]
        exact e
    have no : bef M i s = false → ∀ (V : Prop) [Decidable V], V → (if (if M.tk.testBit i = true then (1 : Int32) else 0) = 1 then (if V then fX7_ranked_17 a (nI s) K f' (nI (cntb M s i) + 0) (nI (i + 1)) σ else fX7_ranked_17 a (nI s) K f' (nI (cntb M s i) + 1) (nI (i + 1)) σ) else fX7_ranked_17 a (nI s) K f' (nI (cntb M s i) + 0) (nI (i + 1)) σ) = K (nI (rnk M s)) σ := by
      intro hb V _ hV
      rw [hb, Bool.and_false, if_neg (by decide)] at e
      by_cases q : M.tk.testBit i = true
      · rw [if_pos (by rw [if_pos q]), if_pos hV, a0]
        exact e
      · rw [if_neg (by rw [if_neg q]; decide), a0]
        exact e
    have g40 : inb (nI (40 + i)) 2764 = true := inb_ok (by omega) (by omega)
    have t40 := (h.2.2 i hin).2.2.2.1
    have ek : ∀ x, vk (M.vol x) = M.key x := fun _ => rfl
    rw [gd_of g40, ek, ek]
    by_cases q1 : M.key s < M.key i
    · rw [if_pos ((cmpv_gt _ _ _).mpr q1)]
      exact yes (bef_iff.mpr (Or.inl q1)) _ (by decide)
    · rw [if_neg (fun z => q1 ((cmpv_gt _ _ _).mp z)), rvol_eq hM hin h, bd_some, rvol_eq hM hs h, bd_some, vcmp (vol_ok hM hin).2.2 (vol_ok hM hs).2.2, ek, ek, gd_of g40, gd_of g40, t40]
      by_cases q2 : M.key i = M.key s
      · rw [if_pos ((cmpv_eq _ _ _).mpr q2), if_le (by omega) (by omega)]
        by_cases q3 : s ≤ i
        · rw [if_pos q3]
          refine no ?_ _ trivial
          rw [Bool.eq_false_iff]
          intro z
          have := bef_iff.mp z
          omega
        · rw [if_neg q3]
          exact yes (bef_iff.mpr (Or.inr ⟨q2, by omega⟩)) _ (by decide)
      · rw [if_neg (fun z => q2 ((cmpv_eq _ _ _).mp z))]
        refine no ?_ _ trivial
        rw [Bool.eq_false_iff]
        intro z
        have := bef_iff.mp z
        omega
theorem rr_start {M : Mk} (hM : M.WF) {s F : Nat} (hs : s < M.n) (hF : 12 < F) (a : Int32) (K : Int32 → Sg → Option (Int32 × Sg)) {σ : Sg} (h : RefM (σ 1) M) : fX7_ranked_17 a (nI s) K F 0 0 σ = K (nI (rnk M s)) σ :=
  rr_in hM hs a K h M.n 0 F (by omega) (by have := hM.1.1; omega)
theorem ranked_loop {M : Mk} (hM : M.WF) {m : Nat} {R : Nat → Nat} (hR : Rkd M m R) (a : Int32) {σ : Sg} (h : RefM (σ 1) M) : ∀ k i fuel, i + k = M.n → k < fuel → (∀ j, j < m → a = nI j → i ≤ R j) →
    ∃ v, fX7_ranked_2 a fuel (nI i) σ = some (v, σ) ∧ ((∃ j, j < m ∧ a = nI j ∧ v = nI (R j)) ∨ ((∀ j, j < m → a ≠ nI j) ∧ v = -1)) := by
  have hn := hM.1.1
  intro k
  induction k with
  | zero =>
    intro i fuel hi hf hlow
    obtain ⟨f', rfl, -⟩ := fuel_succ hf
    refine ⟨-1, ?_, Or.inr ⟨fun j hj hja => ?_, rfl⟩⟩
    · rw [fX7_ranked_2, h.1, if_le (by omega) (by omega), if_pos (by omega)]
    · have h1 := hlow j hj hja
      have h2 := tb_lt hM.2.2.1 (hR.2.1 j hj)
      omega
  | succ k ih =>
    intro i fuel hi hf hlow
    obtain ⟨f', rfl, hf⟩ := fuel_succ hf
    obtain ⟨F, hF8, hFe⟩ : ∃ F, 12 < F ∧ FU = F := ⟨FU, by unfold FU; omega, rfl⟩
    have hin : i < M.n := by omega
    rw [fX7_ranked_2, h.1, if_le (by omega) (by omega), if_neg (by omega), hFe, rr_start hM hin hF8 a _ h, show (40 : Int32) + nI i = nI (40 + i) from zI_add 40 i, gd_of (inb_ok (by omega) (by omega)), zI_clamp (by omega), (h.2.2 i hin).2.2.2.1, zs_add]
    simp only [jp_eq]
    by_cases q : M.tk.testBit i = true
    · rw [if_pos (by rw [if_pos q])]
      obtain ⟨j0, g1, g2⟩ := hR.2.2.1 i q
      have g3 := rnk_R hM hR g1
      rw [g2] at g3
      rw [g3]
      by_cases q2 : nI j0 = a
      · rw [if_pos q2]
        exact ⟨nI i, rfl, Or.inl ⟨j0, g1, q2.symm, by rw [g2]⟩⟩
      · rw [if_neg q2]
        refine ih (i + 1) f' (by omega) (by omega) fun j hj hja => ?_
        have h1 := hlow j hj hja
        rcases Nat.eq_or_lt_of_le h1 with z | z
        · have g4 := rnk_R hM hR hj
          rw [← z, g3] at g4
          rw [g4] at q2
          exact absurd hja.symm q2
        · exact z
    · rw [if_neg (by rw [if_neg q]; decide)]
      refine ih (i + 1) f' (by omega) (by omega) fun j hj hja => ?_
      have h1 := hlow j hj hja
      rcases Nat.eq_or_lt_of_le h1 with z | z
      · have := hR.2.1 j hj
        rw [← z] at this
        exact absurd this q
      · exact z
theorem ranked_eq {M : Mk} (hM : M.WF) {m : Nat} {R : Nat → Nat} (hR : Rkd M m R) (a : Int32) {σ : Sg} (h : RefM (σ 1) M) :
    ∃ v, fX7_ranked a σ = some (v, σ) ∧ ((∃ j, j < m ∧ a = nI j ∧ v = nI (R j)) ∨ ((∀ j, j < m → a ≠ nI j) ∧ v = -1)) := by
  rw [fX7_ranked, show (0 : Int32) = nI 0 from rfl]
  exact ranked_loop hM hR a h M.n 0 FU (by omega) (by have := hM.1.1; unfold FU; omega) (fun j _ _ => Nat.zero_le _)
