/-! Layer 2, 49: changes of the stations -/
theorem forget_pk {t : Nat} {M M' : Mk} {σ σ' : Sg} (h : PkI t M σ) (ht : t + 1 < 2 ^ 20) (e2 : σ' 2 = σ 2) (e39 : σ' 39 = σ 39) (e40 : σ' 40 = σ 40) (hc : ClsM 3 11 σ' M') (hM : M'.WF) : ∃ τ v, fX4_forget σ' = some ((), τ) ∧ τ = sup σ' 2 8 v ∧ PkI (t + 1) M' τ := by
  obtain ⟨-, -, ⟨u, v, a1, a2, a3, a4, a5, -⟩, w, b1, b2, b3, b4⟩ := h
  rw [fX4_forget, lt'_eq, e2, a2, zs_add]
  have hvw : v = w := (zI_inj (by omega) (by omega)).mp (a2.symm.trans b1)
  refine ⟨_, nI (v + 1), rfl, rfl, ?_, hM, ⟨u, v + 1, ?_, ?_, by omega, by omega, ?_, fun z => by omega⟩, v + 1, ?_, by omega, ht, fun S hS => ?_⟩
  · unfold ClsM at hc ⊢
    rw [sup_ne (by decide), sup_ne (by decide), sup_ne (by decide), sup_ne (by decide), sup_ne (by decide), sup_ne (by decide), sup_ne (by decide)]
    exact hc
  · rw [sup_self, upd_app, if_neg (by decide), e2]; exact a1
  · rw [sup_self, upd_app, if_pos rfl]
  · rw [sup_ne (by decide), e39]; exact a5
  · rw [sup_self, upd_app, if_pos rfl]
  · obtain ⟨x, c1, c2, -⟩ := b4 S hS
    rw [sup_ne (by decide), e40]
    exact ⟨x, c1, by omega, fun z => by omega⟩
theorem chan_iff (a : Int32) : (a &&& (-256 : Int32)) = 0 ↔ ∃ k, k < 2 ^ 8 ∧ a = nI k := by
  rw [show (-256 : Int32) = nI (2 ^ 8 - 1) ^^^ -1 by decide]
  exact outside_iff (n := 8) (by decide) a
theorem reqCh_ok {σ : Sg} {k : Nat} (h : k < 2 ^ 8) : fX6_requireChannels (nI k) σ = some (.inr (), σ) := by
  rw [fX6_requireChannels, if_pos ((chan_iff _).mpr ⟨k, h, rfl⟩)]
theorem reqCh_no {σ : Sg} {a : Int32} (h : ¬ ∃ k, k < 2 ^ 8 ∧ a = nI k) : fX6_requireChannels a σ = some (.inl "java/lang/IllegalArgumentException", σ) := by
  rw [fX6_requireChannels, if_neg fun z => h ((chan_iff a).mp z)]
theorem isCh_ok {k : Nat} (h : k < 2 ^ 8) : pX7_isChannels (nI k) = 1 := isb0_yes (hi := 255) (by decide) (by omega) rfl
theorem isCh_no {a : Int32} (h : ¬ ∃ k, k < 2 ^ 8 ∧ a = nI k) : pX7_isChannels a = 0 := isb0_no (hi := 255) (by decide) fun ⟨k, _, k1, k2⟩ => h ⟨k, by omega, k2⟩
theorem reqV_ok {σ : Sg} {k : Nat} (h : k ≤ 9999) : fX6_requireValue (nI k) σ = some (.inr (), σ) := by
  rw [fX6_requireValue]
  simp only [jp_eq]
  rw [if_neg (zI_nn (by omega)), show (9999 : Int32) = nI 9999 from rfl, if_le (by omega) (by decide), if_pos h]
theorem reqV_no {σ : Sg} {a : Int32} (h : ¬ ∃ k, 0 ≤ k ∧ k ≤ 9999 ∧ a = nI k) : fX6_requireValue a σ = some (.inl "java/lang/IllegalArgumentException", σ) := by
  rw [fX6_requireValue]
  simp only [jp_eq]
  by_cases q : a < 0
  · rw [if_pos q]
  · rw [if_neg q]
    by_cases q2 : a ≤ 9999
    · exact absurd ((btw_lo (lo := 0) (hi := 9999) (by decide) (by decide)).mp ⟨q, q2⟩) h
    · rw [if_neg q2]
theorem isV_ok {k : Nat} (h : k ≤ 9999) : pX7_isBetween (nI k) 0 9999 = 1 := isb0_yes (hi := 9999) (by decide) h rfl
theorem isV_no {a : Int32} (h : ¬ ∃ k, 0 ≤ k ∧ k ≤ 9999 ∧ a = nI k) : pX7_isBetween a 0 9999 = 0 := isb0_no (hi := 9999) (by decide) h
def Mk.wav (M : Mk) (a : Nat) : Mk := (M.n, a, M.tk, M.ch, M.vl, M.wt, M.sm, M.nx, M.kp)
def Mk.wtk (M : Mk) (a : Nat) : Mk := (M.n, M.av, a, M.ch, M.vl, M.wt, M.sm, M.nx, M.kp)
def Mk.wvl (M : Mk) (s v : Nat) : Mk := (M.n, M.av, M.tk, M.ch, (fun t => if t = s then v else M.vl t), M.wt, M.sm, M.nx, M.kp)
/-- a relation behind a change without a known auction -/
theorem Rel.chg {t t' : Nat} {M M' : Mk} {σ τ σ' τ' : Sg} (h : Rel t M σ τ) (hx : XF σ σ') (hm : MF τ τ') (p : PkI t' M' σ') (r : RefM (τ' 1) M') (k1 : σ' 7 4 = 0) (k2 : τ' 1 2 = 0) : Rel t' M' σ' τ' :=
  h.fr hx hm p r (Or.inl ⟨k1, k2⟩)
theorem MF.s1 {σ : Sg} {i : Nat} {v : Int32} : MF σ (sup σ 1 i v) := ⟨sup_ne (by decide), sup_ne (by decide), by rw [sup_ne (by decide)], by rw [sup_ne (by decide)], by rw [sup_ne (by decide)]⟩
theorem op_setAvailable {t : Nat} {M : Mk} {σ τ : Sg} (h : Rel t M σ τ) (ht : t + 1 < 2 ^ 20) (a : Int32) : Agr ["java/lang/IllegalArgumentException", "java/lang/UnsupportedOperationException"] (t + 1) (fX6_setAvailable a σ) (fX7_setAvailable a τ) := by
  have hM := h.1.2.1
  have hmono : ∀ {σ τ}, Rel t M σ τ → Rel (t + 1) M σ τ := fun z => z.mono (by omega) ht
  rw [fX6_setAvailable, fX7_setAvailable]
  simp only [jp_eq]
  rcases Classical.em (∃ k, k < 2 ^ 8 ∧ a = nI k) with ⟨k, h1, rfl⟩ | hno
  · rw [reqCh_ok h1, bx_inr, isCh_ok h1, if_neg n10, fails0, bd_some, if_pos rfl]
    rcases kn_cases h with ⟨z1, z2⟩ | ⟨z1, z2, A, hA, hfe⟩
    · have hr2 := ((h.s00 0).s00 0).2.1
      rw [reqN0 z1, bx_inr, known0 (by rw [s00_1]; exact z2), bd_some, fails0, bd_some, if_pos rfl, lt'_eq, lt'_eq, lt'_eq, lt'_eq, hr2.2.1, h.1.1.2.2.1]
      have hM' : (M.wav k).WF := ⟨hM.1, h1, hM.2.2.1, hM.2.2.2⟩
      have hc : ClsM 3 11 (sup σ 3 8 (nI k)) (M.wav k) := by
        obtain ⟨g1, g2, g3, g4, g5⟩ := h.1.1
        refine ⟨?_, ?_, ?_, fun s hs => ?_, fun s hs => ?_⟩
        · rw [sup_self, upd_app, if_neg (by decide)]; exact g1
        · rw [sup_self, upd_app, if_neg (by decide)]; exact g2
        · rw [sup_self, upd_app, if_pos rfl]; rfl
        · rw [sup_ne (by decide), sup_ne (by decide), sup_ne (by decide), sup_ne (by decide)]; exact g4 s hs
        · rw [sup_ne (by decide), sup_ne (by decide)]; exact g5 s hs
      obtain ⟨σ', v, e1, e2, p1⟩ := forget_pk h.1 ht (sup_ne (by decide)) (sup_ne (by decide)) (sup_ne (by decide)) hc hM'
      rw [e1, bd_some]
      refine Agr.ok (((h.s00 0).s00 0).chg (fun j hj => ?_) MF.s1 p1 ?_ ?_ ?_) ?_
      · rw [e2, sup_ne (by omega), sup_ne (by omega)]
      · obtain ⟨g1, g2, g3⟩ := hr2
        have e : ∀ j, j ≠ 1 → sup (sup (sup τ 0 0 0) 0 0 0) 1 1 (nI k) 1 j = (sup (sup τ 0 0 0) 0 0 0) 1 j := fun j hj => by rw [sup_self, upd_app, if_neg hj]
        refine ⟨(e 0 (by decide)).trans g1, by rw [sup_self, upd_app, if_pos rfl]; rfl, fun s hs => ?_⟩
        rw [e _ (by omega), e _ (by omega), e _ (by omega), e _ (by omega), e _ (by omega), e _ (by omega), e _ (by omega)]
        exact g3 s hs
      · rw [e2, sup_ne (by decide), sup_ne (by decide)]; exact z1
      · rw [sup_self, upd_app, if_neg (by decide), s00_1, s00_1]; exact z2
      · rw [sup_ne (by decide)]
        exact s00_0 _ 0
    · rw [reqN1 z1, bx_inl, known1 (by rw [s00_1]; exact z2), bd_some, fails1, bd_some, if_neg (by decide)]
      exact Agr.no (hmono ((h.s00 0).s00 2)) 1 rfl (s00_0 _ 2)
  · rw [reqCh_no hno, bx_inl, isCh_no hno, if_pos rfl, fails1, bd_some, if_neg (by decide)]
    exact Agr.no (hmono (h.s00 1)) 0 rfl (s00_0 τ 1)
theorem op_setValue {t : Nat} {M : Mk} {σ τ : Sg} (h : Rel t M σ τ) (a b : Int32) : Agr ["java/lang/IndexOutOfBoundsException", "java/lang/IllegalArgumentException", "java/lang/UnsupportedOperationException"] t (fX6_setValue a b σ) (fX7_setValue a b τ) := by
  have hM := h.1.2.1
  have hn := hM.1.1
  rw [fX6_setValue, fX7_setValue]
  simp only [jp_eq]
  rcases sta_dec M a with ⟨s, hs, rfl⟩ | hna
  · rw [reqSta_ok hn h.1.1.1 hs, bx_inr, isSta_ok hn h.2.1 hs, bd_some, if_neg n10, fails0, bd_some, if_pos (show (0 : Int32) = 0 from rfl)]
    rcases Classical.em (∃ k, 0 ≤ k ∧ k ≤ 9999 ∧ b = nI k) with ⟨v, -, h1, rfl⟩ | hnb
    · rw [reqV_ok h1, bx_inr, isV_ok h1, if_neg n10, fails0, bd_some, if_pos (show (0 : Int32) = 0 from rfl)]
      rcases kn_cases h with ⟨z1, z2⟩ | ⟨z1, z2, A, hA, hfe⟩
      · have hr3 := (((h.s00 0).s00 0).s00 0).2.1
        have e12 : σ 12 s = nI (M.vl s) := (h.1.1.2.2.2.1 s hs).2.1
        rw [reqN0 z1, bx_inr, known0 (by rw [s00_1, s00_1]; exact z2), bd_some, fails0, bd_some, if_pos (show (0 : Int32) = 0 from rfl), gd_of (inb_ok (show s < 12 by omega) (by omega)), lt'_eq, gd_of (inb_ok (show s < 12 by omega) (by omega)), lt'_eq, zI_clamp (show s < 2 ^ 31 by omega), e12, show (16 : Int32) = nI 16 from rfl, zI_add, gd_of (inb_ok (show 16 + s < 2764 by omega) (by omega)), lt'_eq, gd_of (inb_ok (show 16 + s < 2764 by omega) (by omega)), lt'_eq, zI_clamp (show 16 + s < 2 ^ 31 by omega), (hr3.2.2 s hs).2.1]
        have hM' : (M.wvl s v).WF := ⟨hM.1, hM.2.1, hM.2.2.1, fun i hi => by
          obtain ⟨g1, g2, g3⟩ := hM.2.2.2 i hi
          refine ⟨g1, ?_, g3⟩
          show (if i = s then v else M.vl i) ≤ 9999
          split
          · exact h1
          · exact g2⟩
        have hp : PkI t (M.wvl s v) (sup σ 12 s (nI v)) := by
          obtain ⟨⟨g1, g2, g3, g4, g5⟩, -, p2, p3⟩ := h.1
          refine ⟨⟨?_, ?_, ?_, fun i hi => ?_, fun i hi => ?_⟩, hM', p2.same (sup_ne (by decide)) (sup_ne (by decide)), p3.keep (by rw [sup_ne (by decide)]) (sup_ne (by decide))⟩
          · rw [sup_ne (by decide)]; exact g1
          · rw [sup_ne (by decide)]; exact g2
          · rw [sup_ne (by decide)]; exact g3
          · obtain ⟨q1, q2, q3, q4⟩ := g4 i hi
            refine ⟨by rw [sup_ne (by decide)]; exact q1, ?_, by rw [sup_ne (by decide)]; exact q3, by rw [sup_ne (by decide)]; exact q4⟩
            show sup σ 12 s (nI v) 12 i = nI (if i = s then v else M.vl i)
            rw [sup_self, upd_app]
            by_cases z : i = s
            · rw [if_pos z, if_pos z]
            · rw [if_neg z, if_neg z]; exact q2
          · rw [sup_ne (by decide), sup_ne (by decide)]; exact g5 i hi
        refine Agr.ok ((((h.s00 0).s00 0).s00 0).chg (fun j hj => sup_ne (by omega)) MF.s1 hp ?_ ?_ ?_) ?_
        · obtain ⟨g1, g2, g3⟩ := hr3
          have e : ∀ j, j ≠ 16 + s → sup (sup (sup (sup τ 0 0 0) 0 0 0) 0 0 0) 1 (16 + s) (nI v) 1 j = (sup (sup (sup τ 0 0 0) 0 0 0) 0 0 0) 1 j := fun j hj => by rw [sup_self, upd_app, if_neg hj]
          refine ⟨(e 0 (by omega)).trans g1, (e 1 (by omega)).trans g2, fun i hi => ?_⟩
          have hi' : i < M.n := hi
          obtain ⟨q1, q2, q3, q4, q5, q6, q7⟩ := g3 i hi
          refine ⟨(e _ (by omega)).trans q1, ?_, (e _ (by omega)).trans q3, (e _ (by omega)).trans q4, (e _ (by omega)).trans q5, (e _ (by omega)).trans q6, (e _ (by omega)).trans q7⟩
          show _ = nI (if i = s then v else M.vl i)
          rw [sup_self, upd_app]
          by_cases z : i = s
          · rw [if_pos z, if_pos (by omega)]
          · rw [if_neg z, if_neg (by omega)]; exact q2
        · rw [sup_ne (by decide)]; exact z1
        · rw [sup_self, upd_app, if_neg (by omega), s00_1, s00_1, s00_1]; exact z2
        · rw [sup_ne (by decide)]
          exact s00_0 _ 0
      · rw [reqN1 z1, bx_inl, known1 (by rw [s00_1, s00_1]; exact z2), bd_some, fails1, bd_some, if_neg (by decide)]
        exact Agr.no (((h.s00 0).s00 0).s00 3) 2 rfl (s00_0 _ 3)
    · rw [reqV_no hnb, bx_inl, isV_no hnb, if_pos rfl, fails1, bd_some, if_neg (by decide)]
      exact Agr.no ((h.s00 0).s00 2) 1 rfl (s00_0 _ 2)
  · rw [reqSta_no hn h.1.1.1 hna, bx_inl, isSta_no hn h.2.1 hna, bd_some, if_pos rfl, fails1, bd_some, if_neg (by decide)]
    exact Agr.no (h.s00 1) 0 rfl (s00_0 τ 1)
theorem op_setParticipates {t : Nat} {M : Mk} {σ τ : Sg} (h : Rel t M σ τ) (a b : Int32) : Agr ["java/lang/IndexOutOfBoundsException", "java/lang/UnsupportedOperationException"] t (fX6_setParticipates a b σ) (fX7_setParticipates a b τ) := by
  have hM := h.1.2.1
  have hn := hM.1.1
  rw [fX6_setParticipates, fX7_setParticipates]
  simp only [jp_eq]
  rcases sta_dec M a with ⟨s, hs, rfl⟩ | hna
  · rw [reqSta_ok hn h.1.1.1 hs, bx_inr, isSta_ok hn h.2.1 hs, bd_some, if_neg n10, fails0, bd_some, if_pos (show (0 : Int32) = 0 from rfl)]
    rcases kn_cases h with ⟨z1, z2⟩ | ⟨z1, z2, A, hA, hfe⟩
    · have hr2 := ((h.s00 0).s00 0).2.1
      have htk := hM.1.lt31 hM.2.2.1
      rw [reqN0 z1, bx_inr, known0 (by rw [s00_1]; exact z2), bd_some, fails0, bd_some, if_pos (show (0 : Int32) = 0 from rfl), lt'_eq, h.1.1.2.1, contains_nI htk (by omega), show (40 : Int32) = nI 40 from rfl, zI_add, gd_of (inb_ok (show 40 + s < 2764 by omega) (by omega)), zI_clamp (show 40 + s < 2 ^ 31 by omega), (hr2.2.2 s hs).2.2.2.1, zI_one_shl (by omega), zI_ndf, zI_or]
      -- the market with the new mark
      have fin : ∀ (T : Nat) (w v : Int32), T < 2 ^ M.n → (∀ i, i < M.n → (if T.testBit i then (1 : Int32) else 0) = if i = s then w else if M.tk.testBit i then 1 else 0) → v = (if M.tk.testBit s then 1 else 0) →
          Agr ["java/lang/IndexOutOfBoundsException", "java/lang/UnsupportedOperationException"] t (some (.inr v, sup σ 3 7 (nI T))) (some (v, sup (sup (sup τ 0 0 0) 0 0 0) 1 (40 + s) w)) := by
        intro T w v hT hb hv
        have hM' : (M.wtk T).WF := ⟨hM.1, hM.2.1, hT, hM.2.2.2⟩
        have hp : PkI t (M.wtk T) (sup σ 3 7 (nI T)) := by
          obtain ⟨⟨g1, g2, g3, g4, g5⟩, -, p2, p3⟩ := h.1
          refine ⟨⟨?_, ?_, ?_, fun i hi => ?_, fun i hi => ?_⟩, hM', p2.same (sup_ne (by decide)) (sup_ne (by decide)), p3.keep (by rw [sup_ne (by decide)]) (sup_ne (by decide))⟩
          · rw [sup_self, upd_app, if_neg (by decide)]; exact g1
          · rw [sup_self, upd_app, if_pos rfl]; rfl
          · rw [sup_self, upd_app, if_neg (by decide)]; exact g3
          · rw [sup_ne (by decide), sup_ne (by decide), sup_ne (by decide), sup_ne (by decide)]; exact g4 i hi
          · rw [sup_ne (by decide), sup_ne (by decide)]; exact g5 i hi
        refine Agr.ok (((h.s00 0).s00 0).chg (fun j hj => sup_ne (by omega)) MF.s1 hp ?_ ?_ ?_) ?_
        · obtain ⟨g1, g2, g3⟩ := hr2
          have e : ∀ j, j ≠ 40 + s → sup (sup (sup τ 0 0 0) 0 0 0) 1 (40 + s) w 1 j = (sup (sup τ 0 0 0) 0 0 0) 1 j := fun j hj => by rw [sup_self, upd_app, if_neg hj]
          refine ⟨(e 0 (by omega)).trans g1, (e 1 (by omega)).trans g2, fun i hi => ?_⟩
          have hi' : i < M.n := hi
          obtain ⟨q1, q2, q3, q4, q5, q6, q7⟩ := g3 i hi
          refine ⟨(e _ (by omega)).trans q1, (e _ (by omega)).trans q2, (e _ (by omega)).trans q3, ?_, (e _ (by omega)).trans q5, (e _ (by omega)).trans q6, (e _ (by omega)).trans q7⟩
          show _ = if T.testBit i then (1 : Int32) else 0
          rw [hb i hi', sup_self, upd_app]
          by_cases z : i = s
          · rw [if_pos z, if_pos (by omega)]
          · rw [if_neg z, if_neg (by omega)]; exact q4
        · rw [sup_ne (by decide)]; exact z1
        · rw [sup_self, upd_app, if_neg (by omega), s00_1, s00_1]; exact z2
        · rw [sup_ne (by decide)]
          exact s00_0 _ 0
      have hb01 : ∀ c : Bool, b01 (if c = true then (1 : Int32) else 0) = true := by intro c; cases c <;> rfl
      have hpw : 2 ^ s < 2 ^ M.n := Nat.pow_lt_pow_right (by decide) hs
      by_cases qb : b = 0
      · rw [if_pos qb, lt'_eq, gd_of (hb01 _)]
        have f1 := fin (ndf M.tk (2 ^ s)) 0 (if M.tk.testBit s = true then 1 else 0) (ndf_lt hM.2.2.1) (fun i hi => by
          rw [ndf_testBit, tb_pow]
          by_cases z : i = s
          · rw [if_pos z, decide_eq_true z]; simp
          · rw [if_neg z, decide_eq_false z]; simp) rfl
        by_cases q : M.tk.testBit s = true
        · rw [if_pos q] at f1 ⊢
          rw [if_pos (show (1 : Int32) = 1 from rfl), if_pos qb, gd_of (inb_ok (show 40 + s < 2764 by omega) (by omega)), lt'_eq, gd_of (by decide)]
          exact f1
        · rw [if_neg q] at f1 ⊢
          rw [if_neg (show ¬ (0 : Int32) = 1 by decide), if_pos qb, gd_of (inb_ok (show 40 + s < 2764 by omega) (by omega)), lt'_eq, gd_of (by decide)]
          exact f1
      · rw [if_neg qb, lt'_eq, gd_of (hb01 _)]
        have f1 := fin (M.tk ||| 2 ^ s) 1 (if M.tk.testBit s = true then 1 else 0) (or_lt hM.2.2.1 hpw) (fun i hi => by
          rw [Nat.testBit_or, tb_pow]
          by_cases z : i = s
          · rw [if_pos z, decide_eq_true z]; simp
          · rw [if_neg z, decide_eq_false z]; simp) rfl
        by_cases q : M.tk.testBit s = true
        · rw [if_pos q] at f1 ⊢
          rw [if_pos (show (1 : Int32) = 1 from rfl), if_neg qb, gd_of (inb_ok (show 40 + s < 2764 by omega) (by omega)), lt'_eq, gd_of (by decide)]
          exact f1
        · rw [if_neg q] at f1 ⊢
          rw [if_neg (show ¬ (0 : Int32) = 1 by decide), if_neg qb, gd_of (inb_ok (show 40 + s < 2764 by omega) (by omega)), lt'_eq, gd_of (by decide)]
          exact f1
    · rw [reqN1 z1, bx_inl, known1 (by rw [s00_1]; exact z2), bd_some, fails1, bd_some, if_neg (by decide)]
      exact Agr.no ((h.s00 0).s00 2) 1 rfl (s00_0 _ 2)
  · rw [reqSta_no hn h.1.1.1 hna, bx_inl, isSta_no hn h.2.1 hna, bd_some, if_pos rfl, fails1, bd_some, if_neg (by decide)]
    exact Agr.no (h.s00 1) 0 rfl (s00_0 τ 1)
