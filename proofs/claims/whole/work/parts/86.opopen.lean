/-! Layer 2, 47: open, and what an auction answers -/
theorem n10 : ¬ (1 : Int32) = 0 := by decide
theorem op_open {t : Nat} {M : Mk} {σ τ : Sg} (h : Rel t M σ τ) (a : Int32) : Agr ["java/lang/IllegalArgumentException", "java/lang/UnsupportedOperationException", "java/lang/IllegalStateException"] t (fX6_open a σ) (fX7_open a τ) := by
  have hM := h.1.2.1
  have hn := hM.1.1
  rw [fX6_open, fX7_open]
  simp only [jp_eq]
  rcases Classical.em (∃ k, 1 ≤ k ∧ k ≤ 1000 ∧ a = nI k) with ⟨b, h1, h2, rfl⟩ | hno
  · have e1 : pX7_isBetween (nI b) 1 1000 = 1 := isb_yes (lo := 1) (hi := 1000) (by decide) h1 h2 rfl
    obtain ⟨g1, g2⟩ := (btw_lo (a := nI b) (lo := 1) (hi := 1000) (by decide) (by decide)).mpr ⟨b, h1, h2, rfl⟩
    rw [if_neg (show ¬ nI b < 1 from g1), if_pos (show nI b ≤ 1000 from g2), e1, if_neg (show ¬ (1 : Int32) = 0 by decide), fails0, bd_some, if_pos (show (0 : Int32) = 0 from rfl)]
    rcases kn_cases h with ⟨z1, z2⟩ | ⟨z1, z2, A, hA, hfe⟩
    · rw [reqN0 z1, bx_inr, stay_eq hn h.1.1, bd_some, known0 (by rw [s00_1]; exact z2), bd_some, fails0, bd_some, if_pos (show (0 : Int32) = 0 from rfl), outs_eq hM ((h.s00 0).s00 0).2.1, bd_some]
      rcases fe_start (h.s00 0) (out_lt M) with ⟨q, σ1, τ1, d1, d2, r1, pf⟩ | ⟨q, σ1, τ1, d1, d2, r1⟩
      · rw [d1, bx_inr, d2, bd_some, if_neg (show ¬ (1 : Int32) = 0 by decide), fails0, bd_some, if_pos (show (0 : Int32) = 0 from rfl)]
        obtain ⟨σ2, e2, f2, k2, x2⟩ := begin_eq hM h2 r1.1.1
        have p2 : PkI t M σ2 := r1.1.oth fun k hk => f2 k (by omega) (by omega) (by omega)
        obtain ⟨σ3, m, R, e3, f3, p3, hR, x3⟩ := play_eq (A0_ok hM h2) p2 x2
        rw [e2, bd_some, e3, bd_some, lt'_eq, lt'_eq, lt'_eq, lt'_eq]
        have fx : RX (sup τ1 0 0 0) (sup (sup (sup (sup (sup τ1 0 0 0) 1 2 1) 1 3 0) 1 112 (nI b)) 1 214 0) := (((RX.s1 (by omega)).trans (RX.s1 (by omega))).trans (RX.s1 (by omega))).trans (RX.s1 (by omega))
        obtain ⟨F, hF8, hFe⟩ : ∃ F, 12 < F ∧ FU = F := ⟨FU, by unfold FU; omega, rfl⟩
        obtain ⟨τ2, e4, g4, l4, s4⟩ := open_loop hM h2 (fun (σ44 : Sg) => bd (fX7_considerAll  σ44) (fun (_ : Unit) (σ45 : Sg) => bd (fX7_in 1 σ45) (fun (r47 : Int32) (σ48 : Sg) => bd (fX7_countBits r47 σ48) (fun (r50 : Int32) (σ51 : Sg) => some (r50, σ51))))) M.n 0 F (sup (sup (sup (sup (sup τ1 0 0 0) 1 2 1) 1 3 0) 1 112 (nI b)) 1 214 0) (by omega) (by omega) (r1.2.1.rx hn fx) (by simp [sup_app, upd_app]; rfl) (fun s hs => absurd hs (Nat.not_lt_zero s))
        rw [show nI 0 = (0 : Int32) from rfl] at e4
        rw [hFe, e4]
        have y3 : τ2 1 3 = 0 := by rw [l4 3 (by decide)]; simp [sup_app, upd_app]
        have y2 : τ2 1 2 = 1 := by rw [l4 2 (by decide)]; simp [sup_app, upd_app]
        have y112 : τ2 1 112 = nI b := by rw [l4 112 (by decide)]; simp [sup_app, upd_app]
        have y214 : τ2 1 214 = 0 := by rw [l4 214 (by decide)]; simp [sup_app, upd_app]
        have hr2 : RefM (τ2 1) M := (r1.2.1.rx hn fx).of88 hn fun j hj _ _ => l4 j (by omega)
        have m2 : MF (sup τ1 0 0 0) τ2 := by
          have hm := g4.mf
          have hm2 := fx.mf
          refine ⟨?_, ?_, ?_, ?_, ?_⟩
          · have := hm.1
            rw [sst_ne (by decide)] at this
            rw [this, hm2.1]
          · have := hm.2.1
            rw [sst_ne (by decide)] at this
            rw [this, hm2.2.1]
          · have := hm.2.2.1
            rw [sst_ne (by decide)] at this
            rw [this, hm2.2.2.1]
          · have := hm.2.2.2.1
            rw [sst_ne (by decide)] at this
            rw [this, hm2.2.2.2.1]
          · have := hm.2.2.2.2
            rw [sst_ne (by decide)] at this
            rw [this, hm2.2.2.2.2]
        have z00 : τ2 0 0 = 0 := by
          have := g4.2.2.2 0 (by decide)
          rw [sst_ne (by decide)] at this
          rw [this, fx.2.2.2 0 (by decide)]
          exact s00_0 τ1 0
        obtain ⟨τ3, e5, f5, x5⟩ := rplay_eq hM hR (A0_ok hM h2) hr2 (A0_ref hM y3 y112 y214 s4)
        obtain ⟨o1, o2, -, -⟩ := play_ok hM hR (A0_ok hM h2)
        have hA' : AS t M σ3 τ3 (play M R m (A0 M b)) := ⟨p3, hr2.rw hn f5, o1, o2, x3, x5⟩
        have hfe' : Fe M (play M R m (A0 M b)) := Fe.play (A := A0 M b) q R m
        rw [e5, bd_some, rbid_pc hA', bid_pc hA']
        refine Agr.ok (r1.as ?_ (m2.trans f5.mf) hA' hfe' (f3.2.2.trans k2) ((f5.1 2 (by decide)).trans y2)) ((f5.2.2.2 0 (by decide)).trans z00)
        intro k hk
        rw [f3.1 k (by omega), f2 k (by omega) (by omega) (by omega)]
      · rw [d1, bx_inl, d2, bd_some, if_pos (show (0 : Int32) = 0 from rfl), fails1, bd_some, if_neg (by decide)]
        exact Agr.no (r1.s00 3) 2 rfl (s00_0 τ1 3)
    · rw [reqN1 z1, bx_inl, known1 (by rw [s00_1]; exact z2), bd_some, fails1, bd_some, if_neg (by decide)]
      exact Agr.no ((h.s00 0).s00 2) 1 rfl (s00_0 _ 2)
  · have e1 : pX7_isBetween a 1 1000 = 0 := isb_no (lo := 1) (hi := 1000) (by decide) (by decide) hno
    have e0 : ∀ x : Option ((String ⊕ Int32) × Sg), (if a < 1 then some ((Sum.inl "java/lang/IllegalArgumentException" : String ⊕ Int32), σ) else if a ≤ 1000 then x else some (.inl "java/lang/IllegalArgumentException", σ)) = some (.inl "java/lang/IllegalArgumentException", σ) := by
      intro x
      by_cases q : a < 1
      · rw [if_pos q]
      · rw [if_neg q]
        by_cases q2 : a ≤ 1000
        · exact absurd ((btw_lo (lo := 1) (hi := 1000) (by decide) (by decide)).mp ⟨q, q2⟩) hno
        · rw [if_neg q2]
    rw [e0, e1, if_pos (show (0 : Int32) = 0 from rfl), fails1, bd_some, if_neg (by decide)]
    exact Agr.no (h.s00 1) 0 rfl (s00_0 τ 1)
theorem stt_state {M : Mk} (A : Au) (k s : Nat) : nI (stt M A k s) = if (bidk M A k).testBit s then 1 else if (frzk A k).testBit s then 2 else 0 := by
  unfold stt
  split
  · rfl
  · split <;> rfl
theorem op_state {t : Nat} {M : Mk} {σ τ : Sg} (h : Rel t M σ τ) (a : Int32) : Agr ["java/lang/IndexOutOfBoundsException", "java/lang/IllegalStateException"] t (fX6_state a σ) (fX7_state a τ) := by
  have hM := h.1.2.1
  have hn := hM.1.1
  rw [fX6_state, fX7_state]
  simp only [jp_eq]
  rcases sta_dec M a with ⟨s, hs, rfl⟩ | hno
  · rw [reqSta_ok hn h.1.1.1 hs, bx_inr, isSta_ok hn h.2.1 hs, bd_some, if_neg n10, fails0, bd_some, if_pos rfl]
    rcases kn_cases h with ⟨z1, z2⟩ | ⟨z1, z2, A, hA, hfe⟩
    · rw [reqA0 z1, bx_inl, known0 (by rw [s00_1]; exact z2), bd_some, if_pos rfl, fails1, bd_some, if_neg (by decide)]
      exact Agr.no ((h.s00 0).s00 2) 1 rfl (s00_0 _ 2)
    · have hA2 := (hA.s00 0).s00 0
      rw [reqA1 z1, bx_inr, known1 (by rw [s00_1]; exact z2), bd_some, if_neg n10, fails0, bd_some, if_pos rfl, stof_eq hA.2.2.1.1 hA.2.2.1.2.2.2.2.2.2.1 hn hA2.2.2.2.2.2 hs, bd_some, hA.2.2.2.2.1.2.2.1, hA.2.2.2.2.1.2.2.2.1, if_c (hM.1.lt31 (bidk_lt hM _)) (by omega), if_c (hM.1.lt31 (frzk_lt hM hA.2.2.1.2.2.2.2.1 (Nat.le_refl _))) (by omega), stt_state]
      by_cases q1 : (bidk M A A.m).testBit s = true
      · rw [if_pos q1, if_pos q1]
        exact Agr.ok ((h.s00 0).s00 0) (s00_0 _ 0)
      · rw [if_neg q1, if_neg q1]
        by_cases q2 : (frzk A A.m).testBit s = true
        · rw [if_pos q2, if_pos q2]
          exact Agr.ok ((h.s00 0).s00 0) (s00_0 _ 0)
        · rw [if_neg q2, if_neg q2]
          exact Agr.ok ((h.s00 0).s00 0) (s00_0 _ 0)
  · rw [reqSta_no hn h.1.1.1 hno, bx_inl, isSta_no hn h.2.1 hno, bd_some, if_pos rfl, fails1, bd_some, if_neg (by decide)]
    exact Agr.no (h.s00 1) 0 rfl (s00_0 τ 1)
theorem prn_eq {M : Mk} {A : Au} {σ : Sg} (hM : M.WF) (hnow : A.now ≤ 100) (h : AucM (σ 1) M A) {s : Nat} (hs : M.tk.testBit s = true) : fX7_priceNow (nI s) σ = some (A.cur s, σ) := by
  have hn := hM.1.1
  have hsn := tb_lt hM.2.2.1 hs
  rw [fX7_priceNow, h.1, show (1540 : Int32) = nI 1540 from rfl, i3, gd_of (inb_ok (by omega) (by omega)), zI_clamp (by omega), h.2.2.2.1 s hs]
theorem op_price {t : Nat} {M : Mk} {σ τ : Sg} (h : Rel t M σ τ) (a : Int32) : Agr ["java/lang/IndexOutOfBoundsException", "java/lang/IllegalStateException", "java/util/NoSuchElementException"] t (fX6_price a σ) (fX7_price a τ) := by
  have hM := h.1.2.1
  have hn := hM.1.1
  rw [fX6_price, fX7_price]
  simp only [jp_eq]
  rcases sta_dec M a with ⟨s, hs, rfl⟩ | hno
  · rw [reqSta_ok hn h.1.1.1 hs, bx_inr, isSta_ok hn h.2.1 hs, bd_some, if_neg n10, fails0, bd_some, if_pos rfl]
    rcases kn_cases h with ⟨z1, z2⟩ | ⟨z1, z2, A, hA, hfe⟩
    · rw [reqA0 z1, bx_inl, known0 (by rw [s00_1]; exact z2), bd_some, if_pos rfl, fails1, bd_some, if_neg (by decide)]
      exact Agr.no ((h.s00 0).s00 2) 1 rfl (s00_0 _ 2)
    · have hA3 := ((hA.s00 0).s00 0).s00 0
      have e40 : (sup (sup τ 0 0 0) 0 0 0) 1 (40 + s) = if M.tk.testBit s then 1 else 0 := by
        rw [s00_1, s00_1]
        exact (h.2.1.2.2 s hs).2.2.2.1
      rw [reqA1 z1, bx_inr, known1 (by rw [s00_1]; exact z2), bd_some, if_neg n10, fails0, bd_some, if_pos rfl, show (40 : Int32) = nI 40 from rfl, zI_add, gd_of (inb_ok (show 40 + s < 2764 by omega) (by omega)), zI_clamp (show 40 + s < 2 ^ 31 by omega), e40, h.1.1.2.1, if_c (hM.1.lt31 hM.2.2.1) (by omega)]
      by_cases q : M.tk.testBit s = true
      · rw [if_pos q, if_pos q, if_neg (by decide), fails0, bd_some, if_pos rfl, prn_eq hM hA.2.2.1.1 hA3.2.2.2.2.2 q, bd_some, gd_of (inb_ok (by omega) (by omega)), zI_clamp (by omega)]
        have e28 : σ 28 s = A.cur s := hA.2.2.2.2.1.2.2.2.2.2.2.1 s q
        rw [e28]
        exact Agr.ok (((h.s00 0).s00 0).s00 0) (s00_0 _ 0)
      · rw [if_neg q, if_neg q, if_pos rfl, fails1, bd_some, if_neg (by decide)]
        exact Agr.no (((h.s00 0).s00 0).s00 3) 2 rfl (s00_0 _ 3)
  · rw [reqSta_no hn h.1.1.1 hno, bx_inl, isSta_no hn h.2.1 hno, bd_some, if_pos rfl, fails1, bd_some, if_neg (by decide)]
    exact Agr.no (h.s00 1) 0 rfl (s00_0 τ 1)
/-- who is frozen is so by an event -/
theorem frz_ev {A : Au} : ∀ k s, (frzk A k).testBit s = true → ∃ j, j < k ∧ A.st j = s ∧ A.wd j ≠ 0 := by
  intro k
  induction k with
  | zero => intro s h; rw [frzk, tb_zero] at h; exact absurd h (by decide)
  | succ k ih =>
    intro s h
    rw [frzk] at h
    split at h
    · obtain ⟨j, h1, h2⟩ := ih s h
      exact ⟨j, by omega, h2⟩
    · next q =>
      rw [Nat.testBit_or, tb_pow, Bool.or_eq_true, decide_eq_true_eq] at h
      rcases h with h | h
      · obtain ⟨j, h1, h2⟩ := ih s h
        exact ⟨j, by omega, h2⟩
      · exact ⟨k, by omega, h.symm, q⟩
theorem one_two {w : Nat} (h : w ≤ 2) (h0 : w ≠ 0) : w = 1 ∨ w = 2 := by omega
theorem op_frozenBy {t : Nat} {M : Mk} {σ τ : Sg} (h : Rel t M σ τ) (a : Int32) : Agr ["java/lang/IndexOutOfBoundsException", "java/lang/IllegalStateException", "java/util/NoSuchElementException"] t (fX6_frozenBy a σ) (fX7_frozenBy a τ) := by
  have hM := h.1.2.1
  have hn := hM.1.1
  rw [fX6_frozenBy, fX7_frozenBy]
  simp only [jp_eq]
  rcases sta_dec M a with ⟨s, hs, rfl⟩ | hno
  · rw [reqSta_ok hn h.1.1.1 hs, bx_inr, isSta_ok hn h.2.1 hs, bd_some, if_neg n10, fails0, bd_some, if_pos rfl]
    rcases kn_cases h with ⟨z1, z2⟩ | ⟨z1, z2, A, hA, hfe⟩
    · rw [reqA0 z1, bx_inl, known0 (by rw [s00_1]; exact z2), bd_some, if_pos rfl, fails1, bd_some, if_neg (by decide)]
      exact Agr.no ((h.s00 0).s00 2) 1 rfl (s00_0 _ 2)
    · have hA2 := (hA.s00 0).s00 0
      have hEv := hA.2.2.1.2.2.2.2.1
      rw [reqA1 z1, bx_inr, known1 (by rw [s00_1]; exact z2), bd_some, if_neg n10, fails0, bd_some, if_pos rfl, stof_eq hA.2.2.1.1 hA.2.2.1.2.2.2.2.2.2.1 hn hA2.2.2.2.2.2 hs, bd_some, hA.2.2.2.2.1.2.2.2.1, if_c (hM.1.lt31 (frzk_lt hM hEv (Nat.le_refl _))) (by omega)]
      by_cases q : (frzk A A.m).testBit s = true
      · have hb : ¬ (bidk M A A.m).testBit s = true := by
          rcases (part_k hM hEv A.m (Nat.le_refl _) s).1 hs with z | z | z
          · rw [z.2.2] at q; exact absurd q (by decide)
          · rw [z.2.2] at q; exact absurd q (by decide)
          · rw [z.1]; decide
        have e2 : nI (stt M A A.m s) = 2 := by rw [stt_state, if_neg hb, if_pos q]
        obtain ⟨j, j1, j2, j3⟩ := frz_ev A.m s q
        obtain ⟨v1, v2, v3, v4⟩ := hEv j j1
        obtain ⟨w1, w2, -⟩ := hA.2.2.2.2.1.2.2.2.2.2.2.2 j j1
        obtain ⟨u1, u2, -⟩ := hA2.2.2.2.2.2.2.2.2.2 j j1
        have w1' : A.wd j = 1 → σ 29 s = nI (airk M A j) := fun z => by have := w1 z; rw [j2] at this; exact this
        have w2' : A.wd j = 2 → σ 29 s = -1 := fun z => by have := w2 z; rw [j2] at this; exact this
        rw [j2] at u1 u2 v1
        have hair := airk_lt hM hEv (show j ≤ A.m by omega)
        rw [if_pos q, e2, if_pos rfl, show (88 : Int32) = nI 88 from rfl, zI_add, zI_clamp (show 88 + s < 2 ^ 31 by omega), zI_clamp (show s < 2 ^ 31 by omega), gd_of (inb_ok (by omega) (by omega)), gd_of (inb_ok (by omega) (by omega))]
        rcases one_two v3 j3 with w | w
        · obtain ⟨x, x1, x2, x3⟩ := u1 w
          have hbad := v4 w
          rw [j2] at hbad
          rw [w1' w, if_neg (zI_neg1 (hM.1.lt31 hair)), gd_of (inb_ok (by omega) (by omega)), x1, if_pos (zI_ge0 (by omega)), fails0, bd_some, if_pos rfl, gd_of (inb_ok (by omega) (by omega)), s00_1, x1]
          obtain ⟨σ1, y, e3, i3', f3, p3⟩ := sr_eq hs hair hbad h.1
          have hno : (airk M A j).testBit s = false := by
            rcases (part_k hM hEv j (by omega) s).1 hs with z | z | z
            · exact z.2.1
            · rw [v1] at z; exact absurd z.1 (by decide)
            · exact z.2.1
          rw [ndf_none hno] at i3'
          rw [e3, bd_some, i3'.uniq x2]
          exact Agr.ok ((((h.s00 0).s00 0).s00 0).pk f3 p3 rfl (MF.refl _)) (s00_0 _ 0)
        · rw [w2' w, if_pos (show (-1 : Int32) = -1 from rfl), u2 w, if_neg (show ¬ (0 : Int32) ≤ -1 by decide), fails1, bd_some, if_neg (by decide), gd_of (inb_ok (show 88 + s < 2764 by omega) (by omega))]
          exact Agr.no (((h.s00 0).s00 0).s00 3) 2 rfl (s00_0 _ 3)
      · have e2 : ¬ nI (stt M A A.m s) = 2 := by
          rw [stt_state]
          split
          · decide
          · decide
        rw [if_neg q, if_neg e2, fails1, bd_some, if_neg (by decide)]
        exact Agr.no (((h.s00 0).s00 0).s00 3) 2 rfl (s00_0 _ 3)
  · rw [reqSta_no hn h.1.1.1 hno, bx_inl, isSta_no hn h.2.1 hno, bd_some, if_pos rfl, fails1, bd_some, if_neg (by decide)]
    exact Agr.no (h.s00 1) 0 rfl (s00_0 τ 1)
