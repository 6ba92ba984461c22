/-! Layer 2, 50: stations come and go -/
theorem Gr.zero {n : Nat} {sm nx : Nat → Nat} (h : Gr n sm nx) {s : Nat} (hs : n ≤ s) : sm s = 0 ∧ nx s = 0 := by
  constructor
  · refine Nat.eq_of_testBit_eq fun t => ?_
    rw [h.2.2.2.1 s t, tb_zero, tb_not (h.2.1 t) hs]
  · refine Nat.eq_of_testBit_eq fun t => ?_
    rw [h.2.2.2.2.1 s t, tb_zero, tb_not (h.2.2.1 t) hs]
def Mk.plus (M : Mk) (c v w : Nat) : Mk := (M.n + 1, M.av, M.tk ||| 2 ^ M.n, (fun t => if t = M.n then c else M.ch t), (fun t => if t = M.n then v else M.vl t), (fun t => if t = M.n then w else M.wt t), M.sm, M.nx, (fun t => if t = M.n then -1 else M.kp t))
theorem plus_wf {M : Mk} (h : M.WF) (hn : M.n < 12) {c v w : Nat} (hc : c < 2 ^ 8) (hv : v ≤ 9999) (h1 : 1 ≤ w) (hw : w ≤ 99) : (M.plus c v w).WF := by
  have hp : 2 ^ M.n < 2 ^ (M.n + 1) := Nat.pow_lt_pow_right (by decide) (by omega)
  refine ⟨⟨hn, fun s => Nat.lt_trans (h.1.2.1 s) hp, fun s => Nat.lt_trans (h.1.2.2.1 s) hp, h.1.2.2.2⟩, h.2.1, or_lt (Nat.lt_trans h.2.2.1 hp) hp, fun s hs => ?_⟩
  have hs' : s < M.n + 1 := hs
  show (if s = M.n then c else M.ch s) < 2 ^ 8 ∧ (if s = M.n then v else M.vl s) ≤ 9999 ∧ 1 ≤ (if s = M.n then w else M.wt s) ∧ (if s = M.n then w else M.wt s) ≤ 99 ∧ ((if s = M.n then -1 else M.kp s) = -1 ∨ ∃ c, c < 8 ∧ (if s = M.n then -1 else M.kp s) = nI c)
  by_cases q : s = M.n
  · rw [if_pos q, if_pos q, if_pos q, if_pos q]
    exact ⟨hc, hv, h1, hw, Or.inl rfl⟩
  · rw [if_neg q, if_neg q, if_neg q, if_neg q]
    exact h.2.2.2 s (by omega)
theorem op_addStation {t : Nat} {M : Mk} {σ τ : Sg} (h : Rel t M σ τ) (ht : t + 1 < 2 ^ 20) (a b c : Int32) : Agr ["java/lang/IllegalArgumentException", "java/lang/UnsupportedOperationException", "java/lang/IllegalStateException"] (t + 1) (fX6_addStation a b c σ) (fX7_addStation a b c τ) := by
  have hM := h.1.2.1
  have hn := hM.1.1
  have hmono : ∀ {σ τ}, Rel t M σ τ → Rel (t + 1) M σ τ := fun z => z.mono (by omega) ht
  have bad1 : ∀ es : List String, es[0]? = some "java/lang/IllegalArgumentException" → Agr es (t + 1) (some (.inl "java/lang/IllegalArgumentException", σ)) (some (0, sup τ 0 0 1)) := fun es he => Agr.no (hmono (h.s00 1)) 0 he (s00_0 τ 1)
  rw [fX6_addStation, fX7_addStation]
  simp only [jp_eq]
  rcases Classical.em (∃ k, k < 2 ^ 8 ∧ a = nI k) with ⟨x, h1, rfl⟩ | hna
  · rw [reqCh_ok h1, bx_inr, isCh_ok h1, if_neg n10]
    rcases Classical.em (∃ k, 0 ≤ k ∧ k ≤ 9999 ∧ b = nI k) with ⟨v, -, h2, rfl⟩ | hnb
    · rw [reqV_ok h2, bx_inr, isV_ok h2, if_neg n10]
      rcases Classical.em (∃ k, 1 ≤ k ∧ k ≤ 99 ∧ c = nI k) with ⟨w, h3, h4, rfl⟩ | hnc
      · have e1 : pX7_isBetween (nI w) 1 99 = 1 := isb_yes (lo := 1) (hi := 99) (by decide) h3 h4 rfl
        obtain ⟨g1, g2⟩ := (btw_lo (a := nI w) (lo := 1) (hi := 99) (by decide) (by decide)).mpr ⟨w, h3, h4, rfl⟩
        rw [if_neg (show ¬ nI w < 1 from g1), if_pos (show nI w ≤ 99 from g2), e1, if_neg n10, fails0, bd_some, if_pos (show (0 : Int32) = 0 from rfl)]
        rcases kn_cases h with ⟨z1, z2⟩ | ⟨z1, z2, A, hA, hfe⟩
        · have hr2 := ((h.s00 0).s00 0).2.1
          rw [reqN0 z1, bx_inr, known0 (by rw [s00_1]; exact z2), bd_some, fails0, bd_some, if_pos (show (0 : Int32) = 0 from rfl), h.1.1.1, show (12 : Int32) = nI 12 from rfl, if_lt (by omega) (by decide), hr2.1, if_eq (by omega) (by decide)]
          by_cases q : M.n < 12
          · obtain ⟨y1, y2, y3, y4, y5⟩ := h.1.1
            have hpw : 2 ^ M.n < 2 ^ 12 := Nat.pow_lt_pow_right (by decide) q
            have hc : ∃ σ', fX3_enter (nI x) (nI v) (nI w) σ = some ((), σ') ∧ ClsM 3 11 σ' (M.plus x v w) ∧ (∀ k, k ≠ 3 → ¬(11 ≤ k ∧ k ≤ 14) → σ' k = σ k) ∧ σ' 3 6 = nI (M.n + 1) := by
              rw [fX3_enter, y1, show (12 : Int32) = nI 12 from rfl, if_lt (by omega) (by decide), if_pos q, gd_of (inb_ok q (by omega))]
              simp only [lt'_eq]
              rw [sup_ne (by decide), y1, gd_of (inb_ok q (by omega)), sup_ne (by decide), sup_ne (by decide), y1, gd_of (inb_ok q (by omega)), sup_ne (by decide), sup_ne (by decide), sup_ne (by decide), y1, gd_of (inb_ok q (by omega)), zI_clamp (by omega)]
              have q7 : sup (sup (sup (sup σ 11 M.n (nI x)) 12 M.n (nI v)) 13 M.n (nI w)) 14 M.n (-1) 3 7 = nI M.tk := by
                rw [sup_ne (by decide), sup_ne (by decide), sup_ne (by decide), sup_ne (by decide)]; exact y2
              have q6 : sup (sup (sup (sup σ 11 M.n (nI x)) 12 M.n (nI v)) 13 M.n (nI w)) 14 M.n (-1) 3 6 = nI M.n := by
                rw [sup_ne (by decide), sup_ne (by decide), sup_ne (by decide), sup_ne (by decide)]; exact y1
              rw [q7, q6, zI_one_shl (by omega), zI_or, sup_self, upd_app, if_neg (by decide), q6, zs_add]
              refine ⟨_, rfl, ⟨?_, ?_, ?_, fun s hs => ?_, fun s hs => ?_⟩, fun k a b => ?_, ?_⟩
              · rw [sup_self, upd_app, if_pos rfl]; rfl
              · rw [sup_self, upd_app, if_neg (by decide), sup_self, upd_app, if_pos rfl]; rfl
              · rw [sup_self, upd_app, if_neg (by decide), sup_self, upd_app, if_neg (by decide), sup_ne (by decide), sup_ne (by decide), sup_ne (by decide), sup_ne (by decide)]; exact y3
              · have hs' : s < M.n + 1 := hs
                show _ = nI (if s = M.n then x else M.ch s) ∧ _ = nI (if s = M.n then v else M.vl s) ∧ _ = nI (if s = M.n then w else M.wt s) ∧ _ = (if s = M.n then -1 else M.kp s)
                simp only [sup_app, upd_app]
                by_cases z : s = M.n
                · simp [z, upd_app]
                · have := y4 s (by omega)
                  simp [z, upd_app]
                  exact this
              · have := y5 s hs
                simp only [sup_app]
                exact this
              · rw [sup_ne a, sup_ne a, sup_ne (by omega), sup_ne (by omega), sup_ne (by omega), sup_ne (by omega)]
              · rw [sup_self, upd_app, if_pos rfl]
            obtain ⟨σ', e2, hc', hfr, h6⟩ := hc
            obtain ⟨σ2, vv, e3, e4, p1⟩ := forget_pk h.1 ht (hfr 2 (by decide) (by omega)) (hfr 39 (by decide) (by omega)) (hfr 40 (by decide) (by omega)) hc' (plus_wf hM q h1 h2 h3 h4)
            have h62 : σ2 3 6 = nI (M.n + 1) := by rw [e4, sup_ne (by decide)]; exact h6
            rw [if_pos q, e2, bd_some, e3, bd_some, h62, z_dec, if_neg (show ¬ M.n = 12 by omega), fails0, bd_some, if_pos (show (0 : Int32) = 0 from rfl)]
            simp only [lt'_eq]
            have hr3 := (((h.s00 0).s00 0).s00 0).2.1
            obtain ⟨g1, g2, g3⟩ := hr3
            have k4 : ∀ b : Nat, (nI b + nI M.n) = nI (b + M.n) := fun b => zI_add b M.n
            rw [g1, show (4 : Int32) = nI 4 from rfl, show (16 : Int32) = nI 16 from rfl, show (28 : Int32) = nI 28 from rfl, show (40 : Int32) = nI 40 from rfl, show (52 : Int32) = nI 52 from rfl, show (64 : Int32) = nI 64 from rfl, show (76 : Int32) = nI 76 from rfl, k4, k4, k4, k4, k4, k4, k4,
              gd_of (inb_ok (show 4 + M.n < 2764 by omega) (by omega)), gd_of (inb_ok (show 16 + M.n < 2764 by omega) (by omega)), gd_of (inb_ok (show 28 + M.n < 2764 by omega) (by omega)), gd_of (inb_ok (show 40 + M.n < 2764 by omega) (by omega)), gd_of (inb_ok (show 52 + M.n < 2764 by omega) (by omega)), gd_of (inb_ok (show 64 + M.n < 2764 by omega) (by omega)), gd_of (inb_ok (show 76 + M.n < 2764 by omega) (by omega)),
              zI_clamp (show 4 + M.n < 2 ^ 31 by omega), zI_clamp (show 16 + M.n < 2 ^ 31 by omega), zI_clamp (show 28 + M.n < 2 ^ 31 by omega), zI_clamp (show 40 + M.n < 2 ^ 31 by omega), zI_clamp (show 52 + M.n < 2 ^ 31 by omega), zI_clamp (show 64 + M.n < 2 ^ 31 by omega), zI_clamp (show 76 + M.n < 2 ^ 31 by omega)]
            obtain ⟨υ, hυ⟩ : ∃ υ, υ = sup (sup (sup (sup (sup (sup (sup (sup (sup (sup τ 0 0 0) 0 0 0) 0 0 0) 1 (4 + M.n) (nI x)) 1 (16 + M.n) (nI v)) 1 (28 + M.n) (nI w)) 1 (40 + M.n) 1) 1 (52 + M.n) (-1)) 1 (64 + M.n) 0) 1 (76 + M.n) 0 := ⟨_, rfl⟩
            rw [← hυ]
            have mυ : MF (sup (sup (sup τ 0 0 0) 0 0 0) 0 0 0) υ := by
              rw [hυ]
              exact (((((MF.s1.trans MF.s1).trans MF.s1).trans MF.s1).trans MF.s1).trans MF.s1).trans MF.s1
            have rυ : ∀ j, υ 1 j = if j = 76 + M.n then 0 else if j = 64 + M.n then 0 else if j = 52 + M.n then -1 else if j = 40 + M.n then 1 else if j = 28 + M.n then nI w else if j = 16 + M.n then nI v else if j = 4 + M.n then nI x else (sup (sup (sup τ 0 0 0) 0 0 0) 0 0 0) 1 j := by
              intro j
              rw [hυ]
              simp only [sup_self, upd_app]
            have e0 : υ 1 0 = nI M.n := by
              rw [rυ]
              rw [if_neg (by omega), if_neg (by omega), if_neg (by omega), if_neg (by omega), if_neg (by omega), if_neg (by omega), if_neg (by omega)]
              exact g1
            rw [e0, zs_add]
            have eo : ∀ j, j < 76 + M.n → j ≠ 64 + M.n → j ≠ 52 + M.n → j ≠ 40 + M.n → j ≠ 28 + M.n → j ≠ 16 + M.n → j ≠ 4 + M.n → j ≠ 0 → sup υ 1 0 (nI (M.n + 1)) 1 j = (sup (sup (sup τ 0 0 0) 0 0 0) 0 0 0) 1 j := by
              intro j a1 a2 a3 a4 a5 a6 a7 a8
              rw [sup_self, upd_app, if_neg a8, rυ, if_neg (by omega), if_neg a2, if_neg a3, if_neg a4, if_neg a5, if_neg a6, if_neg a7]
            have en : ∀ j, j ≠ 0 → sup υ 1 0 (nI (M.n + 1)) 1 j = υ 1 j := fun j a8 => by rw [sup_self, upd_app, if_neg a8]
            refine Agr.ok ((((h.s00 0).s00 0).s00 0).chg (fun j hj => ?_) (mυ.trans MF.s1) p1 ⟨?_, ?_, fun s hs => ?_⟩ ?_ ?_) ?_
            · rw [e4, sup_ne (by omega), hfr j (by omega) (by omega)]
            · rw [sup_self, upd_app, if_pos rfl]; rfl
            · rw [eo 1 (by omega) (by omega) (by omega) (by omega) (by omega) (by omega) (by omega) (by omega)]; exact g2
            · have hs' : s < M.n + 1 := hs
              show _ = nI (if s = M.n then x else M.ch s) ∧ _ = nI (if s = M.n then v else M.vl s) ∧ _ = nI (if s = M.n then w else M.wt s) ∧ _ = (if (M.tk ||| 2 ^ M.n).testBit s then (1 : Int32) else 0) ∧ _ = (if s = M.n then -1 else M.kp s) ∧ _ = nI (M.sm s) ∧ _ = nI (M.nx s)
              rw [en _ (by omega), en _ (by omega), en _ (by omega), en _ (by omega), en _ (by omega), en _ (by omega), en _ (by omega), Nat.testBit_or, tb_pow]
              by_cases z : s = M.n
              · obtain ⟨w1, w2⟩ := hM.1.zero (show M.n ≤ s by omega)
                rw [w1, w2, rυ, rυ, rυ, rυ, rυ, rυ, rυ, z]
                refine ⟨?_, ?_, ?_, ?_, ?_, ?_, ?_⟩
                · rw [if_neg (by omega), if_neg (by omega), if_neg (by omega), if_neg (by omega), if_neg (by omega), if_neg (by omega), if_pos rfl, if_pos rfl]
                · rw [if_neg (by omega), if_neg (by omega), if_neg (by omega), if_neg (by omega), if_neg (by omega), if_pos rfl, if_pos rfl]
                · rw [if_neg (by omega), if_neg (by omega), if_neg (by omega), if_neg (by omega), if_pos rfl, if_pos rfl]
                · rw [if_neg (by omega), if_neg (by omega), if_neg (by omega), if_pos rfl, decide_eq_true rfl, Bool.or_true, if_pos rfl]
                · rw [if_neg (by omega), if_neg (by omega), if_pos rfl, if_pos rfl]
                · rw [if_neg (by omega), if_pos rfl]; rfl
                · rw [if_pos rfl]; rfl
              · obtain ⟨q1, q2, q3, q4, q5, q6, q7⟩ := g3 s (by omega)
                have er : ∀ b, b = 4 ∨ b = 16 ∨ b = 28 ∨ b = 40 ∨ b = 52 ∨ b = 64 ∨ b = 76 → υ 1 (b + s) = (sup (sup (sup τ 0 0 0) 0 0 0) 0 0 0) 1 (b + s) := by
                  intro b hb
                  rw [rυ, if_neg (by omega), if_neg (by omega), if_neg (by omega), if_neg (by omega), if_neg (by omega), if_neg (by omega), if_neg (by omega)]
                rw [er 4 (by omega), er 16 (by omega), er 28 (by omega), er 40 (by omega), er 52 (by omega), er 64 (by omega), er 76 (by omega), if_neg z, if_neg z, if_neg z, if_neg z, decide_eq_false z, Bool.or_false]
                exact ⟨q1, q2, q3, q4, q5, q6, q7⟩
            · rw [e4, sup_ne (by decide), hfr 7 (by decide) (by omega)]; exact z1
            · rw [eo 2 (by omega) (by omega) (by omega) (by omega) (by omega) (by omega) (by omega) (by omega), s00_1, s00_1, s00_1]; exact z2
            · rw [sup_ne (by decide), hυ]
              simp only [sup_app, upd_app]
              rfl
          · rw [if_neg q, if_pos (show M.n = 12 by omega), fails1, bd_some, if_neg (by decide)]
            exact Agr.no (hmono (((h.s00 0).s00 0).s00 3)) 2 rfl (s00_0 _ 3)
        · rw [reqN1 z1, bx_inl, known1 (by rw [s00_1]; exact z2), bd_some, fails1, bd_some, if_neg (by decide)]
          exact Agr.no (hmono ((h.s00 0).s00 2)) 1 rfl (s00_0 _ 2)
      · have e1 : pX7_isBetween c 1 99 = 0 := isb_no (lo := 1) (hi := 99) (by decide) (by decide) hnc
        have e0 : ∀ x : Option ((String ⊕ Int32) × Sg), (if c < 1 then some ((Sum.inl "java/lang/IllegalArgumentException" : String ⊕ Int32), σ) else if c ≤ 99 then x else some (.inl "java/lang/IllegalArgumentException", σ)) = some (.inl "java/lang/IllegalArgumentException", σ) := by
          intro x
          by_cases q : c < 1
          · rw [if_pos q]
          · rw [if_neg q]
            by_cases q2 : c ≤ 99
            · exact absurd ((btw_lo (lo := 1) (hi := 99) (by decide) (by decide)).mp ⟨q, q2⟩) hnc
            · rw [if_neg q2]
        rw [e0, e1, if_pos (show (0 : Int32) = 0 from rfl), fails1, bd_some, if_neg (by decide)]
        exact bad1 _ rfl
    · rw [reqV_no hnb, bx_inl, isV_no hnb, if_pos rfl, fails1, bd_some, if_neg (by decide)]
      exact bad1 _ rfl
  · rw [reqCh_no hna, bx_inl, isCh_no hna, if_pos rfl, fails1, bd_some, if_neg (by decide)]
    exact bad1 _ rfl
