/-! Layer 2, 59: conflicts -/
theorem inner_eq {M : Mk} (hM : M.WF) {i : Nat} (hi : i < 12) {A : Tx} (hA : A.1 ≤ sumTo gtx (12 * i)) (K : Sg → Option (Unit × Sg)) : ∀ k j fuel (σ : Sg), j + k = M.n → k < fuel → i < j → σ 3 6 = nI M.n → (∀ s, s < 12 → σ 15 s = nI (M.sm s) ∧ σ 16 s = nI (M.nx s)) → HX (rowk M A i j) σ →
    ∃ τ, fX6_describeConflicts_25 (nI i) K fuel (nI j) σ = K τ ∧ HX (rowk M A i M.n) τ ∧ GX σ τ := by
  have hn := hM.1.1
  intro k
  induction k with
  | zero =>
    intro j fuel σ hj hf hij h6 hc h
    obtain ⟨f', rfl, -⟩ := fuel_succ hf
    refine ⟨σ, ?_, ?_, GX.refl σ⟩
    · rw [fX6_describeConflicts_25, h6, if_le (by omega) (by omega), if_pos (by omega)]
    · rw [show M.n = j by omega]
      exact h
  | succ k ih =>
    intro j fuel σ hj hf hij h6 hc h
    obtain ⟨f', rfl, hf⟩ := fuel_succ hf
    have hl := rowk_len (M := M) hA hi j (by omega)
    have hg : gtx (12 * i + j) = lnum i + lnum j + 4 := by
      unfold gtx
      rw [show (12 * i + j) / 12 = i by omega, show (12 * i + j) % 12 = j by omega, if_pos hij]
    have hb := gtx_le (x := 12 * i + j + 1) (by omega)
    rw [sumTo] at hb
    obtain ⟨τ, e1, e2, e3⟩ := pair_eq hM h hc hi (show j < 12 by omega) (by omega)
    rw [fX6_describeConflicts_25, h6, if_le (by omega) (by omega), if_neg (by omega), e1, bd_some, zs_add]
    obtain ⟨υ, f1, f2, f3⟩ := ih (j + 1) f' τ (by omega) (by omega) (by omega) (by rw [e3 3 (by decide) (by decide)]; exact h6) (by rw [e3 15 (by decide) (by decide), e3 16 (by decide) (by decide)]; exact hc) (by rw [rowk, stp, if_pos ⟨hij, by omega⟩]; exact e2)
    exact ⟨υ, f1, f2, e3.trans f3⟩
theorem outer_eq {M : Mk} (hM : M.WF) : ∀ k i fuel (σ : Sg), i + k = M.n → k < fuel → σ 3 6 = nI M.n → (∀ s, s < 12 → σ 15 s = nI (M.sm s) ∧ σ 16 s = nI (M.nx s)) → HX (altx M i) σ →
    ∃ τ, fX6_describeConflicts_10 fuel (nI i) σ = some ((), τ) ∧ HX (altx M M.n) τ ∧ GX σ τ := by
  have hn := hM.1.1
  intro k
  induction k with
  | zero =>
    intro i fuel σ hi hf h6 hc h
    obtain ⟨f', rfl, -⟩ := fuel_succ hf
    refine ⟨σ, ?_, ?_, GX.refl σ⟩
    · rw [fX6_describeConflicts_10, h6, if_le (by omega) (by omega), if_pos (by omega)]
    · rw [show M.n = i by omega]
      exact h
  | succ k ih =>
    intro i fuel σ hi hf h6 hc h
    obtain ⟨f', rfl, hf⟩ := fuel_succ hf
    obtain ⟨F, hF8, hFe⟩ : ∃ F, 12 < F ∧ FU = F := ⟨FU, by unfold FU; omega, rfl⟩
    rw [fX6_describeConflicts_10, h6, if_le (by omega) (by omega), if_neg (by omega), lt'_eq, hFe, zs_add]
    obtain ⟨τ, e1, e2, e3⟩ := inner_eq hM (show i < 12 by omega) (altx_len (M := M) i (by omega)) (fun (σ11 : Sg) => fX6_describeConflicts_10 f' (nI (i + 1)) σ11) (M.n - (i + 1)) (i + 1) F σ (by omega) (by omega) (by omega) h6 hc (by rw [rowk_low (i + 1) (Nat.le_refl _)]; exact h)
    rw [e1]
    obtain ⟨υ, f1, f2, f3⟩ := ih (i + 1) f' τ (by omega) (by omega) (by rw [e3 3 (by decide) (by decide)]; exact h6) (by rw [e3 15 (by decide) (by decide), e3 16 (by decide) (by decide)]; exact hc) (by rw [altx, rowk_high 12 hn]; exact e2)
    exact ⟨υ, f1, f2, e3.trans f3⟩
def ptx (M : Mk) (x : Nat) : Tx := rowk M (altx M (x / 12)) (x / 12) (x % 12)
theorem ptx_succ (M : Mk) (x : Nat) : ptx M (x + 1) = stp M (ptx M x) (x / 12) (x % 12) := by
  unfold ptx
  rcases Nat.lt_or_ge (x % 12 + 1) 12 with q | q
  · rw [show (x + 1) / 12 = x / 12 by omega, show (x + 1) % 12 = x % 12 + 1 by omega, rowk]
  · rw [show (x + 1) / 12 = x / 12 + 1 by omega, show (x + 1) % 12 = 0 by omega, rowk, altx, show 12 = 11 + 1 by omega, rowk, show x % (11 + 1) = 11 by omega]
theorem ptx_len (M : Mk) {x : Nat} (hx : x < 144) : (ptx M x).1 ≤ sumTo gtx x := by
  have := rowk_len (M := M) (t := altx M (x / 12)) (i := x / 12) (altx_len (M := M) (x / 12) (by omega)) (by omega) (x % 12) (by omega)
  rw [show 12 * (x / 12) + x % 12 = x by omega] at this
  exact this
theorem print_loop {M : Mk} (hM : M.WF) : ∀ k x fuel (σ : Sg), x + k = 144 → k < fuel → RefM (σ 1) M → HM (ptx M x) σ →
    ∃ τ, fX7_print_7 fuel (nI x) σ = some ((), τ) ∧ HM (ptx M 144) τ ∧ GM σ τ := by
  have hn := hM.1.1
  intro k
  induction k with
  | zero =>
    intro x fuel σ hx hf hr h
    obtain ⟨f', rfl, -⟩ := fuel_succ hf
    refine ⟨σ, ?_, ?_, GM.refl σ⟩
    · rw [fX7_print_7, show (144 : Int32) = nI 144 from rfl, if_le (by decide) (by omega), if_pos (by omega)]
    · rw [← show x = 144 by omega]
      exact h
  | succ k ih =>
    intro x fuel σ hx hf hr h
    obtain ⟨f', rfl, hf⟩ := fuel_succ hf
    obtain ⟨i, hi⟩ : ∃ i, i = x / 12 := ⟨_, rfl⟩
    obtain ⟨j, hj⟩ : ∃ j, j = x % 12 := ⟨_, rfl⟩
    have hi12 : i < 12 := by omega
    have hj12 : j < 12 := by omega
    have next : ∀ τ, GM σ τ → HM (stp M (ptx M x) i j) τ → ∃ υ, fX7_print_7 f' (nI (x + 1)) τ = some ((), υ) ∧ HM (ptx M 144) υ ∧ GM σ υ := by
      intro τ g1 h1
      obtain ⟨υ, e1, e2, e3⟩ := ih (x + 1) f' τ (by omega) (by omega) (by rw [g1.1 1 (by decide) (by decide)]; exact hr) (by rw [ptx_succ, ← hi, ← hj]; exact h1)
      exact ⟨υ, e1, e2, g1.trans e3⟩
    rw [fX7_print_7, show (144 : Int32) = nI 144 from rfl, if_le (by decide) (by omega), if_neg (by omega), show (12 : Int32) = nI 12 from rfl, zI_div (by omega) (by decide), lt'_eq, ← hi, zI_mul, zI_sub (by omega), show x - i * 12 = j by omega, lt'_eq, show (64 : Int32) = nI 64 from rfl, show (76 : Int32) = nI 76 from rfl, zI_add, zI_add, gd_of (inb_ok (show 64 + i < 2764 by omega) (by omega)), lt'_eq, gd_of (inb_ok (show 76 + i < 2764 by omega) (by omega)), lt'_eq, zI_clamp (show 64 + i < 2 ^ 31 by omega), zI_clamp (show 76 + i < 2 ^ 31 by omega), zs_add]
    simp only [jp_eq]
    rw [if_le (by omega) (by omega), hr.1, if_le (by omega) (by omega)]
    by_cases q1 : j ≤ i
    · rw [if_pos q1]
      exact next σ (GM.refl σ) (by unfold stp; rw [if_neg (by omega)]; exact h)
    · rw [if_neg q1]
      by_cases q2 : M.n ≤ j
      · rw [if_pos q2]
        exact next σ (GM.refl σ) (by unfold stp; rw [if_neg (by omega)]; exact h)
      · rw [if_neg q2]
        have hij : i < j ∧ j < M.n := ⟨by omega, by omega⟩
        have hlen := ptx_len M (x := x) (by omega)
        have hb := gtx_le (x := x + 1) (by omega)
        rw [sumTo] at hb
        have hg : gtx x = lnum i + lnum j + 4 := by
          unfold gtx
          rw [← hi, ← hj, if_pos hij.1]
        obtain ⟨t, ht⟩ : ∃ t, t = ptx M x := ⟨_, rfl⟩
        rw [← ht] at h hlen next
        have hn1 := sep_len t
        have hn2 := num_le (tsep t) i
        have hn3 := num_le (((tsep t).num i).push 45) j
        have hn4 : (((tsep t).num i).push 45).1 = ((tsep t).num i).1 + 1 := rfl
        have hn7 := let_len ((((tsep t).num i).push 45).num j) ((M.sm i).testBit j) 99
        obtain ⟨σ1, e1, h1, g1⟩ := sepM h (by omega)
        obtain ⟨σ2, e2, h2, g2⟩ := writen_eq h1 (by omega) hi12
        obtain ⟨σ3, e3, h3, g3⟩ := write_eq h2 (by omega) 45
        obtain ⟨σ4, e4, h4, g4⟩ := writen_eq h3 (by omega) hj12
        obtain ⟨σ5, e5, h5, g5⟩ := letM h4 (by omega) ((M.sm i).testBit j) 99
        obtain ⟨σ6, e6, h6, g6⟩ := letM h5 (by omega) ((M.nx i).testBit j) 97
        have i1 := hM.1.lt31 (hM.1.2.1 i)
        have i2 := hM.1.lt31 (hM.1.2.2.1 i)
        obtain ⟨-, -, -, -, -, q6, q7⟩ := hr.2.2 i (by omega)
        rw [q6, q7, if_h i1 (by omega), if_h i2 (by omega), show (99 : Int32) = nI 99 from rfl, show (97 : Int32) = nI 97 from rfl, show (45 : Int32) = nI 45 from rfl]
        have gall := ((((g1.trans g2).trans g3).trans g4).trans g5).trans g6
        have fin : ¬((M.sm i).testBit j = false ∧ (M.nx i).testBit j = false) → ∃ υ, fX7_print_7 f' (nI (x + 1)) σ6 = some ((), υ) ∧ HM (ptx M 144) υ ∧ GM σ υ := by
          intro hno
          refine next σ6 gall ?_
          unfold stp enc
          rw [if_pos hij, if_neg hno]
          exact h6
        by_cases b1 : (M.sm i).testBit j = true
        · obtain ⟨υ, u1, u2⟩ := fin (fun z => by rw [z.1] at b1; exact absurd b1 (by decide))
          refine ⟨υ, ?_, u2⟩
          rw [if_pos b1]
          refine (e1 _).trans ?_
          rw [e2, bd_some, e3, bd_some, e4, bd_some, if_h i1 (by omega)]
          refine (e5 _).trans ?_
          rw [if_h i2 (by omega)]
          exact (e6 _).trans u1
        · by_cases b2 : (M.nx i).testBit j = true
          · obtain ⟨υ, u1, u2⟩ := fin (fun z => by rw [z.2] at b2; exact absurd b2 (by decide))
            refine ⟨υ, ?_, u2⟩
            rw [if_neg b1, if_pos b2]
            refine (e1 _).trans ?_
            rw [e2, bd_some, e3, bd_some, e4, bd_some, if_h i1 (by omega)]
            refine (e5 _).trans ?_
            rw [if_h i2 (by omega)]
            exact (e6 _).trans u1
          · rw [if_neg b1, if_neg b2]
            refine next σ (GM.refl σ) ?_
            unfold stp enc
            rw [if_pos hij, if_pos ⟨Bool.eq_false_iff.mpr b1, Bool.eq_false_iff.mpr b2⟩]
            exact h
theorem op_conflicts {t : Nat} {M : Mk} {σ τ : Sg} (h : Rel t M σ τ) (a : Int32) : Agr ["java/lang/IndexOutOfBoundsException"] t (fX6_conflicts a σ) (fX7_conflicts a τ) := by
  have hM := h.1.2.1
  have hn := hM.1.1
  have hlen : (altx M M.n).1 ≤ 418 := Nat.le_trans (altx_len (M := M) M.n hn) (gtx_le (by omega))
  have h0 : HX (altx M 0) (sup σ 6 1 0) := ⟨by rw [sup_self, upd_app, if_pos rfl]; rfl, fun k hk => absurd hk (Nat.not_lt_zero k)⟩
  obtain ⟨σ1, e1, x1, g1⟩ := outer_eq hM M.n 0 FU (sup σ 6 1 0) (by omega) (by unfold FU; omega) (by rw [sup_ne (by decide)]; exact h.1.1.1) (by rw [sup_ne (by decide), sup_ne (by decide)]; exact h.1.1.2.2.2.2) h0
  have h1 : HM (ptx M 0) (sup τ 0 12 0) := ⟨by rw [sup_self, upd_app, if_pos rfl]; rfl, fun k hk => absurd hk (Nat.not_lt_zero k)⟩
  obtain ⟨τ1, e2, x2, g2⟩ := print_loop hM 144 0 FU (sup τ 0 12 0) (by omega) (by unfold FU; omega) (by rw [sup_ne (by decide)]; exact h.2.1) h1
  have ept : ptx M 144 = altx M M.n := by
    show rowk M (altx M 12) 12 0 = _
    rw [rowk, altx_high 12 hn]
  rw [ept] at x2
  have gx : ∀ k, k ≠ 6 → k ≠ 26 → σ1 k = σ k := fun k b c => (g1 k b c).trans (sup_ne b)
  have gm : (∀ k, k ≠ 0 → k ≠ 6 → τ1 k = τ k) ∧ ∀ j, j ≠ 12 → τ1 0 j = τ 0 j := ⟨fun k b c => (g2.1 k b c).trans (sup_ne b), fun j b => (g2.2 j b).trans (by rw [sup_self, upd_app, if_neg b])⟩
  have hrel : Rel t M σ1 τ1 := h.fr (fun k hk => gx k (by omega) (by omega)) ⟨gm.1 2 (by decide) (by decide), gm.1 3 (by decide) (by decide), gm.2 3 (by decide), gm.2 7 (by decide), gm.2 9 (by decide)⟩ (h.1.oth fun k hk => gx k (by omega) (by omega)) (by rw [gm.1 1 (by decide) (by decide)]; exact h.2.1) (by
    rw [gm.1 1 (by decide) (by decide)]
    exact h.2.2.1.fr (gx 7 (by decide) (by decide)) (gx 27 (by decide) (by decide)) (gx 28 (by decide) (by decide)) (gx 29 (by decide) (by decide)) (gx 30 (by decide) (by decide)))
  rw [fX6_conflicts, fX6_describeConflicts, lt'_eq, fX7_conflicts, fX7_print, lt'_eq]
  rw [show nI 0 = (0 : Int32) from rfl] at e1 e2
  rw [e1, bd_some, e2, bd_some]
  simp only [jp_eq]
  rw [x1.1, x2.1]
  have neg1 : ∀ k : Nat, k < 2 ^ 31 → ¬ nI k < (-1 : Int32) := fun k hk z => zI_nn hk (Int32.lt_of_lt_of_le z (by decide))
  by_cases q : a = -1
  · have b1 : pX7_isBetween a (-1) (nI (altx M M.n).1 - 1) = 1 := by
      unfold pX7_isBetween
      rw [jp_eq, q, if_neg (by decide), if_neg]
      rcases Nat.eq_zero_or_pos (altx M M.n).1 with z | z
      · rw [z]; decide
      · rw [show (1 : Int32) = nI 1 from rfl, zI_sub z]
        exact neg1 _ (by omega)
    have hz : (sup τ1 0 0 0) 0 12 = nI (altx M M.n).1 := by rw [sup_self, upd_app, if_neg (by decide)]; exact x2.1
    rw [if_pos q, b1, if_neg n10, fails0, bd_some, if_pos (show (0 : Int32) = 0 from rfl), q, if_neg (by decide), hz]
    exact Agr.ok (hrel.s00 0) (s00_0 _ 0)
  · rw [if_neg q]
    rcases Classical.em (∃ k, k < (altx M M.n).1 ∧ a = nI k) with ⟨k, k1, rfl⟩ | hno
    · have b1 : pX7_isBetween (nI k) (-1) (nI (altx M M.n).1 - 1) = 1 := by
        unfold pX7_isBetween
        rw [jp_eq, if_neg (neg1 k (by omega)), show (1 : Int32) = nI 1 from rfl, zI_sub (by omega), if_lt (by omega) (by omega), if_neg (by omega)]
      have ea : fX5_at_6 (nI k) σ1 = some (nI ((altx M M.n).2 k), σ1) := by
        obtain ⟨u1, u2⟩ := x1.2 k k1
        rw [fX5_at_6]
        simp only [jp_eq]
        rw [if_neg (zI_nn (by omega)), x1.1, if_le (by omega) (by omega), if_neg (by omega), gd_of (inb_ok (by omega) (by omega)), zI_clamp (by omega), u2, gd_of (nch_all _ u1)]
      have hz : (sup τ1 0 0 0) 6 k = nI ((altx M M.n).2 k) := by rw [sup_ne (by decide)]; exact x2.2 k k1
      rw [if_neg (zI_nn (by omega)), if_lt (by omega) (by omega), if_pos k1, ea, bd_some, b1, if_neg n10, fails0, bd_some, if_pos (show (0 : Int32) = 0 from rfl), if_pos (zI_ge0 (by omega)), gd_of (inb_ok (by omega) (by omega)), zI_clamp (by omega), hz]
      exact Agr.ok (hrel.s00 0) (s00_0 _ 0)
    · have e0 : ∀ x : Option ((String ⊕ Int32) × Sg), (if a < 0 then some ((Sum.inl "java/lang/IndexOutOfBoundsException" : String ⊕ Int32), σ1) else if a < nI (altx M M.n).1 then x else some (.inl "java/lang/IndexOutOfBoundsException", σ1)) = some (.inl "java/lang/IndexOutOfBoundsException", σ1) := by
        intro x
        by_cases q : a < 0
        · rw [if_pos q]
        · rw [if_neg q]
          by_cases q2 : a < nI (altx M M.n).1
          · exact absurd ((lt_nI (by omega)).mp ⟨q, q2⟩) hno
          · rw [if_neg q2]
      have b1 : pX7_isBetween a (-1) (nI (altx M M.n).1 - 1) = 0 := by
        unfold pX7_isBetween
        rw [jp_eq]
        by_cases z : a < -1
        · rw [if_pos z]
        · rw [if_neg z]
          rcases int_cases a with ⟨k, k1, k2⟩ | hh
          · rw [if_pos]
            rw [k2]
            rcases Nat.eq_zero_or_pos (altx M M.n).1 with w | w
            · rw [w]
              exact Int32.lt_of_lt_of_le (show nI 0 - 1 < (0 : Int32) by decide) (zI_ge0 k1)
            · rw [show (1 : Int32) = nI 1 from rfl, zI_sub w, zI_lt (by omega) k1]
              rcases Nat.lt_or_ge k (altx M M.n).1 with v | v
              · exact absurd ⟨k, v, k2⟩ hno
              · omega
          · exfalso
            rw [Int32.lt_iff_toInt_lt] at hh z
            have h3 : a.toInt = -1 := by
              have h4 : (0 : Int32).toInt = 0 := rfl
              have h5 : (-1 : Int32).toInt = -1 := rfl
              omega
            exact q (Int32.toInt_inj.mp (by rw [h3]; rfl))
      rw [e0, b1, if_pos (show (0 : Int32) = 0 from rfl), fails1, bd_some, if_neg n10]
      exact Agr.no (hrel.s00 1) 0 rfl (s00_0 _ 1)
