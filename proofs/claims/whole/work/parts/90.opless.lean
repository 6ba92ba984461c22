/-! Layer 2, 51: the last station goes -/
def Mk.less (M : Mk) (m : Nat) : Mk := (m, M.av, M.tk &&& (2 ^ m - 1), M.ch, M.vl, M.wt, (fun s => if s < m then M.sm s &&& (2 ^ m - 1) else 0), (fun s => if s < m then M.nx s &&& (2 ^ m - 1) else 0), M.kp)
theorem low_tb (x m t : Nat) : (x &&& (2 ^ m - 1)).testBit t = (x.testBit t && decide (t < m)) := by
  rw [Nat.testBit_and, Nat.testBit_two_pow_sub_one]
theorem low_lt (x m : Nat) : x &&& (2 ^ m - 1) < 2 ^ m := by
  have h := Nat.two_pow_pos m
  exact Nat.lt_of_le_of_lt Nat.and_le_right (by omega)
theorem low_ndf {x m : Nat} (h : x < 2 ^ (m + 1)) : ndf x (2 ^ m) = x &&& (2 ^ m - 1) := by
  refine Nat.eq_of_testBit_eq fun t => ?_
  rw [ndf_testBit, low_tb, tb_pow]
  rcases Nat.lt_trichotomy t m with q | q | q
  · rw [decide_eq_false (by omega), decide_eq_true q]; rfl
  · rw [decide_eq_true q, decide_eq_false (by omega)]; rfl
  · rw [tb_not h (by omega)]; rfl
theorem less_wf {M : Mk} (h : M.WF) {m : Nat} (hm : M.n = m + 1) : (M.less m).WF := by
  have hn := h.1.1
  refine ⟨⟨by show m ≤ 12; omega, fun s => ?_, fun s => ?_, fun s u => ?_, fun s u => ?_, fun s => ?_, fun s => ?_⟩, h.2.1, low_lt _ _, fun s hs => ?_⟩
  · show (if s < m then M.sm s &&& (2 ^ m - 1) else 0) < 2 ^ m
    split
    · exact low_lt _ _
    · exact Nat.two_pow_pos m
  · show (if s < m then M.nx s &&& (2 ^ m - 1) else 0) < 2 ^ m
    split
    · exact low_lt _ _
    · exact Nat.two_pow_pos m
  · show (if s < m then M.sm s &&& (2 ^ m - 1) else 0).testBit u = (if u < m then M.sm u &&& (2 ^ m - 1) else 0).testBit s
    by_cases q1 : s < m
    · by_cases q2 : u < m
      · rw [if_pos q1, if_pos q2, low_tb, low_tb, decide_eq_true q1, decide_eq_true q2, h.1.2.2.2.1 s u]
      · rw [if_pos q1, if_neg q2, low_tb, decide_eq_false q2, tb_zero, Bool.and_false]
    · by_cases q2 : u < m
      · rw [if_neg q1, if_pos q2, low_tb, decide_eq_false q1, tb_zero, Bool.and_false]
      · rw [if_neg q1, if_neg q2, tb_zero, tb_zero]
  · show (if s < m then M.nx s &&& (2 ^ m - 1) else 0).testBit u = (if u < m then M.nx u &&& (2 ^ m - 1) else 0).testBit s
    by_cases q1 : s < m
    · by_cases q2 : u < m
      · rw [if_pos q1, if_pos q2, low_tb, low_tb, decide_eq_true q1, decide_eq_true q2, h.1.2.2.2.2.1 s u]
      · rw [if_pos q1, if_neg q2, low_tb, decide_eq_false q2, tb_zero, Bool.and_false]
    · by_cases q2 : u < m
      · rw [if_neg q1, if_pos q2, low_tb, decide_eq_false q1, tb_zero, Bool.and_false]
      · rw [if_neg q1, if_neg q2, tb_zero, tb_zero]
  · show (if s < m then M.sm s &&& (2 ^ m - 1) else 0).testBit s = false
    split
    · rw [low_tb, h.1.2.2.2.2.2.1 s]; rfl
    · exact tb_zero s
  · show (if s < m then M.nx s &&& (2 ^ m - 1) else 0).testBit s = false
    split
    · rw [low_tb, h.1.2.2.2.2.2.2 s]; rfl
    · exact tb_zero s
  · have hs' : s < m := hs
    exact h.2.2.2 s (by omega)
theorem drop_loop {M : Mk} {m : Nat} (hm : m < 12) (K : Sg → Option (Unit × Sg)) : ∀ k i fuel (σ : Sg), i + k = m → k < fuel → σ 3 6 = nI m → (∀ s, s < 12 → σ 15 s = nI (if s < i then M.sm s &&& (2 ^ m - 1) else M.sm s) ∧ σ 16 s = nI (if s < i then M.nx s &&& (2 ^ m - 1) else M.nx s)) →
    ∃ τ, fX3_dropLast_33 K fuel (nI i) σ = K τ ∧ (∀ k, k ≠ 15 → k ≠ 16 → τ k = σ k) ∧ ∀ s, s < 12 → τ 15 s = nI (if s < m then M.sm s &&& (2 ^ m - 1) else M.sm s) ∧ τ 16 s = nI (if s < m then M.nx s &&& (2 ^ m - 1) else M.nx s) := by
  intro k
  induction k with
  | zero =>
    intro i fuel σ hi hf h6 h
    obtain ⟨f', rfl, -⟩ := fuel_succ hf
    refine ⟨σ, ?_, fun _ _ _ => rfl, ?_⟩
    · rw [fX3_dropLast_33, h6, if_le (by omega) (by omega), if_pos (by omega)]
    · rw [show m = i by omega]
      rw [show m = i by omega] at h
      exact h
  | succ k ih =>
    intro i fuel σ hi hf h6 h
    obtain ⟨f', rfl, hf⟩ := fuel_succ hf
    have hi12 : i < 12 := by omega
    have ev : ∀ {υ : Sg}, υ 3 6 = nI m → fX3_everyone υ = some (nI (2 ^ m - 1), υ) := fun {υ} e => by rw [fX3_everyone, e, everyone_nI (by omega)]
    have h15 := (h i hi12).1
    have h16 := (h i hi12).2
    rw [if_neg (Nat.lt_irrefl i)] at h15 h16
    rw [fX3_dropLast_33, h6, if_le (by omega) (by omega), if_neg (by omega), gd_of (inb_ok hi12 (by omega)), ev h6, bd_some, gd_of (inb_ok hi12 (by omega)), lt'_eq, gd_of (inb_ok hi12 (by omega)), ev (by rw [sup_ne (by decide)]; exact h6), bd_some, gd_of (inb_ok hi12 (by omega)), lt'_eq, zI_clamp (by omega), h15, zI_and, sup_ne (by decide), h16, zI_and, zs_add]
    obtain ⟨τ, e1, e2, e3⟩ := ih (i + 1) f' (sup (sup σ 15 i (nI (M.sm i &&& (2 ^ m - 1)))) 16 i (nI (M.nx i &&& (2 ^ m - 1)))) (by omega) (by omega) (by rw [sup_ne (by decide), sup_ne (by decide)]; exact h6) (fun s hs => by
      obtain ⟨a1, a2⟩ := h s hs
      refine ⟨?_, ?_⟩
      · rw [sup_ne (by decide), sup_self, upd_app]
        by_cases z : s = i
        · rw [if_pos z, if_pos (show s < i + 1 by omega), z]
        · rw [if_neg z, a1]
          by_cases z2 : s < i
          · rw [if_pos z2, if_pos (show s < i + 1 by omega)]
          · rw [if_neg z2, if_neg (show ¬ s < i + 1 by omega)]
      · rw [sup_self, upd_app, sup_ne (by decide)]
        by_cases z : s = i
        · rw [if_pos z, if_pos (show s < i + 1 by omega), z]
        · rw [if_neg z, a2]
          by_cases z2 : s < i
          · rw [if_pos z2, if_pos (show s < i + 1 by omega)]
          · rw [if_neg z2, if_neg (show ¬ s < i + 1 by omega)])
    exact ⟨τ, e1, fun j a b => by rw [e2 j a b, sup_ne b, sup_ne a], e3⟩
theorem rdrop_loop {M : Mk} {m : Nat} (hm : m < 12) (hsm : ∀ s, M.sm s < 2 ^ (m + 1)) (hnx : ∀ s, M.nx s < 2 ^ (m + 1)) (K : Sg → Option (Int32 × Sg)) : ∀ k i fuel (σ : Sg), i + k = m → k < fuel → σ 1 0 = nI m → (∀ s, s < m → σ 1 (64 + s) = nI (if s < i then M.sm s &&& (2 ^ m - 1) else M.sm s) ∧ σ 1 (76 + s) = nI (if s < i then M.nx s &&& (2 ^ m - 1) else M.nx s)) →
    ∃ τ, fX7_removeStation_48 K fuel (nI i) σ = K τ ∧ (∀ k, k ≠ 1 → τ k = σ k) ∧ (∀ j, ¬(64 ≤ j ∧ j < 64 + m) → ¬(76 ≤ j ∧ j < 76 + m) → τ 1 j = σ 1 j) ∧ ∀ s, s < m → τ 1 (64 + s) = nI (M.sm s &&& (2 ^ m - 1)) ∧ τ 1 (76 + s) = nI (M.nx s &&& (2 ^ m - 1)) := by
  intro k
  induction k with
  | zero =>
    intro i fuel σ hi hf h6 h
    obtain ⟨f', rfl, -⟩ := fuel_succ hf
    refine ⟨σ, ?_, fun _ _ => rfl, fun _ _ _ => rfl, fun s hs => ?_⟩
    · rw [fX7_removeStation_48, h6, if_le (by omega) (by omega), if_pos (by omega)]
    · have := h s hs
      rw [if_pos (show s < i by omega), if_pos (show s < i by omega)] at this
      exact this
  | succ k ih =>
    intro i fuel σ hi hf h6 h
    obtain ⟨f', rfl, hf⟩ := fuel_succ hf
    have hi12 : i < m := by omega
    have h64 := (h i hi12).1
    have h76 := (h i hi12).2
    rw [if_neg (Nat.lt_irrefl i)] at h64 h76
    rw [fX7_removeStation_48, h6, if_le (by omega) (by omega), if_neg (by omega), show (64 : Int32) = nI 64 from rfl, show (76 : Int32) = nI 76 from rfl, zI_add, zI_add, gd_of (inb_ok (show 64 + i < 2764 by omega) (by omega)), gd_of (inb_ok (show 64 + i < 2764 by omega) (by omega)), lt'_eq, gd_of (inb_ok (show 76 + i < 2764 by omega) (by omega)), gd_of (inb_ok (show 76 + i < 2764 by omega) (by omega)), lt'_eq, zI_clamp (show 64 + i < 2 ^ 31 by omega), zI_clamp (show 76 + i < 2 ^ 31 by omega), h64, zI_one_shl (by omega), zI_ndf, low_ndf (hsm i)]
    have g0 : ∀ v : Int32, sup σ 1 (64 + i) v 1 0 = nI m := fun v => by rw [sup_self, upd_app, if_neg (by omega)]; exact h6
    have g76 : ∀ v : Int32, sup σ 1 (64 + i) v 1 (76 + i) = nI (M.nx i) := fun v => by rw [sup_self, upd_app, if_neg (by omega)]; exact h76
    rw [g0, g76, zI_one_shl (by omega), zI_ndf, low_ndf (hnx i), zs_add]
    obtain ⟨τ, e1, e2, e3, e4⟩ := ih (i + 1) f' (sup (sup σ 1 (64 + i) (nI (M.sm i &&& (2 ^ m - 1)))) 1 (76 + i) (nI (M.nx i &&& (2 ^ m - 1)))) (by omega) (by omega) (by rw [sup_self, upd_app, if_neg (by omega)]; exact g0 _) (fun s hs => by
      obtain ⟨a1, a2⟩ := h s hs
      refine ⟨?_, ?_⟩
      · rw [sup_self, upd_app, if_neg (by omega), sup_self, upd_app]
        by_cases z : s = i
        · rw [if_pos (show 64 + s = 64 + i by omega), if_pos (show s < i + 1 by omega), z]
        · rw [if_neg (show ¬ 64 + s = 64 + i by omega), a1]
          by_cases z2 : s < i
          · rw [if_pos z2, if_pos (show s < i + 1 by omega)]
          · rw [if_neg z2, if_neg (show ¬ s < i + 1 by omega)]
      · rw [sup_self, upd_app, sup_self, upd_app]
        by_cases z : s = i
        · rw [if_pos (show 76 + s = 76 + i by omega), if_pos (show s < i + 1 by omega), z]
        · rw [if_neg (show ¬ 76 + s = 76 + i by omega), if_neg (show ¬ 76 + s = 64 + i by omega), a2]
          by_cases z2 : s < i
          · rw [if_pos z2, if_pos (show s < i + 1 by omega)]
          · rw [if_neg z2, if_neg (show ¬ s < i + 1 by omega)])
    exact ⟨τ, e1, fun j a => by rw [e2 j a, sup_ne a, sup_ne a], fun j a b => by rw [e3 j a b, sup_self, upd_app, if_neg (by omega), sup_self, upd_app, if_neg (by omega)], e4⟩
theorem op_removeStation {t : Nat} {M : Mk} {σ τ : Sg} (h : Rel t M σ τ) (ht : t + 1 < 2 ^ 20) : Agr ["java/lang/UnsupportedOperationException", "java/lang/IllegalStateException"] (t + 1) (fX6_removeStation σ) (fX7_removeStation τ) := by
  have hM := h.1.2.1
  have hn := hM.1.1
  have hmono : ∀ {σ τ}, Rel t M σ τ → Rel (t + 1) M σ τ := fun z => z.mono (by omega) ht
  obtain ⟨F, hF8, hFe⟩ : ∃ F, 12 < F ∧ FU = F := ⟨FU, by unfold FU; omega, rfl⟩
  rw [fX6_removeStation, fX7_removeStation]
  simp only [jp_eq]
  rcases kn_cases h with ⟨z1, z2⟩ | ⟨z1, z2, A, hA, hfe⟩
  · have hr1 := (h.s00 0).2.1
    rw [reqN0 z1, bx_inr, known0 z2, bd_some, fails0, bd_some, if_pos (show (0 : Int32) = 0 from rfl), h.1.1.1, hr1.1, if_eq0 (by omega)]
    by_cases q : M.n = 0
    · rw [if_neg (show ¬ (0 : Int32) < nI M.n by rw [q]; decide), if_pos q, fails1, bd_some, if_neg (by decide)]
      exact Agr.no (hmono ((h.s00 0).s00 2)) 1 rfl (s00_0 _ 2)
    · obtain ⟨m, hm⟩ : ∃ m, M.n = m + 1 := ⟨M.n - 1, by omega⟩
      have hpos : (0 : Int32) < nI M.n := by
        rw [show (0 : Int32) = nI 0 from rfl]
        exact (zI_lt (by decide) (by omega)).mpr (by omega)
      obtain ⟨y1, y2, y3, y4, y5⟩ := h.1.1
      have ev : ∀ {υ : Sg}, υ 3 6 = nI m → fX3_everyone υ = some (nI (2 ^ m - 1), υ) := fun {υ} e => by rw [fX3_everyone, e, everyone_nI (by omega)]
      have hc : ∃ σ', fX3_dropLast σ = some ((), σ') ∧ ClsM 3 11 σ' (M.less m) ∧ (∀ k, k ≠ 3 → k ≠ 15 → k ≠ 16 → σ' k = σ k) := by
        rw [fX3_dropLast, y1, if_pos hpos, lt'_eq, hm, z_dec, ev (by rw [sup_self, upd_app, if_pos rfl]), bd_some, lt'_eq, sup_self, upd_app, if_neg (by decide), y2, zI_and]
        obtain ⟨σ1, e1, e2, e3⟩ := drop_loop (M := M) (show m < 12 by omega) (fun (σ22 : Sg) => gd (inb (σ22 3 6) 12) (lt' (sup σ22 15 (σ22 3 6).toNatClampNeg 0) (fun (σ24 : Sg) => gd (inb (σ24 3 6) 12) (lt' (sup σ24 16 (σ24 3 6).toNatClampNeg 0) (fun (σ26 : Sg) => some ((), σ26)))))) m 0 FU (sup (sup σ 3 6 (nI m)) 3 7 (nI (M.tk &&& (2 ^ m - 1)))) (by omega) (by unfold FU; omega) (by rw [sup_self, upd_app, if_neg (by decide), sup_self, upd_app, if_pos rfl]) (fun s hs => by
          rw [if_neg (Nat.not_lt_zero s), if_neg (Nat.not_lt_zero s), sup_ne (by decide), sup_ne (by decide), sup_ne (by decide), sup_ne (by decide)]
          exact y5 s hs)
        have e36 : σ1 3 6 = nI m := by rw [e2 3 (by decide) (by decide), sup_self, upd_app, if_neg (by decide), sup_self, upd_app, if_pos rfl]
        rw [show nI 0 = (0 : Int32) from rfl] at e1
        rw [e1, e36, gd_of (inb_ok (by omega) (by omega)), lt'_eq, sup_ne (by decide), e36, gd_of (inb_ok (by omega) (by omega)), lt'_eq, zI_clamp (by omega)]
        refine ⟨_, rfl, ⟨?_, ?_, ?_, fun s hs => ?_, fun s hs => ?_⟩, fun k a b c => ?_⟩
        · rw [sup_ne (by decide), sup_ne (by decide)]; exact e36
        · rw [sup_ne (by decide), sup_ne (by decide), e2 3 (by decide) (by decide), sup_self, upd_app, if_pos rfl]; rfl
        · rw [sup_ne (by decide), sup_ne (by decide), e2 3 (by decide) (by decide), sup_self, upd_app, if_neg (by decide), sup_self, upd_app, if_neg (by decide)]; exact y3
        · have hs' : s < m := hs
          have := y4 s (by omega)
          rw [sup_ne (by decide), sup_ne (by decide), e2 11 (by decide) (by decide), sup_ne (by decide), sup_ne (by decide), sup_ne (by decide), sup_ne (by decide), e2 (11 + 1) (by decide) (by decide), sup_ne (by decide), sup_ne (by decide), sup_ne (by decide), sup_ne (by decide), e2 (11 + 2) (by decide) (by decide), sup_ne (by decide), sup_ne (by decide), sup_ne (by decide), sup_ne (by decide), e2 (11 + 3) (by decide) (by decide), sup_ne (by decide), sup_ne (by decide)]
          exact this
        · obtain ⟨a1, a2⟩ := e3 s hs
          show sup (sup σ1 15 m 0) 16 m 0 15 s = nI (if s < m then M.sm s &&& (2 ^ m - 1) else 0) ∧ sup (sup σ1 15 m 0) 16 m 0 16 s = nI (if s < m then M.nx s &&& (2 ^ m - 1) else 0)
          rw [sup_ne (by decide), sup_self, upd_app, sup_self, upd_app, sup_ne (by decide), a1, a2]
          rcases Nat.lt_trichotomy s m with z | z | z
          · have z' : ¬ s = m := by omega
            rw [if_neg z', if_neg z', if_pos z, if_pos z, if_pos z, if_pos z]
            exact ⟨rfl, rfl⟩
          · have z' : ¬ s < m := by omega
            rw [if_pos z, if_pos z, if_neg z', if_neg z']
            exact ⟨rfl, rfl⟩
          · have z' : ¬ s < m := by omega
            have z'' : ¬ s = m := by omega
            obtain ⟨w1, w2⟩ := hM.1.zero (show M.n ≤ s by omega)
            rw [if_neg z'', if_neg z'', if_neg z', if_neg z', if_neg z', if_neg z', w1, w2]
            exact ⟨rfl, rfl⟩
        · rw [sup_ne c, sup_ne b, e2 k b c, sup_ne a, sup_ne a]
      obtain ⟨σ', e2, hc', hfr⟩ := hc
      have hwf := less_wf hM hm
      obtain ⟨σ2, vv, e3, e4, p1⟩ := forget_pk h.1 ht (hfr 2 (by decide) (by decide) (by decide)) (hfr 39 (by decide) (by decide) (by decide)) (hfr 40 (by decide) (by decide) (by decide)) hc' hwf
      have h62 : σ2 3 6 = nI m := p1.1.1
      have hr2 := ((h.s00 0).s00 0).2.1
      rw [if_pos hpos, e2, bd_some, e3, bd_some, h62, if_neg q, fails0, bd_some, if_pos (show (0 : Int32) = 0 from rfl), lt'_eq, hFe, hr2.1, hm, z_dec]
      have hlt : ∀ s, M.sm s < 2 ^ (m + 1) := fun s => by rw [← hm]; exact hM.1.2.1 s
      have hlt2 : ∀ s, M.nx s < 2 ^ (m + 1) := fun s => by rw [← hm]; exact hM.1.2.2.1 s
      obtain ⟨τ1, e5, e6, e7, e8⟩ := rdrop_loop (M := M) (show m < 12 by omega) hlt hlt2 (fun (σ24 : Sg) => some ((σ24 1 0), σ24)) m 0 F (sup (sup (sup τ 0 0 0) 0 0 0) 1 0 (nI m)) (by omega) (by omega) (by rw [sup_self, upd_app, if_pos rfl]) (fun s hs => by
        rw [if_neg (Nat.not_lt_zero s), if_neg (Nat.not_lt_zero s), sup_self, upd_app, if_neg (by omega), upd_app, if_neg (by omega)]
        have := hr2.2.2 s (by omega)
        exact ⟨this.2.2.2.2.2.1, this.2.2.2.2.2.2⟩)
      rw [show nI 0 = (0 : Int32) from rfl] at e5
      have e10 : τ1 1 0 = nI m := by rw [e7 0 (by omega) (by omega), sup_self, upd_app, if_pos rfl]
      rw [e5, e10]
      have eo : ∀ j, j ≠ 0 → ¬(64 ≤ j ∧ j < 64 + m) → ¬(76 ≤ j ∧ j < 76 + m) → τ1 1 j = (sup (sup τ 0 0 0) 0 0 0) 1 j := fun j a b c => by rw [e7 j b c, sup_self, upd_app, if_neg a]
      refine Agr.ok (((h.s00 0).s00 0).chg (fun j hj => ?_) ?_ p1 ⟨e10, ?_, fun s hs => ?_⟩ ?_ ?_) ?_
      · rw [e4, sup_ne (by omega), hfr j (by omega) (by omega) (by omega)]
      · refine ⟨?_, ?_, ?_, ?_, ?_⟩
        · rw [e6 2 (by decide), sup_ne (by decide)]
        · rw [e6 3 (by decide), sup_ne (by decide)]
        · rw [e6 0 (by decide), sup_ne (by decide)]
        · rw [e6 0 (by decide), sup_ne (by decide)]
        · rw [e6 0 (by decide), sup_ne (by decide)]
      · rw [eo 1 (by decide) (by omega) (by omega)]; exact hr2.2.1
      · have hs' : s < m := hs
        obtain ⟨q1, q2, q3, q4, q5, q6, q7⟩ := hr2.2.2 s (by omega)
        obtain ⟨u1, u2⟩ := e8 s hs'
        show _ = nI (M.ch s) ∧ _ = nI (M.vl s) ∧ _ = nI (M.wt s) ∧ _ = (if (M.tk &&& (2 ^ m - 1)).testBit s then (1 : Int32) else 0) ∧ _ = M.kp s ∧ _ = nI (if s < m then M.sm s &&& (2 ^ m - 1) else 0) ∧ _ = nI (if s < m then M.nx s &&& (2 ^ m - 1) else 0)
        rw [u1, u2, if_pos hs', if_pos hs', eo _ (by omega) (by omega) (by omega), eo _ (by omega) (by omega) (by omega), eo _ (by omega) (by omega) (by omega), eo _ (by omega) (by omega) (by omega), eo _ (by omega) (by omega) (by omega), low_tb, decide_eq_true hs', Bool.and_true]
        exact ⟨q1, q2, q3, q4, q5, rfl, rfl⟩
      · rw [e4, sup_ne (by decide), hfr 7 (by decide) (by decide) (by decide)]; exact z1
      · rw [eo 2 (by decide) (by omega) (by omega), s00_1, s00_1]; exact z2
      · rw [e6 0 (by decide), sup_ne (by decide)]
        exact s00_0 _ 0
  · rw [reqN1 z1, bx_inl, known1 z2, bd_some, fails1, bd_some, if_neg (by decide)]
    exact Agr.no (hmono (h.s00 1)) 0 rfl (s00_0 _ 1)
