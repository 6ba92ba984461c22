/-! Layer 2, 57: setConflicts -/
/-- the readers have come to an end -/
def EndR (n : Nat) (y : Int32) (σ τ : Sg) : Prop := (σ 4 6 = -1 ∧ τ 0 10 = 0 ∧ y = σ 4 5 ∧ ∃ sm nx, GRel n sm nx σ τ) ∨ ∃ e, e ≤ 40 ∧ σ 4 6 = nI e ∧ τ 0 8 = nI e ∧ τ 0 10 = 1
theorem parse_loop {T : Nat → Nat} {L n : Nat} (K : Sg → Option (Int32 × Sg)) (K' : Int32 → Sg → Option (Int32 × Sg)) : ∀ k p m fuel fuel' (sm nx : Nat → Nat) (σ τ : Sg), p + k = 41 → k + 1 < fuel → k + 1 < fuel' → PH T L n p σ τ → GRel n sm nx σ τ → σ 4 5 = nI m → 4 * m ≤ p →
    ∃ y σ' τ', fX2_read_57 K fuel 1 (nI m) σ = K σ' ∧ fX7_setConflicts_72 K' fuel' (nI m) 1 τ = K' y τ' ∧ QX σ σ' ∧ QM τ τ' ∧ EndR n y σ' τ' := by
  intro k
  induction k using Nat.strongRecOn with
  | ind k ih =>
    intro p m fuel fuel' sm nx σ τ hk hf hf' h hg h5 hm
    have hp := h.2.2.2.2.2.2.2.2.2.2.2
    obtain ⟨f, rfl, hf⟩ := fuel_succ hf
    obtain ⟨f', rfl, hf'⟩ := fuel_succ hf'
    rw [fX2_read_57, show (40 : Int32) = nI 40 from rfl, if_le (by decide) (by omega), if_neg (by omega), if_neg n10, fX7_setConflicts_72, if_neg n10, zs_add]
    simp only [jp_eq, lt'_eq]
    -- the loop's end: x is 0
    have stopX : ∀ υ : Sg, fX2_read_57 K f 0 (nI (m + 1)) υ = K υ := by
      intro υ
      obtain ⟨g, rfl, -⟩ := fuel_succ (show k < f by omega)
      rw [fX2_read_57]
      split
      · rfl
      · rw [if_pos rfl]
    have stopM : ∀ (y : Int32) (υ : Sg), fX7_setConflicts_72 K' f' y 0 υ = K' y υ := by
      intro y υ
      obtain ⟨g, rfl, -⟩ := fuel_succ (show k < f' by omega)
      rw [fX7_setConflicts_72, if_pos rfl]
    rcases pair_both h hg with ⟨p1, sm1, nx1, σ1, τ1, u1, e1, e2, q1, q2, h1, hg1, h51⟩ | ⟨e, σ1, τ1, u1, e1, e2, q1, q2, k1, k2, k3⟩
    · have hp1 := h1.2.2.2.2.2.2.2.2.2.2.2
      have hw : τ1 0 10 = 0 := h1.2.2.2.2.2.2.1
      have e0 : ∀ υ : Sg, υ 0 10 = 0 → sup υ 0 10 ((0 : Int32) ||| 0) = υ := by
        intro υ hυ
        rw [show (0 : Int32) ||| 0 = υ 0 10 by rw [hυ]; rfl, sup_same]
      rw [h5, zs_add] at h51
      rw [e1, bd_some, if_neg n10, e2, bd_some, hw, if_pos (show (0 : Int32) = 0 from rfl), h1.2.2.2.2.2.2.2.1, h1.2.2.2.2.2.1, if_le (by omega) (by omega), fX2_readSeparator, h1.1, h1.2.2.2.1, if_lt (by omega) (by omega)]
      by_cases z : p1 < L
      · obtain ⟨on, p2, σ2, τ2, w1, d1, d2, c1, m1, h2, o1, o2⟩ := skip_both h1 (c := 59) (by decide) (by decide)
        rw [if_pos z, show (59 : Int32) = nI 59 from rfl, d1, bd_some, if_neg (show ¬ L ≤ p1 by omega), if_neg n10, d2, bd_some]
        cases on with
        | true =>
          have s1 : (if true = true then (1 : Int32) else 0) = 1 := rfl
          have hw2 : τ2 0 10 = 0 := h2.2.2.2.2.2.2.1
          have p2e := o2 rfl
          rw [s1, if_neg n10, bd_some, if_neg n10, if_neg n10, gd_of (by decide), e0 τ2 hw2, hw2, if_pos (show (0 : Int32) = 0 from rfl), show (1 : Int32) &&& 1 = 1 by decide]
          have hg2 := hg1.cm c1 m1
          obtain ⟨y, σ3, τ3, r1, r2, r3, r4, r5⟩ := ih (41 - p2) (by omega) p2 (m + 1) f f' sm1 nx1 σ2 τ2 (by have := h2.2.2.2.2.2.2.2.2.2.2.2.1; omega) (by omega) (by omega) h2 hg2 (c1.2.2.trans h51) (by omega)
          exact ⟨y, σ3, τ3, r1, r2, (q1.trans c1.qx).trans r3, (q2.trans m1.qm).trans r4, r5⟩
        | false =>
          have s1 : (if false = true then (1 : Int32) else 0) = 0 := rfl
          have hw3 : (sup τ2 0 10 ((0 : Int32) ||| 1)) 0 10 = 1 := by rw [sup_self, upd_app, if_pos rfl]; rfl
          rw [s1, if_pos (show (0 : Int32) = 0 from rfl), lt'_eq, bd_some, if_pos (show (0 : Int32) = 0 from rfl), if_pos (show (0 : Int32) = 0 from rfl), gd_of (by decide), hw3, if_neg n10, show (1 : Int32) &&& 0 = 0 by decide, stopX, stopM]
          refine ⟨_, _, _, rfl, rfl, (q1.trans c1.qx).trans (C4.s (Or.inr rfl)).qx, (q2.trans m1.qm).trans (M0.s (Or.inr rfl)).qm, Or.inr ⟨p2, by have := h2.2.2.2.2.2.2.2.2.2.2.2; omega, ?_, ?_, hw3⟩⟩
          · rw [sup_self, upd_app, if_pos rfl]; exact h2.1
          · rw [sup_self, upd_app, if_neg (by decide)]; exact h2.2.2.2.2.2.1
      · rw [if_neg z, bd_some, if_pos (show (0 : Int32) = 0 from rfl), if_pos (show L ≤ p1 by omega), if_pos trivial, gd_of (by decide), e0 τ1 hw, hw, if_pos (show (0 : Int32) = 0 from rfl), show (0 : Int32) &&& 1 = 0 by decide, stopX, stopM]
        exact ⟨_, _, _, rfl, rfl, q1, q2, Or.inl ⟨h1.2.1, hw, h51.symm, sm1, nx1, hg1⟩⟩
    · have e3 : sup τ1 0 10 ((1 : Int32) ||| 0) = τ1 := by
        rw [show (1 : Int32) ||| 0 = τ1 0 10 by rw [k3]; rfl, sup_same]
      rw [e1, bd_some, if_pos (show (0 : Int32) = 0 from rfl), e2, bd_some, k3, if_neg n10, if_pos trivial, gd_of (by decide), e3, k3, if_neg n10, show (0 : Int32) &&& 0 = 0 by decide, stopX, stopM]
      exact ⟨_, _, _, rfl, rfl, q1, q2, Or.inr ⟨e, u1, k1, k2, k3⟩⟩
theorem sc_copy {n : Nat} (K : Sg → Option (Int32 × Sg)) : ∀ k i fuel (σ : Sg), i + k = 12 → k < fuel →
    ∃ τ, fX7_setConflicts_16 K fuel (nI i) σ = K τ ∧ (∀ j, j ≠ 4 → j ≠ 5 → τ j = σ j) ∧ (∀ s, s < i → τ 4 s = σ 4 s ∧ τ 5 s = σ 5 s) ∧ ∀ s, i ≤ s → s < 12 → τ 4 s = σ 1 (64 + s) ∧ τ 5 s = σ 1 (76 + s) := by
  intro k
  induction k with
  | zero =>
    intro i fuel σ hi hf
    obtain ⟨f', rfl, -⟩ := fuel_succ hf
    refine ⟨σ, ?_, fun _ _ _ => rfl, fun _ _ => ⟨rfl, rfl⟩, fun s h1 h2 => by omega⟩
    rw [fX7_setConflicts_16, show (12 : Int32) = nI 12 from rfl, if_le (by omega) (by omega), if_pos (by omega)]
  | succ k ih =>
    intro i fuel σ hi hf
    obtain ⟨f', rfl, hf⟩ := fuel_succ hf
    rw [fX7_setConflicts_16, show (12 : Int32) = nI 12 from rfl, if_le (by omega) (by omega), if_neg (by omega), show (64 : Int32) = nI 64 from rfl, show (76 : Int32) = nI 76 from rfl, zI_add, zI_add, gd_of (inb_ok (show 64 + i < 2764 by omega) (by omega)), gd_of (inb_ok (show i < 12 by omega) (by omega)), lt'_eq, gd_of (inb_ok (show 76 + i < 2764 by omega) (by omega)), gd_of (inb_ok (show i < 12 by omega) (by omega)), lt'_eq, zI_clamp (show i < 2 ^ 31 by omega), zI_clamp (show 64 + i < 2 ^ 31 by omega), zI_clamp (show 76 + i < 2 ^ 31 by omega), zs_add]
    obtain ⟨τ, e1, e2, e3, e4⟩ := ih (i + 1) f' (sup (sup σ 4 i (σ 1 (64 + i))) 5 i ((sup σ 4 i (σ 1 (64 + i))) 1 (76 + i))) (by omega) (by omega)
    refine ⟨τ, e1, fun j a b => by rw [e2 j a b, sup_ne b, sup_ne a], fun s hs => ?_, fun s h1 h2 => ?_⟩
    · obtain ⟨a1, a2⟩ := e3 s (by omega)
      rw [a1, a2, sup_ne (by decide), sup_self, upd_app, if_neg (by omega), sup_self, upd_app, if_neg (by omega), sup_ne (by decide)]
      exact ⟨rfl, rfl⟩
    · rcases Nat.eq_or_lt_of_le h1 with z | z
      · obtain ⟨a1, a2⟩ := e3 s (by omega)
        rw [a1, a2, sup_ne (by decide), sup_self, upd_app, if_pos z.symm, sup_self, upd_app, if_pos z.symm, sup_ne (by decide), z]
        exact ⟨rfl, rfl⟩
      · obtain ⟨a1, a2⟩ := e4 s z h2
        rw [a1, a2, sup_ne (by decide), sup_ne (by decide)]
        exact ⟨rfl, rfl⟩
theorem sc_back {n : Nat} (hn : n ≤ 12) (y : Int32) : ∀ k i fuel (σ : Sg), i + k = n → k < fuel → σ 1 0 = nI n →
    ∃ τ, fX7_setConflicts_192 y fuel (nI i) σ = some (y, τ) ∧ (∀ j, j ≠ 1 → τ j = σ j) ∧ (∀ j, ¬(64 + i ≤ j ∧ j < 64 + n) → ¬(76 + i ≤ j ∧ j < 76 + n) → τ 1 j = σ 1 j) ∧ ∀ s, i ≤ s → s < n → τ 1 (64 + s) = σ 4 s ∧ τ 1 (76 + s) = σ 5 s := by
  intro k
  induction k with
  | zero =>
    intro i fuel σ hi hf h0
    obtain ⟨f', rfl, -⟩ := fuel_succ hf
    refine ⟨σ, ?_, fun _ _ => rfl, fun _ _ _ => rfl, fun s h1 h2 => by omega⟩
    rw [fX7_setConflicts_192, h0, if_le (by omega) (by omega), if_pos (by omega)]
  | succ k ih =>
    intro i fuel σ hi hf h0
    obtain ⟨f', rfl, hf⟩ := fuel_succ hf
    rw [fX7_setConflicts_192, h0, if_le (by omega) (by omega), if_neg (by omega), show (64 : Int32) = nI 64 from rfl, show (76 : Int32) = nI 76 from rfl, zI_add, zI_add, gd_of (inb_ok (show i < 12 by omega) (by omega)), gd_of (inb_ok (show 64 + i < 2764 by omega) (by omega)), lt'_eq, gd_of (inb_ok (show i < 12 by omega) (by omega)), gd_of (inb_ok (show 76 + i < 2764 by omega) (by omega)), lt'_eq, zI_clamp (show i < 2 ^ 31 by omega), zI_clamp (show 64 + i < 2 ^ 31 by omega), zI_clamp (show 76 + i < 2 ^ 31 by omega), zs_add, sup_ne (show 5 ≠ 1 by decide)]
    obtain ⟨τ, e1, e2, e3, e4⟩ := ih (i + 1) f' (sup (sup σ 1 (64 + i) (σ 4 i)) 1 (76 + i) (σ 5 i)) (by omega) (by omega) (by rw [sup_self, upd_app, if_neg (by omega), sup_self, upd_app, if_neg (by omega)]; exact h0)
    refine ⟨τ, e1, fun j a => by rw [e2 j a, sup_ne a, sup_ne a], fun j a b => ?_, fun s h1 h2 => ?_⟩
    · rw [e3 j (by omega) (by omega), sup_self, upd_app, if_neg (by omega), sup_self, upd_app, if_neg (by omega)]
    · rcases Nat.eq_or_lt_of_le h1 with z | z
      · rw [e3 (64 + s) (by omega) (by omega), e3 (76 + s) (by omega) (by omega), sup_self, upd_app, if_neg (by omega), upd_app, if_pos (by omega), sup_self, upd_app, if_pos (by omega), z]
        exact ⟨rfl, rfl⟩
      · obtain ⟨a1, a2⟩ := e4 s z h2
        rw [a1, a2, sup_ne (by decide), sup_ne (by decide), sup_ne (by decide), sup_ne (by decide)]
        exact ⟨rfl, rfl⟩
def Mk.wcf (M : Mk) (sm nx : Nat → Nat) : Mk := (M.n, M.av, M.tk, M.ch, M.vl, M.wt, sm, nx, M.kp)
theorem op_setConflicts {t : Nat} {M : Mk} {σ τ : Sg} (h : Rel t M σ τ) (ht : t + 1 < 2 ^ 20) : Agr ["java/lang/UnsupportedOperationException", "java/lang/IllegalArgumentException"] (t + 1) (fX6_setConflicts σ) (fX7_setConflicts τ) := by
  have hM := h.1.2.1
  have hn := hM.1.1
  have hmono : ∀ {σ τ}, Rel t M σ τ → Rel (t + 1) M σ τ := fun z => z.mono (by omega) ht
  obtain ⟨F, hF8, hFe⟩ : ∃ F, 42 < F ∧ FU = F := ⟨FU, by unfold FU; omega, rfl⟩
  rw [fX6_setConflicts, fX7_setConflicts]
  rcases kn_cases h with ⟨z1, z2⟩ | ⟨z1, z2, A, hA, hfe⟩
  · obtain ⟨y1, y2, y3, y4, y5⟩ := h.1.1
    obtain ⟨L, l1, l2, l3, l4⟩ := h.2.2.2.2.1
    rw [reqN0 z1, bx_inr, known0 z2, bd_some, fails0, bd_some, if_pos (show (0 : Int32) = 0 from rfl), hFe, fX2_read, hFe]
    -- the class begins
    obtain ⟨σ1, hσ1⟩ : ∃ σ1, σ1 = sup (sup (sup (sup (cp1 (cp1 σ 23 15 12) 24 16 12) 4 3 (nI M.n)) 4 4 0) 4 5 0) 4 6 (-1 : Int32) := ⟨_, rfl⟩
    have b1 : ∀ K : Sg → Option (Int32 × Sg), lt' (sst σ 23 (va_cpy (σ 15) (σ 23) 0 0 12)) (fun (σ1 : Sg) => lt' (sst σ1 24 (va_cpy (σ1 16) (σ1 24) 0 0 12)) (fun (σ2 : Sg) => lt' (sup σ2 4 3 (σ2 3 6)) (fun (σ3 : Sg) => lt' (sup σ3 4 4 0) (fun (σ4 : Sg) => lt' (sup σ4 4 5 0) (fun (σ5 : Sg) => lt' (sup σ5 4 6 (-1 : Int32)) K))))) = K σ1 := by
      intro K
      rw [lt_cp1, lt_cp1, lt'_eq, lt'_eq, lt'_eq, lt'_eq, hσ1, show (cp1 (cp1 σ 23 15 12) 24 16 12) 3 6 = nI M.n by rw [cp1_ne (by decide), cp1_ne (by decide)]; exact y1]
    rw [b1]
    have s1f : ∀ k, k ≠ 4 → k ≠ 23 → k ≠ 24 → σ1 k = σ k := by
      intro k a b c
      rw [hσ1, sup_ne a, sup_ne a, sup_ne a, sup_ne a, cp1_ne c, cp1_ne b]
    have s123 : ∀ s, s < 12 → σ1 23 s = nI (M.sm s) := by
      intro s hs
      rw [hσ1, sup_ne (by decide), sup_ne (by decide), sup_ne (by decide), sup_ne (by decide), cp1_ne (by decide), cp1_at hs]
      exact (y5 s hs).1
    have s124 : ∀ s, s < 12 → σ1 24 s = nI (M.nx s) := by
      intro s hs
      rw [hσ1, sup_ne (by decide), sup_ne (by decide), sup_ne (by decide), sup_ne (by decide), cp1_at hs, cp1_ne (by decide)]
      exact (y5 s hs).2
    -- the reference begins
    obtain ⟨τ1, e1, e2, -, e4⟩ := sc_copy (n := 0) (fun (σ17 : Sg) => lt' (sup σ17 0 8 0) (fun (σ18 : Sg) => lt' (sup σ18 0 10 0) (fun (σ19 : Sg) => fX7_setConflicts_72 (fun (y23 : Int32) (σ46 : Sg) => lt' (sup σ46 0 7 0) (fun (σ47 : Sg) => jp (fun (v48 : Int32) (σ49 : Sg) => lt' (sup σ49 0 9 v48) (fun (σ50 : Sg) => bd (fX7_fails (2 : Int32) (σ50 0 10) σ50) (fun (r51 : Int32) (σ52 : Sg) => if r51 = 0 then (fX7_setConflicts_192 y23 F 0 σ52) else (some (0, σ52))))) (fun (J173 : Int32 → Sg → Option (Int32 × Sg)) => if (σ47 0 10) = 0 then (J173 (-1 : Int32) σ47) else (J173 (σ47 0 8) σ47)))) F 0 1 σ19))) 12 0 F (sup τ 0 0 0) (by omega) (by omega)
    rw [show nI 0 = (0 : Int32) from rfl] at e1
    rw [e1, lt'_eq, lt'_eq]
    obtain ⟨τ2, hτ2⟩ : ∃ τ2, τ2 = sup (sup τ1 0 8 0) 0 10 0 := ⟨_, rfl⟩
    rw [← hτ2]
    have t2f : ∀ k, k ≠ 0 → k ≠ 4 → k ≠ 5 → τ2 k = τ k := by
      intro k a b c
      rw [hτ2, sup_ne a, sup_ne a, e2 k b c, sup_ne a]
    have t20 : ∀ j, j ≠ 0 → j ≠ 8 → j ≠ 10 → τ2 0 j = τ 0 j := by
      intro j a b c
      rw [hτ2, sup_self, upd_app, if_neg c, sup_self, upd_app, if_neg b, e2 0 (by decide) (by decide), sup_self, upd_app, if_neg a]
    have t200 : τ2 0 0 = 0 := by
      rw [hτ2, sup_self, upd_app, if_neg (by decide), sup_self, upd_app, if_neg (by decide), e2 0 (by decide) (by decide)]
      exact s00_0 τ 0
    -- the text
    have hT : ∃ T : Nat → Nat, (∀ i, i < L → σ 25 i = nI (T i)) ∧ (∀ i, i < L → τ 3 i = nI (T i)) ∧ ∀ i, i < L → 33 ≤ T i ∧ T i ≤ 126 := by
      refine ⟨fun i => (σ 25 i).toNatClampNeg, fun i hi => ?_, fun i hi => ?_, fun i hi => ?_⟩
      · obtain ⟨c, c1, c2, c3, c4⟩ := l4 i hi
        show σ 25 i = nI (σ 25 i).toNatClampNeg
        rw [c3, zI_clamp (by omega)]
      · obtain ⟨c, c1, c2, c3, c4⟩ := l4 i hi
        show τ 3 i = nI (σ 25 i).toNatClampNeg
        rw [c3, c4, zI_clamp (by omega)]
      · obtain ⟨c, c1, c2, c3, c4⟩ := l4 i hi
        show 33 ≤ (σ 25 i).toNatClampNeg ∧ (σ 25 i).toNatClampNeg ≤ 126
        rw [c3, zI_clamp (by omega)]
        exact ⟨c1, c2⟩
    obtain ⟨T, T1, T2, T3⟩ := hT
    have hPH : PH T L M.n 0 σ1 τ2 := by
      refine ⟨?_, ?_, ?_, ?_, ?_, ?_, ?_, ?_, ?_, ?_, T3, Nat.zero_le L, l1, hn⟩
      · rw [hσ1, sup_self, upd_app, if_neg (by decide), sup_self, upd_app, if_neg (by decide), sup_self, upd_app, if_pos rfl]; rfl
      · rw [hσ1, sup_self, upd_app, if_pos rfl]
      · rw [hσ1, sup_self, upd_app, if_neg (by decide), sup_self, upd_app, if_neg (by decide), sup_self, upd_app, if_neg (by decide), sup_self, upd_app, if_pos rfl]
      · rw [s1f 5 (by decide) (by decide) (by decide)]; exact l2
      · rw [s1f 25 (by decide) (by decide) (by decide)]; exact T1
      · rw [hτ2, sup_self, upd_app, if_neg (by decide), sup_self, upd_app, if_pos rfl]; rfl
      · rw [hτ2, sup_self, upd_app, if_pos rfl]
      · rw [t20 7 (by decide) (by decide) (by decide)]; exact l3
      · rw [t2f 3 (by decide) (by decide) (by decide)]; exact T2
      · rw [t2f 1 (by decide) (by decide) (by decide)]; exact h.2.1.1
    have hG1 := hM.1.to1
    have hGR : GRel M.n M.sm M.nx σ1 τ2 := by
      refine ⟨hG1.1, hG1.2, s123, s124, fun s hs => ?_, fun s hs => ?_⟩
      · rw [hτ2, sup_ne (by decide), sup_ne (by decide), (e4 s (Nat.zero_le s) (by omega)).1, s00_1]
        exact (h.2.1.2.2 s hs).2.2.2.2.2.1
      · rw [hτ2, sup_ne (by decide), sup_ne (by decide), (e4 s (Nat.zero_le s) (by omega)).2, s00_1]
        exact (h.2.1.2.2 s hs).2.2.2.2.2.2
    have h45 : σ1 4 5 = nI 0 := by rw [hσ1, sup_self, upd_app, if_neg (by decide), sup_self, upd_app, if_pos rfl]; rfl
    obtain ⟨y, σ2, τ3, r1, r2, r3, r4, r5⟩ := parse_loop (fun (σ22 : Sg) => some ((σ22 4 6), σ22)) (fun (y23 : Int32) (σ46 : Sg) => lt' (sup σ46 0 7 0) (fun (σ47 : Sg) => jp (fun (v48 : Int32) (σ49 : Sg) => lt' (sup σ49 0 9 v48) (fun (σ50 : Sg) => bd (fX7_fails (2 : Int32) (σ50 0 10) σ50) (fun (r51 : Int32) (σ52 : Sg) => if r51 = 0 then (fX7_setConflicts_192 y23 F 0 σ52) else (some (0, σ52))))) (fun (J173 : Int32 → Sg → Option (Int32 × Sg)) => if (σ47 0 10) = 0 then (J173 (-1 : Int32) σ47) else (J173 (σ47 0 8) σ47)))) 41 0 0 F F M.sm M.nx σ1 τ2 (by omega) (by omega) (by omega) hPH hGR h45 (by omega)
    rw [show nI 0 = (0 : Int32) from rfl] at r1 r2
    rw [r1, r2, bd_some]
    simp only [lt'_eq, jp_eq]
    -- what is kept on both sides whatever was read
    have x2f : ∀ k, k ≠ 4 → k ≠ 23 → k ≠ 24 → σ2 k = σ k := fun k a b c => (r3.1 k a b c).trans (s1f k a b c)
    have m3f : ∀ k, k ≠ 0 → k ≠ 4 → k ≠ 5 → τ3 k = τ k := fun k a b c => (r4.1 k a b c).trans (t2f k a b c)
    have m30 : ∀ j, j ≠ 0 → j ≠ 8 → j ≠ 10 → τ3 0 j = τ 0 j := fun j a b c => (r4.2 j b c).trans (t20 j a b c)
    have m300 : τ3 0 0 = 0 := (r4.2 0 (by decide) (by decide)).trans t200
    have fin : ∀ (v : Int32) (N : Mk) (σ' τ' : Sg), PkI (t + 1) N σ' → RefM (τ' 1) N → σ' 7 = σ 7 → τ' 1 2 = τ 1 2 → (∀ k, k = 8 ∨ k = 9 ∨ (17 ≤ k ∧ k ≤ 22) ∨ (31 ≤ k ∧ k ≤ 34) → σ' k = σ k) → σ' 0 10 = σ 0 10 → σ' 0 11 = v → σ' 5 1 = 0 → τ' 2 = τ 2 → τ' 0 3 = τ 0 3 → τ' 0 7 = 0 → τ' 0 9 = v → Rel (t + 1) N σ' τ' := by
      intro v N σ' τ' p1 p2 p3 p4 p5 p6 p7 p8 p9 p10 p11 p12
      obtain ⟨-, -, -, g4, -, -⟩ := h
      refine ⟨p1, p2, Or.inl ⟨by rw [p3]; exact z1, p4.trans z2⟩, ?_, ⟨0, by decide, p8, p11, fun i hi => absurd hi (Nat.not_lt_zero i)⟩, p7.trans p12.symm⟩
      rcases g4 with ⟨a, b⟩ | ⟨a, b, N', c1, c2, c3, c4⟩
      · exact Or.inl ⟨p6.trans a, p10.trans b⟩
      · refine Or.inr ⟨p6.trans a, p10.trans b, N', c1, ?_, by rw [p9]; exact c3, ?_⟩
        · unfold ClsM at c2 ⊢
          rw [p5 8 (by omega), p5 17 (by omega), p5 (17 + 1) (by omega), p5 (17 + 2) (by omega), p5 (17 + 3) (by omega), p5 (17 + 4) (by omega), p5 (17 + 5) (by omega)]
          exact c2
        · rw [p9]
          exact c4.fr (p5 9 (by omega)) (p5 31 (by omega)) (p5 (31 + 1) (by omega)) (p5 (31 + 2) (by omega)) (p5 (31 + 3) (by omega))
    have q11 : ∀ v : Int32, (sup (sup σ2 0 11 v) 5 1 0) 0 11 = v := fun v => by rw [sup_ne (by decide), sup_self, upd_app, if_pos rfl]
    rcases r5 with ⟨w1, w2, w3, sm', nx', hg⟩ | ⟨e, w0, w1, w2, w3⟩
    · have w10 : (sup τ3 0 7 0) 0 10 = 0 := by rw [sup_self, upd_app, if_neg (by decide)]; exact w2
      have w10b : ∀ v : Int32, (sup (sup τ3 0 7 0) 0 9 v) 0 10 = 0 := fun v => by rw [sup_self, upd_app, if_neg (by decide)]; exact w10
      rw [w1, q11, if_pos (show (-1 : Int32) = -1 from rfl), w10, if_pos (show (0 : Int32) = 0 from rfl), w10b, fails0, bd_some, if_pos (show (0 : Int32) = 0 from rfl)]
      -- the class applies what it read
      obtain ⟨σ3, hσ3⟩ : ∃ σ3, σ3 = cp1 (cp1 (sup (sup σ2 0 11 (-1)) 5 1 0) 15 23 12) 16 24 12 := ⟨_, rfl⟩
      have ea : fX2_applyTo (sup (sup σ2 0 11 (-1)) 5 1 0) = some ((), σ3) := by
        rw [fX2_applyTo, lt_cp1, lt_cp1, hσ3]
      have c3f : ∀ k, k ≠ 0 → k ≠ 5 → k ≠ 15 → k ≠ 16 → σ3 k = σ2 k := by
        intro k a b c d
        rw [hσ3, cp1_ne d, cp1_ne c, sup_ne b, sup_ne a]
      have hM' : (M.wcf sm' nx').WF := ⟨Gr.of1 hn hg.1 hg.2.1, hM.2.1, hM.2.2.1, hM.2.2.2⟩
      have hc : ClsM 3 11 σ3 (M.wcf sm' nx') := by
        refine ⟨?_, ?_, ?_, fun s hs => ?_, fun s hs => ?_⟩
        · rw [c3f 3 (by decide) (by decide) (by decide) (by decide), x2f 3 (by decide) (by decide) (by decide)]; exact y1
        · rw [c3f 3 (by decide) (by decide) (by decide) (by decide), x2f 3 (by decide) (by decide) (by decide)]; exact y2
        · rw [c3f 3 (by decide) (by decide) (by decide) (by decide), x2f 3 (by decide) (by decide) (by decide)]; exact y3
        · rw [c3f 11 (by decide) (by decide) (by decide) (by decide), x2f 11 (by decide) (by decide) (by decide), c3f (11 + 1) (by decide) (by decide) (by decide) (by decide), x2f (11 + 1) (by decide) (by decide) (by decide), c3f (11 + 2) (by decide) (by decide) (by decide) (by decide), x2f (11 + 2) (by decide) (by decide) (by decide), c3f (11 + 3) (by decide) (by decide) (by decide) (by decide), x2f (11 + 3) (by decide) (by decide) (by decide)]
          exact y4 s hs
        · show σ3 15 s = nI (sm' s) ∧ σ3 16 s = nI (nx' s)
          rw [hσ3, cp1_ne (by decide), cp1_at hs, cp1_at hs, cp1_ne (by decide), sup_ne (by decide), sup_ne (by decide), sup_ne (by decide), sup_ne (by decide)]
          exact ⟨hg.2.2.1 s hs, hg.2.2.2.1 s hs⟩
      obtain ⟨σ4, v, e5, e6, p1⟩ := forget_pk h.1 ht ((c3f 2 (by decide) (by decide) (by decide) (by decide)).trans (x2f 2 (by decide) (by decide) (by decide))) ((c3f 39 (by decide) (by decide) (by decide) (by decide)).trans (x2f 39 (by decide) (by decide) (by decide))) ((c3f 40 (by decide) (by decide) (by decide) (by decide)).trans (x2f 40 (by decide) (by decide) (by decide))) hc hM'
      have e45 : σ4 4 5 = y := by rw [e6, sup_ne (by decide), c3f 4 (by decide) (by decide) (by decide) (by decide)]; exact w3.symm
      rw [ea, bd_some, e5, bd_some, e45]
      obtain ⟨τ4, d1, d2, d3, d4⟩ := sc_back hn y M.n 0 F (sup (sup (sup τ3 0 7 0) 0 9 (-1)) 0 0 0) (by omega) (by omega) (by rw [sup_ne (by decide), sup_ne (by decide), sup_ne (by decide), m3f 1 (by decide) (by decide) (by decide)]; exact h.2.1.1)
      rw [show nI 0 = (0 : Int32) from rfl] at d1
      rw [d1]
      have g1 : ∀ j, ¬(64 ≤ j ∧ j < 64 + M.n) → ¬(76 ≤ j ∧ j < 76 + M.n) → τ4 1 j = τ 1 j := by
        intro j a b
        rw [d3 j (by omega) (by omega), sup_ne (by decide), sup_ne (by decide), sup_ne (by decide), m3f 1 (by decide) (by decide) (by decide)]
      refine Agr.ok (fin (-1) (M.wcf sm' nx') σ4 τ4 p1 ⟨?_, ?_, fun s hs => ?_⟩ ?_ ?_ (fun k hk => ?_) ?_ ?_ ?_ ?_ ?_ ?_ ?_) ?_
      · rw [g1 0 (by omega) (by omega)]; exact h.2.1.1
      · rw [g1 1 (by omega) (by omega)]; exact h.2.1.2.1
      · have hs' : s < M.n := hs
        obtain ⟨a1, a2, a3, a4, a5, a6, a7⟩ := h.2.1.2.2 s hs'
        obtain ⟨u1, u2⟩ := d4 s (Nat.zero_le s) hs'
        rw [u1, u2, g1 _ (by omega) (by omega), g1 _ (by omega) (by omega), g1 _ (by omega) (by omega), g1 _ (by omega) (by omega), g1 _ (by omega) (by omega), sup_ne (by decide), sup_ne (by decide), sup_ne (by decide), sup_ne (by decide), sup_ne (by decide), sup_ne (by decide)]
        exact ⟨a1, a2, a3, a4, a5, hg.2.2.2.2.1 s hs', hg.2.2.2.2.2 s hs'⟩
      · rw [e6, sup_ne (by decide), c3f 7 (by decide) (by decide) (by decide) (by decide), x2f 7 (by decide) (by decide) (by decide)]
      · rw [g1 2 (by omega) (by omega)]
      · rw [e6, sup_ne (by omega), c3f k (by omega) (by omega) (by omega) (by omega), x2f k (by omega) (by omega) (by omega)]
      · rw [e6, sup_ne (by decide), hσ3, cp1_ne (by decide), cp1_ne (by decide), sup_ne (by decide), sup_self, upd_app, if_neg (by decide), x2f 0 (by decide) (by decide) (by decide)]
      · rw [e6, sup_ne (by decide), hσ3, cp1_ne (by decide), cp1_ne (by decide), q11]
      · rw [e6, sup_ne (by decide), hσ3, cp1_ne (by decide), cp1_ne (by decide), sup_self, upd_app, if_pos rfl]
      · rw [d2 2 (by decide), sup_ne (by decide), sup_ne (by decide), sup_ne (by decide), m3f 2 (by decide) (by decide) (by decide)]
      · rw [d2 0 (by decide), sup_self, upd_app, if_neg (by decide), sup_self, upd_app, if_neg (by decide), sup_self, upd_app, if_neg (by decide), m30 3 (by decide) (by decide) (by decide)]
      · rw [d2 0 (by decide), sup_self, upd_app, if_neg (by decide), sup_self, upd_app, if_neg (by decide), sup_self, upd_app, if_pos rfl]
      · rw [d2 0 (by decide), sup_self, upd_app, if_neg (by decide), sup_self, upd_app, if_pos rfl]
      · rw [d2 0 (by decide)]
        exact s00_0 _ 0
    · have w10 : (sup τ3 0 7 0) 0 10 = 1 := by rw [sup_self, upd_app, if_neg (by decide)]; exact w3
      have w8 : (sup τ3 0 7 0) 0 8 = nI e := by rw [sup_self, upd_app, if_neg (by decide)]; exact w2
      have w10b : ∀ v : Int32, (sup (sup τ3 0 7 0) 0 9 v) 0 10 = 1 := fun v => by rw [sup_self, upd_app, if_neg (by decide)]; exact w10
      have hM1 : ∀ j, (sup (sup (sup τ3 0 7 0) 0 9 (nI e)) 0 0 2) 1 j = τ 1 j := fun j => by rw [sup_ne (by decide), sup_ne (by decide), sup_ne (by decide), m3f 1 (by decide) (by decide) (by decide)]
      rw [w1, q11, if_neg (zI_neg1 (by omega)), w10, if_neg n10, w8, w10b, fails1, bd_some, if_neg n10]
      have hcf : ∀ k, k ≠ 0 → k ≠ 5 → k ≠ 4 → k ≠ 23 → k ≠ 24 → (sup (sup σ2 0 11 (nI e)) 5 1 0) k = σ k := fun k a b c d f => by rw [sup_ne b, sup_ne a, x2f k c d f]
      refine Agr.no (M := M) (fin (nI e) M _ _ ((h.1.oth fun k hk => hcf k (by omega) (by omega) (by omega) (by omega) (by omega)).mono (by omega) ht) ?_ ?_ ?_ (fun k hk => hcf k (by omega) (by omega) (by omega) (by omega) (by omega)) ?_ (q11 _) ?_ ?_ ?_ ?_ ?_) 1 rfl (s00_0 _ 2)
      · exact h.2.1.of88 hn fun j _ _ _ => hM1 j
      · exact hcf 7 (by decide) (by decide) (by decide) (by decide) (by decide)
      · exact hM1 2
      · rw [sup_ne (by decide), sup_self, upd_app, if_neg (by decide), x2f 0 (by decide) (by decide) (by decide)]
      · rw [sup_self, upd_app, if_pos rfl]
      · rw [sup_ne (by decide), sup_ne (by decide), sup_ne (by decide), m3f 2 (by decide) (by decide) (by decide)]
      · rw [sup_self, upd_app, if_neg (by decide), sup_self, upd_app, if_neg (by decide), sup_self, upd_app, if_neg (by decide), m30 3 (by decide) (by decide) (by decide)]
      · rw [sup_self, upd_app, if_neg (by decide), sup_self, upd_app, if_neg (by decide), sup_self, upd_app, if_pos rfl]
      · rw [sup_self, upd_app, if_neg (by decide), sup_self, upd_app, if_pos rfl]
  · rw [reqN1 z1, bx_inl, known1 z2, bd_some, fails1, bd_some, if_neg (by decide)]
    exact Agr.no (hmono (h.s00 1)) 0 rfl (s00_0 _ 1)
