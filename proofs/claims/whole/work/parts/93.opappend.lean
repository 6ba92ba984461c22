/-! Layer 2, 54: append -/
def byt (a : Int32) (k : Nat) : Nat := (a.toBitVec.toNat >>> (8 * k)) % 256
theorem byt_lt (a : Int32) (k : Nat) : byt a k < 256 := Nat.mod_lt _ (by decide)
theorem lowb (x : BitVec 32) (s : Nat) : ((x >>> s) &&& 255#32).toNat = (x.toNat >>> s) % 256 := by
  rw [BitVec.toNat_and, BitVec.toNat_ushiftRight, show (255#32).toNat = 2 ^ 8 - 1 from rfl, Nat.and_two_pow_sub_one_eq_mod]
theorem lowbs (x : BitVec 32) {s : Nat} (hs : s ≤ 24) : (x.sshiftRight s) &&& 255#32 = (x >>> s) &&& 255#32 := by
  apply BitVec.eq_of_getLsbD_eq
  intro i hi
  rw [BitVec.getLsbD_and, BitVec.getLsbD_and, BitVec.getLsbD_sshiftRight, BitVec.getLsbD_ushiftRight]
  by_cases q : i < 8
  · rw [if_pos (by omega), decide_eq_false (by omega)]
    rfl
  · have : (255#32).getLsbD i = false := by
      rw [BitVec.getLsbD_ofNat, show 255 = 2 ^ 8 - 1 from rfl, Nat.testBit_two_pow_sub_one, decide_eq_false q, Bool.and_false]
    rw [this, Bool.and_false, Bool.and_false]
theorem bytU (a : Int32) {k : Nat} (hk : k < 4) : ((a.toUInt32 >>> ((nI (8 * k)).toUInt32 &&& Int32.toUInt32 31)).toInt32) &&& (255 : Int32) = nI (byt a k) := by
  have e1 : ∀ k : Nat, k < 4 → (((nI (8 * k)).toUInt32 &&& Int32.toUInt32 31).toBitVec % 32).toNat = 8 * k := by decide +kernel
  apply bv_inj
  have e2 : ((a.toUInt32 >>> ((nI (8 * k)).toUInt32 &&& Int32.toUInt32 31)).toInt32).toBitVec = a.toBitVec >>> (8 * k) := by
    show (a.toUInt32 >>> ((nI (8 * k)).toUInt32 &&& Int32.toUInt32 31)).toBitVec = _
    rw [UInt32.toBitVec_shiftRight, BitVec.ushiftRight_eq', e1 k hk]
    rfl
  rw [Int32.toBitVec_and, e2]
  apply BitVec.eq_of_toNat_eq
  show ((a.toBitVec >>> (8 * k)) &&& 255#32).toNat = _
  rw [lowb, zI_bv, BitVec.toNat_ofNat]
  exact (Nat.mod_eq_of_lt (Nat.lt_trans (byt_lt a k) (by decide))).symm
theorem bytS (a : Int32) {k : Nat} (hk : k < 4) : (a >>> (nI (8 * k) &&& 31)) &&& (255 : Int32) = nI (byt a k) := by
  have e1 : ∀ k : Nat, k < 4 → ((nI (8 * k) &&& 31).toBitVec.smod 32).toNat = 8 * k := by decide +kernel
  apply bv_inj
  rw [Int32.toBitVec_and, Int32.toBitVec_shiftRight]
  show (a.toBitVec.sshiftRight ((nI (8 * k) &&& 31).toBitVec.smod 32).toNat) &&& 255#32 = _
  rw [e1 k hk, lowbs _ (by omega)]
  apply BitVec.eq_of_toNat_eq
  rw [lowb, zI_bv, BitVec.toNat_ofNat]
  exact (Nat.mod_eq_of_lt (Nat.lt_trans (byt_lt a k) (by decide))).symm
/-- the shift when k bytes are left -/
def shz (k : Nat) : Int32 := nI (8 * k) + (-8)
theorem shz_lt : ∀ k, k < 5 → (shz k < 0 ↔ k = 0) := by decide +kernel
theorem shz_succ : ∀ k, k < 4 → shz (k + 1) = nI (8 * k) := by decide +kernel
def bdb (a : Int32) (k : Nat) : Bool := decide (byt a k ≠ 0) && (decide (byt a k < 33) || decide (126 < byt a k))
def badk (a : Int32) : Nat → Bool
  | 0 => false
  | k + 1 => bdb a k || badk a k
def cntk (a : Int32) : Nat → Nat
  | 0 => 0
  | k + 1 => (if byt a k = 0 then 0 else 1) + cntk a k
theorem cntk_le (a : Int32) : ∀ k, cntk a k ≤ k := by
  intro k
  induction k with
  | zero => exact Nat.le_refl 0
  | succ k ih =>
    rw [cntk]
    split <;> omega
theorem app_cls (a : Int32) (K0 : Sg → Option ((String ⊕ Int32) × Sg)) (K1 : Int32 → Sg → Option ((String ⊕ Int32) × Sg)) (σ : Sg) : ∀ k c fuel, k ≤ 4 → k < fuel → fX6_append_5 a K0 K1 fuel (nI c) (shz k) σ = if badk a k = true then K0 σ else K1 (nI (c + cntk a k)) σ := by
  intro k
  induction k with
  | zero =>
    intro c fuel hk hf
    obtain ⟨f', rfl, -⟩ := fuel_succ hf
    rw [fX6_append_5, if_pos ((shz_lt 0 (by decide)).mpr rfl), badk, if_neg (by decide), cntk, Nat.add_zero]
  | succ k ih =>
    intro c fuel hk hf
    obtain ⟨f', rfl, hf⟩ := fuel_succ hf
    have hb := byt_lt a k
    have es : shz (k + 1) + (-8) = shz k := by
      rw [shz_succ k (by omega)]; rfl
    rw [fX6_append_5, if_neg (fun z => absurd ((shz_lt (k + 1) (by omega)).mp z) (by omega)), es, shz_succ k (by omega), lt'_eq, bytU a (by omega)]
    simp only [jp_eq]
    rw [if_eq0 (by omega), show (33 : Int32) = nI 33 from rfl, if_lt (by omega) (by decide), show (126 : Int32) = nI 126 from rfl, if_le (by omega) (by decide), zs_add, badk, cntk]
    unfold bdb
    by_cases q0 : byt a k = 0
    · rw [if_pos q0, if_pos q0, ih c f' (by omega) (by omega), decide_eq_false (fun z => z q0), Bool.false_and, Bool.false_or, Nat.zero_add]
    · rw [if_neg q0, if_neg q0, decide_eq_true q0, Bool.true_and]
      by_cases q1 : byt a k < 33
      · rw [if_pos q1, decide_eq_true q1, Bool.true_or, Bool.true_or, if_pos rfl]
      · rw [if_neg q1, decide_eq_false q1, Bool.false_or]
        by_cases q2 : byt a k ≤ 126
        · rw [if_pos q2, ih (c + 1) f' (by omega) (by omega), decide_eq_false (by omega), Bool.false_or, Nat.add_assoc]
        · rw [if_neg q2, decide_eq_true (by omega), Bool.true_or, if_pos rfl]
theorem app_ref (a : Int32) (K : Int32 → Int32 → Sg → Option (Int32 × Sg)) (σ : Sg) : ∀ k c (w : Bool) fuel, k ≤ 4 → k < fuel → fX7_append_8 a K fuel (nI c) (if w then 1 else 0) (shz k) σ = K (nI (c + cntk a k)) (if (w || badk a k) then 1 else 0) σ := by
  intro k
  induction k with
  | zero =>
    intro c w fuel hk hf
    obtain ⟨f', rfl, -⟩ := fuel_succ hf
    rw [fX7_append_8, if_pos ((shz_lt 0 (by decide)).mpr rfl), badk, Bool.or_false, cntk, Nat.add_zero]
  | succ k ih =>
    intro c w fuel hk hf
    obtain ⟨f', rfl, hf⟩ := fuel_succ hf
    have hb := byt_lt a k
    have es : shz (k + 1) + (-8) = shz k := by
      rw [shz_succ k (by omega)]; rfl
    have ow : ∀ w v : Bool, ((if w then (1 : Int32) else 0) ||| (if v then 1 else 0)) = if (w || v) then 1 else 0 := by decide
    rw [fX7_append_8, if_neg (fun z => absurd ((shz_lt (k + 1) (by omega)).mp z) (by omega)), es, shz_succ k (by omega), lt'_eq, bytS a (by omega)]
    simp only [jp_eq, lt'_eq]
    rw [if_eq0 (by omega), badk, cntk]
    have step : ∀ (v : Bool) (d : Nat), v = bdb a k → d = (if byt a k = 0 then 0 else 1) → fX7_append_8 a K f' (nI c + nI d) ((if w then (1 : Int32) else 0) ||| (if v then 1 else 0)) (shz k) σ = K (nI (c + ((if byt a k = 0 then 0 else 1) + cntk a k))) (if (w || (bdb a k || badk a k)) then 1 else 0) σ := by
      intro v d hv hd
      rw [ow, zI_add, ih (c + d) (w || v) f' (by omega) (by omega), hv, ← hd, Nat.add_assoc, Bool.or_assoc]
    by_cases q0 : byt a k = 0
    · have hv : bdb a k = false := by unfold bdb; rw [decide_eq_false (fun z => z q0)]; rfl
      rw [if_pos q0, if_eq0 (by omega), if_pos q0]
      exact step false 0 hv.symm (if_pos q0).symm
    · rw [if_neg q0]
      rcases Classical.em (∃ j, 33 ≤ j ∧ j ≤ 126 ∧ nI (byt a k) = nI j) with ⟨j, j1, j2, j3⟩ | hno
      · have e1 : pX7_isBetween (nI (byt a k)) 33 126 = 1 := isb_yes (lo := 33) (hi := 126) (by decide) j1 j2 j3
        have hj := (zI_inj (by omega) (by omega)).mp j3
        have hv : bdb a k = false := by unfold bdb; rw [decide_eq_false (by omega : ¬ byt a k < 33), decide_eq_false (by omega : ¬ 126 < byt a k)]; simp
        rw [e1, if_neg n10, if_eq0 (by omega), if_neg q0]
        exact step false 1 hv.symm (if_neg q0).symm
      · have e1 : pX7_isBetween (nI (byt a k)) 33 126 = 0 := isb_no (lo := 33) (hi := 126) (by decide) (by decide) hno
        have hv : bdb a k = true := by
          unfold bdb
          rw [decide_eq_true q0, Bool.true_and, Bool.or_eq_true, decide_eq_true_eq, decide_eq_true_eq]
          rcases Nat.lt_or_ge (byt a k) 33 with z | z
          · exact Or.inl z
          · refine Or.inr ?_
            rcases Nat.lt_or_ge 126 (byt a k) with z2 | z2
            · exact z2
            · exact absurd ⟨_, z, z2, rfl⟩ hno
        rw [e1, if_pos (show (0 : Int32) = 0 from rfl), if_eq0 (by omega), if_neg q0]
        exact step true 1 hv.symm (if_neg q0).symm
theorem nar_all : ∀ b : Nat, b < 256 → vp_nar .char ((((nI b).toUInt32 % 65536).toInt32)) = nI b := by decide +kernel
theorem put_in (a : Int32) (K : Sg → Option ((String ⊕ Int32) × Sg)) : ∀ k L fuel fuel' (σ τ : Sg), k ≤ 4 → k < fuel → k < fuel' → badk a k = false → L + cntk a k ≤ 40 → σ 5 1 = nI L → τ 0 7 = nI L → (∀ i, i < L → ∃ ch, 33 ≤ ch ∧ ch ≤ 126 ∧ σ 25 i = nI ch ∧ τ 3 i = nI ch) →
    ∃ σ' τ', fX6_append_83 a K fuel (shz k) σ = K σ' ∧ fX7_append_106 a fuel' (shz k) τ = some (nI (L + cntk a k), τ') ∧ σ' 5 1 = nI (L + cntk a k) ∧ τ' 0 7 = nI (L + cntk a k) ∧ (∀ i, i < L + cntk a k → ∃ ch, 33 ≤ ch ∧ ch ≤ 126 ∧ σ' 25 i = nI ch ∧ τ' 3 i = nI ch) ∧ (∀ j, j ≠ 5 → j ≠ 25 → σ' j = σ j) ∧ (∀ j, j ≠ 0 → j ≠ 3 → τ' j = τ j) ∧ ∀ j, j ≠ 7 → τ' 0 j = τ 0 j := by
  intro k
  induction k with
  | zero =>
    intro L fuel fuel' σ τ hk hf hf' hb hL h1 h2 h3
    obtain ⟨f, rfl, -⟩ := fuel_succ hf
    obtain ⟨f', rfl, -⟩ := fuel_succ hf'
    refine ⟨σ, τ, ?_, ?_, h1, h2, h3, fun _ _ _ => rfl, fun _ _ _ => rfl, fun _ _ => rfl⟩
    · rw [fX6_append_83, if_pos ((shz_lt 0 (by decide)).mpr rfl)]
    · rw [fX7_append_106, if_pos ((shz_lt 0 (by decide)).mpr rfl), h2]
      rfl
  | succ k ih =>
    intro L fuel fuel' σ τ hk hf hf' hb hL h1 h2 h3
    obtain ⟨f, rfl, hf⟩ := fuel_succ hf
    obtain ⟨f', rfl, hf'⟩ := fuel_succ hf'
    have hb8 := byt_lt a k
    have es : shz (k + 1) + (-8) = shz k := by
      rw [shz_succ k (by omega)]; rfl
    rw [badk, Bool.or_eq_false_iff] at hb
    rw [cntk] at hL ⊢
    obtain ⟨d, hd⟩ : ∃ d : Nat, d = (if byt a k = 0 then 0 else 1) := ⟨_, rfl⟩
    rw [← hd] at hL ⊢
    rw [fX6_append_83, if_neg (fun z => absurd ((shz_lt (k + 1) (by omega)).mp z) (by omega)), es, fX7_append_106, if_neg (fun z => absurd ((shz_lt (k + 1) (by omega)).mp z) (by omega)), es, shz_succ k (by omega), lt'_eq, lt'_eq, bytU a (by omega), bytS a (by omega)]
    simp only [jp_eq]
    rw [if_eq0 (by omega), if_eq0 (by omega)]
    by_cases q0 : byt a k = 0
    · rw [if_pos q0] at hd
      rw [hd, Nat.zero_add] at hL ⊢
      rw [if_pos q0, if_pos q0]
      exact ih L f f' σ τ (by omega) (by omega) (by omega) hb.2 hL h1 h2 h3
    · rw [if_neg q0] at hd
      rw [hd] at hL ⊢
      rw [if_neg q0]
      have hr : 33 ≤ byt a k ∧ byt a k ≤ 126 := by
        have := hb.1
        unfold bdb at this
        rw [decide_eq_true q0, Bool.true_and, Bool.or_eq_false_iff, decide_eq_false_iff_not, decide_eq_false_iff_not] at this
        omega
      have ep : fX5_put ((nI (byt a k)).toUInt32 % 65536).toInt32 σ = some ((), sup (sup σ 25 L (nI (byt a k))) 5 1 (nI (L + 1))) := by
        rw [fX5_put, h1, show (420 : Int32) = nI 420 from rfl, if_le (by decide) (by omega), if_neg (by omega), gd_of (inb_ok (by omega) (by omega)), lt'_eq, lt'_eq, nar_all _ hb8, zI_clamp (by omega), sup_ne (by decide), h1, zs_add]
      rw [ep, bd_some, if_neg q0, h2, gd_of (inb_ok (by omega) (by omega)), lt'_eq, lt'_eq, zI_clamp (by omega), sup_ne (by decide), h2, zs_add]
      obtain ⟨σ', τ', g1, g2, g3, g4, g5, g6, g7, g8⟩ := ih (L + 1) f f' (sup (sup σ 25 L (nI (byt a k))) 5 1 (nI (L + 1))) (sup (sup τ 3 L (nI (byt a k))) 0 7 (nI (L + 1))) (by omega) (by omega) (by omega) hb.2 (by omega) (by rw [sup_self, upd_app, if_pos rfl]) (by rw [sup_self, upd_app, if_pos rfl]) (fun i hi => by
        rw [sup_ne (by decide), sup_self, upd_app, sup_ne (by decide), sup_self, upd_app]
        by_cases z : i = L
        · rw [if_pos z, if_pos z]
          exact ⟨byt a k, hr.1, hr.2, rfl, rfl⟩
        · rw [if_neg z, if_neg z]
          exact h3 i (by omega))
      rw [Nat.add_assoc] at g2 g3 g4 g5
      refine ⟨σ', τ', g1, g2, g3, g4, g5, fun j a1 a2 => ?_, fun j a1 a2 => ?_, fun j a1 => ?_⟩
      · rw [g6 j a1 a2, sup_ne a1, sup_ne a2]
      · rw [g7 j a1 a2, sup_ne a1, sup_ne a2]
      · rw [g8 j a1, sup_self, upd_app, if_neg a1, sup_ne (by decide)]
theorem op_append {t : Nat} {M : Mk} {σ τ : Sg} (h : Rel t M σ τ) (a : Int32) : Agr ["java/lang/IllegalArgumentException", "java/lang/IllegalStateException"] t (fX6_append a σ) (fX7_append a τ) := by
  obtain ⟨F, hF8, hFe⟩ : ∃ F, 12 < F ∧ FU = F := ⟨FU, by unfold FU; omega, rfl⟩
  obtain ⟨L, l1, l2, l3, l4⟩ := h.2.2.2.2.1
  have hc := cntk_le a 4
  rw [fX6_append, fX7_append, hFe]
  have e24 : (24 : Int32) = shz 4 := by decide
  rw [e24, show (0 : Int32) = nI 0 from rfl, app_cls a _ _ σ 4 0 F (by omega) (by omega)]
  have e8 : ∀ K : Int32 → Int32 → Sg → Option (Int32 × Sg), fX7_append_8 a K F (nI 0) (nI 0) (shz 4) τ = K (nI (0 + cntk a 4)) (if badk a 4 then 1 else 0) τ := fun K => app_ref a K τ 4 0 false F (by omega) (by omega)
  rw [e8, Nat.zero_add, l2, zI_add, show (40 : Int32) = nI 40 from rfl, if_le (by omega) (by decide)]
  by_cases q : badk a 4 = true
  · rw [if_pos q, if_pos q, fails1, bd_some, if_neg (by decide)]
    exact Agr.no (h.s00 1) 0 rfl (s00_0 τ 1)
  · rw [if_neg q, if_neg q, show nI 0 = (0 : Int32) from rfl, fails0, bd_some, if_pos (show (0 : Int32) = 0 from rfl)]
    simp only [jp_eq]
    have l3' : (sup τ 0 0 0) 0 7 = nI L := by rw [sup_self, upd_app, if_neg (by decide)]; exact l3
    rw [l3', zI_add, if_le (by omega) (by decide)]
    by_cases q2 : L + cntk a 4 ≤ 40
    · rw [if_pos q2, if_pos q2, fails0, bd_some, if_pos (show (0 : Int32) = 0 from rfl)]
      obtain ⟨σ', τ', g1, g2, g3, g4, g5, g6, g7, g8⟩ := put_in a (fun (σ23 : Sg) => some (.inr (σ23 5 1), σ23)) 4 L F F σ (sup (sup τ 0 0 0) 0 0 0) (by omega) (by omega) (by omega) (Bool.eq_false_iff.mpr q) q2 l2 (by rw [sup_self, upd_app, if_neg (by decide)]; exact l3') (by rw [sup_ne (by decide), sup_ne (by decide)]; exact l4)
      rw [g1, g2, g3]
      obtain ⟨h1, h2, h3, h4, h5, h6⟩ := (h.s00 0).s00 0
      refine Agr.ok (M := M) ⟨h1.oth fun k hk => g6 k (by omega) (by omega), by rw [g7 1 (by decide) (by decide)]; exact h2, ?_, ?_, ⟨L + cntk a 4, q2, g3, g4, g5⟩, ?_⟩ ?_
      · rw [g7 1 (by decide) (by decide)]
        exact h3.fr (g6 7 (by decide) (by decide)) (g6 27 (by decide) (by decide)) (g6 28 (by decide) (by decide)) (g6 29 (by decide) (by decide)) (g6 30 (by decide) (by decide))
      · have e0 : σ' 0 = σ 0 := g6 0 (by decide) (by decide)
        rcases h4 with ⟨a1, a2⟩ | ⟨a1, a2, N, c1, c2, c3, c4⟩
        · exact Or.inl ⟨by rw [e0]; exact a1, (g8 3 (by decide)).trans a2⟩
        · refine Or.inr ⟨by rw [e0]; exact a1, (g8 3 (by decide)).trans a2, N, c1, ?_, by rw [g7 2 (by decide) (by decide)]; exact c3, ?_⟩
          · unfold ClsM at c2 ⊢
            rw [g6 8 (by decide) (by decide), g6 17 (by decide) (by decide), g6 (17 + 1) (by decide) (by decide), g6 (17 + 2) (by decide) (by decide), g6 (17 + 3) (by decide) (by decide), g6 (17 + 4) (by decide) (by decide), g6 (17 + 5) (by decide) (by decide)]
            exact c2
          · rw [g7 2 (by decide) (by decide)]
            exact c4.fr (g6 9 (by decide) (by decide)) (g6 31 (by decide) (by decide)) (g6 (31 + 1) (by decide) (by decide)) (g6 (31 + 2) (by decide) (by decide)) (g6 (31 + 3) (by decide) (by decide))
      · rw [g6 0 (by decide) (by decide), g8 9 (by decide)]
        exact h6
      · rw [g8 0 (by decide)]
        exact s00_0 _ 0
    · rw [if_neg q2, if_neg q2, fails1, bd_some, if_neg (by decide)]
      exact Agr.no ((h.s00 0).s00 2) 1 rfl (s00_0 _ 2)
