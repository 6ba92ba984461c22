/-! Layer 2, 53: what is asked of stations; counts -/
theorem op_errorPosition {t : Nat} {M : Mk} {σ τ : Sg} (h : Rel t M σ τ) : ∃ v τ', fX6_errorPosition σ = some (v, σ) ∧ fX7_errorPosition τ = some (v, τ') ∧ Rel t M σ τ' ∧ τ' 0 0 = 0 := by
  refine ⟨σ 0 11, sup τ 0 0 0, rfl, ?_, h.s00 0, s00_0 τ 0⟩
  rw [fX7_errorPosition, lt'_eq, sup_self, upd_app, if_neg (by decide), h.2.2.2.2.2]
theorem op_hasConflict {t : Nat} {M : Mk} {σ τ : Sg} (h : Rel t M σ τ) (a b c : Int32) : Agr ["java/lang/IndexOutOfBoundsException", "java/lang/IllegalArgumentException"] t (fX6_hasConflict a b c σ) (fX7_hasConflict a b c τ) := by
  have hM := h.1.2.1
  have hn := hM.1.1
  rw [fX6_hasConflict, fX7_hasConflict]
  simp only [jp_eq]
  rcases sta_dec M a with ⟨s, hs, rfl⟩ | hna
  · rw [reqSta_ok hn h.1.1.1 hs, bx_inr, isSta_ok hn h.2.1 hs, bd_some, if_neg n10]
    rcases sta_dec M b with ⟨u, hu, rfl⟩ | hnb
    · have hr2 := ((h.s00 0).s00 0).2.1
      rw [reqSta_ok hn h.1.1.1 hu, bx_inr, isSta_ok hn h.2.1 hu, bd_some, if_neg n10, fails0, bd_some, if_pos (show (0 : Int32) = 0 from rfl)]
      have e15 : σ 15 s = nI (M.sm s) := (h.1.1.2.2.2.2 s (by omega)).1
      have e16 : σ 16 s = nI (M.nx s) := (h.1.1.2.2.2.2 s (by omega)).2
      have hb01 : ∀ c : Bool, b01 (if c = true then (1 : Int32) else 0) = true := by intro c; cases c <;> rfl
      by_cases c0 : c = 0
      · have e1 : pX7_isBetween c 0 1 = 1 := isb0_yes (hi := 1) (k := 0) (by decide) (by decide) c0
        rw [e1, if_neg n10, fails0, bd_some, if_pos (show (0 : Int32) = 0 from rfl), if_pos c0, if_pos c0, if_pos c0, gd_of (inb_ok (show s < 12 by omega) (by omega)), zI_clamp (show s < 2 ^ 31 by omega), e15, contains_nI (hM.1.lt31 (hM.1.2.1 s)) (by omega), gd_of (hb01 _), show (64 : Int32) = nI 64 from rfl, zI_add, gd_of (inb_ok (show 64 + s < 2764 by omega) (by omega)), zI_clamp (show 64 + s < 2 ^ 31 by omega), (hr2.2.2 s hs).2.2.2.2.2.1, has_nI (hM.1.lt31 (hM.1.2.1 s)) (by omega), gd_of (hb01 _)]
        exact Agr.ok ((h.s00 0).s00 0) (s00_0 _ 0)
      · by_cases c1 : c = 1
        · have e1 : pX7_isBetween c 0 1 = 1 := isb0_yes (hi := 1) (k := 1) (by decide) (by decide) c1
          rw [e1, if_neg n10, fails0, bd_some, if_pos (show (0 : Int32) = 0 from rfl), if_neg c0, if_pos c1, if_neg c0, if_neg c0, gd_of (inb_ok (show s < 12 by omega) (by omega)), zI_clamp (show s < 2 ^ 31 by omega), e16, contains_nI (hM.1.lt31 (hM.1.2.2.1 s)) (by omega), gd_of (hb01 _), show (76 : Int32) = nI 76 from rfl, zI_add, gd_of (inb_ok (show 76 + s < 2764 by omega) (by omega)), zI_clamp (show 76 + s < 2 ^ 31 by omega), (hr2.2.2 s hs).2.2.2.2.2.2, has_nI (hM.1.lt31 (hM.1.2.2.1 s)) (by omega), gd_of (hb01 _)]
          exact Agr.ok ((h.s00 0).s00 0) (s00_0 _ 0)
        · have e1 : pX7_isBetween c 0 1 = 0 := isb0_no (hi := 1) (by decide) fun ⟨k, _, k1, k2⟩ => by
            rcases (by omega : k = 0 ∨ k = 1) with rfl | rfl
            · exact c0 k2
            · exact c1 k2
          rw [e1, if_pos (show (0 : Int32) = 0 from rfl), if_neg c0, if_neg c1, fails1, bd_some, if_neg (by decide)]
          exact Agr.no ((h.s00 0).s00 2) 1 rfl (s00_0 _ 2)
    · rw [reqSta_no hn h.1.1.1 hnb, bx_inl, isSta_no hn h.2.1 hnb, bd_some, if_pos (show (0 : Int32) = 0 from rfl), fails1, bd_some, if_neg (by decide)]
      exact Agr.no (h.s00 1) 0 rfl (s00_0 τ 1)
  · rw [reqSta_no hn h.1.1.1 hna, bx_inl, isSta_no hn h.2.1 hna, bd_some, if_pos (show (0 : Int32) = 0 from rfl), fails1, bd_some, if_neg (by decide)]
    exact Agr.no (h.s00 1) 0 rfl (s00_0 τ 1)
theorem op_station {t : Nat} {M : Mk} {σ τ : Sg} (h : Rel t M σ τ) (a b : Int32) : Agr ["java/lang/IndexOutOfBoundsException", "java/lang/IllegalArgumentException"] t (fX6_station a b σ) (fX7_station a b τ) := by
  have hM := h.1.2.1
  have hn := hM.1.1
  rw [fX6_station, fX7_station]
  simp only [jp_eq]
  rcases sta_dec M a with ⟨s, hs, rfl⟩ | hna
  · have hr2 := ((h.s00 0).s00 0).2.1
    have hrel := (h.s00 0).s00 0
    obtain ⟨y1, y2, y3, y4⟩ := h.1.1.2.2.2.1 s hs
    obtain ⟨q1, q2, q3, q4, q5, q6, q7⟩ := hr2.2.2 s hs
    have y1' : σ 11 s = nI (M.ch s) := y1
    have y2' : σ 12 s = nI (M.vl s) := y2
    have y3' : σ 13 s = nI (M.wt s) := y3
    have y4' : σ 14 s = M.kp s := y4
    rw [reqSta_ok hn h.1.1.1 hs, bx_inr, isSta_ok hn h.2.1 hs, bd_some, if_neg n10, fails0, bd_some, if_pos (show (0 : Int32) = 0 from rfl), gd_of (inb_ok (show s < 12 by omega) (by omega)), gd_of (inb_ok (show s < 12 by omega) (by omega)), gd_of (inb_ok (show s < 12 by omega) (by omega)), gd_of (inb_ok (show s < 12 by omega) (by omega)), zI_clamp (show s < 2 ^ 31 by omega), y1', y2', y3', y4', h.1.1.2.1, if_c (hM.1.lt31 hM.2.2.1) (by omega), cdeg_eq hM hs h.1.1, bd_some]
    have kk : ∀ c : Nat, nI c + nI s = nI (c + s) := fun c => zI_add c s
    obtain ⟨tv, htv⟩ : ∃ tv : Int32, tv = (if M.tk.testBit s = true then 1 else 0) := ⟨_, rfl⟩
    have e3 : (if M.tk.testBit s = true then some ((Sum.inr 1 : String ⊕ Int32), σ) else some (Sum.inr 0, σ)) = some (.inr tv, σ) := by
      rw [htv]
      split <;> rfl
    rw [← htv] at q4
    rw [e3]
    rcases Classical.em (∃ k, 0 ≤ k ∧ k ≤ 5 ∧ b = nI k) with ⟨k, -, h1, rfl⟩ | hno
    · have e1 : pX7_isBetween (nI k) 0 5 = 1 := isb0_yes (hi := 5) (by decide) h1 rfl
      rw [e1, if_neg n10, fails0, bd_some, if_pos (show (0 : Int32) = 0 from rfl), show (4 : Int32) = nI 4 from rfl, show (16 : Int32) = nI 16 from rfl, show (28 : Int32) = nI 28 from rfl, show (40 : Int32) = nI 40 from rfl, show (52 : Int32) = nI 52 from rfl, kk, kk, kk, kk, kk,
        gd_of (inb_ok (show 4 + s < 2764 by omega) (by omega)), gd_of (inb_ok (show 16 + s < 2764 by omega) (by omega)), gd_of (inb_ok (show 28 + s < 2764 by omega) (by omega)), gd_of (inb_ok (show 40 + s < 2764 by omega) (by omega)), gd_of (inb_ok (show 52 + s < 2764 by omega) (by omega)),
        zI_clamp (show 4 + s < 2 ^ 31 by omega), zI_clamp (show 16 + s < 2 ^ 31 by omega), zI_clamp (show 28 + s < 2 ^ 31 by omega), zI_clamp (show 40 + s < 2 ^ 31 by omega), zI_clamp (show 52 + s < 2 ^ 31 by omega), q1, q2, q3, q4, q5, rdeg_eq hM hs hr2, bd_some]
      rcases (by omega : k = 0 ∨ k = 1 ∨ k = 2 ∨ k = 3 ∨ k = 4 ∨ k = 5) with rfl | rfl | rfl | rfl | rfl | rfl
      · rw [if_pos (by decide), if_pos (by decide)]
        exact Agr.ok hrel (s00_0 _ 0)
      · rw [if_neg (by decide), if_pos (by decide), if_neg (by decide), if_pos (by decide)]
        exact Agr.ok hrel (s00_0 _ 0)
      · rw [if_neg (by decide), if_neg (by decide), if_pos (by decide), if_neg (by decide), if_neg (by decide), if_pos (by decide)]
        exact Agr.ok hrel (s00_0 _ 0)
      · rw [if_neg (by decide), if_neg (by decide), if_neg (by decide), if_pos (by decide), if_neg (by decide), if_neg (by decide), if_neg (by decide), if_pos (by decide)]
        exact Agr.ok hrel (s00_0 _ 0)
      · rw [if_neg (by decide), if_neg (by decide), if_neg (by decide), if_neg (by decide), if_pos (by decide), if_neg (by decide), if_neg (by decide), if_neg (by decide), if_neg (by decide), if_pos (by decide)]
        exact Agr.ok hrel (s00_0 _ 0)
      · rw [if_neg (by decide), if_neg (by decide), if_neg (by decide), if_neg (by decide), if_neg (by decide), if_pos (by decide), if_neg (by decide), if_neg (by decide), if_neg (by decide), if_neg (by decide), if_neg (by decide)]
        exact Agr.ok hrel (s00_0 _ 0)
    · have e1 : pX7_isBetween b 0 5 = 0 := isb0_no (hi := 5) (by decide) hno
      have ne : ∀ k : Nat, k ≤ 5 → ¬ b = nI k := fun k hk z => hno ⟨k, Nat.zero_le k, hk, z⟩
      rw [if_neg (show ¬ b = 0 from ne 0 (by decide)), if_neg (show ¬ b = 1 from ne 1 (by decide)), if_neg (show ¬ b = 2 from ne 2 (by decide)), if_neg (show ¬ b = 3 from ne 3 (by decide)), if_neg (show ¬ b = 4 from ne 4 (by decide)), if_neg (show ¬ b = 5 from ne 5 (by decide)), e1, if_pos (show (0 : Int32) = 0 from rfl), fails1, bd_some, if_neg (by decide)]
      exact Agr.no ((h.s00 0).s00 2) 1 rfl (s00_0 _ 2)
  · rw [reqSta_no hn h.1.1.1 hna, bx_inl, isSta_no hn h.2.1 hna, bd_some, if_pos (show (0 : Int32) = 0 from rfl), fails1, bd_some, if_neg (by decide)]
    exact Agr.no (h.s00 1) 0 rfl (s00_0 τ 1)
theorem op_priceAt {t : Nat} {M : Mk} {σ τ : Sg} (h : Rel t M σ τ) (a b : Int32) : Agr ["java/lang/IndexOutOfBoundsException", "java/lang/IllegalArgumentException"] t (fX6_priceAt a b σ) (fX7_priceAt a b τ) := by
  have hM := h.1.2.1
  have hn := hM.1.1
  rw [fX6_priceAt, fX7_priceAt]
  simp only [jp_eq]
  rcases sta_dec M a with ⟨s, hs, rfl⟩ | hna
  · rw [reqSta_ok hn h.1.1.1 hs, bx_inr, isSta_ok hn h.2.1 hs, bd_some, if_neg n10, fails0, bd_some, if_pos (show (0 : Int32) = 0 from rfl)]
    rcases Classical.em (∃ k, 0 ≤ k ∧ k ≤ 1000 ∧ b = nI k) with ⟨k, -, h1, rfl⟩ | hno
    · have e1 : pX7_isBetween (nI k) 0 1000 = 1 := isb0_yes (hi := 1000) (by decide) h1 rfl
      have e2 : nI k ≤ 1000 := (zI_le (b := 1000) (by omega) (by decide)).mpr h1
      rw [if_neg (zI_nn (by omega)), if_pos e2, cprice_eq hM hs h1 h.1.1, bd_some, e1, if_neg n10, fails0, bd_some, if_pos (show (0 : Int32) = 0 from rfl), rprice_eq hM hs h1 ((h.s00 0).s00 0).2.1, bd_some]
      exact Agr.ok ((h.s00 0).s00 0) (s00_0 _ 0)
    · have e1 : pX7_isBetween b 0 1000 = 0 := isb0_no (hi := 1000) (by decide) hno
      have e0 : ∀ x : Option ((String ⊕ Int32) × Sg), (if b < 0 then some ((Sum.inl "java/lang/IllegalArgumentException" : String ⊕ Int32), σ) else if b ≤ 1000 then x else some (.inl "java/lang/IllegalArgumentException", σ)) = some (.inl "java/lang/IllegalArgumentException", σ) := by
        intro x
        by_cases q : b < 0
        · rw [if_pos q]
        · rw [if_neg q]
          by_cases q2 : b ≤ 1000
          · exact absurd ((btw_lo (lo := 0) (hi := 1000) (by decide) (by decide)).mp ⟨q, q2⟩) hno
          · rw [if_neg q2]
      rw [e0, e1, if_pos (show (0 : Int32) = 0 from rfl), fails1, bd_some, if_neg (by decide)]
      exact Agr.no ((h.s00 0).s00 2) 1 rfl (s00_0 _ 2)
  · rw [reqSta_no hn h.1.1.1 hna, bx_inl, isSta_no hn h.2.1 hna, bd_some, if_pos (show (0 : Int32) = 0 from rfl), fails1, bd_some, if_neg (by decide)]
    exact Agr.no (h.s00 1) 0 rfl (s00_0 τ 1)
/-! counts -/
theorem psum12 (f : Nat → Nat) (hf : ∀ s, f s < 2 ^ 12) : ∀ k, k ≤ 12 → sumTo (fun s => pc (f s)) k ≤ 144 := by
  intro k hk
  have h := sumTo_bound (f := fun s => pc (f s)) (b := 12) k (fun i _ => pc_le12 _)
  omega
theorem pairs15_loop {f : Nat → Nat} (hf : ∀ s, f s < 2 ^ 12) (K : Int32 → Sg → Option (Int32 × Sg)) {σ : Sg} (h : ∀ s, s < 12 → σ 15 s = nI (f s)) : ∀ k i fuel, i + k = 12 → k < fuel → fX6_pairsIn_15_4 K fuel (nI (sumTo (fun s => pc (f s)) i)) (nI i) σ = K (nI (sumTo (fun s => pc (f s)) 12)) σ := by
  intro k
  induction k with
  | zero =>
    intro i fuel hi hf'
    obtain ⟨f', rfl, -⟩ := fuel_succ hf'
    have e : i = 12 := by omega
    rw [fX6_pairsIn_15_4, show (12 : Int32) = nI 12 from rfl, if_le (by omega) (by omega), if_pos (by omega), e]
  | succ k ih =>
    intro i fuel hi hf'
    obtain ⟨f', rfl, hf'⟩ := fuel_succ hf'
    have e := ih (i + 1) f' (by omega) (by omega)
    rw [sumTo] at e
    rw [fX6_pairsIn_15_4, show (12 : Int32) = nI 12 from rfl, if_le (by omega) (by omega), if_neg (by omega), gd_of (inb_ok (by omega) (by omega)), lt'_eq, zI_clamp (by omega), h i (by omega), bitCount_nI (hf i), zI_add, zs_add]
    exact e
theorem pairs16_loop {f : Nat → Nat} (hf : ∀ s, f s < 2 ^ 12) (K : Int32 → Sg → Option (Int32 × Sg)) {σ : Sg} (h : ∀ s, s < 12 → σ 16 s = nI (f s)) : ∀ k i fuel, i + k = 12 → k < fuel → fX6_pairsIn_16_4 K fuel (nI (sumTo (fun s => pc (f s)) i)) (nI i) σ = K (nI (sumTo (fun s => pc (f s)) 12)) σ := by
  intro k
  induction k with
  | zero =>
    intro i fuel hi hf'
    obtain ⟨f', rfl, -⟩ := fuel_succ hf'
    have e : i = 12 := by omega
    rw [fX6_pairsIn_16_4, show (12 : Int32) = nI 12 from rfl, if_le (by omega) (by omega), if_pos (by omega), e]
  | succ k ih =>
    intro i fuel hi hf'
    obtain ⟨f', rfl, hf'⟩ := fuel_succ hf'
    have e := ih (i + 1) f' (by omega) (by omega)
    rw [sumTo] at e
    rw [fX6_pairsIn_16_4, show (12 : Int32) = nI 12 from rfl, if_le (by omega) (by omega), if_neg (by omega), gd_of (inb_ok (by omega) (by omega)), lt'_eq, zI_clamp (by omega), h i (by omega), bitCount_nI (hf i), zI_add, zs_add]
    exact e
theorem rpairs_loop {n b : Nat} (hn : n ≤ 12) (hb : b = 64 ∨ b = 76) {f : Nat → Nat} (hf : ∀ s, f s < 2 ^ 12) (K : Int32 → Sg → Option (Int32 × Sg)) {σ : Sg} (h0 : σ 1 0 = nI n) (h : ∀ s, s < n → σ 1 (b + s) = nI (f s)) : ∀ k i fuel, i + k = n → k < fuel → fX7_countPairs_4 (nI b) K fuel (nI (sumTo (fun s => pc (f s)) i)) (nI i) σ = K (nI (sumTo (fun s => pc (f s)) n)) σ := by
  intro k
  induction k with
  | zero =>
    intro i fuel hi hf'
    obtain ⟨f', rfl, -⟩ := fuel_succ hf'
    have e : i = n := by omega
    rw [fX7_countPairs_4, h0, if_le (by omega) (by omega), if_pos (by omega), e]
  | succ k ih =>
    intro i fuel hi hf'
    obtain ⟨f', rfl, hf'⟩ := fuel_succ hf'
    have e := ih (i + 1) f' (by omega) (by omega)
    rw [sumTo] at e
    rw [fX7_countPairs_4, h0, if_le (by omega) (by omega), if_neg (by omega), zI_add, gd_of (inb_ok (by omega) (by omega)), zI_clamp (by omega), h i (by omega), cb_eq (hf i), bd_some, lt'_eq, zI_add, zs_add]
    exact e
def nkc (k : Nat → Int32) : Nat → Nat := fun s => if k s = -1 then 0 else 1
theorem placed_loop {M : Mk} (hn : M.n ≤ 12) {σ : Sg} (h6 : σ 3 6 = nI M.n) (h14 : ∀ s, s < M.n → σ 14 s = M.kp s) : ∀ j i fuel, i + j = M.n → j < fuel → fX3_placedStations_4 fuel (nI (sumTo (nkc M.kp) i)) (nI i) σ = some (nI (sumTo (nkc M.kp) M.n), σ) := by
  intro j
  induction j with
  | zero =>
    intro i fuel hi hf
    obtain ⟨f', rfl, -⟩ := fuel_succ hf
    have e : i = M.n := by omega
    rw [fX3_placedStations_4, h6, if_le (by omega) (by omega), if_pos (by omega), e]
  | succ j ih =>
    intro i fuel hi hf
    obtain ⟨f', rfl, hf⟩ := fuel_succ hf
    have e := ih (i + 1) f' (by omega) (by omega)
    rw [sumTo] at e
    rw [fX3_placedStations_4, h6, if_le (by omega) (by omega), if_neg (by omega), gd_of (inb_ok (by omega) (by omega))]
    simp only [jp_eq]
    rw [zI_clamp (by omega), h14 i (by omega), zs_add, zs_add]
    unfold nkc at e
    by_cases q : M.kp i = -1
    · rw [if_pos q, Nat.add_zero] at e
      rw [if_pos q]
      exact e
    · rw [if_neg q] at e
      rw [if_neg q]
      exact e
theorem rplaced_loop {M : Mk} (hM : M.WF) {σ : Sg} (hr : RefM (σ 1) M) : ∀ j i fuel, i + j = M.n → j < fuel → fX7_countKept_4 fuel (nI (sumTo (nkc M.kp) i)) (nI i) σ = some (nI (sumTo (nkc M.kp) M.n), σ) := by
  have hn := hM.1.1
  intro j
  induction j with
  | zero =>
    intro i fuel hi hf
    obtain ⟨f', rfl, -⟩ := fuel_succ hf
    have e : i = M.n := by omega
    rw [fX7_countKept_4, hr.1, if_le (by omega) (by omega), if_pos (by omega), e]
  | succ j ih =>
    intro i fuel hi hf
    obtain ⟨f', rfl, hf⟩ := fuel_succ hf
    have e := ih (i + 1) f' (by omega) (by omega)
    rw [sumTo] at e
    rw [fX7_countKept_4, hr.1, if_le (by omega) (by omega), if_neg (by omega), show (52 : Int32) = nI 52 from rfl, zI_add, gd_of (inb_ok (by omega) (by omega))]
    simp only [jp_eq, lt'_eq]
    rw [zI_clamp (by omega), (hr.2.2 i (by omega)).2.2.2.2.1, zs_add, zs_add]
    unfold nkc at e
    rcases (hM.2.2.2 i (by omega)).2.2.2.2 with q | ⟨c, hc, q⟩
    · rw [if_pos q] at e
      rw [q, if_pos (by decide), show (0 : Int32) = nI 0 from rfl, zI_add]
      exact e
    · rw [if_neg (by rw [q]; exact zI_neg1 (by omega))] at e
      rw [q, if_neg (zI_nn (by omega))]
      exact e
theorem pc_split {M : Mk} (hM : M.WF) : pc M.out + pc M.tk = M.n := by
  have hn := hM.1.1
  have h : ∀ k, (List.range k).countP M.out.testBit + (List.range k).countP M.tk.testBit = (List.range k).countP (fun i => decide (i < M.n)) := by
    intro k
    induction k with
    | zero => rfl
    | succ k ih =>
      rw [List.range_succ, List.countP_append, List.countP_append, List.countP_append, List.countP_singleton, List.countP_singleton, List.countP_singleton, out_tb]
      by_cases q : k < M.n
      · rw [decide_eq_true q]
        cases M.tk.testBit k <;> simp <;> omega
      · rw [decide_eq_false q, tb_not hM.2.2.1 (by omega)]
        simp
        omega
  have h2 := h 12
  rw [countP_lt_range 12 M.n hn] at h2
  exact h2
theorem op_count {t : Nat} {M : Mk} {σ τ : Sg} (h : Rel t M σ τ) (a : Int32) : Agr ["java/lang/IllegalArgumentException"] t (fX6_count a σ) (fX7_count a τ) := by
  have hM := h.1.2.1
  have hn := hM.1.1
  obtain ⟨F, hF8, hFe⟩ : ∃ F, 12 < F ∧ FU = F := ⟨FU, by unfold FU; omega, rfl⟩
  rw [fX6_count, fX7_count]
  simp only [jp_eq]
  rcases Classical.em (∃ k, 0 ≤ k ∧ k ≤ 7 ∧ a = nI k) with ⟨k, -, h1, rfl⟩ | hno
  · have hr := (h.s00 0).2.1
    have hrel := h.s00 0
    have e1 : pX7_isBetween (nI k) 0 7 = 1 := isb0_yes (hi := 7) (by decide) h1 rfl
    have hav : M.av < 2 ^ 12 := Nat.lt_trans hM.2.1 (by decide)
    have htk := hM.1.lt12 hM.2.2.1
    rw [e1, if_neg n10, fails0, bd_some, if_pos (show (0 : Int32) = 0 from rfl)]
    rcases (by omega : k = 0 ∨ k = 1 ∨ k = 2 ∨ k = 3 ∨ k = 4 ∨ k = 5 ∨ k = 6 ∨ k = 7) with rfl | rfl | rfl | rfl | rfl | rfl | rfl | rfl
    · rw [if_pos (by decide), if_pos (by decide), h.1.1.1, hr.1]
      exact Agr.ok hrel (s00_0 _ 0)
    · have hf : ∀ s, M.sm s < 2 ^ 12 := fun s => hM.1.lt12 (hM.1.2.1 s)
      have b1 := psum12 M.sm hf 12 (by decide)
      have stop : sumTo (fun s => pc (M.sm s)) 12 = sumTo (fun s => pc (M.sm s)) M.n := sumTo_stop (fun i h1 _ => by rw [(hM.1.zero h1).1]; exact pc_zero) hn
      have x1 : fX6_pairsIn_15 σ = some (nI (sumTo (fun s => pc (M.sm s)) 12 / 2), σ) := by
        rw [fX6_pairsIn_15, hFe]
        refine (pairs15_loop hf _ (fun s hs => (h.1.1.2.2.2.2 s hs).1) 12 0 F (by omega) (by omega)).trans ?_
        rw [show (2 : Int32) = nI 2 from rfl, zI_div (by omega) (by decide)]
      have x2 : fX7_countPairs 64 (sup τ 0 0 0) = some (nI (sumTo (fun s => pc (M.sm s)) 12 / 2), sup τ 0 0 0) := by
        rw [fX7_countPairs, hFe]
        refine (rpairs_loop hn (Or.inl rfl) hf _ hr.1 (fun s hs => (hr.2.2 s hs).2.2.2.2.2.1) M.n 0 F (by omega) (by omega)).trans ?_
        rw [show (2 : Int32) = nI 2 from rfl, ← stop, zI_div (by omega) (by decide)]
      rw [if_neg (by decide), if_pos (by decide), x1, bd_some, if_neg (by decide), if_pos (by decide), x2, bd_some]
      exact Agr.ok hrel (s00_0 _ 0)
    · have hf : ∀ s, M.nx s < 2 ^ 12 := fun s => hM.1.lt12 (hM.1.2.2.1 s)
      have b1 := psum12 M.nx hf 12 (by decide)
      have stop : sumTo (fun s => pc (M.nx s)) 12 = sumTo (fun s => pc (M.nx s)) M.n := sumTo_stop (fun i h1 _ => by rw [(hM.1.zero h1).2]; exact pc_zero) hn
      have x1 : fX6_pairsIn_16 σ = some (nI (sumTo (fun s => pc (M.nx s)) 12 / 2), σ) := by
        rw [fX6_pairsIn_16, hFe]
        refine (pairs16_loop hf _ (fun s hs => (h.1.1.2.2.2.2 s hs).2) 12 0 F (by omega) (by omega)).trans ?_
        rw [show (2 : Int32) = nI 2 from rfl, zI_div (by omega) (by decide)]
      have x2 : fX7_countPairs 76 (sup τ 0 0 0) = some (nI (sumTo (fun s => pc (M.nx s)) 12 / 2), sup τ 0 0 0) := by
        rw [fX7_countPairs, hFe]
        refine (rpairs_loop hn (Or.inr rfl) hf _ hr.1 (fun s hs => (hr.2.2 s hs).2.2.2.2.2.2) M.n 0 F (by omega) (by omega)).trans ?_
        rw [show (2 : Int32) = nI 2 from rfl, ← stop, zI_div (by omega) (by decide)]
      rw [if_neg (by decide), if_neg (by decide), if_pos (by decide), x1, bd_some, if_neg (by decide), if_neg (by decide), if_pos (by decide), x2, bd_some]
      exact Agr.ok hrel (s00_0 _ 0)
    · rw [if_neg (by decide), if_neg (by decide), if_neg (by decide), if_pos (by decide), if_neg (by decide), if_neg (by decide), if_neg (by decide), if_pos (by decide), h.1.1.2.2.1, bitCount_nI hav, hr.2.1, cb_eq hav, bd_some]
      exact Agr.ok hrel (s00_0 _ 0)
    · have hsp := pc_split hM
      have hout : M.out < 2 ^ 12 := hM.1.lt12 (out_lt M)
      rw [if_neg (by decide), if_neg (by decide), if_neg (by decide), if_neg (by decide), if_pos (by decide), if_neg (by decide), if_neg (by decide), if_neg (by decide), if_neg (by decide), if_pos (by decide), h.1.1.2.1, bitCount_nI htk, outs_eq hM hr, bd_some, cb_eq hout, bd_some, hr.1, zI_sub (by omega), show M.n - pc M.out = pc M.tk by omega]
      exact Agr.ok hrel (s00_0 _ 0)
    · have x1 : fX3_placedStations σ = some (nI (sumTo (nkc M.kp) M.n), σ) := by
        rw [fX3_placedStations, hFe]
        exact placed_loop hn h.1.1.1 (fun s hs => (h.1.1.2.2.2.1 s hs).2.2.2) M.n 0 F (by omega) (by omega)
      have x2 : fX7_countKept (sup τ 0 0 0) = some (nI (sumTo (nkc M.kp) M.n), sup τ 0 0 0) := by
        rw [fX7_countKept, hFe]
        exact rplaced_loop hM hr M.n 0 F (by omega) (by omega)
      rw [if_neg (by decide), if_neg (by decide), if_neg (by decide), if_neg (by decide), if_neg (by decide), if_pos (by decide), if_neg (by decide), if_neg (by decide), if_neg (by decide), if_neg (by decide), if_neg (by decide), if_pos (by decide), x1, bd_some, x2, bd_some]
      exact Agr.ok hrel (s00_0 _ 0)
    · obtain ⟨L, l1, l2, l3, l4⟩ := hrel.2.2.2.2.1
      rw [if_neg (by decide), if_neg (by decide), if_neg (by decide), if_neg (by decide), if_neg (by decide), if_neg (by decide), if_pos (by decide), if_neg (by decide), if_neg (by decide), if_neg (by decide), if_neg (by decide), if_neg (by decide), if_neg (by decide), if_pos (by decide), l2, l3]
      exact Agr.ok hrel (s00_0 _ 0)
    · rw [if_neg (by decide), if_neg (by decide), if_neg (by decide), if_neg (by decide), if_neg (by decide), if_neg (by decide), if_neg (by decide), if_pos (by decide)]
      rcases kn_cases h with ⟨z1, z2⟩ | ⟨z1, z2, A, hA, hfe⟩
      · rw [z1, if_pos (show (0 : Int32) = 0 from rfl), if_neg (by decide), if_neg (by decide), if_neg (by decide), if_neg (by decide), if_neg (by decide), if_neg (by decide), if_neg (by decide), known0 (by rw [s00_1]; exact z2), bd_some, if_pos (show (0 : Int32) = 0 from rfl)]
        exact Agr.ok hrel (s00_0 _ 0)
      · rw [z1, if_neg n10, if_neg (by decide), if_neg (by decide), if_neg (by decide), if_neg (by decide), if_neg (by decide), if_neg (by decide), if_neg (by decide), known1 (by rw [s00_1]; exact z2), bd_some, if_neg n10, hA.2.2.2.2.1.1, s00_1, hA.2.2.2.2.2.1]
        exact Agr.ok hrel (s00_0 _ 0)
  · have e1 : pX7_isBetween a 0 7 = 0 := isb0_no (hi := 7) (by decide) hno
    have ne : ∀ k : Nat, k ≤ 7 → ¬ a = nI k := fun k hk z => hno ⟨k, Nat.zero_le k, hk, z⟩
    rw [if_neg (show ¬ a = 0 from ne 0 (by decide)), if_neg (show ¬ a = 1 from ne 1 (by decide)), if_neg (show ¬ a = 2 from ne 2 (by decide)), if_neg (show ¬ a = 3 from ne 3 (by decide)), if_neg (show ¬ a = 4 from ne 4 (by decide)), if_neg (show ¬ a = 5 from ne 5 (by decide)), if_neg (show ¬ a = 6 from ne 6 (by decide)), if_neg (show ¬ a = 7 from ne 7 (by decide)), e1, if_pos (show (0 : Int32) = 0 from rfl), fails1, bd_some, if_neg (by decide)]
    exact Agr.no (h.s00 1) 0 rfl (s00_0 τ 1)
