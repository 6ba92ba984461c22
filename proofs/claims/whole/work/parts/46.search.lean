/-! Layer 2, 7: the class's search -/
theorem or_pow {V i : Nat} (h : V < 2 ^ i) : V ||| 2 ^ i = V + 2 ^ i := by
  have := Nat.two_pow_add_eq_or_of_lt h 1
  rw [Nat.mul_one] at this
  rw [Nat.or_comm, ← this, Nat.add_comm]
theorem z1_add (x : Nat) : (1 : Int32) + nI x = nI (1 + x) := zI_add 1 x
theorem zs_add (x : Nat) : nI x + (1 : Int32) = nI (x + 1) := zI_add x 1
theorem sh_zero {sm : Nat → Nat} {T : Nat → Nat} (h : T 0 = 0) : ShOK sm 0 T := by
  intro U hU
  have : U = 0 := by omega
  subst this
  refine ⟨by omega, fun I hI _ => ?_⟩
  have : I = 0 := Nat.eq_of_testBit_eq fun i => by
    rw [tb_zero]
    cases q : I.testBit i with
    | false => rfl
    | true => have := hI i q; rw [tb_zero] at this; cases this
  rw [this, pc_zero]; omega
theorem sh_step {sm : Nat → Nat} {i : Nat} (hi : i < 12) (h1 : ∀ s t, (sm s).testBit t = (sm t).testBit s) (hirr : ∀ s, (sm s).testBit s = false) {T T' : Nat → Nat} (hT : ShOK sm i T) (hlo : ∀ U, U < 2 ^ i → T' U = T U)
    (hhi : ∀ U, U < 2 ^ i → T' (U + 2 ^ i) = max (T U) (1 + T (ndf U (sm i)))) : ShOK sm (i + 1) T' := by
  intro U hU
  rcases Nat.lt_or_ge U (2 ^ i) with q | q
  · obtain ⟨a, b⟩ := hT U q
    rw [hlo U q]
    exact ⟨by omega, b⟩
  · obtain ⟨V, rfl⟩ : ∃ V, U = V + 2 ^ i := ⟨U - 2 ^ i, by omega⟩
    have hV : V < 2 ^ i := by rw [Nat.pow_succ] at hU; omega
    obtain ⟨a, b⟩ := hT V hV
    obtain ⟨a2, b2⟩ := hT (ndf V (sm i)) (ndf_lt hV)
    rw [hhi V hV]
    refine ⟨by omega, fun I hI hind => ?_⟩
    have hbit : ∀ j, (V + 2 ^ i).testBit j = (V.testBit j || decide (j = i)) := by
      intro j
      have : V + 2 ^ i = V ||| 2 ^ i := (or_pow hV).symm
      rw [this, Nat.testBit_or, tb_pow]
    cases q2 : I.testBit i with
    | false =>
      refine Nat.le_trans (b I (fun j hj => ?_) hind) (Nat.le_max_left _ _)
      have := hI j hj
      rw [hbit] at this
      rcases Bool.or_eq_true_iff.mp this with h | h
      · exact h
      · rw [of_decide_eq_true h, q2] at hj; cases hj
    | true =>
      refine Nat.le_trans ?_ (Nat.le_max_right _ _)
      rw [pc_take hi q2, Nat.add_comm]
      refine Nat.add_le_add_left (b2 _ (fun j hj => ?_) fun s t hs ht => ?_) 1
      · rw [ndf_testBit, tb_pow] at hj
        simp only [Bool.and_eq_true, Bool.not_eq_true', decide_eq_false_iff_not] at hj
        have h3 := hI j hj.1
        rw [hbit] at h3
        rw [ndf_testBit, hind i j q2 hj.1]
        rcases Bool.or_eq_true_iff.mp h3 with h | h
        · rw [h]; rfl
        · exact absurd (of_decide_eq_true h) hj.2
      · rw [ndf_testBit] at hs ht
        exact hind s t (Bool.and_eq_true_iff.mp hs).1 (Bool.and_eq_true_iff.mp ht).1
theorem shr_in {i f : Nat} (hi : i < 12) (hf8 : f < 2 ^ 12) (K : Sg → Option (Unit × Sg)) {T : Nat → Nat} (hT : ∀ U, U < 2 ^ i → T U ≤ 12) : ∀ k a fuel (σ : Sg), a + k = 2 ^ i → k < fuel → (∀ U, U < 2 ^ i → σ 39 U = nI (T U)) →
    fX4_measureSharing_35 (nI i) (nI f ^^^ (-1 : Int32)) K fuel (nI a) σ = K (sst σ 39 (fun U => if a + 2 ^ i ≤ U ∧ U < 2 ^ i + 2 ^ i then nI (max (T (U - 2 ^ i)) (1 + T (ndf (U - 2 ^ i) f))) else σ 39 U)) := by
  have h4096 : 2 ^ i ≤ 2 ^ 11 := Nat.pow_le_pow_right (by decide) (by omega)
  have hnum : 2 ^ 11 = 2048 := by decide
  intro k
  induction k with
  | zero =>
    intro a fuel σ ha hf h1
    obtain ⟨f', rfl, -⟩ := fuel_succ hf
    rw [fX4_measureSharing_35, zI_one_shl (by omega), if_le (by omega) (by omega), if_pos (by omega)]
    have : (fun U => if a + 2 ^ i ≤ U ∧ U < 2 ^ i + 2 ^ i then nI (max (T (U - 2 ^ i)) (1 + T (ndf (U - 2 ^ i) f))) else σ 39 U) = σ 39 := by
      funext U
      rw [if_neg (by omega)]
    rw [this, sst_id]
  | succ k ih =>
    intro a fuel σ ha hf h1
    obtain ⟨f', rfl, hf⟩ := fuel_succ hf
    have haw : a < 2 ^ i := by omega
    have ha31 : a < 2 ^ 31 := by omega
    have hdf : ndf a f < 2 ^ i := ndf_lt haw
    have hor : a ||| 2 ^ i = a + 2 ^ i := or_pow haw
    rw [fX4_measureSharing_35, zI_one_shl (by omega), if_le (by omega) ha31, if_neg (by omega), zI_ndf, zI_or, hor, gd_of (inb_ok (by omega) ha31), gd_of (inb_ok (by omega) (by omega)), gd_of (inb_ok (by omega) (by omega)), lt'_eq,
      zI_clamp ha31, zI_clamp (by omega), zI_clamp (by omega), h1 a haw, h1 _ hdf, z1_add, zs_add]
    have hta := hT a haw
    have htb := hT _ hdf
    have e : (if nI (T a) < nI (1 + T (ndf a f)) then nI (1 + T (ndf a f)) else nI (T a)) = nI (max (T a) (1 + T (ndf a f))) := by
      rw [if_lt (by omega) (by omega)]
      split
      · rw [Nat.max_eq_right (by omega)]
      · rw [Nat.max_eq_left (by omega)]
    rw [e, ih (a + 1) f' _ (by omega) (by omega) fun U hU => by
      rw [sup_self, upd_app, if_neg (by omega)]; exact h1 U hU]
    congr 1
    rw [sst_sup]
    congr 1
    funext U
    rw [sup_self, upd_app]
    by_cases q : U = a + 2 ^ i
    · subst q
      rw [if_neg (show ¬(a + 1 + 2 ^ i ≤ a + 2 ^ i ∧ a + 2 ^ i < 2 ^ i + 2 ^ i) by omega), if_pos rfl, if_pos (show a + 2 ^ i ≤ a + 2 ^ i ∧ a + 2 ^ i < 2 ^ i + 2 ^ i by omega), Nat.add_sub_cancel]
    · rw [if_neg q]
      by_cases q2 : a + 2 ^ i ≤ U ∧ U < 2 ^ i + 2 ^ i
      · rw [if_pos q2, if_pos (by omega)]
      · rw [if_neg q2, if_neg (by omega)]
theorem shr_loop {n : Nat} {sm nx : Nat → Nat} (hg : Gr n sm nx) : ∀ k i fuel (σ : Sg) (T : Nat → Nat), i + k = n → k < fuel → σ 3 6 = nI n → (∀ s, s < 12 → σ 15 s = nI (sm s)) → (∀ U, U < 2 ^ i → σ 39 U = nI (T U)) → ShOK sm i T →
    ∃ (r : Nat → Int32) (T' : Nat → Nat), fX4_measureSharing_10 fuel (nI i) σ = some ((), sst σ 39 r) ∧ ShOK sm n T' ∧ (∀ U, U < 2 ^ n → r U = nI (T' U)) ∧ r 0 = σ 39 0 := by
  have hn := hg.1
  intro k
  induction k with
  | zero =>
    intro i fuel σ T hi hf h6 h15 hT hS
    obtain ⟨f', rfl, -⟩ := fuel_succ hf
    have : i = n := by omega
    subst this
    refine ⟨σ 39, T, ?_, hS, hT, rfl⟩
    rw [fX4_measureSharing_10, h6, if_le (by omega) (by omega), if_pos (by omega), sst_id]
  | succ k ih =>
    intro i fuel σ T hi hf h6 h15 hT hS
    obtain ⟨f', rfl, hf⟩ := fuel_succ hf
    have hT12 : ∀ U, U < 2 ^ i → T U ≤ 12 := fun U hU => Nat.le_trans (hS U hU).1 (by omega)
    have hpw : 2 ^ i ≤ 2 ^ 11 := Nat.pow_le_pow_right (by decide) (by omega)
    have hnum : 2 ^ 11 = 2048 := by decide
    have hpos : 0 < 2 ^ i := Nat.two_pow_pos i
    rw [fX4_measureSharing_10, h6, if_le (by omega) (by omega), if_neg (by omega), gd_of (inb_ok (by omega) (by omega)), lt'_eq, zI_clamp (by omega), h15 i (by omega), show nI i + 1 = nI (i + 1) from zI_add i 1, show (0 : Int32) = nI 0 from rfl,
      shr_in (by omega) (hg.lt12 (hg.2.1 i)) _ hT12 (2 ^ i) 0 FU σ (by omega) (by unfold FU; omega) hT]
    have hrow : ∀ U, U < 2 ^ (i + 1) → (if 0 + 2 ^ i ≤ U ∧ U < 2 ^ i + 2 ^ i then nI (max (T (U - 2 ^ i)) (1 + T (ndf (U - 2 ^ i) (sm i)))) else σ 39 U) = nI ((fun U => if U < 2 ^ i then T U else max (T (U - 2 ^ i)) (1 + T (ndf (U - 2 ^ i) (sm i)))) U) := by
      intro U hU
      rw [Nat.pow_succ] at hU
      by_cases q : U < 2 ^ i
      · rw [if_neg (by omega), hT U q]
        dsimp only
        rw [if_pos q]
      · rw [if_pos (by omega)]
        dsimp only
        rw [if_neg q]
    obtain ⟨r, T', e1, e2, e3, e4⟩ := ih (i + 1) f' (sst σ 39 (fun U => if 0 + 2 ^ i ≤ U ∧ U < 2 ^ i + 2 ^ i then nI (max (T (U - 2 ^ i)) (1 + T (ndf (U - 2 ^ i) (sm i)))) else σ 39 U)) (fun U => if U < 2 ^ i then T U else max (T (U - 2 ^ i)) (1 + T (ndf (U - 2 ^ i) (sm i)))) (by omega) (by omega) (by rw [sst_ne (by decide)]; exact h6) (fun s hs => by rw [sst_ne (by decide)]; exact h15 s hs)
      (fun U hU => by rw [sst_self]; exact hrow U hU)
      (sh_step (by omega) hg.2.2.2.1 hg.2.2.2.2.2.1 hS (fun U hU => if_pos hU) fun U hU => by
        rw [if_neg (by omega), Nat.add_sub_cancel])
    refine ⟨r, T', ?_, e2, e3, ?_⟩
    · rw [e1, sst_sst]
    · rw [e4, sst_self, if_neg (by omega)]
theorem shr_eq {n : Nat} {sm nx : Nat → Nat} (hg : Gr n sm nx) {σ : Sg} (h6 : σ 3 6 = nI n) (h15 : ∀ s, s < 12 → σ 15 s = nI (sm s)) (h0 : σ 39 0 = nI 0) :
    ∃ (r : Nat → Int32) (T' : Nat → Nat), fX4_measureSharing σ = some ((), sst (sup σ 2 6 (σ 2 8)) 39 r) ∧ ShOK sm n T' ∧ (∀ U, U < 2 ^ n → r U = nI (T' U)) ∧ r 0 = nI 0 := by
  have hn := hg.1
  obtain ⟨r, T', e1, e2, e3, e4⟩ := shr_loop hg n 0 FU (sup σ 2 6 (σ 2 8)) (fun _ => 0) (by omega) (by unfold FU; omega) (by rw [sup_ne (by decide)]; exact h6) (fun s hs => by rw [sup_ne (by decide)]; exact h15 s hs) (fun U hU => by
    rw [sup_ne (by decide), show U = 0 by omega]; exact h0) (sh_zero rfl)
  refine ⟨r, T', ?_, e2, e3, ?_⟩
  · rw [fX4_measureSharing, lt'_eq]; exact e1
  · rw [e4, sup_ne (by decide)]; exact h0
theorem easy_loop {n : Nat} {sm nx : Nat → Nat} (hg : Gr n sm nx) {d : Nat} (hd : d < 12) {left : Nat → Nat} (hl : ∀ s, s < n → left s < 2 ^ 8) {σ : Sg} (h6 : σ 3 6 = nI n) (h1 : ∀ s, s < 12 → σ 15 s = nI (sm s) ∧ σ 16 s = nI (nx s)) (h2 : ∀ s, s < n → σ (41 + d) s = nI (left s)) : ∀ k i fuel x, i + k = n → k < fuel → x < 2 ^ n →
    ∃ y, fX4_withoutEasy_5 (nI d) fuel (nI x) (nI i) σ = some (nI y, σ) ∧ (∀ s, y.testBit s = true → x.testBit s = true) ∧ (0 < num sm nx (els x) left ↔ 0 < num sm nx (els y) left) := by
  have hn := hg.1
  intro k
  induction k with
  | zero =>
    intro i fuel x hi hf hx
    obtain ⟨f', rfl, -⟩ := fuel_succ hf
    refine ⟨x, ?_, fun _ h => h, Iff.rfl⟩
    rw [fX4_withoutEasy_5, h6, if_le (by omega) (by omega), if_pos (by omega)]
  | succ k ih =>
    intro i fuel x hi hf hx
    obtain ⟨f', rfl, hf⟩ := fuel_succ hf
    rw [fX4_withoutEasy_5, h6, if_le (by omega) (by omega), if_neg (by omega)]
    simp only [jp_eq, lt'_eq]
    rw [if_c (hg.lt31 hx) (by omega), show nI i + 1 = nI (i + 1) from zI_add i 1]
    cases hb : x.testBit i with
    | false =>
      rw [if_neg (by decide)]
      exact ih (i + 1) f' x (by omega) (by omega) hx
    | true =>
      have p1 := pc_le12 (sm i &&& x)
      have p2 := pc_le12 (nx i &&& x)
      have p3 := pc_le12 (left i)
      rw [if_pos rfl, gd_of (inb_ok (by omega) (by omega)), gd_of (inb_ok (by omega) (by omega)), gd_of (inb_ok hd (by omega)), gd_of (inb_ok (by omega) (by omega)), zI_clamp (show i < 2 ^ 31 by omega), zI_clamp (by omega), (h1 i (by omega)).1, (h1 i (by omega)).2, h2 i (by omega),
        zI_and, zI_and, bitCount_nI (and_lt (hg.lt12 (hg.2.1 i))), bitCount_nI (and_lt (hg.lt12 (hg.2.2.1 i))), bitCount_nI (lt8_12 (hl i (by omega))), show (2 : Int32) = nI 2 from rfl, zI_mul, zI_add, if_le (by omega) (by omega)]
      by_cases q : pc (left i) ≤ pc (sm i &&& x) + 2 * pc (nx i &&& x)
      · rw [if_pos q]
        exact ih (i + 1) f' x (by omega) (by omega) hx
      · rw [if_neg q, zI_one_shl (by omega), zI_ndf]
        obtain ⟨y, e1, e2, e3⟩ := ih (i + 1) f' (ndf x (2 ^ i)) (by omega) (by omega) (ndf_lt hx)
        refine ⟨y, e1, fun s hs => ?_, ?_⟩
        · have := e2 s hs
          rw [ndf_testBit] at this
          exact (Bool.and_eq_true_iff.mp this).1
        · rw [← e3]
          exact num_easy hg.2.2.2.1 hg.2.2.2.2.1 (by omega) hb (hl i (by omega)) (by omega)
theorem easy_eq {n : Nat} {sm nx : Nat → Nat} (hg : Gr n sm nx) {d x : Nat} (hd : d < 12) (hx : x < 2 ^ n) {left : Nat → Nat} (hl : ∀ s, s < n → left s < 2 ^ 8) {σ : Sg} (h6 : σ 3 6 = nI n) (h1 : ∀ s, s < 12 → σ 15 s = nI (sm s) ∧ σ 16 s = nI (nx s)) (h2 : ∀ s, s < n → σ (41 + d) s = nI (left s)) :
    ∃ y, fX4_withoutEasy (nI d) (nI x) σ = some (nI y, σ) ∧ (∀ s, y.testBit s = true → x.testBit s = true) ∧ (0 < num sm nx (els x) left ↔ 0 < num sm nx (els y) left) :=
  easy_loop hg hd hl h6 h1 h2 n 0 FU x (by omega) (by unfold FU; have := hg.1; omega) hx
