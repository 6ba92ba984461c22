/-! Layer 2, 5: what a market is, and where each side keeps it -/
def Mk : Type := Nat × Nat × Nat × (Nat → Nat) × (Nat → Nat) × (Nat → Nat) × (Nat → Nat) × (Nat → Nat) × (Nat → Int32)
def Mk.n (M : Mk) : Nat := M.1
def Mk.av (M : Mk) : Nat := M.2.1
def Mk.tk (M : Mk) : Nat := M.2.2.1
def Mk.ch (M : Mk) : Nat → Nat := M.2.2.2.1
def Mk.vl (M : Mk) : Nat → Nat := M.2.2.2.2.1
def Mk.wt (M : Mk) : Nat → Nat := M.2.2.2.2.2.1
def Mk.sm (M : Mk) : Nat → Nat := M.2.2.2.2.2.2.1
def Mk.nx (M : Mk) : Nat → Nat := M.2.2.2.2.2.2.2.1
def Mk.kp (M : Mk) : Nat → Int32 := M.2.2.2.2.2.2.2.2
/-- the conflicts of n stations -/
def Gr (n : Nat) (sm nx : Nat → Nat) : Prop :=
  n ≤ 12 ∧ (∀ s, sm s < 2 ^ n) ∧ (∀ s, nx s < 2 ^ n) ∧ (∀ s t, (sm s).testBit t = (sm t).testBit s) ∧ (∀ s t, (nx s).testBit t = (nx t).testBit s) ∧ (∀ s, (sm s).testBit s = false) ∧ ∀ s, (nx s).testBit s = false
def Mk.WF (M : Mk) : Prop := Gr M.n M.sm M.nx ∧ M.av < 2 ^ 8 ∧ M.tk < 2 ^ M.n ∧
  (∀ s, s < M.n → M.ch s < 2 ^ 8 ∧ M.vl s ≤ 9999 ∧ 1 ≤ M.wt s ∧ M.wt s ≤ 99 ∧ (M.kp s = -1 ∨ ∃ c, c < 8 ∧ M.kp s = nI c))
/-- the class's market in the field cell f and the rows from r on -/
def ClsM (f r : Nat) (σ : Sg) (M : Mk) : Prop :=
  σ f 6 = nI M.n ∧ σ f 7 = nI M.tk ∧ σ f 8 = nI M.av ∧
  (∀ s, s < M.n → σ r s = nI (M.ch s) ∧ σ (r + 1) s = nI (M.vl s) ∧ σ (r + 2) s = nI (M.wt s) ∧ σ (r + 3) s = M.kp s) ∧
  ∀ s, s < 12 → σ (r + 4) s = nI (M.sm s) ∧ σ (r + 5) s = nI (M.nx s)
/-- the reference's market in a row -/
def RefM (g : Nat → Int32) (M : Mk) : Prop :=
  g 0 = nI M.n ∧ g 1 = nI M.av ∧
  ∀ s, s < M.n → g (4 + s) = nI (M.ch s) ∧ g (16 + s) = nI (M.vl s) ∧ g (28 + s) = nI (M.wt s) ∧ g (40 + s) = (if M.tk.testBit s then 1 else 0) ∧ g (52 + s) = M.kp s ∧ g (64 + s) = nI (M.sm s) ∧ g (76 + s) = nI (M.nx s)
theorem Gr.lt12 {n : Nat} {sm nx : Nat → Nat} (h : Gr n sm nx) {x : Nat} (hx : x < 2 ^ n) : x < 2 ^ 12 := Nat.lt_of_lt_of_le hx (Nat.pow_le_pow_right (by decide) h.1)
theorem Gr.lt31 {n : Nat} {sm nx : Nat → Nat} (h : Gr n sm nx) {x : Nat} (hx : x < 2 ^ n) : x < 2 ^ 31 := Nat.lt_trans (h.lt12 hx) (by decide)
theorem lt8_31 {x : Nat} (h : x < 2 ^ 8) : x < 2 ^ 31 := Nat.lt_trans h (by decide)
theorem lt8_12 {x : Nat} (h : x < 2 ^ 8) : x < 2 ^ 12 := Nat.lt_trans h (by decide)
theorem lt12_31 {x : Nat} (h : x < 2 ^ 12) : x < 2 ^ 31 := Nat.lt_trans h (by decide)
theorem and_lt {x y k : Nat} (h : x < 2 ^ k) : x &&& y < 2 ^ k := Nat.lt_of_le_of_lt Nat.and_le_left h
theorem ndf_lt {x y k : Nat} (h : x < 2 ^ k) : ndf x y < 2 ^ k := Nat.lt_of_le_of_lt (ndf_le x y) h
theorem or_lt {x y k : Nat} (h : x < 2 ^ k) (h2 : y < 2 ^ k) : x ||| y < 2 ^ k := Nat.or_lt_two_pow h h2
theorem pow_lt31 {k : Nat} (h : k < 31) : 2 ^ k < 2 ^ 31 := Nat.pow_lt_pow_right (by decide) h
theorem i12 {i n : Nat} (h : i < n) (hn : n ≤ 12) : i < 2 ^ 31 := Nat.lt_trans (Nat.lt_of_lt_of_le h hn) (by decide)
theorem fuel_succ {k fuel : Nat} (h : k < fuel) : ∃ f, fuel = f + 1 ∧ k ≤ f := by
  cases fuel with
  | zero => exact absurd h (Nat.not_lt_zero k)
  | succ f => exact ⟨f, rfl, Nat.le_of_lt_succ h⟩
/-! allow -/
theorem allow_loop {n : Nat} (hn : n ≤ 12) (a : Int32) : ∀ k i fuel (σ : Sg), i + k = n → k < fuel → σ 3 6 = nI n →
    fX4_allow_2 a fuel (nI i) σ = some ((), sst σ 35 (fun j => if i ≤ j ∧ j < n then σ 11 j &&& a else σ 35 j)) := by
  intro k
  induction k with
  | zero =>
    intro i fuel σ hi hf h6
    obtain ⟨f, rfl, -⟩ := fuel_succ hf
    rw [fX4_allow_2, h6, if_pos ((zI_le (by omega) (by omega)).mpr (by omega))]
    have : (fun j => if i ≤ j ∧ j < n then σ 11 j &&& a else σ 35 j) = σ 35 := by
      funext j
      rw [if_neg (by omega)]
    rw [this, sst_id]
  | succ k ih =>
    intro i fuel σ hi hf h6
    obtain ⟨f, rfl, hf⟩ := fuel_succ hf
    have hi12 : i < 12 := by omega
    have hi31 : i < 2 ^ 31 := by omega
    rw [fX4_allow_2, h6, if_neg (fun h => absurd ((zI_le (by omega) hi31).mp h) (by omega)), gd_of (inb_ok hi12 hi31), gd_of (inb_ok hi12 hi31), lt'_eq, zI_clamp hi31,
      show (1 : Int32) = nI 1 from rfl, zI_add, ih (i + 1) f _ (by omega) (by omega) (by rw [sup_ne (by decide)]; exact h6)]
    congr 2
    rw [sst_sup]
    congr 1
    funext j
    rw [sup_ne (by decide), sup_self, upd_app]
    by_cases q : j = i
    · subst q
      rw [if_neg (by omega), if_pos rfl, if_pos (by omega)]
    · rw [if_neg q]
      by_cases q2 : i ≤ j ∧ j < n
      · rw [if_pos q2, if_pos (by omega)]
      · rw [if_neg q2, if_neg (by omega)]
theorem allow_eq {n : Nat} (hn : n ≤ 12) (a : Int32) {σ : Sg} (h6 : σ 3 6 = nI n) : fX4_allow a σ = some ((), sst σ 35 (fun j => if j < n then σ 11 j &&& a else σ 35 j)) := by
  rw [fX4_allow, show (0 : Int32) = nI 0 from rfl, allow_loop hn a n 0 FU σ (by omega) (by unfold FU; omega) h6]
  simp
/-! the functions that read alone -/
theorem tight_loop {n : Nat} (hn : n ≤ 12) {d S : Nat} (hd : d < 12) (hS : S < 2 ^ n) (hS0 : S ≠ 0) {σ : Sg} (h6 : σ 3 6 = nI n) (hl : ∀ s, s < n → ∃ x, x < 2 ^ 8 ∧ σ (41 + d) s = nI x) (hm : ∀ s, s < n → ∃ a b, σ 15 s = nI a ∧ σ 16 s = nI b) :
    ∀ k i fuel (x1 x2 x3 : Int32), i + k = n → k < fuel → ((∃ s, s < n ∧ S.testBit s = true ∧ x1 = nI s) ∨ ((∀ j, j < i → S.testBit j = false) ∧ x2 = nI 9 ∧ x3 = nI 1)) →
    ∃ s, s < n ∧ S.testBit s = true ∧ fX4_tightest_12 (nI d) (nI S) fuel x1 x2 x3 (nI i) σ = some (nI s, σ) := by
  have hS12 : S < 2 ^ 12 := Nat.lt_of_lt_of_le hS (Nat.pow_le_pow_right (by decide) hn)
  have hS31 : S < 2 ^ 31 := Nat.lt_of_lt_of_le hS (Nat.pow_le_pow_right (by decide) (by omega))
  intro k
  induction k with
  | zero =>
    intro i fuel x1 x2 x3 hi hf hI
    obtain ⟨f, rfl, -⟩ := fuel_succ hf
    rcases hI with ⟨s, h1, h2, h3⟩ | ⟨h1, -⟩
    · refine ⟨s, h1, h2, ?_⟩
      rw [fX4_tightest_12, h6, if_pos ((zI_le (by omega) (by omega)).mpr (by omega)), h3]
    · refine absurd (Nat.eq_of_testBit_eq fun j => ?_) hS0
      rw [tb_zero]
      rcases Nat.lt_or_ge j i with q | q
      · exact h1 j q
      · exact tb_not hS (by omega)
  | succ k ih =>
    intro i fuel x1 x2 x3 hi hf hI
    obtain ⟨f, rfl, hf⟩ := fuel_succ hf
    have hi12 : i < 12 := by omega
    have hi31 : i < 2 ^ 31 := by omega
    rw [fX4_tightest_12, h6, if_neg (fun h => absurd ((zI_le (by omega) hi31).mp h) (by omega))]
    simp only [jp_eq, lt'_eq]
    rw [if_c hS31 (by omega), show nI i + 1 = nI (i + 1) from zI_add i 1]
    cases hb : S.testBit i with
    | false =>
      rw [if_neg (by decide)]
      refine ih (i + 1) f x1 x2 x3 (by omega) (by omega) ?_
      rcases hI with h | ⟨h1, h2⟩
      · exact Or.inl h
      · refine Or.inr ⟨fun j hj => ?_, h2⟩
        rcases Nat.lt_or_ge j i with q | q
        · exact h1 j q
        · rw [show j = i by omega]; exact hb
    | true =>
      rw [if_pos rfl, gd_of (inb_ok hd (by omega)), gd_of (inb_ok hi12 hi31), gd_of (inb_ok hi12 hi31), gd_of (inb_ok hi12 hi31), zI_clamp (show d < 2 ^ 31 by omega), zI_clamp hi31]
      obtain ⟨x, hx, hxe⟩ := hl i (by omega)
      obtain ⟨a, b, ea, eb⟩ := hm i (by omega)
      -- what the neighbours take from a station, and one
      have hN : (1 : Int32) + pJ6_bitCount_0f7a4 (nI a &&& nI S) + (2 : Int32) * pJ6_bitCount_0f7a4 (nI b &&& nI S) = nI (1 + pc (a &&& S) + 2 * pc (b &&& S)) := by
        rw [zI_and, zI_and, bitCount_nI (Nat.and_lt_two_pow a hS12), bitCount_nI (Nat.and_lt_two_pow b hS12), show (1 : Int32) = nI 1 from rfl, show (2 : Int32) = nI 2 from rfl, zI_mul, zI_add, zI_add]
      rw [hxe, ea, eb, hN, bitCount_nI (lt8_12 hx)]
      have hp1 := pc_le12 (a &&& S)
      have hp2 := pc_le12 (b &&& S)
      have hp8 : pc x ≤ 8 := by
        rw [pc_big hx (by decide)]
        exact List.countP_le_length
      split
      · next hno =>
        rcases hI with h | ⟨-, h2, h3⟩
        · exact ih (i + 1) f x1 x2 x3 (by omega) (by omega) (Or.inl h)
        · rw [h2, h3, zI_mul, zI_mul] at hno
          have := (zI_le (by omega) (by omega)).mp hno
          omega
      · exact ih (i + 1) f (nI i) _ _ (by omega) (by omega) (Or.inl ⟨i, by omega, hb, rfl⟩)
theorem tight_eq {n : Nat} (hn : n ≤ 12) {d S : Nat} (hd : d < 12) (hS : S < 2 ^ n) (hS0 : S ≠ 0) {σ : Sg} (h6 : σ 3 6 = nI n) (hl : ∀ s, s < n → ∃ x, x < 2 ^ 8 ∧ σ (41 + d) s = nI x) (hm : ∀ s, s < n → ∃ a b, σ 15 s = nI a ∧ σ 16 s = nI b) :
    ∃ s, s < n ∧ S.testBit s = true ∧ fX4_tightest (nI d) (nI S) σ = some (nI s, σ) :=
  tight_loop hn hd hS hS0 h6 hl hm n 0 FU 0 9 1 (by omega) (by unfold FU; omega) (Or.inr ⟨fun j hj => absurd hj (Nat.not_lt_zero j), rfl, rfl⟩)
