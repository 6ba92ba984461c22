/-! Layer 2, 35: what an auction is -/
def Au : Type := Nat × (Nat → Nat) × Nat × (Nat → Nat) × (Nat → Nat) × (Nat → Nat) × (Nat → Nat) × (Nat → Int32)
def Au.now (A : Au) : Nat := A.1
def Au.bs (A : Au) : Nat → Nat := A.2.1
def Au.m (A : Au) : Nat := A.2.2.1
def Au.rd (A : Au) : Nat → Nat := A.2.2.2.1
def Au.st (A : Au) : Nat → Nat := A.2.2.2.2.1
def Au.wd (A : Au) : Nat → Nat := A.2.2.2.2.2.1
def Au.c (A : Au) : Nat → Nat := A.2.2.2.2.2.2.1
def Au.cur (A : Au) : Nat → Int32 := A.2.2.2.2.2.2.2
/-- those that bid, are on the air, are frozen after k events -/
def bidk (M : Mk) (A : Au) : Nat → Nat
  | 0 => M.tk
  | k + 1 => ndf (bidk M A k) (2 ^ A.st k)
def airk (M : Mk) (A : Au) : Nat → Nat
  | 0 => M.out
  | k + 1 => if A.wd k = 0 then airk M A k ||| 2 ^ A.st k else airk M A k
def frzk (A : Au) : Nat → Nat
  | 0 => 0
  | k + 1 => if A.wd k = 0 then frzk A k else frzk A k ||| 2 ^ A.st k
def EvOK (M : Mk) (A : Au) (m : Nat) : Prop := ∀ k, k < m → (bidk M A k).testBit (A.st k) = true ∧ A.rd k ≤ A.now ∧ A.wd k ≤ 2 ∧ (A.wd k = 1 → bad M (A.st k) (airk M A k) = true)
def CtOK (A : Au) (r : Nat) : Prop := A.c r ≤ A.m ∧ (∀ k, k < A.c r → A.rd k ≤ r) ∧ ∀ k, A.c r ≤ k → k < A.m → r < A.rd k
def AucOK (M : Mk) (A : Au) : Prop := A.now ≤ 100 ∧ (∀ r, r < A.now → 1 ≤ A.bs r ∧ A.bs r + 10 * r ≤ 1000) ∧ (A.bs A.now = 0 ∨ A.bs A.now + 10 * A.now ≤ 1000) ∧ A.bs A.now ≤ 1000 ∧
  EvOK M A A.m ∧ (∀ r, r ≤ A.now → CtOK A r) ∧ A.c A.now = A.m ∧ ∀ s, M.tk.testBit s = true → ∃ k, k < 2 ^ 18 ∧ A.cur s = nI k
theorem AucOK.bs_le {M : Mk} {A : Au} (h : AucOK M A) {r : Nat} (hr : r ≤ A.now) : A.bs r ≤ 1000 := by
  rcases Nat.eq_or_lt_of_le hr with e | e
  · rw [e]; exact h.2.2.2.1
  · have := (h.2.1 r e).2
    omega
theorem bidk_sub {M : Mk} {A : Au} : ∀ k j, j ≤ k → sbs (bidk M A k) (bidk M A j) := by
  intro k
  induction k with
  | zero => intro j hj; rw [show j = 0 by omega]; exact fun _ z => z
  | succ k ih =>
    intro j hj
    rcases Nat.eq_or_lt_of_le hj with e | e
    · rw [e]; exact fun _ z => z
    · intro i hi
      rw [bidk, ndf_testBit, Bool.and_eq_true] at hi
      exact ih j (by omega) i hi.1
theorem bidk_tk {M : Mk} {A : Au} (k : Nat) : sbs (bidk M A k) M.tk := bidk_sub k 0 (Nat.zero_le k)
theorem bidk_lt {M : Mk} (hM : M.WF) {A : Au} (k : Nat) : bidk M A k < 2 ^ M.n := sbs_lt (bidk_tk k) hM.2.2.1
/-- everyone is in one of the three states -/
theorem part_k {M : Mk} (hM : M.WF) {A : Au} {m : Nat} (h : EvOK M A m) : ∀ k, k ≤ m → ∀ t, (t < M.n → ((bidk M A k).testBit t = true ∧ (airk M A k).testBit t = false ∧ (frzk A k).testBit t = false) ∨ ((bidk M A k).testBit t = false ∧ (airk M A k).testBit t = true ∧ (frzk A k).testBit t = false) ∨ ((bidk M A k).testBit t = false ∧ (airk M A k).testBit t = false ∧ (frzk A k).testBit t = true)) ∧ (M.n ≤ t → (bidk M A k).testBit t = false ∧ (airk M A k).testBit t = false ∧ (frzk A k).testBit t = false) := by
  intro k
  induction k with
  | zero =>
    intro _ t
    rw [bidk, airk, frzk, tb_zero, out_tb]
    refine ⟨fun ht => ?_, fun ht => ?_⟩
    · rw [decide_eq_true ht]
      cases M.tk.testBit t <;> simp
    · rw [tb_not hM.2.2.1 ht, decide_eq_false (by omega)]
      simp
  | succ k ih =>
    intro hk t
    have h0 := ih (by omega)
    obtain ⟨g1, -, -, -⟩ := h k (by omega)
    have hsn := tb_lt (bidk_lt hM k) g1
    by_cases e : t = A.st k
    · have hs : ((bidk M A k).testBit t = true ∧ (airk M A k).testBit t = false ∧ (frzk A k).testBit t = false) := by
        rcases (h0 t).1 (by omega) with z | z | z
        · exact z
        · rw [e, g1] at z
          exact absurd z.1 (by decide)
        · rw [e, g1] at z
          exact absurd z.1 (by decide)
      refine ⟨fun _ => Or.inr ?_, fun ht => by omega⟩
      rw [bidk, airk, frzk, ndf_testBit, hs.1, tb_pow, decide_eq_true e]
      by_cases w : A.wd k = 0
      · rw [if_pos w, if_pos w, Nat.testBit_or, tb_pow, decide_eq_true e, hs.2.1, hs.2.2]
        simp
      · rw [if_neg w, if_neg w, Nat.testBit_or, tb_pow, decide_eq_true e, hs.2.1, hs.2.2]
        simp
    · have e1 : (bidk M A (k + 1)).testBit t = (bidk M A k).testBit t := by
        rw [bidk, ndf_testBit, tb_pow, decide_eq_false e, Bool.not_false, Bool.and_true]
      have e2 : (airk M A (k + 1)).testBit t = (airk M A k).testBit t := by
        rw [airk]
        split
        · rw [Nat.testBit_or, tb_pow, decide_eq_false e, Bool.or_false]
        · rfl
      have e3 : (frzk A (k + 1)).testBit t = (frzk A k).testBit t := by
        rw [frzk]
        split
        · rfl
        · rw [Nat.testBit_or, tb_pow, decide_eq_false e, Bool.or_false]
      rw [e1, e2, e3]
      exact h0 t
theorem airk_lt {M : Mk} (hM : M.WF) {A : Au} {m k : Nat} (h : EvOK M A m) (hk : k ≤ m) : airk M A k < 2 ^ M.n := lt_of_tb fun t ht => by
  rcases Nat.lt_or_ge t M.n with z | z
  · exact z
  · rw [((part_k hM h k hk t).2 z).2.1] at ht
    exact absurd ht (by decide)
theorem frzk_lt {M : Mk} (hM : M.WF) {A : Au} {m k : Nat} (h : EvOK M A m) (hk : k ≤ m) : frzk A k < 2 ^ M.n := lt_of_tb fun t ht => by
  rcases Nat.lt_or_ge t M.n with z | z
  · exact z
  · rw [((part_k hM h k hk t).2 z).2.2] at ht
    exact absurd ht (by decide)
theorem bidk_pc {M : Mk} (hM : M.WF) {A : Au} {m : Nat} (h : EvOK M A m) : ∀ k, k ≤ m → pc (bidk M A k) + k = pc M.tk := by
  intro k
  induction k with
  | zero => intro _; rfl
  | succ k ih =>
    intro hk
    have h0 := ih (by omega)
    obtain ⟨g1, -, -, -⟩ := h k (by omega)
    have := pc_take (tb_lt (hM.1.lt12 (bidk_lt hM k)) g1) g1
    rw [bidk]
    omega
theorem pc_pos {x s : Nat} (hs : s < 12) (h : x.testBit s = true) : 1 ≤ pc x := by
  have := pc_take hs h
  omega
/-- there is room for one event more -/
theorem ev_room {M : Mk} (hM : M.WF) {A : Au} (h : EvOK M A A.m) {s : Nat} (hs : (bidk M A A.m).testBit s = true) : A.m < 12 := by
  have h1 := bidk_pc hM h A.m (Nat.le_refl _)
  have h2 := pc_pos (tb_lt (hM.1.lt12 (bidk_lt hM A.m)) hs) hs
  have h3 := pc_le12 M.tk
  omega
theorem ev_le {M : Mk} (hM : M.WF) {A : Au} (h : EvOK M A A.m) : A.m ≤ 12 := by
  have h1 := bidk_pc hM h A.m (Nat.le_refl _)
  have h3 := pc_le12 M.tk
  omega
/-- the state after k events, as a number -/
def stt (M : Mk) (A : Au) (k s : Nat) : Nat := if (bidk M A k).testBit s then 1 else if (frzk A k).testBit s then 2 else 0
def evn (A : Au) (k : Nat) : Nat := 1000 * A.rd k + 10 * A.st k + A.wd k
/-- the class's auction in the field cell f and the rows from r on -/
def AucX (f r : Nat) (σ : Sg) (M : Mk) (A : Au) : Prop :=
  σ f 5 = nI A.now ∧ σ f 6 = nI (airk M A A.m) ∧ σ f 7 = nI (bidk M A A.m) ∧ σ f 8 = nI (frzk A A.m) ∧ σ f 9 = nI A.m ∧
  (∀ k, k ≤ A.now → σ r k = nI (A.bs k)) ∧ (∀ s, M.tk.testBit s = true → σ (r + 1) s = A.cur s) ∧
  (∀ k, k < A.m → (A.wd k = 1 → σ (r + 2) (A.st k) = nI (airk M A k)) ∧ (A.wd k = 2 → σ (r + 2) (A.st k) = -1) ∧ σ (r + 3) k = nI (evn A k))
/-- the reference's auction in a row -/
def AucM (g : Nat → Int32) (M : Mk) (A : Au) : Prop :=
  g 3 = nI A.now ∧ (∀ k, k ≤ A.now → g (112 + k) = nI (A.bs k) ∧ g (214 + k) = nI (A.c k) ∧ ∀ s, s < M.n → g (316 + k * 12 + s) = nI (stt M A (A.c k) s)) ∧
  (∀ k, k < A.now → ∀ s, M.tk.testBit s = true → g (1540 + k * 12 + s) = if (bidk M A (A.c k)).testBit s then pz M s (A.bs k) else A.cur s) ∧
  (∀ s, M.tk.testBit s = true → g (1540 + A.now * 12 + s) = A.cur s) ∧
  (∀ k, k < A.m → (A.wd k = 1 → ∃ x, g (88 + A.st k) = nI x ∧ Rsn M (A.st k) (airk M A k) x ∧ x < 2 ^ 12) ∧ (A.wd k = 2 → g (88 + A.st k) = -1) ∧ g (100 + k) = nI (evn A k))
/-- a round has been played -/
def AEnd (M : Mk) (A : Au) : Prop := (∀ s, (bidk M A A.m).testBit s = true → A.cur s = pz M s (A.bs A.now)) ∧ (A.bs A.now = 0 → bidk M A A.m = 0)
/-! one event more -/
def Au.add (A : Au) (s w : Nat) : Au := (A.now, A.bs, A.m + 1, (fun k => if k = A.m then A.now else A.rd k), (fun k => if k = A.m then s else A.st k), (fun k => if k = A.m then w else A.wd k), (fun r => if r = A.now then A.m + 1 else A.c r), A.cur)
theorem bidk_add {M : Mk} {A : Au} {s w : Nat} : ∀ k, k ≤ A.m → bidk M (A.add s w) k = bidk M A k := by
  intro k
  induction k with
  | zero => intro _; rfl
  | succ k ih =>
    intro hk
    have e : (A.add s w).st k = A.st k := if_neg (by omega)
    rw [bidk, bidk, ih (by omega), e]
theorem airk_add {M : Mk} {A : Au} {s w : Nat} : ∀ k, k ≤ A.m → airk M (A.add s w) k = airk M A k := by
  intro k
  induction k with
  | zero => intro _; rfl
  | succ k ih =>
    intro hk
    have e : (A.add s w).st k = A.st k := if_neg (by omega)
    have e2 : (A.add s w).wd k = A.wd k := if_neg (by omega)
    rw [airk, airk, ih (by omega), e, e2]
theorem frzk_add {A : Au} {s w : Nat} : ∀ k, k ≤ A.m → frzk (A.add s w) k = frzk A k := by
  intro k
  induction k with
  | zero => intro _; rfl
  | succ k ih =>
    intro hk
    have e : (A.add s w).st k = A.st k := if_neg (by omega)
    have e2 : (A.add s w).wd k = A.wd k := if_neg (by omega)
    rw [frzk, frzk, ih (by omega), e, e2]
theorem bid_add1 {M : Mk} {A : Au} {s w : Nat} : bidk M (A.add s w) (A.m + 1) = ndf (bidk M A A.m) (2 ^ s) := by
  rw [bidk, bidk_add A.m (Nat.le_refl _)]
  have e : (A.add s w).st A.m = s := if_pos rfl
  rw [e]
theorem air_add1 {M : Mk} {A : Au} {s w : Nat} : airk M (A.add s w) (A.m + 1) = if w = 0 then airk M A A.m ||| 2 ^ s else airk M A A.m := by
  rw [airk, airk_add A.m (Nat.le_refl _)]
  have e : (A.add s w).st A.m = s := if_pos rfl
  have e2 : (A.add s w).wd A.m = w := if_pos rfl
  rw [e, e2]
theorem frz_add1 {A : Au} {s w : Nat} : frzk (A.add s w) (A.m + 1) = if w = 0 then frzk A A.m else frzk A A.m ||| 2 ^ s := by
  rw [frzk, frzk_add A.m (Nat.le_refl _)]
  have e : (A.add s w).st A.m = s := if_pos rfl
  have e2 : (A.add s w).wd A.m = w := if_pos rfl
  rw [e, e2]
theorem evn_add {A : Au} {s w : Nat} (k : Nat) : evn (A.add s w) k = if k = A.m then 1000 * A.now + 10 * s + w else evn A k := by
  by_cases q : k = A.m
  · have e : (A.add s w).st k = s := if_pos q
    have e2 : (A.add s w).wd k = w := if_pos q
    have e3 : (A.add s w).rd k = A.now := if_pos q
    rw [if_pos q]
    unfold evn
    rw [e, e2, e3]
  · have e : (A.add s w).st k = A.st k := if_neg q
    have e2 : (A.add s w).wd k = A.wd k := if_neg q
    have e3 : (A.add s w).rd k = A.rd k := if_neg q
    rw [if_neg q]
    unfold evn
    rw [e, e2, e3]
theorem AucOK.add {M : Mk} {A : Au} (h : AucOK M A) {s w : Nat} (hs : (bidk M A A.m).testBit s = true) (hw : w ≤ 2) (hb : w = 1 → bad M s (airk M A A.m) = true) : AucOK M (A.add s w) := by
  obtain ⟨h1, h2, h3, h4, h5, h6, h7, h8⟩ := h
  refine ⟨h1, h2, h3, h4, fun k hk => ?_, fun r hr => ?_, if_pos rfl, h8⟩
  · have hk' : k < A.m + 1 := hk
    rcases Nat.eq_or_lt_of_le (Nat.le_of_lt_succ hk') with e | e
    · have e1 : (A.add s w).st k = s := if_pos e
      have e2 : (A.add s w).wd k = w := if_pos e
      have e3 : (A.add s w).rd k = A.now := if_pos e
      rw [e1, e2, e3, bidk_add k (by omega), airk_add k (by omega), e]
      exact ⟨hs, Nat.le_refl _, hw, hb⟩
    · have e1 : (A.add s w).st k = A.st k := if_neg (by omega)
      have e2 : (A.add s w).wd k = A.wd k := if_neg (by omega)
      have e3 : (A.add s w).rd k = A.rd k := if_neg (by omega)
      rw [e1, e2, e3, bidk_add k (by omega), airk_add k (by omega)]
      exact h5 k e
  · have hr' : r ≤ A.now := hr
    obtain ⟨g1, g2, g3⟩ := h6 r hr'
    by_cases q : r = A.now
    · have e1 : (A.add s w).c r = A.m + 1 := if_pos q
      refine ⟨by rw [e1]; exact Nat.le_refl _, fun k hk => ?_, fun k hk hk2 => ?_⟩
      · rw [e1] at hk
        by_cases z : k = A.m
        · have e3 : (A.add s w).rd k = A.now := if_pos z
          rw [e3]; omega
        · have e3 : (A.add s w).rd k = A.rd k := if_neg z
          rw [e3]
          have := (h5 k (by omega)).2.1
          omega
      · have hk2' : k < A.m + 1 := hk2
        rw [e1] at hk
        omega
    · have e1 : (A.add s w).c r = A.c r := if_neg q
      refine ⟨by rw [e1]; exact Nat.le_succ_of_le g1, fun k hk => ?_, fun k hk hk2 => ?_⟩
      · rw [e1] at hk
        have e3 : (A.add s w).rd k = A.rd k := if_neg (by omega)
        rw [e3]
        exact g2 k hk
      · have hk2' : k < A.m + 1 := hk2
        rw [e1] at hk
        by_cases z : k = A.m
        · have e3 : (A.add s w).rd k = A.now := if_pos z
          rw [e3]; omega
        · have e3 : (A.add s w).rd k = A.rd k := if_neg z
          rw [e3]
          exact g3 k hk (by omega)
/-! a new price -/
def Au.prc (A : Au) (s : Nat) (v : Int32) : Au := (A.now, A.bs, A.m, A.rd, A.st, A.wd, A.c, (fun t => if t = s then v else A.cur t))
theorem bidk_prc {M : Mk} {A : Au} {s : Nat} {v : Int32} : ∀ k, bidk M (A.prc s v) k = bidk M A k := by
  intro k
  induction k with
  | zero => rfl
  | succ k ih => rw [bidk, bidk, ih]; rfl
theorem airk_prc {M : Mk} {A : Au} {s : Nat} {v : Int32} : ∀ k, airk M (A.prc s v) k = airk M A k := by
  intro k
  induction k with
  | zero => rfl
  | succ k ih => rw [airk, airk, ih]; rfl
theorem frzk_prc {A : Au} {s : Nat} {v : Int32} : ∀ k, frzk (A.prc s v) k = frzk A k := by
  intro k
  induction k with
  | zero => rfl
  | succ k ih => rw [frzk, frzk, ih]; rfl
theorem AucOK.prc {M : Mk} {A : Au} (h : AucOK M A) {s : Nat} {v : Int32} (hv : ∃ k, k < 2 ^ 18 ∧ v = nI k) : AucOK M (A.prc s v) := by
  obtain ⟨h1, h2, h3, h4, h5, h6, h7, h8⟩ := h
  refine ⟨h1, h2, h3, h4, fun k hk => ?_, h6, h7, fun t ht => ?_⟩
  · rw [bidk_prc, airk_prc]
    exact h5 k hk
  · show ∃ k, k < 2 ^ 18 ∧ (if t = s then v else A.cur t) = nI k
    split
    · exact hv
    · exact h8 t ht
