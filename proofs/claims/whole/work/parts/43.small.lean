/-! Layer 2, 4: small functions of both sides -/
theorem pc_big {x n : Nat} (h : x < 2 ^ n) (hn : n ≤ 12) : pc x = (List.range n).countP x.testBit := by
  unfold pc
  have : List.range 12 = List.range n ++ (List.range (12 - n)).map (n + ·) := by
    rw [← List.range_add]; congr 1; omega
  rw [this, List.countP_append, show ((List.range (12 - n)).map (n + ·)).countP x.testBit = 0 from ?_]
  · rfl
  · rw [List.countP_eq_zero]
    intro i hi
    obtain ⟨j, -, rfl⟩ := List.mem_map.mp hi
    rw [tb_not h (Nat.le_add_right n j)]; decide
theorem allR {p : Nat → Bool} {n : Nat} (h : (List.range n).all p = true) {x : Nat} (hx : x < n) : p x = true := List.all_eq_true.mp h x (List.mem_range.mpr hx)
theorem bitCount_all : (List.range 4096).all (fun x => decide (pJ6_bitCount_0f7a4 (nI x) = nI (pc x))) = true := by decide +kernel
theorem bitCount_nI {x : Nat} (h : x < 2 ^ 12) : pJ6_bitCount_0f7a4 (nI x) = nI (pc x) := of_decide_eq_true (allR bitCount_all h)
theorem contains_nI {a k : Nat} (ha : a < 2 ^ 31) (hk : k < 32) : pX6_contains (nI a) (nI k) = if a.testBit k then 1 else 0 := by
  unfold pX6_contains
  rw [bit_nI ha hk]
  split <;> rfl
theorem contains0 {a k : Nat} (ha : a < 2 ^ 31) (hk : k < 32) : (pX6_contains (nI a) (nI k) = 0) = (a.testBit k = false) := by
  rw [contains_nI ha hk]
  cases a.testBit k <;> simp
theorem has_nI {a k : Nat} (ha : a < 2 ^ 31) (hk : k < 32) : pX7_has (nI a) (nI k) = if a.testBit k then 1 else 0 := by
  unfold pX7_has
  rw [bit_nI ha hk]
  cases a.testBit k <;> rfl
theorem has0 {a k : Nat} (ha : a < 2 ^ 31) (hk : k < 32) : (pX7_has (nI a) (nI k) = 0) = (a.testBit k = false) := by
  rw [has_nI ha hk]
  cases a.testBit k <;> simp
theorem if_c {α : Type} {a k : Nat} (ha : a < 2 ^ 31) (hk : k < 32) (x y : α) : (if pX6_contains (nI a) (nI k) = 0 then x else y) = if a.testBit k = true then y else x := by
  rw [contains_nI ha hk]
  cases a.testBit k <;> simp
theorem if_h {α : Type} {a k : Nat} (ha : a < 2 ^ 31) (hk : k < 32) (x y : α) : (if pX7_has (nI a) (nI k) = 0 then x else y) = if a.testBit k = true then y else x := by
  rw [has_nI ha hk]
  cases a.testBit k <;> simp
theorem if_le {α : Type} {a b : Nat} (ha : a < 2 ^ 31) (hb : b < 2 ^ 31) (x y : α) : (if nI a ≤ nI b then x else y) = if a ≤ b then x else y := by
  by_cases h : a ≤ b
  · rw [if_pos h, if_pos ((zI_le ha hb).mpr h)]
  · rw [if_neg h, if_neg fun q => h ((zI_le ha hb).mp q)]
theorem if_lt {α : Type} {a b : Nat} (ha : a < 2 ^ 31) (hb : b < 2 ^ 31) (x y : α) : (if nI a < nI b then x else y) = if a < b then x else y := by
  by_cases h : a < b
  · rw [if_pos h, if_pos ((zI_lt ha hb).mpr h)]
  · rw [if_neg h, if_neg fun q => h ((zI_lt ha hb).mp q)]
theorem if_eq {α : Type} {a b : Nat} (ha : a < 2 ^ 31) (hb : b < 2 ^ 31) (x y : α) : (if nI a = nI b then x else y) = if a = b then x else y := by
  by_cases h : a = b
  · rw [if_pos h, if_pos ((zI_inj ha hb).mpr h)]
  · rw [if_neg h, if_neg fun q => h ((zI_inj ha hb).mp q)]
theorem if_eq0 {α : Type} {a : Nat} (ha : a < 2 ^ 31) (x y : α) : (if nI a = 0 then x else y) = if a = 0 then x else y := if_eq (b := 0) ha (by decide) x y
theorem if_eq1 {α : Type} {a : Nat} (ha : a < 2 ^ 31) (x y : α) : (if nI a = 1 then x else y) = if a = 1 then x else y := if_eq (b := 1) ha (by decide) x y
