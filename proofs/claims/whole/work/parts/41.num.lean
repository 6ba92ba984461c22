/-! Layer 2, 2: the number of assignments -/
def sumTo (f : Nat → Nat) : Nat → Nat
  | 0 => 0
  | k + 1 => sumTo f k + f k
theorem sumTo_congr {f g : Nat → Nat} {k : Nat} (h : ∀ i, i < k → f i = g i) : sumTo f k = sumTo g k := by
  induction k with
  | zero => rfl
  | succ k ih => rw [sumTo, sumTo, ih fun i hi => h i (Nat.lt_succ_of_lt hi), h k (Nat.lt_succ_self k)]
theorem sumTo_add (f g : Nat → Nat) (k : Nat) : sumTo (fun i => f i + g i) k = sumTo f k + sumTo g k := by
  induction k with
  | zero => rfl
  | succ k ih => simp only [sumTo, ih]; omega
theorem sumTo_zero {f : Nat → Nat} {k : Nat} (h : ∀ i, i < k → f i = 0) : sumTo f k = 0 := by
  induction k with
  | zero => rfl
  | succ k ih => rw [sumTo, ih fun i hi => h i (Nat.lt_succ_of_lt hi), h k (Nat.lt_succ_self k)]
theorem sumTo_comm (f : Nat → Nat → Nat) (k m : Nat) : sumTo (fun i => sumTo (f i) m) k = sumTo (fun j => sumTo (fun i => f i j) k) m := by
  induction k with
  | zero => rw [sumTo]; exact (sumTo_zero fun i _ => rfl).symm
  | succ k ih => simp only [sumTo, sumTo_add, ih]
theorem sumTo_le {f g : Nat → Nat} {k : Nat} (h : ∀ i, i < k → f i ≤ g i) : sumTo f k ≤ sumTo g k := by
  induction k with
  | zero => exact Nat.le_refl _
  | succ k ih => exact Nat.add_le_add (ih fun i hi => h i (Nat.lt_succ_of_lt hi)) (h k (Nat.lt_succ_self k))
theorem sumTo_mono (f : Nat → Nat) {k m : Nat} (h : k ≤ m) : sumTo f k ≤ sumTo f m := by
  induction m with
  | zero => rw [Nat.le_zero.mp h]; exact Nat.le_refl _
  | succ m ih =>
    rcases Nat.lt_or_ge k (m + 1) with q | q
    · exact Nat.le_trans (ih (Nat.le_of_lt_succ q)) (Nat.le_add_right _ _)
    · rw [Nat.le_antisymm h q]; exact Nat.le_refl _
theorem sumTo_pos {f : Nat → Nat} {k : Nat} : 0 < sumTo f k ↔ ∃ i, i < k ∧ 0 < f i := by
  induction k with
  | zero => exact ⟨fun h => absurd h (Nat.lt_irrefl 0), fun ⟨i, h, _⟩ => absurd h (Nat.not_lt_zero i)⟩
  | succ k ih =>
    rw [sumTo]
    constructor
    · intro h
      rcases Nat.eq_zero_or_pos (f k) with q | q
      · rw [q] at h
        obtain ⟨i, h1, h2⟩ := ih.mp h
        exact ⟨i, Nat.lt_succ_of_lt h1, h2⟩
      · exact ⟨k, Nat.lt_succ_self k, q⟩
    · rintro ⟨i, h1, h2⟩
      rcases Nat.lt_or_ge i k with q | q
      · exact Nat.lt_of_lt_of_le (ih.mpr ⟨i, q, h2⟩) (Nat.le_add_right _ _)
      · rw [Nat.le_antisymm (Nat.le_of_lt_succ h1) q] at h2
        exact Nat.lt_of_lt_of_le h2 (Nat.le_add_left _ _)
theorem sumTo_list (f : Nat → Nat) (k : Nat) : sumTo f k = ((List.range k).map f).sum := by
  induction k with
  | zero => rfl
  | succ k ih => rw [sumTo, ih, List.range_succ]; simp
/-- the members of a set of stations, in ascending order -/
def els (x : Nat) : List Nat := (List.range 12).filter x.testBit
def pc (x : Nat) : Nat := (List.range 12).countP x.testBit
theorem pc_els (x : Nat) : (els x).length = pc x := (List.countP_eq_length_filter ..).symm
theorem mem_els {x i : Nat} : i ∈ els x ↔ i < 12 ∧ x.testBit i = true := by simp [els]
theorem els_nodup (x : Nat) : (els x).Nodup := List.Nodup.sublist List.filter_sublist List.nodup_range
theorem mem_els' {x i : Nat} (hx : x < 2 ^ 12) : i ∈ els x ↔ x.testBit i = true := by
  rw [mem_els]
  exact ⟨fun h => h.2, fun h => ⟨tb_lt hx h, h⟩⟩
theorem els_zero : els 0 = [] := by decide
theorem pc_zero : pc 0 = 0 := by decide
theorem els_congr {x y : Nat} (h : ∀ i, i < 12 → x.testBit i = y.testBit i) : els x = els y := List.filter_congr fun i hi => h i (List.mem_range.mp hi)
theorem countP_le_of {l : List Nat} {p q : Nat → Bool} (h : ∀ i, i ∈ l → p i = true → q i = true) : l.countP p ≤ l.countP q := List.countP_mono_left h
theorem pc_le {x y : Nat} (h : ∀ i, i < 12 → x.testBit i = true → y.testBit i = true) : pc x ≤ pc y := countP_le_of fun i hi => h i (List.mem_range.mp hi)
theorem pc_le12 (x : Nat) : pc x ≤ 12 := by
  have := List.countP_le_length (p := x.testBit) (l := List.range 12)
  rwa [List.length_range] at this
/-! the conflicts of two stations with their channels -/
def cfl (sm nx : Nat → Nat) (s c t d : Nat) : Bool := ((sm s).testBit t && decide (c = d)) || ((nx s).testBit t && (decide (c = d + 1) || decide (d = c + 1)))
def giv (sm nx : Nat → Nat) (s c : Nat) (left : Nat → Nat) : Nat → Nat := fun o =>
  ndf (left o) ((if (sm s).testBit o then 2 ^ c else 0) ||| (if (nx s).testBit o then (2 ^ (c + 1) ||| (2 ^ c >>> 1)) else 0))
theorem tb_pow (k i : Nat) : (2 ^ k).testBit i = decide (i = k) := by
  rw [Nat.testBit_two_pow]
  exact decide_eq_decide.mpr ⟨fun h => h.symm, fun h => h.symm⟩
theorem tb_zero (i : Nat) : (0 : Nat).testBit i = false := Nat.zero_testBit i
theorem giv_tb (sm nx : Nat → Nat) (s c : Nat) (left : Nat → Nat) (t d : Nat) : (giv sm nx s c left t).testBit d = ((left t).testBit d && !cfl sm nx s c t d) := by
  unfold giv cfl
  rw [ndf_testBit]
  congr 2
  rw [Nat.testBit_or]
  have e1 : (if (sm s).testBit t = true then 2 ^ c else 0).testBit d = ((sm s).testBit t && decide (c = d)) := by
    cases (sm s).testBit t
    · simp
    · simp only [if_true, Bool.true_and, tb_pow]
      exact decide_eq_decide.mpr ⟨fun h => h.symm, fun h => h.symm⟩
  have e2 : (if (nx s).testBit t = true then (2 ^ (c + 1) ||| (2 ^ c >>> 1)) else 0).testBit d = ((nx s).testBit t && (decide (c = d + 1) || decide (d = c + 1))) := by
    cases (nx s).testBit t
    · simp
    · simp only [if_true, Bool.true_and, Nat.testBit_or, Nat.testBit_shiftRight, tb_pow]
      rw [Bool.or_comm]
      congr 1
      exact decide_eq_decide.mpr (by omega)
  rw [e1, e2]
/-- the number of assignments of a list of stations -/
def num (sm nx : Nat → Nat) : List Nat → (Nat → Nat) → Nat
  | [], _ => 1
  | s :: L, left => sumTo (fun c => if (left s).testBit c then num sm nx L (giv sm nx s c left) else 0) 8
section Nums
variable {sm nx : Nat → Nat}
theorem num_congr {L : List Nat} {left left' : Nat → Nat} (h : ∀ s, s ∈ L → ∀ c, c < 8 → (left s).testBit c = (left' s).testBit c) : num sm nx L left = num sm nx L left' := by
  induction L generalizing left left' with
  | nil => rfl
  | cons s L ih =>
    rw [num, num]
    refine sumTo_congr fun c hc => ?_
    rw [h s List.mem_cons_self c hc]
    split
    · refine ih fun t ht d hd => ?_
      rw [giv_tb, giv_tb, h t (List.mem_cons_of_mem _ ht) d hd]
    · rfl
theorem cfl_symm (h1 : ∀ s t, (sm s).testBit t = (sm t).testBit s) (h2 : ∀ s t, (nx s).testBit t = (nx t).testBit s) (s c t d : Nat) : cfl sm nx s c t d = cfl sm nx t d s c := by
  unfold cfl
  rw [h1 s t, h2 s t, Bool.or_comm (decide (c = d + 1))]
  congr 2
  exact decide_eq_decide.mpr ⟨fun h => h.symm, fun h => h.symm⟩
theorem giv_comm (s c t d : Nat) (left : Nat → Nat) (o e : Nat) : (giv sm nx t d (giv sm nx s c left) o).testBit e = (giv sm nx s c (giv sm nx t d left) o).testBit e := by
  simp only [giv_tb]
  cases (left o).testBit e <;> cases cfl sm nx s c o e <;> cases cfl sm nx t d o e <;> rfl
theorem num_swap (h1 : ∀ s t, (sm s).testBit t = (sm t).testBit s) (h2 : ∀ s t, (nx s).testBit t = (nx t).testBit s) (s t : Nat) (L : List Nat) (left : Nat → Nat) :
    num sm nx (s :: t :: L) left = num sm nx (t :: s :: L) left := by
  simp only [num]
  have e : ∀ c, (if (left s).testBit c then sumTo (fun d => if (giv sm nx s c left t).testBit d then num sm nx L (giv sm nx t d (giv sm nx s c left)) else 0) 8 else 0) =
      sumTo (fun d => if (left s).testBit c then (if (giv sm nx s c left t).testBit d then num sm nx L (giv sm nx t d (giv sm nx s c left)) else 0) else 0) 8 := by
    intro c
    split
    · rfl
    · exact (sumTo_zero fun i _ => rfl).symm
  have e' : ∀ d, (if (left t).testBit d then sumTo (fun c => if (giv sm nx t d left s).testBit c then num sm nx L (giv sm nx s c (giv sm nx t d left)) else 0) 8 else 0) =
      sumTo (fun c => if (left t).testBit d then (if (giv sm nx t d left s).testBit c then num sm nx L (giv sm nx s c (giv sm nx t d left)) else 0) else 0) 8 := by
    intro d
    split
    · rfl
    · exact (sumTo_zero fun i _ => rfl).symm
  simp only [e, e']
  rw [sumTo_comm]
  refine sumTo_congr fun d _ => sumTo_congr fun c _ => ?_
  rw [giv_tb, giv_tb, cfl_symm h1 h2 t d s c]
  rw [num_congr (left := giv sm nx t d (giv sm nx s c left)) (left' := giv sm nx s c (giv sm nx t d left)) fun o _ e _ => giv_comm s c t d left o e]
  cases (left s).testBit c <;> cases (left t).testBit d <;> cases cfl sm nx s c t d <;> rfl
theorem num_perm (h1 : ∀ s t, (sm s).testBit t = (sm t).testBit s) (h2 : ∀ s t, (nx s).testBit t = (nx t).testBit s) {L L' : List Nat} (h : L.Perm L') (left : Nat → Nat) : num sm nx L left = num sm nx L' left := by
  induction h generalizing left with
  | nil => rfl
  | cons x _ ih =>
    rw [num, num]
    refine sumTo_congr fun c _ => ?_
    split
    · exact ih _
    · rfl
  | swap x y l => exact num_swap h1 h2 y x l left
  | trans _ _ ih1 ih2 => exact (ih1 left).trans (ih2 left)
/-- the station taken first makes no difference -/
theorem els_perm {x s : Nat} (hs : s < 12) (h : x.testBit s = true) : (els x).Perm (s :: els (ndf x (2 ^ s))) := by
  have hm : s ∈ els x := mem_els.mpr ⟨hs, h⟩
  have e : els (ndf x (2 ^ s)) = (els x).erase s := by
    rw [(els_nodup x).erase_eq_filter]
    unfold els
    rw [List.filter_filter]
    refine List.filter_congr fun i hi => ?_
    rw [ndf_testBit, tb_pow, Bool.and_comm]
    congr 1
  rw [e]
  exact List.perm_cons_erase hm
theorem num_take (h1 : ∀ s t, (sm s).testBit t = (sm t).testBit s) (h2 : ∀ s t, (nx s).testBit t = (nx t).testBit s) {x s : Nat} (hs : s < 12) (h : x.testBit s = true) (left : Nat → Nat) :
    num sm nx (els x) left = sumTo (fun c => if (left s).testBit c then num sm nx (els (ndf x (2 ^ s))) (giv sm nx s c left) else 0) 8 := by
  rw [num_perm h1 h2 (els_perm hs h)]; rfl
theorem pc_take {x s : Nat} (hs : s < 12) (h : x.testBit s = true) : pc x = pc (ndf x (2 ^ s)) + 1 := by
  rw [← pc_els, ← pc_els, (els_perm hs h).length_eq]; rfl
/-- what an assignment is -/
def Asg (sm nx : Nat → Nat) (L : List Nat) (left a : Nat → Nat) : Prop :=
  (∀ s, s ∈ L → a s < 8 ∧ (left s).testBit (a s) = true) ∧ L.Pairwise fun s t => cfl sm nx s (a s) t (a t) = false
theorem num_pos {L : List Nat} {left : Nat → Nat} (hL : L.Nodup) : 0 < num sm nx L left ↔ ∃ a, Asg sm nx L left a := by
  induction L generalizing left with
  | nil => exact ⟨fun _ => ⟨fun _ => 0, fun s h => (by cases h), List.Pairwise.nil⟩, fun _ => Nat.zero_lt_one⟩
  | cons s L ih =>
    rw [num, sumTo_pos]
    have hn := List.nodup_cons.mp hL
    constructor
    · rintro ⟨c, hc, hp⟩
      split at hp
      · next hb =>
        obtain ⟨a, ha1, ha2⟩ := (ih hn.2).mp hp
        have hne : ∀ t, t ∈ L → (if t = s then c else a t) = a t := fun t ht => if_neg fun (e : t = s) => hn.1 (e ▸ ht)
        refine ⟨fun t => if t = s then c else a t, fun t ht => ?_, List.pairwise_cons.mpr ⟨fun t ht => ?_, ?_⟩⟩
        · dsimp only
          rcases List.mem_cons.mp ht with rfl | ht
          · rw [if_pos rfl]; exact ⟨hc, hb⟩
          · rw [hne t ht]
            have := ha1 t ht
            rw [giv_tb] at this
            exact ⟨this.1, (Bool.and_eq_true_iff.mp this.2).1⟩
        · dsimp only
          rw [if_pos rfl, hne t ht]
          have := (ha1 t ht).2
          rw [giv_tb] at this
          have := (Bool.and_eq_true_iff.mp this).2
          simpa using this
        · refine List.Pairwise.imp_of_mem ?_ ha2
          intro t u ht hu h
          dsimp only
          rw [hne t ht, hne u hu]; exact h
      · exact absurd hp (Nat.lt_irrefl 0)
    · rintro ⟨a, ha1, ha2⟩
      obtain ⟨h1, h2⟩ := ha1 s List.mem_cons_self
      obtain ⟨h3, h4⟩ := List.pairwise_cons.mp ha2
      refine ⟨a s, h1, ?_⟩
      rw [if_pos h2]
      refine (ih hn.2).mpr ⟨a, fun t ht => ⟨(ha1 t (List.mem_cons_of_mem _ ht)).1, ?_⟩, h4⟩
      rw [giv_tb, (ha1 t (List.mem_cons_of_mem _ ht)).2, h3 t ht]; rfl
theorem num_one (s : Nat) (left : Nat → Nat) (h : left s < 2 ^ 8) : num sm nx [s] left = pc (left s) := by
  rw [num]
  have : ∀ x : Nat, sumTo (fun c => if x.testBit c then 1 else 0) 8 = (List.range 8).countP x.testBit := by
    intro x
    simp only [sumTo, List.range, List.range.loop, List.countP_cons, List.countP_nil]
    omega
  show sumTo (fun c => if (left s).testBit c then 1 else 0) 8 = _
  rw [this]
  unfold pc
  rw [show List.range 12 = List.range 8 ++ [8, 9, 10, 11] from rfl, List.countP_append]
  have : [8, 9, 10, 11].countP (left s).testBit = 0 := by
    rw [List.countP_eq_zero]
    intro i hi
    have : 8 ≤ i := by
      simp only [List.mem_cons, List.not_mem_nil, or_false] at hi
      omega
    rw [tb_not h this]; decide
  rw [this]; rfl
end Nums
