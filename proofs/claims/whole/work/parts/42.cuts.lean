/-! Layer 2, 3: what the search may leave out -/
section Cuts
variable {sm nx : Nat → Nat}
theorem num_mono {L : List Nat} (hL : L.Nodup) {left left' : Nat → Nat} (h : ∀ s, s ∈ L → ∀ c, c < 8 → (left s).testBit c = true → (left' s).testBit c = true) (hp : 0 < num sm nx L left) : 0 < num sm nx L left' := by
  obtain ⟨a, h1, h2⟩ := (num_pos hL).mp hp
  exact (num_pos hL).mpr ⟨a, fun s hs => ⟨(h1 s hs).1, h s hs _ (h1 s hs).1 (h1 s hs).2⟩, h2⟩
theorem num_sub {L L' : List Nat} (hL : L.Nodup) (hL' : L'.Nodup) (hs : ∀ s, s ∈ L' → s ∈ L) (h2 : ∀ s t, (sm s).testBit t = (sm t).testBit s) (h3 : ∀ s t, (nx s).testBit t = (nx t).testBit s) {left : Nat → Nat} (hp : 0 < num sm nx L left) : 0 < num sm nx L' left := by
  obtain ⟨a, ha, hb⟩ := (num_pos hL).mp hp
  refine (num_pos hL').mpr ⟨a, fun s hs' => ha s (hs s hs'), ?_⟩
  have hall : ∀ s, s ∈ L → ∀ t, t ∈ L → s ≠ t → cfl sm nx s (a s) t (a t) = false := by
    clear ha hs hp
    induction hb with
    | nil => intro s h; cases h
    | cons h1 _ ih =>
      intro s hs t ht hne
      rcases List.mem_cons.mp hs with rfl | hs'
      · rcases List.mem_cons.mp ht with rfl | ht'
        · exact absurd rfl hne
        · exact h1 t ht'
      · rcases List.mem_cons.mp ht with rfl | ht'
        · rw [cfl_symm h2 h3]; exact h1 s hs'
        · exact ih (List.nodup_cons.mp hL).2 s hs' t ht' hne
  exact List.Pairwise.imp_of_mem (fun {s t} h4 h5 h => hall s (hs s h4) t (hs t h5) h) hL'
def blk (sm nx : Nat → Nat) (s : Nat) (a : Nat → Nat) (t : Nat) : List Nat := (if (sm s).testBit t then [a t] else []) ++ (if (nx s).testBit t then [a t + 1, a t - 1] else [])
theorem blk_len (s : Nat) (a : Nat → Nat) (L : List Nat) : (L.flatMap (blk sm nx s a)).length = L.countP (sm s).testBit + 2 * L.countP (nx s).testBit := by
  induction L with
  | nil => rfl
  | cons t L ih =>
    rw [List.flatMap_cons, List.length_append, ih, List.countP_cons, List.countP_cons]
    unfold blk
    cases (sm s).testBit t <;> cases (nx s).testBit t <;> simp <;> omega
theorem countP_els (x : Nat) (p : Nat → Bool) : (els x).countP p = (List.range 12).countP (fun i => p i && x.testBit i) := List.countP_filter
theorem num_easy (h1 : ∀ s t, (sm s).testBit t = (sm t).testBit s) (h2 : ∀ s t, (nx s).testBit t = (nx t).testBit s) {x s : Nat} (hs : s < 12) (hx : x.testBit s = true) {left : Nat → Nat} (hl : left s < 2 ^ 8)
    (he : pc (sm s &&& x) + 2 * pc (nx s &&& x) < pc (left s)) : 0 < num sm nx (els x) left ↔ 0 < num sm nx (els (ndf x (2 ^ s))) left := by
  constructor
  · refine num_sub (els_nodup _) (els_nodup _) (fun t ht => ?_) h1 h2
    obtain ⟨h3, h4⟩ := mem_els.mp ht
    rw [ndf_testBit] at h4
    exact mem_els.mpr ⟨h3, (Bool.and_eq_true_iff.mp h4).1⟩
  · intro hp
    rw [num_perm h1 h2 (els_perm hs hx)]
    obtain ⟨a, ha1, ha2⟩ := (num_pos (els_nodup _)).mp hp
    have hlen : ((els (ndf x (2 ^ s))).flatMap (blk sm nx s a)).length < (els (left s)).length := by
      rw [blk_len, pc_els, countP_els, countP_els]
      refine Nat.lt_of_le_of_lt (Nat.add_le_add ?_ (Nat.mul_le_mul_left 2 ?_)) he
      · refine countP_le_of fun i _ h => ?_
        rw [Nat.testBit_and]
        rw [ndf_testBit] at h
        cases q : (sm s).testBit i <;> cases q2 : x.testBit i <;> simp_all
      · refine countP_le_of fun i _ h => ?_
        rw [Nat.testBit_and]
        rw [ndf_testBit] at h
        cases q : (nx s).testBit i <;> cases q2 : x.testBit i <;> simp_all
    obtain ⟨c, hc, hnc⟩ : ∃ c, c ∈ els (left s) ∧ c ∉ (els (ndf x (2 ^ s))).flatMap (blk sm nx s a) := by
      refine Classical.byContradiction fun hno => ?_
      refine absurd (List.Nodup.length_le_of_subset (els_nodup (left s)) fun c hc => ?_) (Nat.not_le.mpr hlen)
      exact Classical.byContradiction fun hn => hno ⟨c, hc, hn⟩
    obtain ⟨-, hc2⟩ := mem_els.mp hc
    have hno : ∀ t, t ∈ els (ndf x (2 ^ s)) → cfl sm nx s c t (a t) = false := by
      intro t ht
      have : c ∉ blk sm nx s a t := fun h => hnc (List.mem_flatMap.mpr ⟨t, ht, h⟩)
      unfold blk at this
      unfold cfl
      cases q1 : (sm s).testBit t <;> cases q2 : (nx s).testBit t <;> simp [q1, q2] at this ⊢ <;> omega
    have hsn : s ∉ els (ndf x (2 ^ s)) := by
      intro h
      have := (mem_els.mp h).2
      rw [ndf_testBit, tb_pow] at this
      simp at this
    have hne : ∀ t, t ∈ els (ndf x (2 ^ s)) → (if t = s then c else a t) = a t := fun t ht => if_neg fun (e : t = s) => hsn (e ▸ ht)
    refine (num_pos (List.nodup_cons.mpr ⟨hsn, els_nodup _⟩)).mpr ⟨fun t => if t = s then c else a t, fun t ht => ?_, List.pairwise_cons.mpr ⟨fun t ht => ?_, ?_⟩⟩
    · dsimp only
      rcases List.mem_cons.mp ht with rfl | ht
      · rw [if_pos rfl]; exact ⟨tb_lt hl hc2, hc2⟩
      · rw [hne t ht]; exact ha1 t ht
    · dsimp only
      rw [if_pos rfl, hne t ht]; exact hno t ht
    · refine List.Pairwise.imp_of_mem ?_ ha2
      intro t u ht hu h
      dsimp only
      rw [hne t ht, hne u hu]; exact h
/-! stations that share a channel -/
theorem mask_of (p : Nat → Bool) (n : Nat) : ∃ x, x < 2 ^ n ∧ ∀ i, x.testBit i = (decide (i < n) && p i) := by
  induction n with
  | zero => exact ⟨0, by decide, fun i => by simp⟩
  | succ n ih =>
    obtain ⟨x, hx, h⟩ := ih
    refine ⟨if p n then x ||| 2 ^ n else x, ?_, fun i => ?_⟩
    · have : x < 2 ^ (n + 1) := Nat.lt_of_lt_of_le hx (Nat.pow_le_pow_right (by decide) (Nat.le_succ n))
      split
      · exact Nat.or_lt_two_pow this (Nat.pow_lt_pow_right (by decide) (Nat.lt_succ_self n))
      · exact this
    · cases q : p n with
      | true =>
        simp only [if_true, Nat.testBit_or, h, tb_pow]
        rcases Nat.lt_trichotomy i n with a | a | a
        · simp [a, Nat.lt_succ_of_lt a, Nat.ne_of_lt a]
        · subst a; simp [q]
        · simp [Nat.not_lt.mpr (Nat.le_of_lt a), Nat.not_lt.mpr (show n + 1 ≤ i from a), Nat.ne_of_gt a]
      | false =>
        simp only [Bool.false_eq_true, if_false, h]
        rcases Nat.lt_trichotomy i n with a | a | a
        · simp [a, Nat.lt_succ_of_lt a]
        · subst a; simp [q]
        · simp [Nat.not_lt.mpr (Nat.le_of_lt a), Nat.not_lt.mpr (show n + 1 ≤ i from a)]
/-- no two of the set have a conflict of the kind 0 -/
def Indep (sm : Nat → Nat) (I : Nat) : Prop := ∀ s t, I.testBit s = true → I.testBit t = true → (sm s).testBit t = false
/-- a table that tells enough of how many can share a channel -/
def ShOK (sm : Nat → Nat) (n : Nat) (T : Nat → Nat) : Prop := ∀ U, U < 2 ^ n → T U ≤ n ∧ ∀ I, (∀ i, I.testBit i = true → U.testBit i = true) → Indep sm I → pc I ≤ T U
theorem sumTo_countP (L : List Nat) (p : Nat → Bool) (a : Nat → Nat) (h : ∀ s, s ∈ L → p s = true → a s < 8) : sumTo (fun c => L.countP fun s => p s && decide (a s = c)) 8 = L.countP p := by
  induction L with
  | nil => exact sumTo_zero fun _ _ => rfl
  | cons s L ih =>
    simp only [List.countP_cons]
    rw [sumTo_add, ih fun t ht => h t (List.mem_cons_of_mem _ ht)]
    congr 1
    cases q : p s with
    | false => simp [sumTo]
    | true =>
      have := h s List.mem_cons_self q
      have e : ∀ d, d < 8 → sumTo (fun c => if (true && decide (d = c)) = true then 1 else 0) 8 = 1 := by decide
      rw [e _ this]; rfl
theorem no_room {n : Nat} (hn : n ≤ 12) {T : Nat → Nat} (hT : ShOK sm n T) (h1 : ∀ s t, (sm s).testBit t = (sm t).testBit s) (hirr : ∀ s, (sm s).testBit s = false) {x : Nat} (hx : x < 2 ^ n) {left : Nat → Nat} {us : Nat → Nat} (hu : ∀ c, c < 8 → us c < 2 ^ n ∧ ∀ s, (us c).testBit s = (x.testBit s && (left s).testBit c))
    (hr : sumTo (fun c => T (us c)) 8 < pc x) : num sm nx (els x) left = 0 := by
  refine Nat.eq_zero_of_not_pos fun hp => ?_
  obtain ⟨a, ha, hb⟩ := (num_pos (els_nodup _)).mp hp
  have hx12 : x < 2 ^ 12 := Nat.lt_of_lt_of_le hx (Nat.pow_le_pow_right (by decide) hn)
  have hcnt := sumTo_countP (List.range 12) x.testBit a fun s hs hb => (ha s (mem_els.mpr ⟨List.mem_range.mp hs, hb⟩)).1
  have hall : ∀ s, s ∈ els x → ∀ t, t ∈ els x → s ≠ t → a s = a t → (sm s).testBit t = false := by
    have gen : ∀ L : List Nat, L.Pairwise (fun s t => cfl sm nx s (a s) t (a t) = false) → ∀ s, s ∈ L → ∀ t, t ∈ L → s ≠ t → a s = a t → (sm s).testBit t = false := by
      intro L hL
      induction hL with
      | nil => intro s h; cases h
      | cons h2 _ ih =>
        intro s hs t ht hne he
        have key : ∀ u v, cfl sm nx u (a u) v (a v) = false → a u = a v → (sm u).testBit v = false := by
          intro u v h e
          unfold cfl at h
          rw [e] at h
          cases q : (sm u).testBit v with
          | false => rfl
          | true => rw [q] at h; simp at h
        rcases List.mem_cons.mp hs with rfl | hs'
        · rcases List.mem_cons.mp ht with rfl | ht'
          · exact absurd rfl hne
          · exact key _ _ (h2 t ht') he
        · rcases List.mem_cons.mp ht with rfl | ht'
          · rw [h1]; exact key _ _ (h2 s hs') he.symm
          · exact ih s hs' t ht' hne he
    exact gen _ hb
  have hle : sumTo (fun c => (List.range 12).countP fun s => x.testBit s && decide (a s = c)) 8 ≤ sumTo (fun c => T (us c)) 8 := by
    refine sumTo_le fun c hc => ?_
    obtain ⟨I, hI, hIb⟩ := mask_of (fun s => x.testBit s && decide (a s = c)) 12
    have e : (List.range 12).countP (fun s => x.testBit s && decide (a s = c)) = pc I := by
      unfold pc
      refine List.countP_congr fun i hi => ?_
      rw [hIb i, decide_eq_true (List.mem_range.mp hi), Bool.true_and]
    rw [e]
    have mem : ∀ i, I.testBit i = true → i ∈ els x ∧ a i = c := by
      intro i hi
      rw [hIb i] at hi
      simp only [Bool.and_eq_true, decide_eq_true_eq] at hi
      exact ⟨mem_els.mpr ⟨hi.1, hi.2.1⟩, hi.2.2⟩
    refine ((hT (us c) (hu c hc).1).2 I (fun i hi => ?_) fun s t hs ht => ?_)
    · obtain ⟨m1, m2⟩ := mem i hi
      rw [(hu c hc).2, (mem_els.mp m1).2, ← m2, (ha i m1).2]; rfl
    · obtain ⟨m1, m2⟩ := mem s hs
      obtain ⟨m3, m4⟩ := mem t ht
      rcases Nat.decEq s t with q | q
      · exact hall s m1 t m3 q (m2.trans m4.symm)
      · rw [q]; exact hirr t
  rw [hcnt] at hle
  exact absurd (Nat.lt_of_le_of_lt hle hr) (Nat.lt_irrefl _)
/-! channels that can be exchanged -/
def swp (c c' d : Nat) : Nat := if d = c then c' else if d = c' then c else d
theorem swp_perm : ∀ c, c < 8 → ∀ c', c' < 8 → ((List.range 8).map (swp c c')).Perm (List.range 8) := by decide +kernel
theorem swp_inj {c c' d e : Nat} : swp c c' d = swp c c' e ↔ d = e := by
  unfold swp
  constructor
  · intro h; split at h <;> split at h <;> (try split at h) <;> (try split at h) <;> omega
  · intro h; rw [h]
theorem sumTo_swp {c c' : Nat} (hc : c < 8) (hc' : c' < 8) (f : Nat → Nat) : sumTo (fun d => f (swp c c' d)) 8 = sumTo f 8 := by
  rw [sumTo_list, sumTo_list, show (List.range 8).map (fun d => f (swp c c' d)) = ((List.range 8).map (swp c c')).map f from (List.map_map ..).symm]
  exact ((swp_perm c hc c' hc').map f).sum_nat
theorem swp_lt {c c' d : Nat} (hc : c < 8) (hc' : c' < 8) (hd : d < 8) : swp c c' d < 8 := by
  unfold swp
  split
  · exact hc'
  · split
    · exact hc
    · exact hd
theorem num_swp {c c' : Nat} (hc : c < 8) (hc' : c' < 8) {L : List Nat} (hn : ∀ s, s ∈ L → ∀ t, t ∈ L → (nx s).testBit t = false) {left left' : Nat → Nat}
    (h : ∀ t, t ∈ L → ∀ d, d < 8 → (left' t).testBit (swp c c' d) = (left t).testBit d) : num sm nx L left = num sm nx L left' := by
  induction L generalizing left left' with
  | nil => rfl
  | cons s L ih =>
    rw [num, num, ← sumTo_swp hc hc' fun d => if (left' s).testBit d then num sm nx L (giv sm nx s d left') else 0]
    refine sumTo_congr fun d hd => ?_
    rw [h s List.mem_cons_self d hd]
    split
    · refine ih (fun u hu v hv => hn u (List.mem_cons_of_mem _ hu) v (List.mem_cons_of_mem _ hv)) fun t ht e he => ?_
      rw [giv_tb, giv_tb, h t (List.mem_cons_of_mem _ ht) e he]
      unfold cfl
      rw [hn s List.mem_cons_self t (List.mem_cons_of_mem _ ht)]
      simp only [Bool.false_and, Bool.or_false]
      congr 2
      exact congrArg _ (decide_eq_decide.mpr swp_inj)
    · rfl
theorem num_twin {c c' : Nat} (hc : c < 8) (hc' : c' < 8) {x s : Nat} (hs : s < 12) (hx : x.testBit s = true) (hn : ∀ s, s ∈ els x → ∀ t, t ∈ els x → (nx s).testBit t = false) {left : Nat → Nat}
    (h : ∀ t, t ∈ els x → (left t).testBit c = (left t).testBit c') :
    num sm nx (els (ndf x (2 ^ s))) (giv sm nx s c left) = num sm nx (els (ndf x (2 ^ s))) (giv sm nx s c' left) := by
  have hsub : ∀ t, t ∈ els (ndf x (2 ^ s)) → t ∈ els x := by
    intro t ht
    obtain ⟨h3, h4⟩ := mem_els.mp ht
    rw [ndf_testBit] at h4
    exact mem_els.mpr ⟨h3, (Bool.and_eq_true_iff.mp h4).1⟩
  refine num_swp hc hc' (fun u hu v hv => hn u (hsub u hu) v (hsub v hv)) fun t ht d hd => ?_
  have e1 : (left t).testBit (swp c c' d) = (left t).testBit d := by
    unfold swp
    split
    · next q => rw [q, h t (hsub t ht)]
    · split
      · next q => rw [q, h t (hsub t ht)]
      · rfl
  have hst := hn s (mem_els.mpr ⟨hs, hx⟩) t (hsub t ht)
  rw [giv_tb, giv_tb, e1]
  unfold cfl
  rw [hst]
  simp only [Bool.false_and, Bool.or_false]
  congr 2
  refine congrArg _ (decide_eq_decide.mpr ?_)
  unfold swp
  split
  · next q => exact ⟨fun _ => q.symm, fun _ => rfl⟩
  · split
    · next q1 q2 => subst q2; exact ⟨fun q => by omega, fun q => by omega⟩
    · next q1 q2 => exact ⟨fun q => by omega, fun q => by omega⟩
end Cuts
