/-! Layer 2, 63: the law, call by call. Printed by wip/gen/lawgen.py. -/
theorem lg_same (x : Int64) : lg_cmp x x = 0 := by
  unfold lg_cmp
  rw [if_neg (Int64.lt_irrefl), if_pos rfl]
theorem updL_0 (f : Nat → Int64) (v : Int64) : vp_updL f 0 v 0 = v := if_pos rfl
/-- going on succeeds from every state that is related -/
def Gon (t : Nat) (J : LT → Option (Int32 × LT)) : Prop := ∀ (M : Mk) (τ : LT), Rel t M τ.1 τ.2.1 → ∃ σf, J τ = some (1, σf)
theorem tail_i {t t' : Nat} {J : LT → Option (Int32 × LT)} (hJ : Gon t' J) (ht : t ≤ t') (ht2 : t' < 2 ^ 20) {M : Mk} {σ' τ' : Sg} {buf : Nat → Int64} {c y : Int32} (hr : Rel t M σ' τ') (hz : τ' 0 0 = c) (hv : c = 0 → buf 0 = y.toInt64) :
    ∃ σf, lt' (σ', τ', buf) (fun (σ17 : LT) => bd (fX7_thrown σ17.2.1) (fun (r18 : Int32) (σ19 : Sg) => lt' (σ17.1, σ19, σ17.2.2) (fun (σ21 : LT) => if r18 = c then (jp (fun (σ23 : LT) => J σ23) (fun (J281 : LT → Option (Int32 × LT)) => if c = 0 then (if (lg_cmp (σ21.2.2 0) y.toInt64) = 0 then (J281 σ21) else (some (0, σ21))) else (J281 σ21))) else (some (0, σ21))))) = some (1, σf) := by
  obtain ⟨σf, hf⟩ := hJ M (σ', τ', buf) (hr.mono ht ht2)
  refine ⟨σf, ?_⟩
  rw [lt'_eq, fX7_thrown, bd_some, lt'_eq, if_pos hz, jp_eq]
  by_cases q : c = 0
  · rw [if_pos q]
    have : lg_cmp (buf 0) y.toInt64 = 0 := by rw [hv q]; exact lg_same _
    rw [if_pos this]
    exact hf
  · rw [if_neg q]
    exact hf
theorem tail_b {t t' : Nat} {J : LT → Option (Int32 × LT)} (hJ : Gon t' J) (ht : t ≤ t') (ht2 : t' < 2 ^ 20) {M : Mk} {σ' τ' : Sg} {buf : Nat → Int64} {c y : Int32} (hr : Rel t M σ' τ') (hz : τ' 0 0 = c) (hv : c = 0 → buf 0 = if y = 0 then 0 else 1) :
    ∃ σf, lt' (σ', τ', buf) (fun (σ17 : LT) => bd (fX7_thrown σ17.2.1) (fun (r18 : Int32) (σ19 : Sg) => lt' (σ17.1, σ19, σ17.2.2) (fun (σ21 : LT) => if r18 = c then (jp (fun (σ23 : LT) => J σ23) (fun (J281 : LT → Option (Int32 × LT)) => if c = 0 then (jp (fun (v65 : Int64) (σ66 : LT) => if (lg_cmp (σ21.2.2 0) v65) = 0 then (J281 σ66) else (some (0, σ66))) (fun (J410 : Int64 → LT → Option (Int32 × LT)) => if y = 0 then (J410 (0 : Int64) σ21) else (J410 (1 : Int64) σ21))) else (J281 σ21))) else (some (0, σ21))))) = some (1, σf) := by
  obtain ⟨σf, hf⟩ := hJ M (σ', τ', buf) (hr.mono ht ht2)
  refine ⟨σf, ?_⟩
  rw [lt'_eq, fX7_thrown, bd_some, lt'_eq, if_pos hz, jp_eq]
  by_cases q : c = 0
  · have h := hv q
    rw [if_pos q, jp_eq]
    by_cases q2 : y = 0
    · rw [if_pos q2] at h
      rw [if_pos q2]
      have : lg_cmp (buf 0) 0 = 0 := by rw [h]; exact lg_same _
      exact (if_pos this).trans hf
    · rw [if_neg q2] at h
      rw [if_neg q2]
      have : lg_cmp (buf 0) 1 = 0 := by rw [h]; exact lg_same _
      exact (if_pos this).trans hf
  · rw [if_neg q]
    exact hf
/-- what a wrapped call of the class gives -/
def WrR (bool : Bool) (es : List String) (σ : LT) (w : Option (Int32 × LT)) (x : Option ((String ⊕ Int32) × Sg)) : Prop :=
  ∀ a σ', x = some (a, σ') → ∀ y z, Ans es a y z → ∃ c buf, w = some (c, (σ', σ.2.1, buf)) ∧ z = c ∧ (c = 0 → buf 0 = if bool then (if y = 0 then 0 else 1) else y.toInt64)

theorem wr_addStation (σ : LT) (a : Int32) (b : Int32) (c : Int32) : WrR false ["java/lang/IllegalArgumentException", "java/lang/UnsupportedOperationException", "java/lang/IllegalStateException"] σ (fL_addStation a b c σ) (fX6_addStation a b c σ.1) := by
  intro x σ' hx y z ha
  rw [fL_addStation, hx]
  cases x with
  | inr v =>
    obtain ⟨h1, h2⟩ := ha
    rw [bx_inr, lt'_eq, lt'_eq]
    refine ⟨0, _, rfl, h1, fun _ => ?_⟩
    rw [updL_0, h2, if_neg (by decide)]
  | inl E =>
    obtain ⟨k, h1, h2⟩ := ha
    rw [bx_inl]
    have hk : k < 3 := by
      rcases Nat.lt_or_ge k 3 with q | q
      · exact q
      · rw [List.getElem?_eq_none (by simpa using q)] at h1
        cases h1
    rcases (by omega : k = 0 ∨ k = 1 ∨ k = 2) with rfl | rfl | rfl
    · obtain rfl : "java/lang/IllegalArgumentException" = E := by simpa using h1
      rw [if_pos rfl, lt'_eq]
      exact ⟨(1 : Int32), σ.2.2, rfl, h2, fun z => absurd z (by decide)⟩
    · obtain rfl : "java/lang/UnsupportedOperationException" = E := by simpa using h1
      rw [if_neg (by decide), if_pos rfl, lt'_eq]
      exact ⟨(2 : Int32), σ.2.2, rfl, h2, fun z => absurd z (by decide)⟩
    · obtain rfl : "java/lang/IllegalStateException" = E := by simpa using h1
      rw [if_neg (by decide), if_neg (by decide), if_pos rfl, lt'_eq]
      exact ⟨(3 : Int32), σ.2.2, rfl, h2, fun z => absurd z (by decide)⟩
theorem wr_removeStation (σ : LT) : WrR false ["java/lang/UnsupportedOperationException", "java/lang/IllegalStateException"] σ (fL_removeStation σ) (fX6_removeStation σ.1) := by
  intro x σ' hx y z ha
  rw [fL_removeStation, hx]
  cases x with
  | inr v =>
    obtain ⟨h1, h2⟩ := ha
    rw [bx_inr, lt'_eq, lt'_eq]
    refine ⟨0, _, rfl, h1, fun _ => ?_⟩
    rw [updL_0, h2, if_neg (by decide)]
  | inl E =>
    obtain ⟨k, h1, h2⟩ := ha
    rw [bx_inl]
    have hk : k < 2 := by
      rcases Nat.lt_or_ge k 2 with q | q
      · exact q
      · rw [List.getElem?_eq_none (by simpa using q)] at h1
        cases h1
    rcases (by omega : k = 0 ∨ k = 1) with rfl | rfl
    · obtain rfl : "java/lang/UnsupportedOperationException" = E := by simpa using h1
      rw [if_pos rfl, lt'_eq]
      exact ⟨(1 : Int32), σ.2.2, rfl, h2, fun z => absurd z (by decide)⟩
    · obtain rfl : "java/lang/IllegalStateException" = E := by simpa using h1
      rw [if_neg (by decide), if_pos rfl, lt'_eq]
      exact ⟨(2 : Int32), σ.2.2, rfl, h2, fun z => absurd z (by decide)⟩
theorem wr_setParticipates (σ : LT) (a : Int32) (b : Int32) : WrR true ["java/lang/IndexOutOfBoundsException", "java/lang/UnsupportedOperationException"] σ (fL_setParticipates a b σ) (fX6_setParticipates a b σ.1) := by
  intro x σ' hx y z ha
  rw [fL_setParticipates, hx]
  cases x with
  | inr v =>
    obtain ⟨h1, h2⟩ := ha
    rw [bx_inr, lt'_eq, jp_eq]
    by_cases q : v = 0
    · rw [if_pos q]
      refine ⟨0, _, rfl, h1, fun _ => ?_⟩
      rw [updL_0, h2, if_pos rfl, if_pos q]
    · rw [if_neg q]
      refine ⟨0, _, rfl, h1, fun _ => ?_⟩
      rw [updL_0, h2, if_pos rfl, if_neg q]
  | inl E =>
    obtain ⟨k, h1, h2⟩ := ha
    rw [bx_inl]
    have hk : k < 2 := by
      rcases Nat.lt_or_ge k 2 with q | q
      · exact q
      · rw [List.getElem?_eq_none (by simpa using q)] at h1
        cases h1
    rcases (by omega : k = 0 ∨ k = 1) with rfl | rfl
    · obtain rfl : "java/lang/IndexOutOfBoundsException" = E := by simpa using h1
      rw [if_pos rfl, lt'_eq]
      exact ⟨(1 : Int32), σ.2.2, rfl, h2, fun z => absurd z (by decide)⟩
    · obtain rfl : "java/lang/UnsupportedOperationException" = E := by simpa using h1
      rw [if_neg (by decide), if_pos rfl, lt'_eq]
      exact ⟨(2 : Int32), σ.2.2, rfl, h2, fun z => absurd z (by decide)⟩
theorem wr_setValue (σ : LT) (a : Int32) (b : Int32) : WrR false ["java/lang/IndexOutOfBoundsException", "java/lang/IllegalArgumentException", "java/lang/UnsupportedOperationException"] σ (fL_setValue a b σ) (fX6_setValue a b σ.1) := by
  intro x σ' hx y z ha
  rw [fL_setValue, hx]
  cases x with
  | inr v =>
    obtain ⟨h1, h2⟩ := ha
    rw [bx_inr, lt'_eq, lt'_eq]
    refine ⟨0, _, rfl, h1, fun _ => ?_⟩
    rw [updL_0, h2, if_neg (by decide)]
  | inl E =>
    obtain ⟨k, h1, h2⟩ := ha
    rw [bx_inl]
    have hk : k < 3 := by
      rcases Nat.lt_or_ge k 3 with q | q
      · exact q
      · rw [List.getElem?_eq_none (by simpa using q)] at h1
        cases h1
    rcases (by omega : k = 0 ∨ k = 1 ∨ k = 2) with rfl | rfl | rfl
    · obtain rfl : "java/lang/IndexOutOfBoundsException" = E := by simpa using h1
      rw [if_pos rfl, lt'_eq]
      exact ⟨(1 : Int32), σ.2.2, rfl, h2, fun z => absurd z (by decide)⟩
    · obtain rfl : "java/lang/IllegalArgumentException" = E := by simpa using h1
      rw [if_neg (by decide), if_pos rfl, lt'_eq]
      exact ⟨(2 : Int32), σ.2.2, rfl, h2, fun z => absurd z (by decide)⟩
    · obtain rfl : "java/lang/UnsupportedOperationException" = E := by simpa using h1
      rw [if_neg (by decide), if_neg (by decide), if_pos rfl, lt'_eq]
      exact ⟨(3 : Int32), σ.2.2, rfl, h2, fun z => absurd z (by decide)⟩
theorem wr_setAvailable (σ : LT) (a : Int32) : WrR false ["java/lang/IllegalArgumentException", "java/lang/UnsupportedOperationException"] σ (fL_setAvailable a σ) (fX6_setAvailable a σ.1) := by
  intro x σ' hx y z ha
  rw [fL_setAvailable, hx]
  cases x with
  | inr v =>
    obtain ⟨h1, h2⟩ := ha
    rw [bx_inr, lt'_eq, lt'_eq]
    refine ⟨0, _, rfl, h1, fun _ => ?_⟩
    rw [updL_0, h2, if_neg (by decide)]
  | inl E =>
    obtain ⟨k, h1, h2⟩ := ha
    rw [bx_inl]
    have hk : k < 2 := by
      rcases Nat.lt_or_ge k 2 with q | q
      · exact q
      · rw [List.getElem?_eq_none (by simpa using q)] at h1
        cases h1
    rcases (by omega : k = 0 ∨ k = 1) with rfl | rfl
    · obtain rfl : "java/lang/IllegalArgumentException" = E := by simpa using h1
      rw [if_pos rfl, lt'_eq]
      exact ⟨(1 : Int32), σ.2.2, rfl, h2, fun z => absurd z (by decide)⟩
    · obtain rfl : "java/lang/UnsupportedOperationException" = E := by simpa using h1
      rw [if_neg (by decide), if_pos rfl, lt'_eq]
      exact ⟨(2 : Int32), σ.2.2, rfl, h2, fun z => absurd z (by decide)⟩
theorem wr_append (σ : LT) (a : Int32) : WrR false ["java/lang/IllegalArgumentException", "java/lang/IllegalStateException"] σ (fL_append a σ) (fX6_append a σ.1) := by
  intro x σ' hx y z ha
  rw [fL_append, hx]
  cases x with
  | inr v =>
    obtain ⟨h1, h2⟩ := ha
    rw [bx_inr, lt'_eq, lt'_eq]
    refine ⟨0, _, rfl, h1, fun _ => ?_⟩
    rw [updL_0, h2, if_neg (by decide)]
  | inl E =>
    obtain ⟨k, h1, h2⟩ := ha
    rw [bx_inl]
    have hk : k < 2 := by
      rcases Nat.lt_or_ge k 2 with q | q
      · exact q
      · rw [List.getElem?_eq_none (by simpa using q)] at h1
        cases h1
    rcases (by omega : k = 0 ∨ k = 1) with rfl | rfl
    · obtain rfl : "java/lang/IllegalArgumentException" = E := by simpa using h1
      rw [if_pos rfl, lt'_eq]
      exact ⟨(1 : Int32), σ.2.2, rfl, h2, fun z => absurd z (by decide)⟩
    · obtain rfl : "java/lang/IllegalStateException" = E := by simpa using h1
      rw [if_neg (by decide), if_pos rfl, lt'_eq]
      exact ⟨(2 : Int32), σ.2.2, rfl, h2, fun z => absurd z (by decide)⟩
theorem wr_setConflicts (σ : LT) : WrR false ["java/lang/UnsupportedOperationException", "java/lang/IllegalArgumentException"] σ (fL_setConflicts σ) (fX6_setConflicts σ.1) := by
  intro x σ' hx y z ha
  rw [fL_setConflicts, hx]
  cases x with
  | inr v =>
    obtain ⟨h1, h2⟩ := ha
    rw [bx_inr, lt'_eq, lt'_eq]
    refine ⟨0, _, rfl, h1, fun _ => ?_⟩
    rw [updL_0, h2, if_neg (by decide)]
  | inl E =>
    obtain ⟨k, h1, h2⟩ := ha
    rw [bx_inl]
    have hk : k < 2 := by
      rcases Nat.lt_or_ge k 2 with q | q
      · exact q
      · rw [List.getElem?_eq_none (by simpa using q)] at h1
        cases h1
    rcases (by omega : k = 0 ∨ k = 1) with rfl | rfl
    · obtain rfl : "java/lang/UnsupportedOperationException" = E := by simpa using h1
      rw [if_pos rfl, lt'_eq]
      exact ⟨(1 : Int32), σ.2.2, rfl, h2, fun z => absurd z (by decide)⟩
    · obtain rfl : "java/lang/IllegalArgumentException" = E := by simpa using h1
      rw [if_neg (by decide), if_pos rfl, lt'_eq]
      exact ⟨(2 : Int32), σ.2.2, rfl, h2, fun z => absurd z (by decide)⟩
theorem wr_hasConflict (σ : LT) (a : Int32) (b : Int32) (c : Int32) : WrR true ["java/lang/IndexOutOfBoundsException", "java/lang/IllegalArgumentException"] σ (fL_hasConflict a b c σ) (fX6_hasConflict a b c σ.1) := by
  intro x σ' hx y z ha
  rw [fL_hasConflict, hx]
  cases x with
  | inr v =>
    obtain ⟨h1, h2⟩ := ha
    rw [bx_inr, lt'_eq, jp_eq]
    by_cases q : v = 0
    · rw [if_pos q]
      refine ⟨0, _, rfl, h1, fun _ => ?_⟩
      rw [updL_0, h2, if_pos rfl, if_pos q]
    · rw [if_neg q]
      refine ⟨0, _, rfl, h1, fun _ => ?_⟩
      rw [updL_0, h2, if_pos rfl, if_neg q]
  | inl E =>
    obtain ⟨k, h1, h2⟩ := ha
    rw [bx_inl]
    have hk : k < 2 := by
      rcases Nat.lt_or_ge k 2 with q | q
      · exact q
      · rw [List.getElem?_eq_none (by simpa using q)] at h1
        cases h1
    rcases (by omega : k = 0 ∨ k = 1) with rfl | rfl
    · obtain rfl : "java/lang/IndexOutOfBoundsException" = E := by simpa using h1
      rw [if_pos rfl, lt'_eq]
      exact ⟨(1 : Int32), σ.2.2, rfl, h2, fun z => absurd z (by decide)⟩
    · obtain rfl : "java/lang/IllegalArgumentException" = E := by simpa using h1
      rw [if_neg (by decide), if_pos rfl, lt'_eq]
      exact ⟨(2 : Int32), σ.2.2, rfl, h2, fun z => absurd z (by decide)⟩
theorem wr_conflicts (σ : LT) (a : Int32) : WrR false ["java/lang/IndexOutOfBoundsException"] σ (fL_conflicts a σ) (fX6_conflicts a σ.1) := by
  intro x σ' hx y z ha
  rw [fL_conflicts, hx]
  cases x with
  | inr v =>
    obtain ⟨h1, h2⟩ := ha
    rw [bx_inr, lt'_eq, lt'_eq]
    refine ⟨0, _, rfl, h1, fun _ => ?_⟩
    rw [updL_0, h2, if_neg (by decide)]
  | inl E =>
    obtain ⟨k, h1, h2⟩ := ha
    rw [bx_inl]
    have hk : k < 1 := by
      rcases Nat.lt_or_ge k 1 with q | q
      · exact q
      · rw [List.getElem?_eq_none (by simpa using q)] at h1
        cases h1
    obtain rfl : k = 0 := by omega
    obtain rfl : "java/lang/IndexOutOfBoundsException" = E := by simpa using h1
    rw [if_pos rfl, lt'_eq]
    exact ⟨(1 : Int32), σ.2.2, rfl, h2, fun z => absurd z (by decide)⟩
theorem wr_station (σ : LT) (a : Int32) (b : Int32) : WrR false ["java/lang/IndexOutOfBoundsException", "java/lang/IllegalArgumentException"] σ (fL_station a b σ) (fX6_station a b σ.1) := by
  intro x σ' hx y z ha
  rw [fL_station, hx]
  cases x with
  | inr v =>
    obtain ⟨h1, h2⟩ := ha
    rw [bx_inr, lt'_eq, lt'_eq]
    refine ⟨0, _, rfl, h1, fun _ => ?_⟩
    rw [updL_0, h2, if_neg (by decide)]
  | inl E =>
    obtain ⟨k, h1, h2⟩ := ha
    rw [bx_inl]
    have hk : k < 2 := by
      rcases Nat.lt_or_ge k 2 with q | q
      · exact q
      · rw [List.getElem?_eq_none (by simpa using q)] at h1
        cases h1
    rcases (by omega : k = 0 ∨ k = 1) with rfl | rfl
    · obtain rfl : "java/lang/IndexOutOfBoundsException" = E := by simpa using h1
      rw [if_pos rfl, lt'_eq]
      exact ⟨(1 : Int32), σ.2.2, rfl, h2, fun z => absurd z (by decide)⟩
    · obtain rfl : "java/lang/IllegalArgumentException" = E := by simpa using h1
      rw [if_neg (by decide), if_pos rfl, lt'_eq]
      exact ⟨(2 : Int32), σ.2.2, rfl, h2, fun z => absurd z (by decide)⟩
theorem wr_volumeBits (σ : LT) (a : Int32) : WrR false ["java/lang/IndexOutOfBoundsException"] σ (fL_volumeBits a σ) (fX6_volumeBits a σ.1) := by
  intro x σ' hx y z ha
  rw [fL_volumeBits, hx]
  cases x with
  | inr v =>
    obtain ⟨h1, h2⟩ := ha
    rw [bx_inr, lt'_eq, lt'_eq]
    refine ⟨0, _, rfl, h1, fun _ => ?_⟩
    rw [updL_0, h2, if_neg (by decide)]
  | inl E =>
    obtain ⟨k, h1, h2⟩ := ha
    rw [bx_inl]
    have hk : k < 1 := by
      rcases Nat.lt_or_ge k 1 with q | q
      · exact q
      · rw [List.getElem?_eq_none (by simpa using q)] at h1
        cases h1
    obtain rfl : k = 0 := by omega
    obtain rfl : "java/lang/IndexOutOfBoundsException" = E := by simpa using h1
    rw [if_pos rfl, lt'_eq]
    exact ⟨(1 : Int32), σ.2.2, rfl, h2, fun z => absurd z (by decide)⟩
theorem wr_priceAt (σ : LT) (a : Int32) (b : Int32) : WrR false ["java/lang/IndexOutOfBoundsException", "java/lang/IllegalArgumentException"] σ (fL_priceAt a b σ) (fX6_priceAt a b σ.1) := by
  intro x σ' hx y z ha
  rw [fL_priceAt, hx]
  cases x with
  | inr v =>
    obtain ⟨h1, h2⟩ := ha
    rw [bx_inr, lt'_eq, lt'_eq]
    refine ⟨0, _, rfl, h1, fun _ => ?_⟩
    rw [updL_0, h2, if_neg (by decide)]
  | inl E =>
    obtain ⟨k, h1, h2⟩ := ha
    rw [bx_inl]
    have hk : k < 2 := by
      rcases Nat.lt_or_ge k 2 with q | q
      · exact q
      · rw [List.getElem?_eq_none (by simpa using q)] at h1
        cases h1
    rcases (by omega : k = 0 ∨ k = 1) with rfl | rfl
    · obtain rfl : "java/lang/IndexOutOfBoundsException" = E := by simpa using h1
      rw [if_pos rfl, lt'_eq]
      exact ⟨(1 : Int32), σ.2.2, rfl, h2, fun z => absurd z (by decide)⟩
    · obtain rfl : "java/lang/IllegalArgumentException" = E := by simpa using h1
      rw [if_neg (by decide), if_pos rfl, lt'_eq]
      exact ⟨(2 : Int32), σ.2.2, rfl, h2, fun z => absurd z (by decide)⟩
theorem wr_isFeasible (σ : LT) (a : Int32) : WrR true ["java/lang/IllegalArgumentException"] σ (fL_isFeasible a σ) (fX6_isFeasible a σ.1) := by
  intro x σ' hx y z ha
  rw [fL_isFeasible, hx]
  cases x with
  | inr v =>
    obtain ⟨h1, h2⟩ := ha
    rw [bx_inr, lt'_eq, jp_eq]
    by_cases q : v = 0
    · rw [if_pos q]
      refine ⟨0, _, rfl, h1, fun _ => ?_⟩
      rw [updL_0, h2, if_pos rfl, if_pos q]
    · rw [if_neg q]
      refine ⟨0, _, rfl, h1, fun _ => ?_⟩
      rw [updL_0, h2, if_pos rfl, if_neg q]
  | inl E =>
    obtain ⟨k, h1, h2⟩ := ha
    rw [bx_inl]
    have hk : k < 1 := by
      rcases Nat.lt_or_ge k 1 with q | q
      · exact q
      · rw [List.getElem?_eq_none (by simpa using q)] at h1
        cases h1
    obtain rfl : k = 0 := by omega
    obtain rfl : "java/lang/IllegalArgumentException" = E := by simpa using h1
    rw [if_pos rfl, lt'_eq]
    exact ⟨(1 : Int32), σ.2.2, rfl, h2, fun z => absurd z (by decide)⟩
theorem wr_assign (σ : LT) (a : Int32) : WrR false ["java/lang/IllegalArgumentException", "java/lang/IllegalStateException"] σ (fL_assign a σ) (fX6_assign a σ.1) := by
  intro x σ' hx y z ha
  rw [fL_assign, hx]
  cases x with
  | inr v =>
    obtain ⟨h1, h2⟩ := ha
    rw [bx_inr, lt'_eq, lt'_eq]
    refine ⟨0, _, rfl, h1, fun _ => ?_⟩
    rw [updL_0, h2, if_neg (by decide)]
  | inl E =>
    obtain ⟨k, h1, h2⟩ := ha
    rw [bx_inl]
    have hk : k < 2 := by
      rcases Nat.lt_or_ge k 2 with q | q
      · exact q
      · rw [List.getElem?_eq_none (by simpa using q)] at h1
        cases h1
    rcases (by omega : k = 0 ∨ k = 1) with rfl | rfl
    · obtain rfl : "java/lang/IllegalArgumentException" = E := by simpa using h1
      rw [if_pos rfl, lt'_eq]
      exact ⟨(1 : Int32), σ.2.2, rfl, h2, fun z => absurd z (by decide)⟩
    · obtain rfl : "java/lang/IllegalStateException" = E := by simpa using h1
      rw [if_neg (by decide), if_pos rfl, lt'_eq]
      exact ⟨(2 : Int32), σ.2.2, rfl, h2, fun z => absurd z (by decide)⟩
theorem wr_repack (σ : LT) (a : Int32) : WrR false ["java/lang/IllegalArgumentException", "java/lang/IllegalStateException"] σ (fL_repack a σ) (fX6_repack a σ.1) := by
  intro x σ' hx y z ha
  rw [fL_repack, hx]
  cases x with
  | inr v =>
    obtain ⟨h1, h2⟩ := ha
    rw [bx_inr, lt'_eq, lt'_eq]
    refine ⟨0, _, rfl, h1, fun _ => ?_⟩
    rw [updL_0, h2, if_neg (by decide)]
  | inl E =>
    obtain ⟨k, h1, h2⟩ := ha
    rw [bx_inl]
    have hk : k < 2 := by
      rcases Nat.lt_or_ge k 2 with q | q
      · exact q
      · rw [List.getElem?_eq_none (by simpa using q)] at h1
        cases h1
    rcases (by omega : k = 0 ∨ k = 1) with rfl | rfl
    · obtain rfl : "java/lang/IllegalArgumentException" = E := by simpa using h1
      rw [if_pos rfl, lt'_eq]
      exact ⟨(1 : Int32), σ.2.2, rfl, h2, fun z => absurd z (by decide)⟩
    · obtain rfl : "java/lang/IllegalStateException" = E := by simpa using h1
      rw [if_neg (by decide), if_pos rfl, lt'_eq]
      exact ⟨(2 : Int32), σ.2.2, rfl, h2, fun z => absurd z (by decide)⟩
theorem wr_assignments (σ : LT) (a : Int32) : WrR false ["java/lang/IllegalArgumentException"] σ (fL_assignments a σ) (fX6_assignments a σ.1) := by
  intro x σ' hx y z ha
  rw [fL_assignments, hx]
  cases x with
  | inr v =>
    obtain ⟨h1, h2⟩ := ha
    rw [bx_inr, lt'_eq, lt'_eq]
    refine ⟨0, _, rfl, h1, fun _ => ?_⟩
    rw [updL_0, h2, if_neg (by decide)]
  | inl E =>
    obtain ⟨k, h1, h2⟩ := ha
    rw [bx_inl]
    have hk : k < 1 := by
      rcases Nat.lt_or_ge k 1 with q | q
      · exact q
      · rw [List.getElem?_eq_none (by simpa using q)] at h1
        cases h1
    obtain rfl : k = 0 := by omega
    obtain rfl : "java/lang/IllegalArgumentException" = E := by simpa using h1
    rw [if_pos rfl, lt'_eq]
    exact ⟨(1 : Int32), σ.2.2, rfl, h2, fun z => absurd z (by decide)⟩
theorem wr_channelsNeeded (σ : LT) (a : Int32) : WrR false ["java/lang/IllegalArgumentException", "java/lang/IllegalStateException"] σ (fL_channelsNeeded a σ) (fX6_channelsNeeded a σ.1) := by
  intro x σ' hx y z ha
  rw [fL_channelsNeeded, hx]
  cases x with
  | inr v =>
    obtain ⟨h1, h2⟩ := ha
    rw [bx_inr, lt'_eq, lt'_eq]
    refine ⟨0, _, rfl, h1, fun _ => ?_⟩
    rw [updL_0, h2, if_neg (by decide)]
  | inl E =>
    obtain ⟨k, h1, h2⟩ := ha
    rw [bx_inl]
    have hk : k < 2 := by
      rcases Nat.lt_or_ge k 2 with q | q
      · exact q
      · rw [List.getElem?_eq_none (by simpa using q)] at h1
        cases h1
    rcases (by omega : k = 0 ∨ k = 1) with rfl | rfl
    · obtain rfl : "java/lang/IllegalArgumentException" = E := by simpa using h1
      rw [if_pos rfl, lt'_eq]
      exact ⟨(1 : Int32), σ.2.2, rfl, h2, fun z => absurd z (by decide)⟩
    · obtain rfl : "java/lang/IllegalStateException" = E := by simpa using h1
      rw [if_neg (by decide), if_pos rfl, lt'_eq]
      exact ⟨(2 : Int32), σ.2.2, rfl, h2, fun z => absurd z (by decide)⟩
theorem wr_core (σ : LT) (a : Int32) (b : Int32) : WrR false ["java/lang/IndexOutOfBoundsException", "java/lang/IllegalArgumentException", "java/util/NoSuchElementException"] σ (fL_core a b σ) (fX6_core a b σ.1) := by
  intro x σ' hx y z ha
  rw [fL_core, hx]
  cases x with
  | inr v =>
    obtain ⟨h1, h2⟩ := ha
    rw [bx_inr, lt'_eq, lt'_eq]
    refine ⟨0, _, rfl, h1, fun _ => ?_⟩
    rw [updL_0, h2, if_neg (by decide)]
  | inl E =>
    obtain ⟨k, h1, h2⟩ := ha
    rw [bx_inl]
    have hk : k < 3 := by
      rcases Nat.lt_or_ge k 3 with q | q
      · exact q
      · rw [List.getElem?_eq_none (by simpa using q)] at h1
        cases h1
    rcases (by omega : k = 0 ∨ k = 1 ∨ k = 2) with rfl | rfl | rfl
    · obtain rfl : "java/lang/IndexOutOfBoundsException" = E := by simpa using h1
      rw [if_pos rfl, lt'_eq]
      exact ⟨(1 : Int32), σ.2.2, rfl, h2, fun z => absurd z (by decide)⟩
    · obtain rfl : "java/lang/IllegalArgumentException" = E := by simpa using h1
      rw [if_neg (by decide), if_pos rfl, lt'_eq]
      exact ⟨(2 : Int32), σ.2.2, rfl, h2, fun z => absurd z (by decide)⟩
    · obtain rfl : "java/util/NoSuchElementException" = E := by simpa using h1
      rw [if_neg (by decide), if_neg (by decide), if_pos rfl, lt'_eq]
      exact ⟨(3 : Int32), σ.2.2, rfl, h2, fun z => absurd z (by decide)⟩
theorem wr_open (σ : LT) (a : Int32) : WrR false ["java/lang/IllegalArgumentException", "java/lang/UnsupportedOperationException", "java/lang/IllegalStateException"] σ (fL_open a σ) (fX6_open a σ.1) := by
  intro x σ' hx y z ha
  rw [fL_open, hx]
  cases x with
  | inr v =>
    obtain ⟨h1, h2⟩ := ha
    rw [bx_inr, lt'_eq, lt'_eq]
    refine ⟨0, _, rfl, h1, fun _ => ?_⟩
    rw [updL_0, h2, if_neg (by decide)]
  | inl E =>
    obtain ⟨k, h1, h2⟩ := ha
    rw [bx_inl]
    have hk : k < 3 := by
      rcases Nat.lt_or_ge k 3 with q | q
      · exact q
      · rw [List.getElem?_eq_none (by simpa using q)] at h1
        cases h1
    rcases (by omega : k = 0 ∨ k = 1 ∨ k = 2) with rfl | rfl | rfl
    · obtain rfl : "java/lang/IllegalArgumentException" = E := by simpa using h1
      rw [if_pos rfl, lt'_eq]
      exact ⟨(1 : Int32), σ.2.2, rfl, h2, fun z => absurd z (by decide)⟩
    · obtain rfl : "java/lang/UnsupportedOperationException" = E := by simpa using h1
      rw [if_neg (by decide), if_pos rfl, lt'_eq]
      exact ⟨(2 : Int32), σ.2.2, rfl, h2, fun z => absurd z (by decide)⟩
    · obtain rfl : "java/lang/IllegalStateException" = E := by simpa using h1
      rw [if_neg (by decide), if_neg (by decide), if_pos rfl, lt'_eq]
      exact ⟨(3 : Int32), σ.2.2, rfl, h2, fun z => absurd z (by decide)⟩
theorem wr_round (σ : LT) (a : Int32) : WrR false ["java/lang/IllegalArgumentException", "java/lang/IllegalStateException"] σ (fL_round a σ) (fX6_round a σ.1) := by
  intro x σ' hx y z ha
  rw [fL_round, hx]
  cases x with
  | inr v =>
    obtain ⟨h1, h2⟩ := ha
    rw [bx_inr, lt'_eq, lt'_eq]
    refine ⟨0, _, rfl, h1, fun _ => ?_⟩
    rw [updL_0, h2, if_neg (by decide)]
  | inl E =>
    obtain ⟨k, h1, h2⟩ := ha
    rw [bx_inl]
    have hk : k < 2 := by
      rcases Nat.lt_or_ge k 2 with q | q
      · exact q
      · rw [List.getElem?_eq_none (by simpa using q)] at h1
        cases h1
    rcases (by omega : k = 0 ∨ k = 1) with rfl | rfl
    · obtain rfl : "java/lang/IllegalArgumentException" = E := by simpa using h1
      rw [if_pos rfl, lt'_eq]
      exact ⟨(1 : Int32), σ.2.2, rfl, h2, fun z => absurd z (by decide)⟩
    · obtain rfl : "java/lang/IllegalStateException" = E := by simpa using h1
      rw [if_neg (by decide), if_pos rfl, lt'_eq]
      exact ⟨(2 : Int32), σ.2.2, rfl, h2, fun z => absurd z (by decide)⟩
theorem wr_run (σ : LT) (a : Int32) : WrR false ["java/lang/IllegalArgumentException", "java/lang/IllegalStateException"] σ (fL_run a σ) (fX6_run a σ.1) := by
  intro x σ' hx y z ha
  rw [fL_run, hx]
  cases x with
  | inr v =>
    obtain ⟨h1, h2⟩ := ha
    rw [bx_inr, lt'_eq, lt'_eq]
    refine ⟨0, _, rfl, h1, fun _ => ?_⟩
    rw [updL_0, h2, if_neg (by decide)]
  | inl E =>
    obtain ⟨k, h1, h2⟩ := ha
    rw [bx_inl]
    have hk : k < 2 := by
      rcases Nat.lt_or_ge k 2 with q | q
      · exact q
      · rw [List.getElem?_eq_none (by simpa using q)] at h1
        cases h1
    rcases (by omega : k = 0 ∨ k = 1) with rfl | rfl
    · obtain rfl : "java/lang/IllegalArgumentException" = E := by simpa using h1
      rw [if_pos rfl, lt'_eq]
      exact ⟨(1 : Int32), σ.2.2, rfl, h2, fun z => absurd z (by decide)⟩
    · obtain rfl : "java/lang/IllegalStateException" = E := by simpa using h1
      rw [if_neg (by decide), if_pos rfl, lt'_eq]
      exact ⟨(2 : Int32), σ.2.2, rfl, h2, fun z => absurd z (by decide)⟩
theorem wr_back (σ : LT) (a : Int32) : WrR false ["java/lang/IllegalStateException", "java/lang/IndexOutOfBoundsException"] σ (fL_back a σ) (fX6_back a σ.1) := by
  intro x σ' hx y z ha
  rw [fL_back, hx]
  cases x with
  | inr v =>
    obtain ⟨h1, h2⟩ := ha
    rw [bx_inr, lt'_eq, lt'_eq]
    refine ⟨0, _, rfl, h1, fun _ => ?_⟩
    rw [updL_0, h2, if_neg (by decide)]
  | inl E =>
    obtain ⟨k, h1, h2⟩ := ha
    rw [bx_inl]
    have hk : k < 2 := by
      rcases Nat.lt_or_ge k 2 with q | q
      · exact q
      · rw [List.getElem?_eq_none (by simpa using q)] at h1
        cases h1
    rcases (by omega : k = 0 ∨ k = 1) with rfl | rfl
    · obtain rfl : "java/lang/IllegalStateException" = E := by simpa using h1
      rw [if_pos rfl, lt'_eq]
      exact ⟨(1 : Int32), σ.2.2, rfl, h2, fun z => absurd z (by decide)⟩
    · obtain rfl : "java/lang/IndexOutOfBoundsException" = E := by simpa using h1
      rw [if_neg (by decide), if_pos rfl, lt'_eq]
      exact ⟨(2 : Int32), σ.2.2, rfl, h2, fun z => absurd z (by decide)⟩
theorem wr_close (σ : LT) : WrR false ["java/lang/IllegalStateException"] σ (fL_close σ) (fX6_close σ.1) := by
  intro x σ' hx y z ha
  rw [fL_close, hx]
  cases x with
  | inr v =>
    obtain ⟨h1, h2⟩ := ha
    rw [bx_inr, lt'_eq, lt'_eq]
    refine ⟨0, _, rfl, h1, fun _ => ?_⟩
    rw [updL_0, h2, if_neg (by decide)]
  | inl E =>
    obtain ⟨k, h1, h2⟩ := ha
    rw [bx_inl]
    have hk : k < 1 := by
      rcases Nat.lt_or_ge k 1 with q | q
      · exact q
      · rw [List.getElem?_eq_none (by simpa using q)] at h1
        cases h1
    obtain rfl : k = 0 := by omega
    obtain rfl : "java/lang/IllegalStateException" = E := by simpa using h1
    rw [if_pos rfl, lt'_eq]
    exact ⟨(1 : Int32), σ.2.2, rfl, h2, fun z => absurd z (by decide)⟩
theorem wr_cancel (σ : LT) : WrR false ["java/lang/IllegalStateException"] σ (fL_cancel σ) (fX6_cancel σ.1) := by
  intro x σ' hx y z ha
  rw [fL_cancel, hx]
  cases x with
  | inr v =>
    obtain ⟨h1, h2⟩ := ha
    rw [bx_inr, lt'_eq, lt'_eq]
    refine ⟨0, _, rfl, h1, fun _ => ?_⟩
    rw [updL_0, h2, if_neg (by decide)]
  | inl E =>
    obtain ⟨k, h1, h2⟩ := ha
    rw [bx_inl]
    have hk : k < 1 := by
      rcases Nat.lt_or_ge k 1 with q | q
      · exact q
      · rw [List.getElem?_eq_none (by simpa using q)] at h1
        cases h1
    obtain rfl : k = 0 := by omega
    obtain rfl : "java/lang/IllegalStateException" = E := by simpa using h1
    rw [if_pos rfl, lt'_eq]
    exact ⟨(1 : Int32), σ.2.2, rfl, h2, fun z => absurd z (by decide)⟩
theorem wr_state (σ : LT) (a : Int32) : WrR false ["java/lang/IndexOutOfBoundsException", "java/lang/IllegalStateException"] σ (fL_state a σ) (fX6_state a σ.1) := by
  intro x σ' hx y z ha
  rw [fL_state, hx]
  cases x with
  | inr v =>
    obtain ⟨h1, h2⟩ := ha
    rw [bx_inr, lt'_eq, lt'_eq]
    refine ⟨0, _, rfl, h1, fun _ => ?_⟩
    rw [updL_0, h2, if_neg (by decide)]
  | inl E =>
    obtain ⟨k, h1, h2⟩ := ha
    rw [bx_inl]
    have hk : k < 2 := by
      rcases Nat.lt_or_ge k 2 with q | q
      · exact q
      · rw [List.getElem?_eq_none (by simpa using q)] at h1
        cases h1
    rcases (by omega : k = 0 ∨ k = 1) with rfl | rfl
    · obtain rfl : "java/lang/IndexOutOfBoundsException" = E := by simpa using h1
      rw [if_pos rfl, lt'_eq]
      exact ⟨(1 : Int32), σ.2.2, rfl, h2, fun z => absurd z (by decide)⟩
    · obtain rfl : "java/lang/IllegalStateException" = E := by simpa using h1
      rw [if_neg (by decide), if_pos rfl, lt'_eq]
      exact ⟨(2 : Int32), σ.2.2, rfl, h2, fun z => absurd z (by decide)⟩
theorem wr_price (σ : LT) (a : Int32) : WrR false ["java/lang/IndexOutOfBoundsException", "java/lang/IllegalStateException", "java/util/NoSuchElementException"] σ (fL_price a σ) (fX6_price a σ.1) := by
  intro x σ' hx y z ha
  rw [fL_price, hx]
  cases x with
  | inr v =>
    obtain ⟨h1, h2⟩ := ha
    rw [bx_inr, lt'_eq, lt'_eq]
    refine ⟨0, _, rfl, h1, fun _ => ?_⟩
    rw [updL_0, h2, if_neg (by decide)]
  | inl E =>
    obtain ⟨k, h1, h2⟩ := ha
    rw [bx_inl]
    have hk : k < 3 := by
      rcases Nat.lt_or_ge k 3 with q | q
      · exact q
      · rw [List.getElem?_eq_none (by simpa using q)] at h1
        cases h1
    rcases (by omega : k = 0 ∨ k = 1 ∨ k = 2) with rfl | rfl | rfl
    · obtain rfl : "java/lang/IndexOutOfBoundsException" = E := by simpa using h1
      rw [if_pos rfl, lt'_eq]
      exact ⟨(1 : Int32), σ.2.2, rfl, h2, fun z => absurd z (by decide)⟩
    · obtain rfl : "java/lang/IllegalStateException" = E := by simpa using h1
      rw [if_neg (by decide), if_pos rfl, lt'_eq]
      exact ⟨(2 : Int32), σ.2.2, rfl, h2, fun z => absurd z (by decide)⟩
    · obtain rfl : "java/util/NoSuchElementException" = E := by simpa using h1
      rw [if_neg (by decide), if_neg (by decide), if_pos rfl, lt'_eq]
      exact ⟨(3 : Int32), σ.2.2, rfl, h2, fun z => absurd z (by decide)⟩
theorem wr_frozenBy (σ : LT) (a : Int32) : WrR false ["java/lang/IndexOutOfBoundsException", "java/lang/IllegalStateException", "java/util/NoSuchElementException"] σ (fL_frozenBy a σ) (fX6_frozenBy a σ.1) := by
  intro x σ' hx y z ha
  rw [fL_frozenBy, hx]
  cases x with
  | inr v =>
    obtain ⟨h1, h2⟩ := ha
    rw [bx_inr, lt'_eq, lt'_eq]
    refine ⟨0, _, rfl, h1, fun _ => ?_⟩
    rw [updL_0, h2, if_neg (by decide)]
  | inl E =>
    obtain ⟨k, h1, h2⟩ := ha
    rw [bx_inl]
    have hk : k < 3 := by
      rcases Nat.lt_or_ge k 3 with q | q
      · exact q
      · rw [List.getElem?_eq_none (by simpa using q)] at h1
        cases h1
    rcases (by omega : k = 0 ∨ k = 1 ∨ k = 2) with rfl | rfl | rfl
    · obtain rfl : "java/lang/IndexOutOfBoundsException" = E := by simpa using h1
      rw [if_pos rfl, lt'_eq]
      exact ⟨(1 : Int32), σ.2.2, rfl, h2, fun z => absurd z (by decide)⟩
    · obtain rfl : "java/lang/IllegalStateException" = E := by simpa using h1
      rw [if_neg (by decide), if_pos rfl, lt'_eq]
      exact ⟨(2 : Int32), σ.2.2, rfl, h2, fun z => absurd z (by decide)⟩
    · obtain rfl : "java/util/NoSuchElementException" = E := by simpa using h1
      rw [if_neg (by decide), if_neg (by decide), if_pos rfl, lt'_eq]
      exact ⟨(3 : Int32), σ.2.2, rfl, h2, fun z => absurd z (by decide)⟩
theorem wr_auction (σ : LT) (a : Int32) : WrR false ["java/lang/IllegalArgumentException", "java/lang/IllegalStateException"] σ (fL_auction a σ) (fX6_auction a σ.1) := by
  intro x σ' hx y z ha
  rw [fL_auction, hx]
  cases x with
  | inr v =>
    obtain ⟨h1, h2⟩ := ha
    rw [bx_inr, lt'_eq, lt'_eq]
    refine ⟨0, _, rfl, h1, fun _ => ?_⟩
    rw [updL_0, h2, if_neg (by decide)]
  | inl E =>
    obtain ⟨k, h1, h2⟩ := ha
    rw [bx_inl]
    have hk : k < 2 := by
      rcases Nat.lt_or_ge k 2 with q | q
      · exact q
      · rw [List.getElem?_eq_none (by simpa using q)] at h1
        cases h1
    rcases (by omega : k = 0 ∨ k = 1) with rfl | rfl
    · obtain rfl : "java/lang/IllegalArgumentException" = E := by simpa using h1
      rw [if_pos rfl, lt'_eq]
      exact ⟨(1 : Int32), σ.2.2, rfl, h2, fun z => absurd z (by decide)⟩
    · obtain rfl : "java/lang/IllegalStateException" = E := by simpa using h1
      rw [if_neg (by decide), if_pos rfl, lt'_eq]
      exact ⟨(2 : Int32), σ.2.2, rfl, h2, fun z => absurd z (by decide)⟩
theorem wr_event (σ : LT) (a : Int32) : WrR false ["java/lang/IllegalStateException", "java/util/NoSuchElementException"] σ (fL_event a σ) (fX6_event a σ.1) := by
  intro x σ' hx y z ha
  rw [fL_event, hx]
  cases x with
  | inr v =>
    obtain ⟨h1, h2⟩ := ha
    rw [bx_inr, lt'_eq, lt'_eq]
    refine ⟨0, _, rfl, h1, fun _ => ?_⟩
    rw [updL_0, h2, if_neg (by decide)]
  | inl E =>
    obtain ⟨k, h1, h2⟩ := ha
    rw [bx_inl]
    have hk : k < 2 := by
      rcases Nat.lt_or_ge k 2 with q | q
      · exact q
      · rw [List.getElem?_eq_none (by simpa using q)] at h1
        cases h1
    rcases (by omega : k = 0 ∨ k = 1) with rfl | rfl
    · obtain rfl : "java/lang/IllegalStateException" = E := by simpa using h1
      rw [if_pos rfl, lt'_eq]
      exact ⟨(1 : Int32), σ.2.2, rfl, h2, fun z => absurd z (by decide)⟩
    · obtain rfl : "java/util/NoSuchElementException" = E := by simpa using h1
      rw [if_neg (by decide), if_pos rfl, lt'_eq]
      exact ⟨(2 : Int32), σ.2.2, rfl, h2, fun z => absurd z (by decide)⟩
theorem wr_order (σ : LT) (a : Int32) : WrR false ["java/util/NoSuchElementException"] σ (fL_order a σ) (fX6_order a σ.1) := by
  intro x σ' hx y z ha
  rw [fL_order, hx]
  cases x with
  | inr v =>
    obtain ⟨h1, h2⟩ := ha
    rw [bx_inr, lt'_eq, lt'_eq]
    refine ⟨0, _, rfl, h1, fun _ => ?_⟩
    rw [updL_0, h2, if_neg (by decide)]
  | inl E =>
    obtain ⟨k, h1, h2⟩ := ha
    rw [bx_inl]
    have hk : k < 1 := by
      rcases Nat.lt_or_ge k 1 with q | q
      · exact q
      · rw [List.getElem?_eq_none (by simpa using q)] at h1
        cases h1
    obtain rfl : k = 0 := by omega
    obtain rfl : "java/util/NoSuchElementException" = E := by simpa using h1
    rw [if_pos rfl, lt'_eq]
    exact ⟨(1 : Int32), σ.2.2, rfl, h2, fun z => absurd z (by decide)⟩
theorem wr_best (σ : LT) : WrR false ["java/lang/IllegalStateException"] σ (fL_best σ) (fX6_best σ.1) := by
  intro x σ' hx y z ha
  rw [fL_best, hx]
  cases x with
  | inr v =>
    obtain ⟨h1, h2⟩ := ha
    rw [bx_inr, lt'_eq, lt'_eq]
    refine ⟨0, _, rfl, h1, fun _ => ?_⟩
    rw [updL_0, h2, if_neg (by decide)]
  | inl E =>
    obtain ⟨k, h1, h2⟩ := ha
    rw [bx_inl]
    have hk : k < 1 := by
      rcases Nat.lt_or_ge k 1 with q | q
      · exact q
      · rw [List.getElem?_eq_none (by simpa using q)] at h1
        cases h1
    obtain rfl : k = 0 := by omega
    obtain rfl : "java/lang/IllegalStateException" = E := by simpa using h1
    rw [if_pos rfl, lt'_eq]
    exact ⟨(1 : Int32), σ.2.2, rfl, h2, fun z => absurd z (by decide)⟩
theorem wr_leastLoss (σ : LT) : WrR false ["java/lang/IllegalStateException"] σ (fL_leastLoss σ) (fX6_leastLoss σ.1) := by
  intro x σ' hx y z ha
  rw [fL_leastLoss, hx]
  cases x with
  | inr v =>
    obtain ⟨h1, h2⟩ := ha
    rw [bx_inr, lt'_eq, lt'_eq]
    refine ⟨0, _, rfl, h1, fun _ => ?_⟩
    rw [updL_0, h2, if_neg (by decide)]
  | inl E =>
    obtain ⟨k, h1, h2⟩ := ha
    rw [bx_inl]
    have hk : k < 1 := by
      rcases Nat.lt_or_ge k 1 with q | q
      · exact q
      · rw [List.getElem?_eq_none (by simpa using q)] at h1
        cases h1
    obtain rfl : k = 0 := by omega
    obtain rfl : "java/lang/IllegalStateException" = E := by simpa using h1
    rw [if_pos rfl, lt'_eq]
    exact ⟨(1 : Int32), σ.2.2, rfl, h2, fun z => absurd z (by decide)⟩
theorem wr_efficiencyBits (σ : LT) : WrR false ["java/lang/IllegalStateException"] σ (fL_efficiencyBits σ) (fX6_efficiencyBits σ.1) := by
  intro x σ' hx y z ha
  rw [fL_efficiencyBits, hx]
  cases x with
  | inr v =>
    obtain ⟨h1, h2⟩ := ha
    rw [bx_inr, lt'_eq, lt'_eq]
    refine ⟨0, _, rfl, h1, fun _ => ?_⟩
    rw [updL_0, h2, if_neg (by decide)]
  | inl E =>
    obtain ⟨k, h1, h2⟩ := ha
    rw [bx_inl]
    have hk : k < 1 := by
      rcases Nat.lt_or_ge k 1 with q | q
      · exact q
      · rw [List.getElem?_eq_none (by simpa using q)] at h1
        cases h1
    obtain rfl : k = 0 := by omega
    obtain rfl : "java/lang/IllegalStateException" = E := by simpa using h1
    rw [if_pos rfl, lt'_eq]
    exact ⟨(1 : Int32), σ.2.2, rfl, h2, fun z => absurd z (by decide)⟩
theorem wr_count (σ : LT) (a : Int32) : WrR false ["java/lang/IllegalArgumentException"] σ (fL_count a σ) (fX6_count a σ.1) := by
  intro x σ' hx y z ha
  rw [fL_count, hx]
  cases x with
  | inr v =>
    obtain ⟨h1, h2⟩ := ha
    rw [bx_inr, lt'_eq, lt'_eq]
    refine ⟨0, _, rfl, h1, fun _ => ?_⟩
    rw [updL_0, h2, if_neg (by decide)]
  | inl E =>
    obtain ⟨k, h1, h2⟩ := ha
    rw [bx_inl]
    have hk : k < 1 := by
      rcases Nat.lt_or_ge k 1 with q | q
      · exact q
      · rw [List.getElem?_eq_none (by simpa using q)] at h1
        cases h1
    obtain rfl : k = 0 := by omega
    obtain rfl : "java/lang/IllegalArgumentException" = E := by simpa using h1
    rw [if_pos rfl, lt'_eq]
    exact ⟨(1 : Int32), σ.2.2, rfl, h2, fun z => absurd z (by decide)⟩
theorem wr_restore (σ : LT) : WrR false ["java/lang/IllegalStateException"] σ (fL_restore σ) (fX6_restore σ.1) := by
  intro x σ' hx y z ha
  rw [fL_restore, hx]
  cases x with
  | inr v =>
    obtain ⟨h1, h2⟩ := ha
    rw [bx_inr, lt'_eq, lt'_eq]
    refine ⟨0, _, rfl, h1, fun _ => ?_⟩
    rw [updL_0, h2, if_neg (by decide)]
  | inl E =>
    obtain ⟨k, h1, h2⟩ := ha
    rw [bx_inl]
    have hk : k < 1 := by
      rcases Nat.lt_or_ge k 1 with q | q
      · exact q
      · rw [List.getElem?_eq_none (by simpa using q)] at h1
        cases h1
    obtain rfl : k = 0 := by omega
    obtain rfl : "java/lang/IllegalStateException" = E := by simpa using h1
    rw [if_pos rfl, lt'_eq]
    exact ⟨(1 : Int32), σ.2.2, rfl, h2, fun z => absurd z (by decide)⟩
