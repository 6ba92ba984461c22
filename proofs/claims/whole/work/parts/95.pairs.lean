/-! Layer 2, 56: pairs, and setConflicts -/
def lnk (f : Nat → Nat) (a b : Nat) (on : Bool) : Nat → Nat := fun s => if s = a then (if on then f a ||| 2 ^ b else ndf (f a) (2 ^ b)) else if s = b then (if on then f b ||| 2 ^ a else ndf (f b) (2 ^ a)) else f s
def Gr1 (n : Nat) (f : Nat → Nat) : Prop := (∀ s, f s < 2 ^ n) ∧ (∀ s t, (f s).testBit t = (f t).testBit s) ∧ ∀ s, (f s).testBit s = false
theorem Gr.of1 {n : Nat} {sm nx : Nat → Nat} (hn : n ≤ 12) (h1 : Gr1 n sm) (h2 : Gr1 n nx) : Gr n sm nx := ⟨hn, h1.1, h2.1, h1.2.1, h2.2.1, h1.2.2, h2.2.2⟩
theorem Gr.to1 {n : Nat} {sm nx : Nat → Nat} (h : Gr n sm nx) : Gr1 n sm ∧ Gr1 n nx := ⟨⟨h.2.1, h.2.2.2.1, h.2.2.2.2.2.1⟩, h.2.2.1, h.2.2.2.2.1, h.2.2.2.2.2.2⟩
theorem lnk_tb {f : Nat → Nat} {a b : Nat} {on : Bool} (hab : a ≠ b) (s t : Nat) : (lnk f a b on s).testBit t = if (s = a ∧ t = b) ∨ (s = b ∧ t = a) then on else (f s).testBit t := by
  have one : ∀ x c : Nat, (if on = true then x ||| 2 ^ c else ndf x (2 ^ c)).testBit t = if t = c then on else x.testBit t := by
    intro x c
    cases on
    · simp only [Bool.false_eq_true, if_false]
      rw [ndf_testBit, tb_pow]
      by_cases z : t = c
      · rw [if_pos z, decide_eq_true z]; simp
      · rw [if_neg z, decide_eq_false z]; simp
    · simp only [if_true]
      rw [Nat.testBit_or, tb_pow]
      by_cases z : t = c
      · rw [if_pos z, decide_eq_true z]; simp
      · rw [if_neg z, decide_eq_false z]; simp
  unfold lnk
  by_cases q1 : s = a
  · rw [if_pos q1, one, q1]
    by_cases q2 : t = b
    · rw [if_pos q2, if_pos (Or.inl ⟨rfl, q2⟩)]
    · rw [if_neg q2, if_neg]
      intro y
      rcases y with ⟨-, z⟩ | ⟨z, -⟩
      · exact q2 z
      · exact hab z
  · rw [if_neg q1]
    by_cases q3 : s = b
    · rw [if_pos q3, one, q3]
      by_cases q2 : t = a
      · rw [if_pos q2, if_pos (Or.inr ⟨rfl, q2⟩)]
      · rw [if_neg q2, if_neg]
        intro y
        rcases y with ⟨z, -⟩ | ⟨-, z⟩
        · exact hab z.symm
        · exact q2 z
    · rw [if_neg q3, if_neg]
      intro y
      rcases y with ⟨z, -⟩ | ⟨z, -⟩
      · exact q1 z
      · exact q3 z
theorem lnk_ok {n : Nat} {f : Nat → Nat} (h : Gr1 n f) {a b : Nat} (ha : a < n) (hb : b < n) (hab : a ≠ b) (on : Bool) : Gr1 n (lnk f a b on) := by
  refine ⟨fun s => lt_of_tb fun t ht => ?_, fun s t => ?_, fun s => ?_⟩
  · rw [lnk_tb hab] at ht
    split at ht
    · next q => rcases q with ⟨-, z⟩ | ⟨-, z⟩ <;> omega
    · exact tb_lt (h.1 s) ht
  · rw [lnk_tb hab, lnk_tb hab, h.2.1 s t]
    by_cases q : (s = a ∧ t = b) ∨ (s = b ∧ t = a)
    · rw [if_pos q, if_pos (by omega)]
    · rw [if_neg q, if_neg (by omega)]
  · rw [lnk_tb hab, if_neg (by omega)]
    exact h.2.2 s
theorem link_eq {n : Nat} (hn : n ≤ 12) {f : Nat → Nat} {a b : Nat} (ha : a < n) (hb : b < n) (hab : a ≠ b) (on : Bool) {σ : Sg} : (∀ s, s < 12 → σ 23 s = nI (f s)) →
    ∃ τ, fX2_link_23 (nI a) (nI b) (if on then 1 else 0) σ = some ((), τ) ∧ (∀ k, k ≠ 23 → τ k = σ k) ∧ ∀ s, s < 12 → τ 23 s = nI (lnk f a b on s) := by
  intro h
  rw [fX2_link_23]
  cases on
  · rw [if_pos (by decide), gd_of (inb_ok (by omega) (by omega)), gd_of (inb_ok (by omega) (by omega)), lt'_eq, gd_of (inb_ok (by omega) (by omega)), gd_of (inb_ok (by omega) (by omega)), lt'_eq, zI_clamp (by omega), zI_clamp (by omega), h a (by omega), sup_self, upd_app, if_neg (by omega), h b (by omega), zI_one_shl (by omega), zI_one_shl (by omega), zI_ndf, zI_ndf]
    refine ⟨_, rfl, fun k hk => by rw [sup_ne hk, sup_ne hk], fun s hs => ?_⟩
    rw [sup_self, upd_app, sup_self, upd_app]
    unfold lnk
    by_cases q1 : s = a
    · rw [if_neg (show ¬ s = b by omega), if_pos q1, if_pos q1]; rfl
    · rw [if_neg q1, if_neg q1]
      by_cases q2 : s = b
      · rw [if_pos q2, if_pos q2]; rfl
      · rw [if_neg q2, if_neg q2]; exact h s hs
  · rw [if_neg (by decide), gd_of (inb_ok (by omega) (by omega)), gd_of (inb_ok (by omega) (by omega)), lt'_eq, gd_of (inb_ok (by omega) (by omega)), gd_of (inb_ok (by omega) (by omega)), lt'_eq, zI_clamp (by omega), zI_clamp (by omega), h a (by omega), sup_self, upd_app, if_neg (by omega), h b (by omega), zI_one_shl (by omega), zI_one_shl (by omega), zI_or, zI_or]
    refine ⟨_, rfl, fun k hk => by rw [sup_ne hk, sup_ne hk], fun s hs => ?_⟩
    rw [sup_self, upd_app, sup_self, upd_app]
    unfold lnk
    by_cases q1 : s = a
    · rw [if_neg (show ¬ s = b by omega), if_pos q1, if_pos q1]; rfl
    · rw [if_neg q1, if_neg q1]
      by_cases q2 : s = b
      · rw [if_pos q2, if_pos q2]; rfl
      · rw [if_neg q2, if_neg q2]; exact h s hs
theorem link24_eq {n : Nat} (hn : n ≤ 12) {f : Nat → Nat} {a b : Nat} (ha : a < n) (hb : b < n) (hab : a ≠ b) (on : Bool) {σ : Sg} : (∀ s, s < 12 → σ 24 s = nI (f s)) →
    ∃ τ, fX2_link_24 (nI a) (nI b) (if on then 1 else 0) σ = some ((), τ) ∧ (∀ k, k ≠ 24 → τ k = σ k) ∧ ∀ s, s < 12 → τ 24 s = nI (lnk f a b on s) := by
  intro h
  rw [fX2_link_24]
  cases on
  · rw [if_pos (by decide), gd_of (inb_ok (by omega) (by omega)), gd_of (inb_ok (by omega) (by omega)), lt'_eq, gd_of (inb_ok (by omega) (by omega)), gd_of (inb_ok (by omega) (by omega)), lt'_eq, zI_clamp (by omega), zI_clamp (by omega), h a (by omega), sup_self, upd_app, if_neg (by omega), h b (by omega), zI_one_shl (by omega), zI_one_shl (by omega), zI_ndf, zI_ndf]
    refine ⟨_, rfl, fun k hk => by rw [sup_ne hk, sup_ne hk], fun s hs => ?_⟩
    rw [sup_self, upd_app, sup_self, upd_app]
    unfold lnk
    by_cases q1 : s = a
    · rw [if_neg (show ¬ s = b by omega), if_pos q1, if_pos q1]; rfl
    · rw [if_neg q1, if_neg q1]
      by_cases q2 : s = b
      · rw [if_pos q2, if_pos q2]; rfl
      · rw [if_neg q2, if_neg q2]; exact h s hs
  · rw [if_neg (by decide), gd_of (inb_ok (by omega) (by omega)), gd_of (inb_ok (by omega) (by omega)), lt'_eq, gd_of (inb_ok (by omega) (by omega)), gd_of (inb_ok (by omega) (by omega)), lt'_eq, zI_clamp (by omega), zI_clamp (by omega), h a (by omega), sup_self, upd_app, if_neg (by omega), h b (by omega), zI_one_shl (by omega), zI_one_shl (by omega), zI_or, zI_or]
    refine ⟨_, rfl, fun k hk => by rw [sup_ne hk, sup_ne hk], fun s hs => ?_⟩
    rw [sup_self, upd_app, sup_self, upd_app]
    unfold lnk
    by_cases q1 : s = a
    · rw [if_neg (show ¬ s = b by omega), if_pos q1, if_pos q1]; rfl
    · rw [if_neg q1, if_neg q1]
      by_cases q2 : s = b
      · rw [if_pos q2, if_pos q2]; rfl
      · rw [if_neg q2, if_neg q2]; exact h s hs
theorem set4_eq {n : Nat} (hn : n ≤ 12) {f : Nat → Nat} {a b : Nat} (ha : a < n) (hb : b < n) (hab : a ≠ b) (on : Bool) {σ : Sg} : (∀ s, s < n → σ 4 s = nI (f s)) →
    ∃ τ, fX7_set_0_4 (nI a) (nI b) (if on then 1 else 0) σ = some ((), τ) ∧ (∀ k, k ≠ 4 → τ k = σ k) ∧ ∀ s, s < n → τ 4 s = nI (lnk f a b on s) := by
  intro h
  cases on
  · show ∃ τ, fX7_set_0_4 (nI a) (nI b) 0 σ = some ((), τ) ∧ _
    rw [fX7_set_0_4]
    simp only [jp_eq]
    rw [if_pos (by decide), gd_of (inb_ok (show a < 12 by omega) (by omega)), gd_of (inb_ok (show a < 12 by omega) (by omega)), lt'_eq, if_pos (by decide), gd_of (inb_ok (show b < 12 by omega) (by omega)), gd_of (inb_ok (show b < 12 by omega) (by omega)), lt'_eq, zI_clamp (show a < 2 ^ 31 by omega), zI_clamp (show b < 2 ^ 31 by omega), h a (by omega), sup_self, upd_app, if_neg (by omega), h b (by omega), zI_one_shl (by omega), zI_one_shl (by omega), zI_ndf, zI_ndf]
    refine ⟨_, rfl, fun k hk => by rw [sup_ne hk, sup_ne hk], fun s hs => ?_⟩
    rw [sup_self, upd_app, sup_self, upd_app]
    unfold lnk
    by_cases q1 : s = a
    · rw [if_neg (show ¬ s = b by omega), if_pos q1, if_pos q1]; rfl
    · rw [if_neg q1, if_neg q1]
      by_cases q2 : s = b
      · rw [if_pos q2, if_pos q2]; rfl
      · rw [if_neg q2, if_neg q2]; exact h s hs
  · show ∃ τ, fX7_set_0_4 (nI a) (nI b) 1 σ = some ((), τ) ∧ _
    rw [fX7_set_0_4]
    simp only [jp_eq]
    rw [if_neg (by decide), gd_of (inb_ok (show a < 12 by omega) (by omega)), gd_of (inb_ok (show a < 12 by omega) (by omega)), lt'_eq, if_neg (by decide), gd_of (inb_ok (show b < 12 by omega) (by omega)), gd_of (inb_ok (show b < 12 by omega) (by omega)), lt'_eq, zI_clamp (show a < 2 ^ 31 by omega), zI_clamp (show b < 2 ^ 31 by omega), h a (by omega), sup_self, upd_app, if_neg (by omega), h b (by omega), zI_one_shl (by omega), zI_one_shl (by omega), zI_or, zI_or]
    refine ⟨_, rfl, fun k hk => by rw [sup_ne hk, sup_ne hk], fun s hs => ?_⟩
    rw [sup_self, upd_app, sup_self, upd_app]
    unfold lnk
    by_cases q1 : s = a
    · rw [if_neg (show ¬ s = b by omega), if_pos q1, if_pos q1]; rfl
    · rw [if_neg q1, if_neg q1]
      by_cases q2 : s = b
      · rw [if_pos q2, if_pos q2]; rfl
      · rw [if_neg q2, if_neg q2]; exact h s hs
theorem set5_eq {n : Nat} (hn : n ≤ 12) {f : Nat → Nat} {a b : Nat} (ha : a < n) (hb : b < n) (hab : a ≠ b) (on : Bool) {σ : Sg} : (∀ s, s < n → σ 5 s = nI (f s)) →
    ∃ τ, fX7_set_0_5 (nI a) (nI b) (if on then 1 else 0) σ = some ((), τ) ∧ (∀ k, k ≠ 5 → τ k = σ k) ∧ ∀ s, s < n → τ 5 s = nI (lnk f a b on s) := by
  intro h
  cases on
  · show ∃ τ, fX7_set_0_5 (nI a) (nI b) 0 σ = some ((), τ) ∧ _
    rw [fX7_set_0_5]
    simp only [jp_eq]
    rw [if_pos (by decide), gd_of (inb_ok (show a < 12 by omega) (by omega)), gd_of (inb_ok (show a < 12 by omega) (by omega)), lt'_eq, if_pos (by decide), gd_of (inb_ok (show b < 12 by omega) (by omega)), gd_of (inb_ok (show b < 12 by omega) (by omega)), lt'_eq, zI_clamp (show a < 2 ^ 31 by omega), zI_clamp (show b < 2 ^ 31 by omega), h a (by omega), sup_self, upd_app, if_neg (by omega), h b (by omega), zI_one_shl (by omega), zI_one_shl (by omega), zI_ndf, zI_ndf]
    refine ⟨_, rfl, fun k hk => by rw [sup_ne hk, sup_ne hk], fun s hs => ?_⟩
    rw [sup_self, upd_app, sup_self, upd_app]
    unfold lnk
    by_cases q1 : s = a
    · rw [if_neg (show ¬ s = b by omega), if_pos q1, if_pos q1]; rfl
    · rw [if_neg q1, if_neg q1]
      by_cases q2 : s = b
      · rw [if_pos q2, if_pos q2]; rfl
      · rw [if_neg q2, if_neg q2]; exact h s hs
  · show ∃ τ, fX7_set_0_5 (nI a) (nI b) 1 σ = some ((), τ) ∧ _
    rw [fX7_set_0_5]
    simp only [jp_eq]
    rw [if_neg (by decide), gd_of (inb_ok (show a < 12 by omega) (by omega)), gd_of (inb_ok (show a < 12 by omega) (by omega)), lt'_eq, if_neg (by decide), gd_of (inb_ok (show b < 12 by omega) (by omega)), gd_of (inb_ok (show b < 12 by omega) (by omega)), lt'_eq, zI_clamp (show a < 2 ^ 31 by omega), zI_clamp (show b < 2 ^ 31 by omega), h a (by omega), sup_self, upd_app, if_neg (by omega), h b (by omega), zI_one_shl (by omega), zI_one_shl (by omega), zI_or, zI_or]
    refine ⟨_, rfl, fun k hk => by rw [sup_ne hk, sup_ne hk], fun s hs => ?_⟩
    rw [sup_self, upd_app, sup_self, upd_app]
    unfold lnk
    by_cases q1 : s = a
    · rw [if_neg (show ¬ s = b by omega), if_pos q1, if_pos q1]; rfl
    · rw [if_neg q1, if_neg q1]
      by_cases q2 : s = b
      · rw [if_pos q2, if_pos q2]; rfl
      · rw [if_neg q2, if_neg q2]; exact h s hs
/-- both readers hold the same conflicts -/
def GRel (n : Nat) (sm nx : Nat → Nat) (σ τ : Sg) : Prop := Gr1 n sm ∧ Gr1 n nx ∧ (∀ s, s < 12 → σ 23 s = nI (sm s)) ∧ (∀ s, s < 12 → σ 24 s = nI (nx s)) ∧ (∀ s, s < n → τ 4 s = nI (sm s)) ∧ ∀ s, s < n → τ 5 s = nI (nx s)
def QX (σ τ : Sg) : Prop := (∀ k, k ≠ 4 → k ≠ 23 → k ≠ 24 → τ k = σ k) ∧ τ 4 3 = σ 4 3
theorem QX.refl (σ : Sg) : QX σ σ := ⟨fun _ _ _ _ => rfl, rfl⟩
theorem QX.trans {σ τ υ : Sg} (h : QX σ τ) (h2 : QX τ υ) : QX σ υ := ⟨fun k a b c => (h2.1 k a b c).trans (h.1 k a b c), h2.2.trans h.2⟩
theorem C4.qx {σ τ : Sg} (h : C4 σ τ) : QX σ τ := ⟨fun k a _ _ => h.1 k a, h.2.1⟩
def QM (σ τ : Sg) : Prop := (∀ k, k ≠ 0 → k ≠ 4 → k ≠ 5 → τ k = σ k) ∧ ∀ j, j ≠ 8 → j ≠ 10 → τ 0 j = σ 0 j
theorem QM.refl (σ : Sg) : QM σ σ := ⟨fun _ _ _ _ => rfl, fun _ _ _ => rfl⟩
theorem QM.trans {σ τ υ : Sg} (h : QM σ τ) (h2 : QM τ υ) : QM σ υ := ⟨fun k a b c => (h2.1 k a b c).trans (h.1 k a b c), fun j a b => (h2.2 j a b).trans (h.2 j a b)⟩
theorem M0.qm {σ τ : Sg} (h : M0 σ τ) : QM σ τ := ⟨fun k a _ _ => h.1 k a, h.2⟩
theorem PH.qnext {T : Nat → Nat} {L n p p' : Nat} {σ τ σ' τ' : Sg} (h : PH T L n p σ τ) (f : QX σ σ') (g : QM τ τ') (hp : p' ≤ L) (h1 : σ' 4 4 = nI p') (h2 : σ' 4 6 = -1) (h3 : τ' 0 8 = nI p') (h4 : τ' 0 10 = 0) : PH T L n p' σ' τ' := by
  obtain ⟨a1, a2, a3, a4, a5, a6, a7, a8, a9, b1, b2, b3, b4, b5⟩ := h
  refine ⟨h1, h2, f.2.trans a3, by rw [f.1 5 (by decide) (by decide) (by decide)]; exact a4, by rw [f.1 25 (by decide) (by decide) (by decide)]; exact a5, h3, h4, (g.2 7 (by decide) (by decide)).trans a8, by rw [g.1 3 (by decide) (by decide) (by decide)]; exact a9, by rw [g.1 1 (by decide) (by decide) (by decide)]; exact b1, b2, hp, b4, b5⟩
theorem GRel.cm {n : Nat} {sm nx : Nat → Nat} {σ τ σ' τ' : Sg} (h : GRel n sm nx σ τ) (f : C4 σ σ') (g : M0 τ τ') : GRel n sm nx σ' τ' := by
  obtain ⟨a1, a2, a3, a4, a5, a6⟩ := h
  exact ⟨a1, a2, by rw [f.1 23 (by decide)]; exact a3, by rw [f.1 24 (by decide)]; exact a4, by rw [g.1 4 (by decide)]; exact a5, by rw [g.1 5 (by decide)]; exact a6⟩
/-- skipping a character on both sides -/
theorem skip_both {T : Nat → Nat} {L n p : Nat} {σ τ : Sg} (h : PH T L n p σ τ) {c : Nat} (hc : 33 ≤ c) (hc2 : c ≤ 126) :
    ∃ on : Bool, ∃ p' σ' τ', p ≤ p' ∧ fX2_skip (nI c) σ = some (if on then 1 else 0, σ') ∧ fX7_passes (nI c) τ = some (if on then 1 else 0, τ') ∧ C4 σ σ' ∧ M0 τ τ' ∧ PH T L n p' σ' τ' ∧ (on = true ↔ p < L ∧ T p = c) ∧ (on = true → p' = p + 1) := by
  rw [skip_eq h hc hc2, passes_eq h hc2]
  by_cases z : p < L ∧ T p = c
  · rw [if_pos z, if_pos z]
    refine ⟨true, p + 1, _, _, by omega, rfl, rfl, C4.s (Or.inl rfl), M0.s (Or.inl rfl), h.next (C4.s (Or.inl rfl)) (M0.s (Or.inl rfl)) (by omega) (by rw [sup_self, upd_app, if_pos rfl]) (by rw [sup_self, upd_app, if_neg (by decide)]; exact h.2.1) (by rw [sup_self, upd_app, if_pos rfl]) (by rw [sup_self, upd_app, if_neg (by decide)]; exact h.2.2.2.2.2.2.1), ⟨fun _ => z, fun _ => rfl⟩, fun _ => rfl⟩
  · rw [if_neg z, if_neg z]
    exact ⟨false, p, _, _, Nat.le_refl p, rfl, rfl, C4.refl σ, M0.refl τ, h, ⟨fun y => absurd y (by decide), fun y => absurd y z⟩, fun y => absurd y (by decide)⟩
def PairR (T : Nat → Nat) (L n p : Nat) (σ τ : Sg) : Prop :=
  (∃ p' sm' nx' σ' τ', p + 3 ≤ p' ∧ fX2_readPair σ = some (1, σ') ∧ fX7_readPair τ = some ((), τ') ∧ QX σ σ' ∧ QM τ τ' ∧ PH T L n p' σ' τ' ∧ GRel n sm' nx' σ' τ' ∧ σ' 4 5 = σ 4 5 + 1) ∨
  (∃ e σ' τ', e ≤ 40 ∧ fX2_readPair σ = some (0, σ') ∧ fX7_readPair τ = some ((), τ') ∧ QX σ σ' ∧ QM τ τ' ∧ σ' 4 6 = nI e ∧ τ' 0 8 = nI e ∧ τ' 0 10 = 1)
theorem pair_both {T : Nat → Nat} {L n p : Nat} {sm nx : Nat → Nat} {σ τ : Sg} (h : PH T L n p σ τ) (hg : GRel n sm nx σ τ) : PairR T L n p σ τ := by
  have hn := h.2.2.2.2.2.2.2.2.2.2.2.2.2
  unfold PairR
  rw [fX2_readPair, fX7_readPair]
  simp only [jp_eq]
  rcases sta_both h (-1) with ⟨v, p1, σ1, τ1, v1, v2, v3, v4, e1, e2, c1, m1, k1, k2, k3, k4⟩ | ⟨e, w, σ1, τ1, v1, e1, e2, c1, m1, k1, k2, k3⟩
  · have h1 := h.next c1 m1 v4 k1 k2 k3 k4
    obtain ⟨on, p2, σ2, τ2, u1, e3, e4, c2, m2, h2, o1, o2⟩ := skip_both h1 (c := 45) (by decide) (by decide)
    rw [e1, bd_some, e2, bd_some, if_pos (zI_ge0 (by omega)), show (45 : Int32) = nI 45 from rfl, e3, bd_some, e4, bd_some, k4]
    cases on with
    | false =>
      have s1 : (if false = true then (1 : Int32) else 0) = 0 := rfl
      rw [s1, if_pos rfl, if_pos rfl, gd_of (by decide), lt'_eq, lt'_eq]
      have hw : (sup τ2 0 10 ((0 : Int32) ||| 1)) 0 10 = 1 := by rw [sup_self, upd_app, if_pos rfl]; rfl
      rw [hw, if_neg n10, passes_wrong hw, bd_some, passes_wrong hw, bd_some, hw, if_neg n10]
      refine Or.inr ⟨p2, _, _, by have := h2.2.2.2.2.2.2.2.2.2.2.2; omega, rfl, rfl, ((c1.trans c2).trans (C4.s (Or.inr rfl))).qx, ((m1.trans m2).trans (M0.s (Or.inr rfl))).qm, ?_, ?_, hw⟩
      · rw [sup_self, upd_app, if_pos rfl]; exact h2.1
      · rw [sup_self, upd_app, if_neg (by decide)]; exact h2.2.2.2.2.2.1
    | true =>
      have s1 : (if true = true then (1 : Int32) else 0) = 1 := rfl
      have p2e := o2 rfl
      have hw0 : τ2 0 10 = 0 := h2.2.2.2.2.2.2.1
      have e0 : sup τ2 0 10 ((0 : Int32) ||| 0) = τ2 := by
        rw [show (0 : Int32) ||| 0 = τ2 0 10 by rw [hw0]; rfl, sup_same]
      rw [s1, if_neg n10, if_neg n10, gd_of (by decide), lt'_eq, e0, hw0, if_pos (show (0 : Int32) = 0 from rfl)]
      rcases sta_both h2 (nI v) with ⟨v', p3, σ3, τ3, w1, w2, w3, w4, e5, e6, c3, m3, l1, l2, l3, l4⟩ | ⟨e, w', σ3, τ3, w1, e5, e6, c3, m3, l1, l2, l3⟩
      · have h3 := h2.next c3 m3 w4 l1 l2 l3 l4
        have hne : v ≠ v' := fun z => w2 (by rw [z])
        obtain ⟨onc, p4, σ4, τ4, u4, e7, e8, c4, m4, h4, -, -⟩ := skip_both h3 (c := 99) (by decide) (by decide)
        have hg4 := (((hg.cm c1 m1).cm c2 m2).cm c3 m3).cm c4 m4
        obtain ⟨σ5, e9, f5, g5⟩ := link_eq hn v1 w1 hne onc hg4.2.2.1
        -- the reference passes the second letter before it sets
        have h4' : PH T L n p4 σ5 τ4 := by
          have a := h4
          unfold PH at a ⊢
          rw [f5 4 (by decide), f5 5 (by decide), f5 25 (by decide)]
          exact a
        obtain ⟨ona, p5, σ6, τ6, u6, e10, e11, c6, m6, h6, -, -⟩ := skip_both h4' (c := 97) (by decide) (by decide)
        have n24 : ∀ s, s < 12 → σ6 24 s = nI (nx s) := by
          rw [c6.1 24 (by decide), f5 24 (by decide)]
          exact hg4.2.2.2.1
        obtain ⟨σ7, e12, f7, g7⟩ := link24_eq hn v1 w1 hne ona n24
        have n4 : ∀ s, s < n → τ6 4 s = nI (sm s) := by rw [m6.1 4 (by decide)]; exact hg4.2.2.2.2.1
        obtain ⟨τ8, e13, f8, g8⟩ := set4_eq hn v1 w1 hne onc n4
        have n5 : ∀ s, s < n → τ8 5 s = nI (nx s) := by rw [f8 5 (by decide), m6.1 5 (by decide)]; exact hg4.2.2.2.2.2
        obtain ⟨τ9, e14, f9, g9⟩ := set5_eq hn v1 w1 hne ona n5
        have hw6 : τ6 0 10 = 0 := h6.2.2.2.2.2.2.1
        rw [e5, bd_some, if_pos (zI_ge0 (by omega)), show (99 : Int32) = nI 99 from rfl, e7, bd_some, e9, bd_some, show (97 : Int32) = nI 97 from rfl, e10, bd_some, e12, bd_some, lt'_eq, e6, bd_some, e8, bd_some, e11, bd_some, hw6, if_pos (show (0 : Int32) = 0 from rfl), e13, bd_some, e14, bd_some]
        have qx : QX σ (sup σ7 4 5 (σ7 4 5 + 1)) := by
          refine ((((c1.trans c2).trans c3).trans c4).qx.trans ⟨fun k a b c => ?_, ?_⟩)
          · rw [sup_ne a, f7 k c, c6.1 k a, f5 k b]
          · rw [sup_self, upd_app, if_neg (by decide), f7 4 (by decide), c6.2.1, f5 4 (by decide)]
        have qm : QM τ τ9 := by
          refine ((((m1.trans m2).trans m3).trans m4).trans m6).qm.trans ⟨fun k a b c => ?_, fun j a b => ?_⟩
          · rw [f9 k c, f8 k b]
          · rw [f9 0 (by decide), f8 0 (by decide)]
        have hp5 := h6.2.2.2.2.2.2.2.2.2.2.2.1
        refine Or.inl ⟨p5, lnk sm v v' onc, lnk nx v v' ona, _, _, by omega, rfl, rfl, qx, qm, h.qnext qx qm hp5 ?_ ?_ ?_ ?_, ⟨lnk_ok hg.1 v1 w1 hne onc, lnk_ok hg.2.1 v1 w1 hne ona, ?_, ?_, ?_, g9⟩, ?_⟩
        · rw [sup_self, upd_app, if_neg (by decide), f7 4 (by decide)]; exact h6.1
        · rw [sup_self, upd_app, if_neg (by decide), f7 4 (by decide)]; exact h6.2.1
        · rw [f9 0 (by decide), f8 0 (by decide)]; exact h6.2.2.2.2.2.1
        · rw [f9 0 (by decide), f8 0 (by decide)]; exact hw6
        · intro s hs
          rw [sup_ne (by decide), f7 23 (by decide), c6.1 23 (by decide)]
          exact g5 s hs
        · intro s hs
          rw [sup_ne (by decide)]
          exact g7 s hs
        · intro s hs
          rw [f9 4 (by decide)]
          exact g8 s hs
        · rw [sup_self, upd_app, if_pos rfl, f7 4 (by decide), c6.2.2, f5 4 (by decide), c4.2.2, c3.2.2, c2.2.2, c1.2.2]
      · rw [e5, bd_some, if_neg (show ¬ (0 : Int32) ≤ -1 by decide), e6, bd_some, passes_wrong l3, bd_some, passes_wrong l3, bd_some, l3, if_neg n10]
        exact Or.inr ⟨e, σ3, τ3, w1, rfl, rfl, ((c1.trans c2).trans c3).qx, ((m1.trans m2).trans m3).qm, l1, l2, l3⟩
  · have hs : sup τ1 0 10 ((1 : Int32) ||| 1) = τ1 := by
      rw [show (1 : Int32) ||| 1 = τ1 0 10 by rw [k3]; rfl, sup_same]
    rw [e1, bd_some, if_neg (show ¬ (0 : Int32) ≤ -1 by decide), e2, bd_some, passes_wrong k3, bd_some, if_pos (show (0 : Int32) = 0 from rfl), k3, gd_of (by decide), lt'_eq, hs, k3, if_neg n10, passes_wrong k3, bd_some, passes_wrong k3, bd_some, k3, if_neg n10]
    exact Or.inr ⟨e, σ1, τ1, v1, rfl, rfl, c1.qx, m1.qm, k1, k2, k3⟩
