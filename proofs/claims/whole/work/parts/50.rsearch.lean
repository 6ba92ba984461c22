/-! Layer 2, 11: the reference's search -/
theorem low_all : (List.range 4096).all (fun x => decide (x = 0 ∨ (pc (x &&& (x - 1)) + 1 = pc x))) = true := by decide +kernel
theorem cb_loop {x : Nat} (σ : Sg) : ∀ fuel t y, y < 2 ^ 12 → pc y < fuel → t + pc y = x → fX7_countBits_4 fuel (nI t) (nI y) σ = some (nI x, σ) := by
  intro fuel
  induction fuel with
  | zero => intro t y _ h; omega
  | succ f ih =>
    intro t y hy hf ht
    rw [fX7_countBits_4, if_eq0 (lt12_31 hy)]
    by_cases q : y = 0
    · rw [if_pos q]
      rw [q, pc_zero] at ht
      rw [show t = x by omega]
    · rw [if_neg q, lt'_eq, show nI y - 1 = nI (y - 1) from zI_sub (b := 1) (by omega), zI_and, zs_add]
      have h := of_decide_eq_true (allR low_all hy)
      rcases h with h | h
      · exact absurd h q
      · exact ih (t + 1) (y &&& (y - 1)) (and_lt hy) (by omega) (by omega)
theorem cb_eq {x : Nat} (h : x < 2 ^ 12) (σ : Sg) : fX7_countBits (nI x) σ = some (nI (pc x), σ) := by
  have := pc_le12 x
  rw [fX7_countBits, show (0 : Int32) = nI 0 from rfl]
  exact cb_loop σ FU 0 x h (by unfold FU; omega) (by omega)
/-- what the reference's searches find in the state -/
def RsP (n : Nat) (sm nx : Nat → Nat) (σ : Sg) : Prop := σ 1 0 = nI n ∧ ∀ s, s < n → σ 1 (64 + s) = nI (sm s) ∧ σ 1 (76 + s) = nI (nx s)
def RsF (d : Nat) (σ τ : Sg) : Prop := (∀ k, k ≠ 0 → ¬(10 + d < k ∧ k ≤ 22) → τ k = σ k) ∧ ∀ j, j ≠ 14 → τ 0 j = σ 0 j
theorem RsF.refl (d : Nat) (σ : Sg) : RsF d σ σ := ⟨fun _ _ _ => rfl, fun _ _ => rfl⟩
theorem RsF.trans {d : Nat} {σ τ υ : Sg} (h : RsF d σ τ) (h2 : RsF d τ υ) : RsF d σ υ := ⟨fun k a b => (h2.1 k a b).trans (h.1 k a b), fun j a => (h2.2 j a).trans (h.2 j a)⟩
theorem RsF.up {d : Nat} {σ τ : Sg} (h : RsF (d + 1) σ τ) : RsF d σ τ := ⟨fun k a b => h.1 k a (fun q => b (by omega)), h.2⟩
theorem RsP.frame {n : Nat} {sm nx : Nat → Nat} {d : Nat} {σ τ : Sg} (h : RsP n sm nx σ) (hf : RsF d σ τ) : RsP n sm nx τ := by
  unfold RsP at h ⊢
  rw [hf.1 1 (by decide) (by omega)]; exact h
theorem rtight_loop {n : Nat} (hn : n ≤ 12) {d S : Nat} (hd : d < 13) (hS : S < 2 ^ n) (hS0 : S ≠ 0) {σ : Sg} (h6 : σ 1 0 = nI n) (hl : ∀ s, s < n → ∃ x, x < 2 ^ 8 ∧ σ (10 + d) s = nI x) :
    ∀ k i fuel (x1 : Int32), i + k = n → k < fuel → ((∃ s, s < n ∧ S.testBit s = true ∧ x1 = nI s) ∨ ((∀ j, j < i → S.testBit j = false) ∧ x1 = -1)) →
    ∃ s, s < n ∧ S.testBit s = true ∧ fX7_tightest_5 (nI d) (nI S) fuel x1 (nI i) σ = some (nI s, σ) := by
  have hS31 : S < 2 ^ 31 := Nat.lt_of_lt_of_le hS (Nat.pow_le_pow_right (by decide) (by omega))
  intro k
  induction k with
  | zero =>
    intro i fuel x1 hi hf hI
    obtain ⟨f, rfl, -⟩ := fuel_succ hf
    rcases hI with ⟨s, h1, h2, h3⟩ | ⟨h1, -⟩
    · refine ⟨s, h1, h2, ?_⟩
      rw [fX7_tightest_5, h6, if_le (by omega) (by omega), if_pos (by omega), h3]
    · refine absurd (Nat.eq_of_testBit_eq fun j => ?_) hS0
      rw [tb_zero]
      rcases Nat.lt_or_ge j i with q | q
      · exact h1 j q
      · exact tb_not hS (by omega)
  | succ k ih =>
    intro i fuel x1 hi hf hI
    obtain ⟨f, rfl, hf⟩ := fuel_succ hf
    rw [fX7_tightest_5, h6, if_le (by omega) (by omega), if_neg (by omega)]
    simp only [jp_eq]
    rw [if_h hS31 (by omega), zs_add]
    cases hb : S.testBit i with
    | false =>
      rw [if_neg (by decide)]
      refine ih (i + 1) f x1 (by omega) (by omega) ?_
      rcases hI with h | ⟨h1, h2⟩
      · exact Or.inl h
      · refine Or.inr ⟨fun j hj => ?_, h2⟩
        rcases Nat.lt_or_ge j i with q | q
        · exact h1 j q
        · rw [show j = i by omega]; exact hb
    | true =>
      rw [if_pos rfl]
      have hin : ∃ s, s < n ∧ S.testBit s = true ∧ fX7_tightest_5 (nI d) (nI S) f (nI i) (nI (i + 1)) σ = some (nI s, σ) :=
        ih (i + 1) f (nI i) (by omega) (by omega) (Or.inl ⟨i, by omega, hb, rfl⟩)
      rcases hI with ⟨s, h1, h2, h3⟩ | ⟨h1, h2⟩
      · subst h3
        obtain ⟨x, hx, hxe⟩ := hl i (by omega)
        obtain ⟨y, hy, hye⟩ := hl s h1
        rw [if_neg (zI_nn (by omega)), gd_of (inb_ok hd (by omega)), gd_of (inb_ok (show i < 12 by omega) (by omega)), zI_clamp (show d < 2 ^ 31 by omega), zI_clamp (show i < 2 ^ 31 by omega), hxe, cb_eq (lt8_12 hx), bd_some,
          gd_of (inb_ok hd (by omega)), gd_of (inb_ok (show s < 12 by omega) (by omega)), zI_clamp (show s < 2 ^ 31 by omega), hye, cb_eq (lt8_12 hy), bd_some]
        split
        · exact ih (i + 1) f (nI s) (by omega) (by omega) (Or.inl ⟨s, h1, h2, rfl⟩)
        · exact hin
      · rw [h2, if_pos (by decide)]
        exact hin
theorem rtight_eq {n : Nat} (hn : n ≤ 12) {d S : Nat} (hd : d < 13) (hS : S < 2 ^ n) (hS0 : S ≠ 0) {σ : Sg} (h6 : σ 1 0 = nI n) (hl : ∀ s, s < n → ∃ x, x < 2 ^ 8 ∧ σ (10 + d) s = nI x) :
    ∃ s, s < n ∧ S.testBit s = true ∧ fX7_tightest (nI d) (nI S) σ = some (nI s, σ) :=
  rtight_loop hn hd hS hS0 h6 hl n 0 FU (-1) (by omega) (by unfold FU; omega) (Or.inr ⟨fun j hj => absurd hj (Nat.not_lt_zero j), rfl⟩)
theorem rgive_loop {n : Nat} {sm nx : Nat → Nat} (hg : Gr n sm nx) {s c d : Nat} (hs : s < n) (hc : c < 8) (hd : d < 12) {left : Nat → Nat} (b l : Int32) (K : Sg → Option (Unit × Sg)) : ∀ k i fuel (σ : Sg), i + k = n → k < fuel → RsP n sm nx σ → (∀ s, s < n → σ (10 + d) s = nI (left s)) →
    fX7_search_85 (nI d) b l (nI s) (nI c) (nI (2 ^ (c + 1) ||| (2 ^ c >>> 1))) K fuel (nI i) σ = K (sst σ (10 + (d + 1)) (fun j => if i ≤ j ∧ j < n then nI (giv sm nx s c left j) else σ (10 + (d + 1)) j)) := by
  have hn := hg.1
  intro k
  induction k with
  | zero =>
    intro i fuel σ hi hf h1 h2
    obtain ⟨f', rfl, -⟩ := fuel_succ hf
    rw [fX7_search_85, h1.1, if_le (by omega) (by omega), if_pos (by omega)]
    have : (fun j => if i ≤ j ∧ j < n then nI (giv sm nx s c left j) else σ (10 + (d + 1)) j) = σ (10 + (d + 1)) := by
      funext j
      rw [if_neg (by omega)]
    rw [this, sst_id]
  | succ k ih =>
    intro i fuel σ hi hf h1 h2
    obtain ⟨f', rfl, hf⟩ := fuel_succ hf
    rw [fX7_search_85, h1.1, if_le (by omega) (by omega), if_neg (by omega)]
    simp only [jp_eq, lt'_eq]
    rw [show (64 : Int32) + nI s = nI (64 + s) from zI_add 64 s, show (76 : Int32) + nI s = nI (76 + s) from zI_add 76 s, gd_of (inb_ok (show 64 + s < 2764 by omega) (by omega)), zI_clamp (show 64 + s < 2 ^ 31 by omega), zI_clamp (show 76 + s < 2 ^ 31 by omega), (h1.2 s hs).1, (h1.2 s hs).2,
      if_h (hg.lt31 (hg.2.1 s)) (by omega), zs_add, zs_add]
    simp only [gd_of (inb_ok (show 76 + s < 2764 by omega) (show 76 + s < 2 ^ 31 by omega))]
    rw [if_h (hg.lt31 (hg.2.2.1 s)) (by omega), if_h (hg.lt31 (hg.2.2.1 s)) (by omega), zI_one_shl (by omega), show (0 : Int32) = nI 0 from rfl, zI_or, zI_or, zI_or, zI_or]
    have tail : ∀ y : Nat, y = (if (sm s).testBit i then 2 ^ c else 0) ||| (if (nx s).testBit i then (2 ^ (c + 1) ||| (2 ^ c >>> 1)) else 0) →
        (gd (inb (nI (d + 1)) 13) (gd (inb (nI d) 13) (gd (inb (nI i) 12) (gd (inb (nI i) 12) (fX7_search_85 (nI d) b l (nI s) (nI c) (nI (2 ^ (c + 1) ||| (2 ^ c >>> 1))) K f' (nI (i + 1)) (sup σ (10 + (nI (d + 1)).toNatClampNeg) (nI i).toNatClampNeg ((σ (10 + (nI d).toNatClampNeg) (nI i).toNatClampNeg) &&& (nI y ^^^ (-1 : Int32)))))))))
        = K (sst σ (10 + (d + 1)) (fun j => if i ≤ j ∧ j < n then nI (giv sm nx s c left j) else σ (10 + (d + 1)) j)) := by
      intro y hy
      rw [gd_of (inb_ok (by omega) (by omega)), gd_of (inb_ok (by omega) (by omega)), gd_of (inb_ok (by omega) (by omega)), gd_of (inb_ok (by omega) (by omega)), zI_clamp (by omega), zI_clamp (by omega), zI_clamp (by omega), h2 i (by omega), zI_ndf, hy]
      rw [ih (i + 1) f' _ (by omega) (by omega) ⟨by rw [sup_ne (by omega)]; exact h1.1, fun s hs => by rw [sup_ne (by omega)]; exact h1.2 s hs⟩ (fun s hs => by rw [sup_ne (by omega)]; exact h2 s hs)]
      congr 1
      rw [sst_sup]
      congr 1
      funext j
      rw [sup_self, upd_app]
      by_cases q : j = i
      · subst q
        rw [if_neg (show ¬(j + 1 ≤ j ∧ j < n) by omega), if_pos (show j = j from rfl), if_pos (show j ≤ j ∧ j < n by omega)]; rfl
      · rw [if_neg q]
        by_cases q2 : i ≤ j ∧ j < n
        · rw [if_pos q2, if_pos (by omega)]
        · rw [if_neg q2, if_neg (by omega)]
    cases q1 : (sm s).testBit i <;> cases q2 : (nx s).testBit i
    · rw [if_neg (by decide), if_neg (by decide)]
      exact tail _ (by rw [q1, q2]; simp)
    · rw [if_neg (by decide), if_pos rfl]
      exact tail _ (by rw [q1, q2, if_neg (by decide), if_pos rfl])
    · rw [if_pos rfl, if_neg (by decide)]
      exact tail _ (by rw [q1, q2, if_pos rfl, if_neg (by decide)])
    · rw [if_pos rfl, if_pos rfl]
      exact tail _ (by rw [q1, q2, if_pos rfl, if_pos rfl])
