/-! Layer 2, 52: save and restore -/
theorem cpy_lt {f g : Nat → Int32} {n k : Nat} (h : k < n) : va_cpy f g 0 0 n k = f k := by
  unfold va_cpy
  rw [if_pos (by omega), show 0 + (k - 0) = k by omega]
theorem ClsM.copy {f r f' r' : Nat} {σ σ' : Sg} {M : Mk} (h : ClsM f r σ M) (hn : M.n ≤ 12) (e : ∀ i, i = 6 ∨ i = 7 ∨ i = 8 → σ' f' i = σ f i) (e2 : ∀ j, j < 6 → ∀ s, s < 12 → σ' (r' + j) s = σ (r + j) s) : ClsM f' r' σ' M := by
  obtain ⟨g1, g2, g3, g4, g5⟩ := h
  refine ⟨(e 6 (by omega)).trans g1, (e 7 (by omega)).trans g2, (e 8 (by omega)).trans g3, fun s hs => ?_, fun s hs => ?_⟩
  · obtain ⟨a1, a2, a3, a4⟩ := g4 s hs
    exact ⟨(e2 0 (by decide) s (by omega)).trans a1, (e2 1 (by decide) s (by omega)).trans a2, (e2 2 (by decide) s (by omega)).trans a3, (e2 3 (by decide) s (by omega)).trans a4⟩
  · obtain ⟨a1, a2⟩ := g5 s hs
    exact ⟨(e2 4 (by decide) s hs).trans a1, (e2 5 (by decide) s hs).trans a2⟩
theorem AucX.copy {f r f' r' : Nat} {σ σ' : Sg} {M : Mk} (hM : M.WF) {A : Au} (hA : AucOK M A) (h : AucX f r σ M A) (e : ∀ i, 4 ≤ i → i ≤ 9 → σ' f' i = σ f i) (e1 : ∀ k, k < 101 → σ' r' k = σ r k) (e2 : ∀ j, 1 ≤ j → j ≤ 3 → ∀ s, s < 12 → σ' (r' + j) s = σ (r + j) s) : AucX f' r' σ' M A := by
  have hn := hM.1.1
  have hnow := hA.1
  have hm := ev_le hM hA.2.2.2.2.1
  obtain ⟨g5, g6, g7, g8, g9, gb, gp, ge⟩ := h
  refine ⟨(e 5 (by decide) (by decide)).trans g5, (e 6 (by decide) (by decide)).trans g6, (e 7 (by decide) (by decide)).trans g7, (e 8 (by decide) (by decide)).trans g8, (e 9 (by decide) (by decide)).trans g9, fun k hk => (e1 k (by omega)).trans (gb k hk), fun s hs => ?_, fun k hk => ?_⟩
  · have := tb_lt hM.2.2.1 hs
    exact (e2 1 (by decide) (by decide) s (by omega)).trans (gp s hs)
  · have hst := tb_lt (bidk_lt hM k) (hA.2.2.2.2.1 k hk).1
    rw [e2 2 (by decide) (by decide) _ (by omega), e2 3 (by decide) (by decide) _ (by omega)]
    exact ge k hk
theorem AucM.copy {g g' : Nat → Int32} {M : Mk} (hM : M.WF) {A : Au} (hA : AucOK M A) (h : AucM g M A) (e : ∀ j, j < 2764 → g' j = g j) : AucM g' M A := by
  have hn := hM.1.1
  have hnow := hA.1
  have hm := ev_le hM hA.2.2.2.2.1
  obtain ⟨g3, gr, gp, gc, ge⟩ := h
  refine ⟨(e 3 (by omega)).trans g3, fun i hi => ?_, fun i hi s hs => ?_, fun s hs => ?_, fun i hi => ?_⟩
  · obtain ⟨a1, a2, a3⟩ := gr i hi
    refine ⟨(e _ (by omega)).trans a1, (e _ (by omega)).trans a2, fun s hs => ?_⟩
    rw [e _ (by omega)]
    exact a3 s hs
  · have := tb_lt hM.2.2.1 hs
    rw [e _ (by omega)]
    exact gp i hi s hs
  · have := tb_lt hM.2.2.1 hs
    rw [e _ (by omega)]
    exact gc s hs
  · have hst := tb_lt (bidk_lt hM i) (hA.2.2.2.2.1 i hi).1
    rw [e _ (by omega), e _ (by omega)]
    exact ge i hi
theorem KnR.copy {f r f' r' : Nat} {σ σ' : Sg} {g g' : Nat → Int32} {M : Mk} (hM : M.WF) (h : KnR f r σ g M) (e : ∀ i, 4 ≤ i → i ≤ 9 → σ' f' i = σ f i) (e1 : ∀ k, k < 101 → σ' r' k = σ r k) (e2 : ∀ j, 1 ≤ j → j ≤ 3 → ∀ s, s < 12 → σ' (r' + j) s = σ (r + j) s) (eg : ∀ j, j < 2764 → g' j = g j) : KnR f' r' σ' g' M := by
  rcases h with ⟨a, b⟩ | ⟨a, b, A, c1, c2, c3, c4, c5⟩
  · exact Or.inl ⟨(e 4 (by decide) (by decide)).trans a, (eg 2 (by decide)).trans b⟩
  · exact Or.inr ⟨(e 4 (by decide) (by decide)).trans a, (eg 2 (by decide)).trans b, A, c1, c2, c3.copy hM c1 e e1 e2, c4.copy hM c1 eg, c5⟩
theorem cp12_loop : ∀ k i fuel (σ : Sg), i + k = 2764 → k < fuel → fX7_copy_1_2_2 fuel (nI i) σ = some ((), sst σ 2 (fun j => if i ≤ j ∧ j < 2764 then σ 1 j else σ 2 j)) := by
  intro k
  induction k with
  | zero =>
    intro i fuel σ hi hf
    obtain ⟨f', rfl, -⟩ := fuel_succ hf
    rw [fX7_copy_1_2_2, show (2764 : Int32) = nI 2764 from rfl, if_le (by decide) (by omega), if_pos (by omega)]
    have : (fun j => if i ≤ j ∧ j < 2764 then σ 1 j else σ 2 j) = σ 2 := by
      funext j
      rw [if_neg (by omega)]
    rw [this, sst_id]
  | succ k ih =>
    intro i fuel σ hi hf
    obtain ⟨f', rfl, hf⟩ := fuel_succ hf
    rw [fX7_copy_1_2_2, show (2764 : Int32) = nI 2764 from rfl, if_le (by decide) (by omega), if_neg (by omega), gd_of (inb_ok (by omega) (by omega)), gd_of (inb_ok (by omega) (by omega)), lt'_eq, zI_clamp (by omega), zs_add, ih (i + 1) f' _ (by omega) (by omega), sst_sup]
    congr 2
    congr 1
    funext j
    rw [sup_ne (by decide), sup_self, upd_app]
    by_cases q : j = i
    · rw [if_neg (by omega), if_pos q, if_pos (by omega), q]
    · rw [if_neg q]
      by_cases z : i + 1 ≤ j ∧ j < 2764
      · rw [if_pos z, if_pos (by omega)]
      · rw [if_neg z, if_neg (by omega)]
theorem cp21_loop : ∀ k i fuel (σ : Sg), i + k = 2764 → k < fuel → fX7_copy_2_1_2 fuel (nI i) σ = some ((), sst σ 1 (fun j => if i ≤ j ∧ j < 2764 then σ 2 j else σ 1 j)) := by
  intro k
  induction k with
  | zero =>
    intro i fuel σ hi hf
    obtain ⟨f', rfl, -⟩ := fuel_succ hf
    rw [fX7_copy_2_1_2, show (2764 : Int32) = nI 2764 from rfl, if_le (by decide) (by omega), if_pos (by omega)]
    have : (fun j => if i ≤ j ∧ j < 2764 then σ 2 j else σ 1 j) = σ 1 := by
      funext j
      rw [if_neg (by omega)]
    rw [this, sst_id]
  | succ k ih =>
    intro i fuel σ hi hf
    obtain ⟨f', rfl, hf⟩ := fuel_succ hf
    rw [fX7_copy_2_1_2, show (2764 : Int32) = nI 2764 from rfl, if_le (by decide) (by omega), if_neg (by omega), gd_of (inb_ok (by omega) (by omega)), gd_of (inb_ok (by omega) (by omega)), lt'_eq, zI_clamp (by omega), zs_add, ih (i + 1) f' _ (by omega) (by omega), sst_sup]
    congr 2
    congr 1
    funext j
    rw [sup_ne (by decide), sup_self, upd_app]
    by_cases q : j = i
    · rw [if_neg (by omega), if_pos q, if_pos (by omega), q]
    · rw [if_neg q]
      by_cases z : i + 1 ≤ j ∧ j < 2764
      · rw [if_pos z, if_pos (by omega)]
      · rw [if_neg z, if_neg (by omega)]
def cp1 (σ : Sg) (k a n : Nat) : Sg := sst σ k (va_cpy (σ a) (σ k) 0 0 n)
def cp2 (σ : Sg) (f i g j : Nat) : Sg := sup σ f i (σ g j)
theorem lt_cp1 {γ : Type} (σ : Sg) (k a n : Nat) (K : Sg → γ) : lt' (sst σ k (va_cpy (σ a) (σ k) 0 0 n)) K = K (cp1 σ k a n) := rfl
theorem lt_cp2 {γ : Type} (σ : Sg) (f i g j : Nat) (K : Sg → γ) : lt' (sup σ f i (σ g j)) K = K (cp2 σ f i g j) := rfl
theorem cp1_ne {σ : Sg} {k a n j : Nat} (h : j ≠ k) : cp1 σ k a n j = σ j := sst_ne h
theorem cp1_at {σ : Sg} {k a n s : Nat} (h : s < n) : cp1 σ k a n k s = σ a s := by
  unfold cp1
  rw [sst_self, cpy_lt h]
theorem cp2_ne {σ : Sg} {f i g j k : Nat} (h : k ≠ f) : cp2 σ f i g j k = σ k := sup_ne h
theorem cp2_app {σ : Sg} {f i g j s : Nat} : cp2 σ f i g j f s = if s = i then σ g j else σ f s := by
  unfold cp2
  rw [sup_self, upd_app]
theorem kn_b01 {f r : Nat} {σ : Sg} {g : Nat → Int32} {M : Mk} (h : KnR f r σ g M) : b01 (σ f 4) = true := by
  rcases h with ⟨a, -⟩ | ⟨a, -, -⟩ <;> rw [a] <;> decide
theorem op_save {t : Nat} {M : Mk} {σ τ : Sg} (h : Rel t M σ τ) : ∃ v σ' τ', fX6_save σ = some (v, σ') ∧ fX7_save τ = some (v, τ') ∧ Rel t M σ' τ' ∧ τ' 0 0 = 0 := by
  have hM := h.1.2.1
  have hn := hM.1.1
  have hb : b01 (σ 7 4) = true := kn_b01 h.2.2.1
  -- the class
  have hx : ∃ σ', fX6_save σ = some (σ' 3 6, σ') ∧ (∀ k, k ≠ 0 → k ≠ 8 → k ≠ 9 → ¬(17 ≤ k ∧ k ≤ 22) → ¬(31 ≤ k ∧ k ≤ 34) → σ' k = σ k) ∧ σ' 0 10 = 1 ∧ (∀ i, i ≠ 10 → σ' 0 i = σ 0 i) ∧ (∀ i, i = 6 ∨ i = 7 ∨ i = 8 → σ' 8 i = σ 3 i) ∧ (∀ j, j < 6 → ∀ s, s < 12 → σ' (17 + j) s = σ (11 + j) s) ∧ (∀ i, 4 ≤ i → i ≤ 9 → σ' 9 i = σ 7 i) ∧ (∀ k, k < 101 → σ' 31 k = σ 27 k) ∧ (∀ j, 1 ≤ j → j ≤ 3 → ∀ s, s < 12 → σ' (31 + j) s = σ (27 + j) s) := by
    rw [fX6_save, fX3_copyFrom_8_3]
    rw [lt_cp1, lt_cp1, lt_cp1, lt_cp1, lt_cp1, lt_cp1, lt_cp2, lt_cp2, lt_cp2, bd_some, fX0_copyFrom_9_7, lt_cp1, lt_cp1, lt_cp1, lt_cp1]
    rw [gd_of (by simp only [ne_eq, Nat.reduceEqDiff, not_false_eq_true, cp1_ne, cp2_ne]; exact hb), lt_cp2, lt_cp2, lt_cp2, lt_cp2, lt_cp2, lt_cp2, bd_some, lt'_eq]
    refine ⟨_, rfl, fun k a0 a8 a9 a1 a2 => ?_, ?_, fun i hi => ?_, fun i hi => ?_, fun j hj s hs => ?_, fun i h1 h2 => ?_, fun k hk => ?_, fun j h1 h2 s hs => ?_⟩
    · rw [sup_ne a0, cp2_ne a9, cp2_ne a9, cp2_ne a9, cp2_ne a9, cp2_ne a9, cp2_ne a9, cp1_ne (by omega), cp1_ne (by omega), cp1_ne (by omega), cp1_ne (by omega), cp2_ne a8, cp2_ne a8, cp2_ne a8, cp1_ne (by omega), cp1_ne (by omega), cp1_ne (by omega), cp1_ne (by omega), cp1_ne (by omega), cp1_ne (by omega)]
    · rw [sup_self, upd_app, if_pos rfl]
    · rw [sup_self, upd_app, if_neg hi]
      simp only [ne_eq, Nat.reduceEqDiff, not_false_eq_true, cp1_ne, cp2_ne]
    · rw [sup_ne (by decide)]
      rcases hi with rfl | rfl | rfl <;> simp [cp1_ne, cp2_ne, cp2_app]
    · rw [sup_ne (by omega)]
      rcases (by omega : j = 0 ∨ j = 1 ∨ j = 2 ∨ j = 3 ∨ j = 4 ∨ j = 5) with rfl | rfl | rfl | rfl | rfl | rfl <;> simp [cp1_ne, cp2_ne, cp1_at hs]
    · rw [sup_ne (by decide)]
      rcases (by omega : i = 4 ∨ i = 5 ∨ i = 6 ∨ i = 7 ∨ i = 8 ∨ i = 9) with rfl | rfl | rfl | rfl | rfl | rfl <;> simp [cp1_ne, cp2_ne, cp2_app]
    · rw [sup_ne (by decide)]
      simp [cp1_ne, cp2_ne, cp1_at hk]
    · rw [sup_ne (by omega)]
      rcases (by omega : j = 1 ∨ j = 2 ∨ j = 3) with rfl | rfl | rfl <;> simp [cp1_ne, cp2_ne, cp1_at hs]
  obtain ⟨σ', e1, c0, c1, c2, c3, c4, c5, c6, c7⟩ := hx
  rw [c0 3 (by decide) (by decide) (by decide) (by omega) (by omega), h.1.1.1] at e1
  have hr : fX7_save τ = some (nI M.n, sst (sup (sup τ 0 0 0) 0 3 1) 2 (fun j => if 0 ≤ j ∧ j < 2764 then τ 1 j else τ 2 j)) := by
    rw [fX7_save]
    simp only [lt'_eq]
    rw [fX7_copy_1_2, show (0 : Int32) = nI 0 from rfl, cp12_loop 2764 0 FU _ (by omega) (by unfold FU; omega), bd_some]
    congr 2
    rw [sst_ne (by decide), sup_ne (by decide), sup_ne (by decide)]
    exact h.2.1.1
  refine ⟨nI M.n, σ', _, e1, hr, ?_, ?_⟩
  · obtain ⟨h1, h2, h3, h4, h5, h6⟩ := h
    have eg : ∀ j, j < 2764 → (sst (sup (sup τ 0 0 0) 0 3 1) 2 (fun j => if 0 ≤ j ∧ j < 2764 then τ 1 j else τ 2 j)) 2 j = τ 1 j := fun j hj => by rw [sst_self, if_pos ⟨Nat.zero_le j, hj⟩]
    refine ⟨h1.oth fun k hk => c0 k (by omega) (by omega) (by omega) (by omega) (by omega), by rw [sst_ne (by decide), sup_ne (by decide), sup_ne (by decide)]; exact h2, ?_, ?_, ?_, ?_⟩
    · rw [sst_ne (by decide), sup_ne (by decide), sup_ne (by decide)]
      exact h3.fr (c0 7 (by decide) (by decide) (by decide) (by omega) (by omega)) (c0 27 (by decide) (by decide) (by decide) (by omega) (by omega)) (c0 28 (by decide) (by decide) (by decide) (by omega) (by omega)) (c0 29 (by decide) (by decide) (by decide) (by omega) (by omega)) (c0 30 (by decide) (by decide) (by decide) (by omega) (by omega))
    · refine Or.inr ⟨c1, by rw [sst_ne (by decide), sup_self, upd_app, if_pos rfl], M, hM, h1.1.copy hn c3 c4, h2.of88 hn fun j hj _ _ => eg j (by omega), h3.copy hM c5 c6 c7 eg⟩
    · obtain ⟨L, a, b, c, d⟩ := h5
      refine ⟨L, a, by rw [c0 5 (by decide) (by decide) (by decide) (by omega) (by omega)]; exact b, by rw [sst_ne (by decide), sup_self, upd_app, if_neg (by decide), sup_self, upd_app, if_neg (by decide)]; exact c, ?_⟩
      rw [c0 25 (by decide) (by decide) (by decide) (by omega) (by omega), sst_ne (by decide), sup_ne (by decide), sup_ne (by decide)]
      exact d
    · rw [c2 11 (by decide), h6, sst_ne (by decide), sup_self, upd_app, if_neg (by decide), sup_self, upd_app, if_neg (by decide)]
  · rw [sst_ne (by decide), sup_self, upd_app, if_neg (by decide), sup_self, upd_app, if_pos rfl]
theorem op_restore {t : Nat} {M : Mk} {σ τ : Sg} (h : Rel t M σ τ) (ht : t + 1 < 2 ^ 20) : Agr ["java/lang/IllegalStateException"] (t + 1) (fX6_restore σ) (fX7_restore τ) := by
  have hmono : ∀ {σ τ}, Rel t M σ τ → Rel (t + 1) M σ τ := fun z => z.mono (by omega) ht
  rw [fX6_restore, fX7_restore]
  simp only [jp_eq]
  rcases h.2.2.2.1 with ⟨a1, a2⟩ | ⟨a1, a2, N, b1, b2, b3, b4⟩
  · rw [a1, a2, if_pos rfl, if_pos rfl, fails1, bd_some, if_neg (by decide)]
    exact Agr.no (hmono (h.s00 1)) 0 rfl (s00_0 _ 1)
  · have hn := b1.1.1
    have hb : b01 (σ 9 4) = true := kn_b01 b4
    rw [a1, a2, if_neg n10, if_neg n10, fails0, bd_some, if_pos (show (0 : Int32) = 0 from rfl)]
    have hx : ∃ σ', bd (fX3_copyFrom_3_8 σ) (fun (_ : Unit) (σ2 : Sg) => fX0_copyFrom_7_9 σ2) = some ((), σ') ∧ (∀ k, k ≠ 3 → k ≠ 7 → ¬(11 ≤ k ∧ k ≤ 16) → ¬(27 ≤ k ∧ k ≤ 30) → σ' k = σ k) ∧ (∀ i, i = 6 ∨ i = 7 ∨ i = 8 → σ' 3 i = σ 8 i) ∧ (∀ j, j < 6 → ∀ s, s < 12 → σ' (11 + j) s = σ (17 + j) s) ∧ (∀ i, 4 ≤ i → i ≤ 9 → σ' 7 i = σ 9 i) ∧ (∀ k, k < 101 → σ' 27 k = σ 31 k) ∧ (∀ j, 1 ≤ j → j ≤ 3 → ∀ s, s < 12 → σ' (27 + j) s = σ (31 + j) s) := by
      rw [fX3_copyFrom_3_8]
      rw [lt_cp1, lt_cp1, lt_cp1, lt_cp1, lt_cp1, lt_cp1, lt_cp2, lt_cp2, lt_cp2, bd_some, fX0_copyFrom_7_9, lt_cp1, lt_cp1, lt_cp1, lt_cp1]
      rw [gd_of (by simp only [ne_eq, Nat.reduceEqDiff, not_false_eq_true, cp1_ne, cp2_ne]; exact hb), lt_cp2, lt_cp2, lt_cp2, lt_cp2, lt_cp2, lt_cp2]
      refine ⟨_, rfl, fun k a0 a8 a1 a2 => ?_, fun i hi => ?_, fun j hj s hs => ?_, fun i h1 h2 => ?_, fun k hk => ?_, fun j h1 h2 s hs => ?_⟩
      · rw [cp2_ne a8, cp2_ne a8, cp2_ne a8, cp2_ne a8, cp2_ne a8, cp2_ne a8, cp1_ne (by omega), cp1_ne (by omega), cp1_ne (by omega), cp1_ne (by omega), cp2_ne a0, cp2_ne a0, cp2_ne a0, cp1_ne (by omega), cp1_ne (by omega), cp1_ne (by omega), cp1_ne (by omega), cp1_ne (by omega), cp1_ne (by omega)]
      · rcases hi with rfl | rfl | rfl <;> simp [cp1_ne, cp2_ne, cp2_app]
      · rcases (by omega : j = 0 ∨ j = 1 ∨ j = 2 ∨ j = 3 ∨ j = 4 ∨ j = 5) with rfl | rfl | rfl | rfl | rfl | rfl <;> simp [cp1_ne, cp2_ne, cp1_at hs]
      · rcases (by omega : i = 4 ∨ i = 5 ∨ i = 6 ∨ i = 7 ∨ i = 8 ∨ i = 9) with rfl | rfl | rfl | rfl | rfl | rfl <;> simp [cp1_ne, cp2_ne, cp2_app]
      · simp [cp1_ne, cp2_ne, cp1_at hk]
      · rcases (by omega : j = 1 ∨ j = 2 ∨ j = 3) with rfl | rfl | rfl <;> simp [cp1_ne, cp2_ne, cp1_at hs]
    obtain ⟨σ', e1, c0, c3, c4, c5, c6, c7⟩ := hx
    have hc := b2.copy (σ' := σ') (f' := 3) (r' := 11) hn c3 c4
    obtain ⟨σ2, v, e2, e3, p1⟩ := forget_pk h.1 ht (c0 2 (by decide) (by decide) (by omega) (by omega)) (c0 39 (by decide) (by decide) (by omega) (by omega)) (c0 40 (by decide) (by decide) (by omega) (by omega)) hc b1
    have e1' : bd (fX3_copyFrom_3_8 σ) (fun (_ : Unit) (σ2 : Sg) => bd (fX0_copyFrom_7_9 σ2) (fun (_ : Unit) (σ4 : Sg) => bd (fX4_forget σ4) (fun (_ : Unit) (σ6 : Sg) => some ((Sum.inr (σ6 3 6) : String ⊕ Int32), σ6)))) = some (.inr (nI N.n), σ2) := by
      cases hq : fX3_copyFrom_3_8 σ with
      | none => rw [hq] at e1; exact absurd e1 (by simp [bd])
      | some p =>
        obtain ⟨u, σ1⟩ := p
        rw [hq, bd_some] at e1
        rw [bd_some, e1, bd_some, e2, bd_some, p1.1.1]
    rw [e1', fX7_copy_2_1, show (0 : Int32) = nI 0 from rfl, cp21_loop 2764 0 FU _ (by omega) (by unfold FU; omega), bd_some, sst_self]
    have e7 : (if 0 ≤ 0 ∧ 0 < 2764 then (sup τ 0 0 (nI 0)) 2 0 else (sup τ 0 0 (nI 0)) 1 0) = nI N.n := by
      rw [if_pos (by decide), sup_ne (by decide)]
      exact b3.1
    rw [e7]
    have eg : ∀ j, j < 2764 → (sst (sup τ 0 0 (nI 0)) 1 (fun j => if 0 ≤ j ∧ j < 2764 then (sup τ 0 0 (nI 0)) 2 j else (sup τ 0 0 (nI 0)) 1 j)) 1 j = τ 2 j := fun j hj => by rw [sst_self, if_pos ⟨Nat.zero_le j, hj⟩, sup_ne (by decide)]
    refine Agr.ok (h.fr (M' := N) (fun k hk => ?_) ⟨?_, ?_, ?_, ?_, ?_⟩ p1 (b3.of88 hn fun j hj _ _ => eg j (by omega)) ?_) ?_
    · rw [e3, sup_ne (by omega), c0 k (by omega) (by omega) (by omega) (by omega)]
    · rw [sst_ne (by decide), sup_ne (by decide)]
    · rw [sst_ne (by decide), sup_ne (by decide)]
    · rw [sst_ne (by decide), sup_self, upd_app, if_neg (by decide)]
    · rw [sst_ne (by decide), sup_self, upd_app, if_neg (by decide)]
    · rw [sst_ne (by decide), sup_self, upd_app, if_neg (by decide)]
    · have := b4.copy (σ' := σ') (f' := 7) (r' := 27) b1 c5 c6 c7 eg
      exact this.fr (by rw [e3, sup_ne (by decide)]) (by rw [e3, sup_ne (by decide)]) (by rw [e3, sup_ne (by decide)]) (by rw [e3, sup_ne (by decide)]) (by rw [e3, sup_ne (by decide)])
    · rw [sst_ne (by decide)]
      exact s00_0 τ _
