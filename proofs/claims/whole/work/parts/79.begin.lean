/-! Layer 2, 40: an auction begins; the next round -/
theorem bidk_st {M : Mk} {A B : Au} (h : A.st = B.st) : ∀ k, bidk M A k = bidk M B k := by
  intro k
  induction k with
  | zero => rfl
  | succ k ih => rw [bidk, bidk, ih, h]
theorem airk_st {M : Mk} {A B : Au} (h : A.st = B.st) (h2 : A.wd = B.wd) : ∀ k, airk M A k = airk M B k := by
  intro k
  induction k with
  | zero => rfl
  | succ k ih => rw [airk, airk, ih, h, h2]
theorem frzk_st {A B : Au} (h : A.st = B.st) (h2 : A.wd = B.wd) : ∀ k, frzk A k = frzk B k := by
  intro k
  induction k with
  | zero => rfl
  | succ k ih => rw [frzk, frzk, ih, h, h2]
theorem stt_st {M : Mk} {A B : Au} (h : A.st = B.st) (h2 : A.wd = B.wd) (k s : Nat) : stt M A k s = stt M B k s := by
  unfold stt
  rw [bidk_st h, frzk_st h h2]
theorem priceB_loop {M : Mk} (hM : M.WF) {b now base : Nat} (hb : b < 2 ^ M.n) (hnow : now ≤ 100) (hbase : base ≤ 1000) : ∀ k i fuel (σ : Sg), i + k = 12 → k < fuel → ClsM 3 11 σ M → σ 7 7 = nI b → σ 7 5 = nI now → σ 27 now = nI base →
    fX0_priceBidders_2 fuel (nI i) σ = some ((), sst σ 28 (fun s => if i ≤ s ∧ b.testBit s = true then pz M s base else σ 28 s)) := by
  have hn := hM.1.1
  intro k
  induction k with
  | zero =>
    intro i fuel σ hi hf h h7 h5 h27
    obtain ⟨f', rfl, -⟩ := fuel_succ hf
    rw [fX0_priceBidders_2, show (12 : Int32) = nI 12 from rfl, if_le (by omega) (by omega), if_pos (by omega)]
    have : (fun s => if i ≤ s ∧ b.testBit s = true then pz M s base else σ 28 s) = σ 28 := by
      funext s
      rw [if_neg]
      rintro ⟨h1, h2⟩
      have := tb_lt hb h2
      omega
    rw [this, sst_id]
  | succ k ih =>
    intro i fuel σ hi hf h h7 h5 h27
    obtain ⟨f', rfl, hf⟩ := fuel_succ hf
    rw [fX0_priceBidders_2, show (12 : Int32) = nI 12 from rfl, if_le (by omega) (by omega), if_neg (by omega)]
    simp only [jp_eq]
    rw [h7, if_c (hM.1.lt31 hb) (by omega), zs_add]
    by_cases q : b.testBit i = true
    · have hin := tb_lt hb q
      rw [if_pos q, h5, gd_of (inb_ok (by omega) (by omega)), zI_clamp (by omega), h27, cprice_eq hM hin hbase h, bd_some, gd_of (inb_ok (by omega) (by omega)), lt'_eq, zI_clamp (by omega)]
      have hc : ClsM 3 11 (sup σ 28 i (pz M i base)) M := by
        unfold ClsM at h ⊢
        rw [sup_ne (by decide), sup_ne (by decide), sup_ne (by decide), sup_ne (by decide), sup_ne (by decide), sup_ne (by decide), sup_ne (by decide)]
        exact h
      rw [ih (i + 1) f' _ (by omega) (by omega) hc (by rw [sup_ne (by decide)]; exact h7) (by rw [sup_ne (by decide)]; exact h5) (by rw [sup_ne (by decide)]; exact h27), sst_sup]
      congr 2
      congr 1
      funext s
      rw [sup_self, upd_app]
      by_cases e : s = i
      · rw [if_neg (by omega), if_pos e, if_pos ⟨by omega, by rw [e]; exact q⟩, e]
      · rw [if_neg e]
        by_cases z : i + 1 ≤ s ∧ b.testBit s = true
        · rw [if_pos z, if_pos ⟨by omega, z.2⟩]
        · rw [if_neg z, if_neg fun z2 => z ⟨by omega, z2.2⟩]
    · rw [if_neg q, ih (i + 1) f' σ (by omega) (by omega) h h7 h5 h27]
      congr 2
      congr 1
      funext s
      by_cases z : i + 1 ≤ s ∧ b.testBit s = true
      · rw [if_pos z, if_pos ⟨by omega, z.2⟩]
      · rw [if_neg z, if_neg]
        rintro ⟨h1, h2⟩
        rcases Nat.eq_or_lt_of_le h1 with e | e
        · rw [← e] at h2
          exact q h2
        · exact z ⟨e, h2⟩
theorem priceB_eq {M : Mk} (hM : M.WF) {b now base : Nat} (hb : b < 2 ^ M.n) (hnow : now ≤ 100) (hbase : base ≤ 1000) {σ : Sg} (h : ClsM 3 11 σ M) (h7 : σ 7 7 = nI b) (h5 : σ 7 5 = nI now) (h27 : σ 27 now = nI base) :
    fX0_priceBidders σ = some ((), sst σ 28 (fun s => if b.testBit s = true then pz M s base else σ 28 s)) := by
  rw [fX0_priceBidders, show (0 : Int32) = nI 0 from rfl, priceB_loop hM hb hnow hbase 12 0 FU σ (by omega) (by unfold FU; omega) h h7 h5 h27]
  congr 2
  congr 1
  funext s
  by_cases z : b.testBit s = true
  · rw [if_pos ⟨Nat.zero_le s, z⟩, if_pos z]
  · rw [if_neg (fun z2 => z z2.2), if_neg z]
/-- the beginning -/
def A0 (M : Mk) (base : Nat) : Au := (0, (fun _ => base), 0, (fun _ => 0), (fun _ => 0), (fun _ => 0), (fun _ => 0), (fun s => pz M s base))
theorem A0_ok {M : Mk} (hM : M.WF) {base : Nat} (hb : base ≤ 1000) : AucOK M (A0 M base) := by
  refine ⟨Nat.zero_le _, fun r hr => absurd hr (Nat.not_lt_zero r), Or.inr ?_, hb, fun k hk => absurd hk (Nat.not_lt_zero k), fun r _ => ⟨Nat.le_refl 0, fun k hk => absurd hk (Nat.not_lt_zero k), fun k _ hk => absurd hk (Nat.not_lt_zero k)⟩, rfl, fun s hs => (pz_ok hM (tb_lt hM.2.2.1 hs) hb).2⟩
  show base + 10 * 0 ≤ 1000
  omega
theorem begin_eq {M : Mk} (hM : M.WF) {base : Nat} (hb : base ≤ 1000) {σ : Sg} (h : ClsM 3 11 σ M) :
    ∃ τ, fX0_begin (nI base) σ = some ((), τ) ∧ (∀ k, k ≠ 7 → k ≠ 27 → k ≠ 28 → τ k = σ k) ∧ τ 7 4 = 1 ∧ AucX 7 27 τ M (A0 M base) := by
  have hn := hM.1.1
  rw [fX0_begin]
  simp only [lt'_eq]
  have hs1 : ClsM 3 11 (sup (sup (sup σ 7 4 1) 7 5 0) 27 0 (nI base)) M := by
    unfold ClsM at h ⊢
    simp only [sup_app]
    exact h
  rw [stay_eq hn hs1, bd_some]
  have hs2 : ∀ x : Int32, ClsM 3 11 (sup (sup (sup (sup (sup (sup (sup σ 7 4 1) 7 5 0) 27 0 (nI base)) 7 6 (nI M.out)) 7 7 x) 7 8 0) 7 9 0) M := by
    intro x
    unfold ClsM at h ⊢
    simp only [sup_app]
    exact h
  have h37 : (sup (sup (sup (sup σ 7 4 1) 7 5 0) 27 0 (nI base)) 7 6 (nI M.out)) 3 7 = nI M.tk := by
    simp only [sup_app]
    exact h.2.1
  rw [h37, priceB_eq hM hM.2.2.1 (Nat.zero_le 100) hb (hs2 _) (by simp [sup_app, upd_app]) (by simp [sup_app, upd_app]; rfl) (by simp [sup_app, upd_app]), bd_some]
  refine ⟨_, rfl, fun k a b c => ?_, ?_, ?_, ?_, ?_, ?_, ?_, ?_, ?_, ?_⟩
  · simp [sst_app, sup_app, a, b, c]
  · simp [sst_app, sup_app, upd_app]
  · simp [sst_app, sup_app, upd_app]
    rfl
  · simp [sst_app, sup_app, upd_app]
    rfl
  · simp [sst_app, sup_app, upd_app]
    rfl
  · simp [sst_app, sup_app, upd_app]
    rfl
  · simp [sst_app, sup_app, upd_app]
    rfl
  · intro k hk
    have hk0 : k = 0 := Nat.le_zero.mp hk
    simp [sst_app, sup_app, upd_app, hk0]
    rfl
  · intro s hs
    simp [sst_app, hs]
    rfl
  · intro k hk
    exact absurd hk (Nat.not_lt_zero k)
/-! the reference -/
theorem open_loop {M : Mk} (hM : M.WF) {base : Nat} (hb : base ≤ 1000) (K : Sg → Option (Int32 × Sg)) : ∀ k i fuel (σ : Sg), i + k = M.n → k < fuel → RefM (σ 1) M → σ 1 3 = nI 0 → (∀ s, s < i → σ 1 (316 + s) = (if M.tk.testBit s then 1 else 0) ∧ σ 1 (1540 + s) = pz M s base) →
    ∃ τ, fX7_open_95 (nI base) K fuel (nI i) σ = K τ ∧ RF σ (sst τ 1 (σ 1)) ∧ (∀ j, j < 316 → τ 1 j = σ 1 j) ∧ ∀ s, s < M.n → τ 1 (316 + s) = (if M.tk.testBit s then 1 else 0) ∧ τ 1 (1540 + s) = pz M s base := by
  have hn := hM.1.1
  intro k
  induction k with
  | zero =>
    intro i fuel σ hi hf hr h3 hs
    obtain ⟨f', rfl, -⟩ := fuel_succ hf
    refine ⟨σ, ?_, ?_, fun _ _ => rfl, ?_⟩
    · rw [fX7_open_95, hr.1, if_le (by omega) (by omega), if_pos (by omega)]
    · rw [sst_id]; exact RF.refl σ
    · rw [show M.n = i by omega]
      exact hs
  | succ k ih =>
    intro i fuel σ hi hf hr h3 hs
    obtain ⟨f', rfl, hf⟩ := fuel_succ hf
    have hin : i < M.n := by omega
    have step : ∀ v : Int32, v = (if M.tk.testBit i then 1 else 0) → ∃ τ, bd (fX7_setState (nI i) v σ) (fun (_ : Unit) (σ36 : Sg) => bd (fX7_priceOf (nI i) (nI base) σ36) (fun (r38 : Int32) (σ39 : Sg) => gd (inb ((1540 : Int32) + nI i) 2764) (lt' (sup σ39 1 (((1540 : Int32) + nI i).toNatClampNeg) r38) (fun (σ42 : Sg) => fX7_open_95 (nI base) K f' (nI i + (1 : Int32)) σ42)))) = K τ ∧ RF σ (sst τ 1 (σ 1)) ∧ (∀ j, j < 316 → τ 1 j = σ 1 j) ∧ ∀ s, s < M.n → τ 1 (316 + s) = (if M.tk.testBit s then 1 else 0) ∧ τ 1 (1540 + s) = pz M s base := by
      intro v hv
      have f1 : RW σ (sup σ 1 (316 + 0 * 12 + i) v) := RW.s1 (by omega)
      rw [sset_eq h3 (by decide) (by omega), bd_some, rprice_eq hM hin hb (hr.rw hn f1), bd_some, show (1540 : Int32) = nI 1540 from rfl, zI_add, gd_of (inb_ok (by omega) (by omega)), lt'_eq, zI_clamp (by omega), zs_add]
      have f2 : RW σ (sup (sup σ 1 (316 + 0 * 12 + i) v) 1 (1540 + i) (pz M i base)) := f1.trans (RW.s1 (by omega))
      obtain ⟨τ, e1, g1, g2, g3⟩ := ih (i + 1) f' (sup (sup σ 1 (316 + 0 * 12 + i) v) 1 (1540 + i) (pz M i base)) (by omega) (by omega) (hr.rw hn f2) (by rw [sup_self, upd_app, if_neg (by omega), sup_self, upd_app, if_neg (by omega)]; exact h3) (fun s hs' => by
        have b1 : sup (sup σ 1 (316 + 0 * 12 + i) v) 1 (1540 + i) (pz M i base) 1 (316 + s) = if s = i then v else σ 1 (316 + s) := by
          rw [sup_self, upd_app, if_neg (by omega), sup_self, upd_app]
          by_cases z : s = i
          · rw [if_pos z, if_pos (by omega)]
          · rw [if_neg z, if_neg (by omega)]
        have b2 : sup (sup σ 1 (316 + 0 * 12 + i) v) 1 (1540 + i) (pz M i base) 1 (1540 + s) = if s = i then pz M i base else σ 1 (1540 + s) := by
          rw [sup_self, upd_app]
          by_cases z : s = i
          · rw [if_pos z, if_pos (by omega)]
          · rw [if_neg z, if_neg (by omega), sup_self, upd_app, if_neg (by omega)]
        rw [b1, b2]
        rcases Nat.eq_or_lt_of_le (Nat.le_of_lt_succ hs') with e | e
        · rw [if_pos e, if_pos e, hv, e]
          exact ⟨rfl, rfl⟩
        · have e' : ¬ s = i := by omega
          rw [if_neg e', if_neg e']
          exact hs s e)
      refine ⟨τ, e1, ⟨sst_self _ _ _, ?_, ?_, ?_⟩, fun j hj => ?_, g3⟩
      · rw [sst_ne (by decide)]
        have := g1.2.1
        rw [sst_ne (by decide), sup_ne (by decide), sup_ne (by decide)] at this
        exact this
      · rw [sst_ne (by decide)]
        have := g1.2.2.1
        rw [sst_ne (by decide), sup_ne (by decide), sup_ne (by decide)] at this
        exact this
      · intro j hj
        rw [sst_ne (by decide)]
        have := g1.2.2.2 j hj
        rw [sst_ne (by decide), sup_ne (by decide), sup_ne (by decide)] at this
        exact this
      · rw [g2 j hj, sup_self, upd_app, if_neg (by omega), sup_self, upd_app, if_neg (by omega)]
    rw [fX7_open_95, hr.1, if_le (by omega) (by omega), if_neg (by omega), show (40 : Int32) = nI 40 from rfl, zI_add, gd_of (inb_ok (by omega) (by omega)), zI_clamp (by omega), (hr.2.2 i hin).2.2.2.1]
    simp only [jp_eq]
    by_cases q : M.tk.testBit i = true
    · rw [if_pos (by rw [if_pos q])]
      exact step 1 (by rw [if_pos q])
    · rw [if_neg (by rw [if_neg q]; decide)]
      exact step 0 (by rw [if_neg q])
theorem A0_ref {g : Nat → Int32} {M : Mk} (hM : M.WF) {base : Nat} (h3 : g 3 = 0) (h112 : g 112 = nI base) (h214 : g 214 = 0) (hs : ∀ s, s < M.n → g (316 + s) = (if M.tk.testBit s then 1 else 0) ∧ g (1540 + s) = pz M s base) : AucM g M (A0 M base) := by
  refine ⟨h3, fun k hk => ?_, fun k hk => absurd hk (Nat.not_lt_zero k), fun s ht => ?_, fun k hk => absurd hk (Nat.not_lt_zero k)⟩
  · have hk0 : k = 0 := Nat.le_zero.mp hk
    rw [hk0]
    refine ⟨h112, h214, fun s hs' => ?_⟩
    rw [show 316 + 0 * 12 + s = 316 + s by omega, (hs s hs').1]
    show _ = nI (stt M (A0 M base) 0 s)
    unfold stt
    rw [bidk, frzk, tb_zero]
    by_cases q : M.tk.testBit s = true
    · rw [if_pos q, if_pos q]
      rfl
    · rw [if_neg q, if_neg q]
      rfl
  · show g (1540 + 0 * 12 + s) = pz M s base
    rw [show 1540 + 0 * 12 + s = 1540 + s by omega]
    exact (hs s (tb_lt hM.2.2.1 ht)).2
/-! the next round -/
def Au.low (A : Au) (d : Nat) : Au := (A.now + 1, (fun r => if r = A.now + 1 then A.bs A.now - d else A.bs r), A.m, A.rd, A.st, A.wd, (fun r => if r = A.now + 1 then A.m else A.c r), A.cur)
theorem low_ok {M : Mk} {A : Au} (hA : AucOK M A) (hE : AEnd M A) (hb : bidk M A A.m ≠ 0) {d : Nat} (hd : 10 ≤ d) : AucOK M (A.low d) ∧ A.now ≤ 99 := by
  obtain ⟨h1, h2, h3, h4, h5, h6, h7, h8⟩ := hA
  have h0 : A.bs A.now ≠ 0 := fun z => hb (hE.2 z)
  have e1 : ∀ r, r ≤ A.now → (A.low d).bs r = A.bs r := fun r hr => if_neg (by omega)
  have e2 : (A.low d).bs (A.now + 1) = A.bs A.now - d := if_pos rfl
  have e3 : ∀ r, r ≤ A.now → (A.low d).c r = A.c r := fun r hr => if_neg (by omega)
  have e4 : (A.low d).c (A.now + 1) = A.m := if_pos rfl
  have h99 : A.now ≤ 99 := by omega
  refine ⟨⟨?_, fun r hr => ?_, ?_, ?_, fun k hk => ?_, fun r hr => ?_, e4, h8⟩, h99⟩
  · show A.now + 1 ≤ 100
    omega
  · have hr' : r < A.now + 1 := hr
    rw [e1 r (by omega)]
    rcases Nat.eq_or_lt_of_le (Nat.le_of_lt_succ hr') with z | z
    · rw [z]
      omega
    · exact h2 r z
  · show (A.low d).bs (A.now + 1) = 0 ∨ (A.low d).bs (A.now + 1) + 10 * (A.now + 1) ≤ 1000
    rw [e2]
    omega
  · show (A.low d).bs (A.now + 1) ≤ 1000
    rw [e2]
    omega
  · obtain ⟨a1, a2, a3, a4⟩ := h5 k hk
    rw [bidk_st (A := A.low d) (B := A) rfl, airk_st (A := A.low d) (B := A) rfl rfl]
    exact ⟨a1, Nat.le_succ_of_le a2, a3, a4⟩
  · have hr' : r ≤ A.now + 1 := hr
    rcases Nat.eq_or_lt_of_le hr' with z | z
    · unfold CtOK
      rw [z, e4]
      exact ⟨Nat.le_refl _, fun k hk => Nat.le_succ_of_le (h5 k hk).2.1, fun k hk hk2 => absurd hk2 (by have hk2' : k < A.m := hk2; omega)⟩
    · unfold CtOK
      rw [e3 r (by omega)]
      exact h6 r (by omega)
theorem lower_eq {M : Mk} {A : Au} (hA : AucOK M A) (h99 : A.now ≤ 99) {d : Nat} (hd : d ≤ 1000) {σ : Sg} (h : AucX 7 27 σ M A) : ∃ τ, fX0_lower (nI d) σ = some ((), τ) ∧ AF σ τ ∧ AucX 7 27 τ M (A.low d) := by
  obtain ⟨g5, g6, g7, g8, g9, gb, gp, ge⟩ := h
  have hb := hA.2.2.2.1
  rw [fX0_lower, g5, zs_add, show (101 : Int32) = nI 101 from rfl, if_le (by decide) (by omega), if_neg (by omega)]
  simp only [lt'_eq]
  rw [sup_self, upd_app, if_pos rfl, z_dec, gd_of (inb_ok (by omega) (by omega)), gd_of (inb_ok (by omega) (by omega)), zI_clamp (by omega), zI_clamp (by omega), sup_ne (by decide), gb A.now (Nat.le_refl _)]
  have ev : (if (0 : Int32) < nI (A.bs A.now) - nI d then nI (A.bs A.now) - nI d else 0) = nI (A.bs A.now - d) := by
    rcases Nat.lt_or_ge (A.bs A.now) d with z | z
    · rw [if_neg, show A.bs A.now - d = 0 by omega]
      · rfl
      · have e : nI (A.bs A.now) - nI d = -(nI (d - A.bs A.now)) := by
          have e2 : nI d = nI (A.bs A.now) + nI (d - A.bs A.now) := by rw [zI_add, show A.bs A.now + (d - A.bs A.now) = d by omega]
          rw [e2]
          apply bv_inj
          rw [Int32.toBitVec_sub, Int32.toBitVec_add, Int32.toBitVec_neg]
          generalize (nI (A.bs A.now)).toBitVec = x
          generalize (nI (d - A.bs A.now)).toBitVec = y
          apply BitVec.eq_of_toNat_eq
          rw [BitVec.toNat_sub, BitVec.toNat_add, BitVec.toNat_neg]
          omega
        rw [e]
        have hneg : ∀ y : Nat, y < 1001 → ¬ (0 : Int32) < -(nI y) := by decide +kernel
        exact hneg _ (by omega)
    · rw [zI_sub z]
      by_cases q : A.bs A.now - d = 0
      · rw [q]
        rfl
      · rw [if_pos]
        rw [show (0 : Int32) = nI 0 from rfl]
        exact (zI_lt (by decide) (by omega)).mpr (by omega)
  rw [ev]
  refine ⟨_, rfl, (AF.s7 (by decide)).trans (AF.row (by decide) (by decide)), ?_, ?_, ?_, ?_, ?_, ?_, ?_, ?_⟩
  · rw [sup_ne (by decide), sup_self, upd_app, if_pos rfl]
    rfl
  · rw [sup_ne (by decide), sup_self, upd_app, if_neg (by decide), airk_st (A := A.low d) (B := A) rfl rfl]
    exact g6
  · rw [sup_ne (by decide), sup_self, upd_app, if_neg (by decide), bidk_st (A := A.low d) (B := A) rfl]
    exact g7
  · rw [sup_ne (by decide), sup_self, upd_app, if_neg (by decide), frzk_st (A := A.low d) (B := A) rfl rfl]
    exact g8
  · rw [sup_ne (by decide), sup_self, upd_app, if_neg (by decide)]
    exact g9
  · intro k hk
    have hk' : k ≤ A.now + 1 := hk
    rw [sup_self, upd_app, sup_ne (by decide)]
    by_cases q : k = A.now + 1
    · rw [if_pos q]
      have : (A.low d).bs k = A.bs A.now - d := if_pos q
      rw [this]
    · rw [if_neg q]
      have : (A.low d).bs k = A.bs k := if_neg q
      rw [this]
      exact gb k (by omega)
  · intro s hs
    rw [sup_ne (by decide), sup_ne (by decide)]
    exact gp s hs
  · intro k hk
    rw [sup_ne (by decide), sup_ne (by decide), sup_ne (by decide), sup_ne (by decide), airk_st (A := A.low d) (B := A) rfl rfl]
    exact ge k hk
