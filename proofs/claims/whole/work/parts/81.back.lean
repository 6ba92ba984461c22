/-! Layer 2, 42: back to an earlier round -/
theorem zI_div {a b : Nat} (ha : a < 2 ^ 31) (hb : b < 2 ^ 31) : nI a / nI b = nI (a / b) := by
  apply bv_inj
  rw [Int32.toBitVec_div, zI_bv, zI_bv, zI_bv, BitVec.sdiv_eq]
  have ma : (BitVec.ofNat 32 a).msb = false := by
    rw [BitVec.msb_eq_false_iff_two_mul_lt, BitVec.toNat_ofNat]
    omega
  have mb : (BitVec.ofNat 32 b).msb = false := by
    rw [BitVec.msb_eq_false_iff_two_mul_lt, BitVec.toNat_ofNat]
    omega
  rw [ma, mb]
  apply BitVec.eq_of_toNat_eq
  show ((BitVec.ofNat 32 a).udiv (BitVec.ofNat 32 b)).toNat = _
  rw [BitVec.udiv_eq, BitVec.toNat_udiv, BitVec.toNat_ofNat, BitVec.toNat_ofNat, BitVec.toNat_ofNat, Nat.mod_eq_of_lt (by omega), Nat.mod_eq_of_lt (by omega), Nat.mod_eq_of_lt]
  exact Nat.lt_of_le_of_lt (Nat.div_le_self a b) (by omega)
theorem ndf_none {x s : Nat} (h : x.testBit s = false) : ndf x (2 ^ s) = x := by
  refine Nat.eq_of_testBit_eq fun i => ?_
  rw [ndf_testBit, tb_pow]
  by_cases e : i = s
  · rw [e, h]; rfl
  · rw [decide_eq_false e]; simp
theorem ndf_or {x s : Nat} (h : x.testBit s = true) : ndf x (2 ^ s) ||| 2 ^ s = x := by
  refine Nat.eq_of_testBit_eq fun i => ?_
  rw [Nat.testBit_or, ndf_testBit, tb_pow]
  by_cases e : i = s
  · rw [e, h, decide_eq_true rfl]; rfl
  · rw [decide_eq_false e]; simp
def Au.bk (M : Mk) (A : Au) (r : Nat) : Au := (r, A.bs, A.c r, A.rd, A.st, A.wd, A.c, fun s => if (bidk M A (A.c r)).testBit s then pz M s (A.bs r) else A.cur s)
theorem c_mono {M : Mk} {A : Au} (hA : AucOK M A) {r r' : Nat} (h : r' ≤ r) (hr : r ≤ A.now) : A.c r' ≤ A.c r := by
  obtain ⟨a1, a2, a3⟩ := hA.2.2.2.2.2.1 r hr
  obtain ⟨b1, b2, b3⟩ := hA.2.2.2.2.2.1 r' (by omega)
  rcases Nat.lt_or_ge (A.c r) (A.c r') with z | z
  · have h1 := b2 (A.c r) z
    have h2 := a3 (A.c r) (Nat.le_refl _) (by omega)
    omega
  · exact z
theorem bk_ok {M : Mk} (hM : M.WF) {A : Au} (hA : AucOK M A) (hE : AEnd M A) {r : Nat} (hr : r ≤ A.now) : AucOK M (A.bk M r) ∧ AEnd M (A.bk M r) := by
  have hb := hA.bs_le hr
  have hmono := fun r' (h : r' ≤ r) => c_mono hA h hr
  obtain ⟨h1, h2, h3, h4, h5, h6, h7, h8⟩ := hA
  obtain ⟨c1, c2, c3⟩ := h6 r hr
  refine ⟨⟨by show r ≤ 100; omega, fun k hk => h2 k (by have hk' : k < r := hk; omega), ?_, hb, fun k hk => ?_, fun k hk => ?_, rfl, fun s hs => ?_⟩, fun s hs => ?_, fun z => ?_⟩
  · show A.bs r = 0 ∨ A.bs r + 10 * r ≤ 1000
    rcases Nat.eq_or_lt_of_le hr with e | e
    · rw [e]; exact h3
    · exact Or.inr (h2 r e).2
  · have hk' : k < A.c r := hk
    obtain ⟨a1, a2, a3, a4⟩ := h5 k (by omega)
    rw [bidk_st (A := A.bk M r) (B := A) rfl, airk_st (A := A.bk M r) (B := A) rfl rfl]
    exact ⟨a1, c2 k hk', a3, a4⟩
  · have hk' : k ≤ r := hk
    obtain ⟨b1, b2, b3⟩ := h6 k (by omega)
    refine ⟨hmono k hk', b2, fun j hj hj2 => b3 j hj (by have hj2' : j < A.c r := hj2; omega)⟩
  · show ∃ k, k < 2 ^ 18 ∧ (if (bidk M A (A.c r)).testBit s then pz M s (A.bs r) else A.cur s) = nI k
    split
    · exact (pz_ok hM (tb_lt hM.2.2.1 hs) hb).2
    · exact h8 s hs
  · have hs' : (bidk M (A.bk M r) (A.c r)).testBit s = true := hs
    rw [bidk_st (A := A.bk M r) (B := A) rfl] at hs'
    show (if (bidk M A (A.c r)).testBit s then pz M s (A.bs r) else A.cur s) = pz M s (A.bs r)
    rw [if_pos hs']
  · have z' : A.bs r = 0 := z
    show bidk M (A.bk M r) (A.c r) = 0
    rw [bidk_st (A := A.bk M r) (B := A) rfl]
    rcases Nat.eq_or_lt_of_le hr with e | e
    · rw [e, h7]
      rw [e] at z'
      exact hE.2 z'
    · have := (h2 r e).1
      omega
/-- the class's masks after k events -/
def Unk (σ : Sg) (M : Mk) (A : Au) (k : Nat) : Prop := σ 7 6 = nI (airk M A k) ∧ σ 7 7 = nI (bidk M A k) ∧ σ 7 8 = nI (frzk A k) ∧ σ 7 9 = nI k
theorem ret_loop {M : Mk} (hM : M.WF) {A : Au} (hA : AucOK M A) {r : Nat} (hr : r ≤ A.now) (K : Sg → Option (Unit × Sg)) : ∀ k fuel (σ : Sg), A.c r + k ≤ A.m → k < fuel → Unk σ M A (A.c r + k) → (∀ j, j < A.m → σ 30 j = nI (evn A j)) →
    ∃ τ, fX0_returnTo_0 (nI r) K fuel σ = K τ ∧ Unk τ M A (A.c r) ∧ (∀ j, j ≠ 7 → τ j = σ j) ∧ τ 7 4 = σ 7 4 ∧ τ 7 5 = σ 7 5 := by
  have hn := hM.1.1
  have hnow := hA.1
  have hm12 := ev_le hM hA.2.2.2.2.1
  obtain ⟨c1, c2, c3⟩ := hA.2.2.2.2.2.1 r hr
  intro k
  induction k with
  | zero =>
    intro fuel σ hk hf hu h30
    obtain ⟨f', rfl, -⟩ := fuel_succ hf
    refine ⟨σ, ?_, hu, fun _ _ => rfl, rfl, rfl⟩
    rw [fX0_returnTo_0, hu.2.2.2, Nat.add_zero, show (0 : Int32) = nI 0 from rfl, if_le (by omega) (by decide)]
    by_cases q : A.c r ≤ 0
    · rw [if_pos q]
    · obtain ⟨j, hj⟩ : ∃ j, A.c r = j + 1 := ⟨A.c r - 1, by omega⟩
      have h5 := hA.2.2.2.2.1 j (by omega)
      have hst := tb_lt (bidk_lt hM j) h5.1
      have hrd := c2 j (by omega)
      have hev : evn A j < 200000 := by unfold evn; omega
      have hev2 : evn A j / 1000 = A.rd j := by unfold evn; omega
      rw [if_neg q, hj, z_dec, gd_of (inb_ok (by omega) (by omega)), zI_clamp (by omega), h30 j (by omega), show (1000 : Int32) = nI 1000 from rfl, zI_div (by omega) (by decide), hev2, if_le (by omega) (by omega), if_pos hrd]
  | succ k ih =>
    intro fuel σ hk hf hu h30
    obtain ⟨f', rfl, hf⟩ := fuel_succ hf
    obtain ⟨j, hj⟩ : ∃ j, j = A.c r + k := ⟨_, rfl⟩
    have h5 := hA.2.2.2.2.1 j (by omega)
    have hst := tb_lt (bidk_lt hM j) h5.1
    have hrd := c3 j (by omega) (by omega)
    have hrd2 := h5.2.1
    have hwd := h5.2.2.1
    have hev : evn A j < 200000 := by unfold evn; omega
    have hev2 : evn A j / 1000 = A.rd j := by unfold evn; omega
    rw [← Nat.add_assoc, ← hj] at hu
    obtain ⟨u6, u7, u8, u9⟩ := hu
    rw [fX0_returnTo_0, u9, show (0 : Int32) = nI 0 from rfl, if_le (by omega) (by decide), if_neg (by omega), z_dec, gd_of (inb_ok (by omega) (by omega)), zI_clamp (by omega), h30 j (by omega), show (1000 : Int32) = nI 1000 from rfl, zI_div (by omega) (by decide), hev2, if_le (by omega) (by omega), if_neg (by omega)]
    simp only [lt'_eq]
    rw [sup_self, upd_app, if_pos rfl, gd_of (inb_ok (by omega) (by omega)), zI_clamp (by omega), sup_ne (by decide), h30 j (by omega), zI_div (by omega) (by decide), hev2, zI_mul, zI_sub (by unfold evn; omega), show (10 : Int32) = nI 10 from rfl, zI_div (by unfold evn; omega) (by decide),
      show (evn A j - A.rd j * 1000) / 10 = A.st j by unfold evn; omega, zI_one_shl (by omega)]
    have hpart := (part_k hM hA.2.2.2.2.1 j (by omega) (A.st j)).1 hst
    have hb : (airk M A j).testBit (A.st j) = false ∧ (frzk A j).testBit (A.st j) = false := by
      rcases hpart with z | z | z
      · exact z.2
      · rw [h5.1] at z
        exact absurd z.1 (by decide)
      · rw [h5.1] at z
        exact absurd z.1 (by decide)
    have ea : ndf (airk M A (j + 1)) (2 ^ A.st j) = airk M A j := by
      rw [airk]
      split
      · exact or_back hb.1
      · exact ndf_none hb.1
    have ef : ndf (frzk A (j + 1)) (2 ^ A.st j) = frzk A j := by
      rw [frzk]
      split
      · exact ndf_none hb.2
      · exact or_back hb.2
    have eb : bidk M A (j + 1) ||| 2 ^ A.st j = bidk M A j := by
      rw [bidk]
      exact ndf_or h5.1
    have v6 : ∀ v : Int32, (sup σ 7 9 v) 7 6 = nI (airk M A (j + 1)) := fun v => by rw [sup_self, upd_app, if_neg (by decide)]; exact u6
    have v8 : ∀ v w : Int32, (sup (sup σ 7 9 v) 7 6 w) 7 8 = nI (frzk A (j + 1)) := fun v w => by rw [sup_self, upd_app, if_neg (by decide), sup_self, upd_app, if_neg (by decide)]; exact u8
    have v7 : ∀ v w x : Int32, (sup (sup (sup σ 7 9 v) 7 6 w) 7 8 x) 7 7 = nI (bidk M A (j + 1)) := fun v w x => by rw [sup_self, upd_app, if_neg (by decide), sup_self, upd_app, if_neg (by decide), sup_self, upd_app, if_neg (by decide)]; exact u7
    rw [upd_app, if_neg (by decide), u6, zI_ndf, ea, v8, zI_ndf, ef, v7, zI_or, eb]
    obtain ⟨τ, e1, e2, e3, e4, e5⟩ := ih f' (sup (sup (sup (sup σ 7 9 (nI j)) 7 6 (nI (airk M A j))) 7 8 (nI (frzk A j))) 7 7 (nI (bidk M A j))) (by omega) (by omega) (by
      rw [← hj]
      refine ⟨?_, ?_, ?_, ?_⟩ <;> simp [sup_app, upd_app]) (fun i hi => by simp [sup_app]; exact h30 i hi)
    refine ⟨τ, e1, e2, fun i hi => ?_, ?_, ?_⟩
    · rw [e3 i hi, sup_ne hi, sup_ne hi, sup_ne hi, sup_ne hi]
    · rw [e4]; simp [sup_app, upd_app]
    · rw [e5]; simp [sup_app, upd_app]
theorem back_eq {M : Mk} (hM : M.WF) {A : Au} (hA : AucOK M A) {r : Nat} (hr : r ≤ A.now) {σ : Sg} (hc : ClsM 3 11 σ M) (h : AucX 7 27 σ M A) :
    ∃ τ, fX0_returnTo (nI r) σ = some ((), τ) ∧ AF σ τ ∧ AucX 7 27 τ M (A.bk M r) := by
  have hn := hM.1.1
  have hnow := hA.1
  have hm12 := ev_le hM hA.2.2.2.2.1
  have c1 := (hA.2.2.2.2.2.1 r hr).1
  obtain ⟨g5, g6, g7, g8, g9, gb, gp, ge⟩ := h
  obtain ⟨k, hk⟩ : ∃ k, A.c r + k = A.m := ⟨A.m - A.c r, by omega⟩
  rw [fX0_returnTo]
  obtain ⟨τ, e1, ⟨u6, u7, u8, u9⟩, e3, e4, e5⟩ := ret_loop hM hA hr (fun (σ11 : Sg) => lt' (sup σ11 7 5 (nI r)) (fun (σ12 : Sg) => bd (fX0_priceBidders  σ12) (fun (_ : Unit) (σ13 : Sg) => some ((), σ13)))) k FU σ (by omega) (by unfold FU; omega) (by rw [hk]; exact ⟨g6, g7, g8, g9⟩) (fun j hj => (ge j hj).2.2)
  rw [e1, lt'_eq]
  have hc2 : ClsM 3 11 (sup τ 7 5 (nI r)) M := by
    unfold ClsM at hc ⊢
    simp only [sup_app, e3 3 (by decide), e3 11 (by decide), e3 (11 + 1) (by decide), e3 (11 + 2) (by decide), e3 (11 + 3) (by decide), e3 (11 + 4) (by decide), e3 (11 + 5) (by decide)]
    exact hc
  rw [priceB_eq hM (bidk_lt hM (A := A) (A.c r)) (show r ≤ 100 by omega) (hA.bs_le hr) hc2 (by rw [sup_self, upd_app, if_neg (by decide)]; exact u7) (by rw [sup_self, upd_app, if_pos rfl]) (by rw [sup_ne (by decide), e3 27 (by decide)]; exact gb r hr), bd_some]
  refine ⟨_, rfl, ⟨fun j a b => ?_, ?_⟩, ?_, ?_, ?_, ?_, ?_, ?_, ?_, ?_⟩
  · rw [sst_ne (by omega), sup_ne a, e3 j a]
  · rw [sst_ne (by decide), sup_self, upd_app, if_neg (by decide), e4]
  · rw [sst_ne (by decide), sup_self, upd_app, if_pos rfl]
    rfl
  · rw [sst_ne (by decide), sup_self, upd_app, if_neg (by decide), airk_st (A := A.bk M r) (B := A) rfl rfl]
    exact u6
  · rw [sst_ne (by decide), sup_self, upd_app, if_neg (by decide), bidk_st (A := A.bk M r) (B := A) rfl]
    exact u7
  · rw [sst_ne (by decide), sup_self, upd_app, if_neg (by decide), frzk_st (A := A.bk M r) (B := A) rfl rfl]
    exact u8
  · rw [sst_ne (by decide), sup_self, upd_app, if_neg (by decide)]
    exact u9
  · intro j hj
    have hj' : j ≤ r := hj
    rw [sst_ne (by decide), sup_ne (by decide), e3 27 (by decide)]
    exact gb j (by omega)
  · intro s hs
    show _ = (if (bidk M A (A.c r)).testBit s then pz M s (A.bs r) else A.cur s)
    rw [sst_self]
    split
    · rfl
    · rw [sup_ne (by decide), e3 28 (by decide)]
      exact gp s hs
  · intro j hj
    have hj' : j < A.c r := hj
    rw [sst_ne (by decide), sst_ne (by decide), sup_ne (by decide), sup_ne (by decide), e3 (27 + 2) (by decide), e3 (27 + 3) (by decide), airk_st (A := A.bk M r) (B := A) rfl rfl]
    exact ge j (by omega)
theorem rback_eq {g : Nat → Int32} {M : Mk} (hM : M.WF) {A : Au} (hA : AucOK M A) (hE : AEnd M A) {r : Nat} (hr : r ≤ A.now) (h : AucM g M A) : AucM (upd g 3 (nI r)) M (A.bk M r) := by
  have hn := hM.1.1
  have hnow := hA.1
  obtain ⟨c1, c2, c3⟩ := hA.2.2.2.2.2.1 r hr
  have hmono := fun r' (h : r' ≤ r) => c_mono hA h hr
  obtain ⟨g3, gr, gp, gc, ge⟩ := h
  refine ⟨by rw [upd_app, if_pos rfl]; rfl, fun k hk => ?_, fun k hk s hs => ?_, fun s hs => ?_, fun k hk => ?_⟩
  · have hk' : k ≤ r := hk
    obtain ⟨a1, a2, a3⟩ := gr k (by omega)
    rw [upd_app, if_neg (by omega), upd_app, if_neg (by omega)]
    refine ⟨a1, a2, fun s hs => ?_⟩
    rw [upd_app, if_neg (by omega), stt_st (A := A.bk M r) (B := A) rfl rfl]
    exact a3 s hs
  · have hk' : k < r := hk
    rw [upd_app, if_neg (by omega), bidk_st (A := A.bk M r) (B := A) rfl, gp k (by omega) s hs]
    show (if (bidk M A (A.c k)).testBit s = true then pz M s (A.bs k) else A.cur s) = if (bidk M A (A.c k)).testBit s = true then pz M s (A.bs k) else (if (bidk M A (A.c r)).testBit s then pz M s (A.bs r) else A.cur s)
    by_cases q : (bidk M A (A.c k)).testBit s = true
    · rw [if_pos q, if_pos q]
    · rw [if_neg q, if_neg q, if_neg fun z => q (bidk_sub (A.c r) (A.c k) (hmono k (by omega)) s z)]
  · show upd g 3 (nI r) (1540 + r * 12 + s) = if (bidk M A (A.c r)).testBit s then pz M s (A.bs r) else A.cur s
    rw [upd_app, if_neg (by omega)]
    rcases Nat.eq_or_lt_of_le hr with z | z
    · rw [z, gc s hs]
      by_cases q : (bidk M A (A.c A.now)).testBit s = true
      · rw [if_pos q]
        rw [hA.2.2.2.2.2.2.1] at q
        exact hE.1 s q
      · rw [if_neg q]
    · exact gp r z s hs
  · have hk' : k < A.c r := hk
    rw [airk_st (A := A.bk M r) (B := A) rfl rfl, upd_app, if_neg (by omega), upd_app, if_neg (by omega)]
    exact ge k (by omega)
