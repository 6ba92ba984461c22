/-! Layer 2, 41: the reference goes on to the next round -/
/-- the frame of an auction's course in the reference -/
def RX (σ τ : Sg) : Prop := (∀ j, j < 88 → j ≠ 2 → j ≠ 3 → τ 1 j = σ 1 j) ∧ τ 2 = σ 2 ∧ τ 3 = σ 3 ∧ ∀ j, j ≠ 14 → τ 0 j = σ 0 j
theorem RX.refl (σ : Sg) : RX σ σ := ⟨fun _ _ _ _ => rfl, rfl, rfl, fun _ _ => rfl⟩
theorem RX.trans {σ τ υ : Sg} (h : RX σ τ) (h2 : RX τ υ) : RX σ υ := ⟨fun j a b c => (h2.1 j a b c).trans (h.1 j a b c), h2.2.1.trans h.2.1, h2.2.2.1.trans h.2.2.1, fun j a => (h2.2.2.2 j a).trans (h.2.2.2 j a)⟩
theorem RW.rx {σ τ : Sg} (h : RW σ τ) : RX σ τ := ⟨fun j a _ _ => h.1 j a, h.2⟩
theorem RefM.rx {σ τ : Sg} {M : Mk} (h : RefM (σ 1) M) (hn : M.n ≤ 12) (hf : RX σ τ) : RefM (τ 1) M := h.of88 hn hf.1
theorem RX.s1 {σ : Sg} {i : Nat} {v : Int32} (h : 88 ≤ i ∨ i = 2 ∨ i = 3) : RX σ (sup σ 1 i v) := ⟨fun j a b c => by rw [sup_self, upd_app, if_neg (by omega)], sup_ne (by decide), sup_ne (by decide), fun j _ => by rw [sup_ne (by decide)]⟩
def cpr (g : Nat → Int32) (now i : Nat) : Nat → Int32 := fun j =>
  if 316 + (now + 1) * 12 ≤ j ∧ j < 316 + (now + 1) * 12 + i then g (j - 12) else if 1540 + (now + 1) * 12 ≤ j ∧ j < 1540 + (now + 1) * 12 + i then g (j - 12) else g j
theorem go_loop {now : Nat} (hnow : now ≤ 99) (x3 : Int32) (K : Sg → Option (Unit × Sg)) (g : Nat → Int32) (σ0 : Sg) : ∀ k i fuel, i + k = 12 → k < fuel →
    fX7_goOn_22 (nI now) x3 K fuel (nI i) (sst σ0 1 (cpr g now i)) = K (sst σ0 1 (cpr g now 12)) := by
  intro k
  induction k with
  | zero =>
    intro i fuel hi hf
    obtain ⟨f', rfl, -⟩ := fuel_succ hf
    have e : i = 12 := by omega
    rw [fX7_goOn_22, show (12 : Int32) = nI 12 from rfl, if_le (by omega) (by omega), if_pos (by omega), e]
  | succ k ih =>
    intro i fuel hi hf
    obtain ⟨f', rfl, hf⟩ := fuel_succ hf
    have i3b : ∀ b : Nat, (nI b + nI now * (12 : Int32)) + nI i = nI (b + now * 12 + i) := fun b => i3 b now i
    have i3c : ∀ b : Nat, (nI b + (nI now + (1 : Int32)) * (12 : Int32)) + nI i = nI (b + (now + 1) * 12 + i) := fun b => by rw [zs_add]; exact i3 b (now + 1) i
    rw [fX7_goOn_22, if_neg (by rw [show (12 : Int32) = nI 12 from rfl, zI_le (by omega) (by omega)]; omega), show (316 : Int32) = nI 316 from rfl, show (1540 : Int32) = nI 1540 from rfl, i3b, i3b, i3c, i3c,
      gd_of (inb_ok (by omega) (by omega)), gd_of (inb_ok (by omega) (by omega))]
    simp only [lt'_eq]
    rw [gd_of (inb_ok (by omega) (by omega)), gd_of (inb_ok (by omega) (by omega)), zI_clamp (by omega), zI_clamp (by omega), zI_clamp (by omega), zI_clamp (by omega), zs_add]
    have e : sup (sup (sst σ0 1 (cpr g now i)) 1 (316 + (now + 1) * 12 + i) (sst σ0 1 (cpr g now i) 1 (316 + now * 12 + i))) 1 (1540 + (now + 1) * 12 + i) (sup (sst σ0 1 (cpr g now i)) 1 (316 + (now + 1) * 12 + i) (sst σ0 1 (cpr g now i) 1 (316 + now * 12 + i)) 1 (1540 + now * 12 + i)) = sst σ0 1 (cpr g now (i + 1)) := by
      funext k
      by_cases q : k = 1
      · rw [q]
        funext j
        simp only [sup_self, sst_self, upd_app]
        unfold cpr
        by_cases z1 : j = 1540 + (now + 1) * 12 + i
        · rw [if_pos z1, if_neg (by omega), if_neg (by omega), if_neg (by omega), if_neg (by omega), if_pos (by omega), show j - 12 = 1540 + now * 12 + i by omega]
        · rw [if_neg z1]
          by_cases z2 : j = 316 + (now + 1) * 12 + i
          · rw [if_pos z2, if_neg (by omega), if_neg (by omega), if_pos (by omega), show j - 12 = 316 + now * 12 + i by omega]
          · rw [if_neg z2]
            by_cases z3 : 316 + (now + 1) * 12 ≤ j ∧ j < 316 + (now + 1) * 12 + i
            · rw [if_pos z3, if_pos (by omega)]
            · rw [if_neg z3]
              by_cases z4 : 1540 + (now + 1) * 12 ≤ j ∧ j < 1540 + (now + 1) * 12 + i
              · rw [if_pos z4, if_neg (by omega), if_pos (by omega)]
              · rw [if_neg z4, if_neg (by omega), if_neg (by omega)]
      · rw [sup_ne q, sup_ne q, sst_ne q, sst_ne q]
    rw [e]
    exact ih (i + 1) f' (by omega) (by omega)
theorem go_start {now F : Nat} (hnow : now ≤ 99) (hF : 12 < F) (x3 : Int32) (K : Sg → Option (Unit × Sg)) (σ : Sg) : fX7_goOn_22 (nI now) x3 K F 0 σ = K (sst σ 1 (cpr (σ 1) now 12)) := by
  have e0 : cpr (σ 1) now 0 = σ 1 := by
    funext j
    unfold cpr
    rw [if_neg (by omega), if_neg (by omega)]
  have := go_loop hnow x3 K (σ 1) σ 12 0 F (by omega) (by omega)
  rw [e0, sst_id] at this
  exact this
/-- the row when the next round begins -/
def nxr (g : Nat → Int32) (now m b : Nat) : Nat → Int32 := upd (upd (upd (cpr g now 12) (214 + now + 1) (nI m)) (112 + now + 1) (nI b)) 3 (nI (now + 1))
theorem goOn_eq {M : Mk} (hM : M.WF) {A : Au} (hA : AucOK M A) (hE : AEnd M A) (hb : bidk M A A.m ≠ 0) {d : Nat} (hd : 10 ≤ d) (hd2 : d ≤ 1000) {σ : Sg} (hr : RefM (σ 1) M) (h : AucM (σ 1) M A) {m : Nat} {R : Nat → Nat} (hR : Rkd M m R) :
    ∃ τ, fX7_goOn (nI d) σ = some ((), τ) ∧ RX σ τ ∧ τ 1 2 = σ 1 2 ∧ AucM (τ 1) M (play M R m (A.low d)) := by
  have hn := hM.1.1
  obtain ⟨hL, h99⟩ := low_ok hA hE hb hd
  have hbs := hA.2.2.2.1
  obtain ⟨F, hF8, hFe⟩ : ∃ F, 12 < F ∧ FU = F := ⟨FU, by unfold FU; omega, rfl⟩
  obtain ⟨g3, gr, gp, gc, ge⟩ := h
  have hc := hA.2.2.2.2.2.2.1
  have hx : AucM (nxr (σ 1) A.now A.m (A.bs A.now - d)) M (A.low d) := by
    have e : ∀ j, j ≠ 3 → j ≠ 112 + A.now + 1 → j ≠ 214 + A.now + 1 → ¬(316 + (A.now + 1) * 12 ≤ j ∧ j < 316 + (A.now + 1) * 12 + 12) → ¬(1540 + (A.now + 1) * 12 ≤ j ∧ j < 1540 + (A.now + 1) * 12 + 12) → nxr (σ 1) A.now A.m (A.bs A.now - d) j = σ 1 j := by
      intro j a b c d1 d2
      unfold nxr cpr
      rw [upd_app, if_neg a, upd_app, if_neg b, upd_app, if_neg c, if_neg d1, if_neg d2]
    have ey : ∀ j, j ≠ 3 → j ≠ 112 + A.now + 1 → j ≠ 214 + A.now + 1 → nxr (σ 1) A.now A.m (A.bs A.now - d) j = cpr (σ 1) A.now 12 j := by
      intro j a b c
      unfold nxr
      rw [upd_app, if_neg a, upd_app, if_neg b, upd_app, if_neg c]
    have ebs : ∀ r, (A.low d).bs r = if r = A.now + 1 then A.bs A.now - d else A.bs r := fun _ => rfl
    have ec : ∀ r, (A.low d).c r = if r = A.now + 1 then A.m else A.c r := fun _ => rfl
    refine ⟨?_, fun k hk => ?_, fun k hk s hs => ?_, fun s hs => ?_, fun k hk => ?_⟩
    · unfold nxr
      rw [upd_app, if_pos rfl]
      rfl
    · have hk' : k ≤ A.now + 1 := hk
      rw [ebs, ec]
      by_cases q : k = A.now + 1
      · rw [if_pos q, if_pos q]
        refine ⟨?_, ?_, fun s hs => ?_⟩
        · unfold nxr
          rw [upd_app, if_neg (by omega), upd_app, if_pos (by omega)]
        · unfold nxr
          rw [upd_app, if_neg (by omega), upd_app, if_neg (by omega), upd_app, if_pos (by omega)]
        · rw [ey _ (by omega) (by omega) (by omega), stt_st (A := A.low d) (B := A) rfl rfl]
          unfold cpr
          rw [if_pos (by omega), show 316 + k * 12 + s - 12 = 316 + A.now * 12 + s by omega, (gr A.now (Nat.le_refl _)).2.2 s hs, hc]
      · rw [if_neg q, if_neg q]
        obtain ⟨a1, a2, a3⟩ := gr k (by omega)
        refine ⟨(e _ (by omega) (by omega) (by omega) (by omega) (by omega)).trans a1, (e _ (by omega) (by omega) (by omega) (by omega) (by omega)).trans a2, fun s hs => ?_⟩
        rw [e _ (by omega) (by omega) (by omega) (by omega) (by omega), stt_st (A := A.low d) (B := A) rfl rfl]
        exact a3 s hs
    · have hk' : k < A.now + 1 := hk
      have hsn := tb_lt hM.2.2.1 hs
      rw [e _ (by omega) (by omega) (by omega) (by omega) (by omega), ebs, ec, if_neg (show ¬ k = A.now + 1 by omega), if_neg (show ¬ k = A.now + 1 by omega), bidk_st (A := A.low d) (B := A) rfl]
      show σ 1 (1540 + k * 12 + s) = if (bidk M A (A.c k)).testBit s = true then pz M s (A.bs k) else A.cur s
      rcases Nat.eq_or_lt_of_le (Nat.le_of_lt_succ hk') with z | z
      · rw [z, gc s hs, hc]
        by_cases q : (bidk M A A.m).testBit s = true
        · rw [if_pos q, hE.1 s q]
        · rw [if_neg q]
      · exact gp k z s hs
    · have hsn := tb_lt hM.2.2.1 hs
      show nxr (σ 1) A.now A.m (A.bs A.now - d) (1540 + (A.now + 1) * 12 + s) = A.cur s
      rw [ey _ (by omega) (by omega) (by omega)]
      unfold cpr
      rw [if_neg (by omega), if_pos (by omega), show 1540 + (A.now + 1) * 12 + s - 12 = 1540 + A.now * 12 + s by omega]
      exact gc s hs
    · have hk' : k < A.m := hk
      have hst := tb_lt (bidk_lt hM k) (hA.2.2.2.2.1 k hk').1
      have hm12 := ev_le hM hA.2.2.2.2.1
      rw [airk_st (A := A.low d) (B := A) rfl rfl]
      show (A.wd k = 1 → ∃ x, nxr (σ 1) A.now A.m (A.bs A.now - d) (88 + A.st k) = nI x ∧ Rsn M (A.st k) (airk M A k) x ∧ x < 2 ^ 12) ∧ (A.wd k = 2 → nxr (σ 1) A.now A.m (A.bs A.now - d) (88 + A.st k) = -1) ∧ nxr (σ 1) A.now A.m (A.bs A.now - d) (100 + k) = nI (evn A k)
      rw [e _ (by omega) (by omega) (by omega) (by omega) (by omega), e (100 + k) (by omega) (by omega) (by omega) (by omega) (by omega)]
      exact ge k hk'
  have hf : ∀ j, j < 88 → j ≠ 3 → nxr (σ 1) A.now A.m (A.bs A.now - d) j = σ 1 j := by
    intro j a b
    unfold nxr cpr
    rw [upd_app, if_neg b, upd_app, if_neg (by omega), upd_app, if_neg (by omega), if_neg (by omega), if_neg (by omega)]
  have hr2 : RefM (nxr (σ 1) A.now A.m (A.bs A.now - d)) M := hr.of88 hn fun j a _ c => hf j a c
  have fin : ∃ τ, bd (fX7_considerAll (sst σ 1 (nxr (σ 1) A.now A.m (A.bs A.now - d)))) (fun (_ : Unit) (σ22 : Sg) => some ((), σ22)) = some ((), τ) ∧ RX σ τ ∧ τ 1 2 = σ 1 2 ∧ AucM (τ 1) M (play M R m (A.low d)) := by
    obtain ⟨τ, e1, f1, x1⟩ := rplay_eq hM hR hL (σ := sst σ 1 (nxr (σ 1) A.now A.m (A.bs A.now - d))) (by rw [sst_self]; exact hr2) (by rw [sst_self]; exact hx)
    rw [e1, bd_some]
    have g0 : RX σ (sst σ 1 (nxr (σ 1) A.now A.m (A.bs A.now - d))) := ⟨fun j a b c => by rw [sst_self]; exact hf j a c, sst_ne (by decide), sst_ne (by decide), fun j _ => by rw [sst_ne (by decide)]⟩
    refine ⟨τ, rfl, g0.trans f1.rx, ?_, x1⟩
    rw [f1.1 2 (by decide), sst_self]
    exact hf 2 (by decide) (by decide)
  rw [fX7_goOn, hFe]
  simp only [lt'_eq, jp_eq]
  rw [g3, show (112 : Int32) = nI 112 from rfl, show (214 : Int32) = nI 214 from rfl, zI_add, zI_add, gd_of (inb_ok (by omega) (by omega)), zI_clamp (by omega), (gr A.now (Nat.le_refl _)).1, zs_add, zs_add, go_start h99 hF8]
  rw [gd_of (inb_ok (by omega) (by omega)), gd_of (inb_ok (by omega) (by omega)), gd_of (inb_ok (by omega) (by omega)), gd_of (inb_ok (by omega) (by omega)), zI_clamp (by omega), zI_clamp (by omega), zI_clamp (by omega)]
  have c1 : sst σ 1 (cpr (σ 1) A.now 12) 1 (214 + A.now) = nI A.m := by
    rw [sst_self]
    unfold cpr
    rw [if_neg (by omega), if_neg (by omega), (gr A.now (Nat.le_refl _)).2.1, hc]
  rw [c1]
  have c3 : ∀ v : Int32, (sup (sup (sst σ 1 (cpr (σ 1) A.now 12)) 1 (214 + A.now + 1) (nI A.m)) 1 (112 + A.now + 1) v) 1 3 = nI A.now := by
    intro v
    rw [sup_self, upd_app, if_neg (by omega), sup_self, upd_app, if_neg (by omega), sst_self]
    unfold cpr
    rw [if_neg (by omega), if_neg (by omega), g3]
  have c4 : sup (sup (sup (sst σ 1 (cpr (σ 1) A.now 12)) 1 (214 + A.now + 1) (nI A.m)) 1 (112 + A.now + 1) (nI (A.bs A.now - d))) 1 3 (nI (A.now + 1)) = sst σ 1 (nxr (σ 1) A.now A.m (A.bs A.now - d)) := by
    rw [sup_sst, sup_sst, sup_sst]
    rfl
  rcases Nat.lt_or_ge (A.bs A.now) d with z | z
  · rw [if_neg, c3, zs_add]
    · rw [show A.bs A.now - d = 0 by omega, show nI 0 = (0 : Int32) from rfl] at c4
      rw [c4]
      rw [show A.bs A.now - d = 0 by omega] at fin
      exact fin
    · have e : nI (A.bs A.now) - nI d = -(nI (d - A.bs A.now)) := by
        have e2 : nI d = nI (A.bs A.now) + nI (d - A.bs A.now) := by rw [zI_add, show A.bs A.now + (d - A.bs A.now) = d by omega]
        rw [e2]
        apply bv_inj
        rw [Int32.toBitVec_sub, Int32.toBitVec_add, Int32.toBitVec_neg]
        generalize (nI (A.bs A.now)).toBitVec = x
        generalize (nI (d - A.bs A.now)).toBitVec = y
        apply BitVec.eq_of_toNat_eq
        rw [BitVec.toNat_sub, BitVec.toNat_add, BitVec.toNat_neg]
        omega
      rw [e]
      have hneg : ∀ y : Nat, y < 1001 → 1 ≤ y → ¬ (0 : Int32) ≤ -(nI y) := by decide +kernel
      exact hneg _ (by omega) (by omega)
  · rw [zI_sub z, if_pos (zI_ge0 (by omega)), c3, zs_add, c4]
    exact fin
