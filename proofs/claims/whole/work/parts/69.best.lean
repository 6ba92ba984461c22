/-! Layer 2, 30: the best set of the class -/
theorem lt_of_top : ∀ i x y : Nat, x.testBit i = false → y.testBit i = true → (∀ j, i < j → x.testBit j = y.testBit j) → x < y := by
  intro i
  induction i with
  | zero =>
    intro x y hx hy h
    have e : x / 2 = y / 2 := by
      refine Nat.eq_of_testBit_eq fun j => ?_
      rw [← Nat.testBit_succ, ← Nat.testBit_succ]
      exact h (j + 1) (by omega)
    rw [Nat.testBit_zero, decide_eq_false_iff_not] at hx
    rw [Nat.testBit_zero, decide_eq_true_eq] at hy
    omega
  | succ i ih =>
    intro x y hx hy h
    rw [Nat.testBit_succ] at hx hy
    have := ih (x / 2) (y / 2) hx hy (fun j hj => by
      rw [← Nat.testBit_succ, ← Nat.testBit_succ]
      exact h (j + 1) (by omega))
    omega
theorem feas_sub {M : Mk} (hM : M.WF) {x y : Nat} (h : 0 < M.cnt M.av y) (hs : sbs x y) : 0 < M.cnt M.av x :=
  num_sub (els_nodup y) (els_nodup x) (fun s hs' => mem_els.mpr ⟨(mem_els.mp hs').1, hs s (mem_els.mp hs').2⟩) hM.1.2.2.2.1 hM.1.2.2.2.2.1 h
/-- the value of those that take part -/
def tvl (M : Mk) (y : Nat) : Nat := vsum M (y &&& M.tk)
def mor (M : Mk) (i : Nat) : Nat := sumTo (vof M M.tk) i
theorem vsum_split {M : Mk} {y : Nat} (h : sbs M.out y) : vsum M y = vsum M M.out + tvl M y := by
  unfold tvl vsum
  rw [← sumTo_add]
  refine sumTo_congr fun s hs => ?_
  unfold vof
  have ho := out_tb M s
  rw [decide_eq_true hs, Bool.true_and] at ho
  rw [Nat.testBit_and]
  cases q : M.tk.testBit s with
  | true =>
    rw [q] at ho
    rw [ho]
    simp
  | false =>
    rw [q] at ho
    rw [ho, h s ho]
    simp
theorem tvl_lt {M : Mk} (hM : M.WF) (y : Nat) : tvl M y ≤ 119988 := vsum_lt hM _
theorem mor_lt {M : Mk} (hM : M.WF) {i : Nat} (hi : i ≤ M.n) : mor M i ≤ 119988 := vpart_lt hM M.tk hi
def Qst (M : Mk) (i ch y : Nat) : Prop := Cand M y ∧ ∀ t, i ≤ t → y.testBit t = ch.testBit t
theorem tvl_le {M : Mk} {i ch y : Nat} (hi : i ≤ M.n) (h : ∀ t, i ≤ t → y.testBit t = ch.testBit t) : tvl M y ≤ tvl M ch + mor M i := by
  have e : mor M i = sumTo (fun s => if s < i then vof M M.tk s else 0) M.n := by
    unfold mor
    rw [sumTo_stop (k := i) (m := M.n) (fun s h1 _ => if_neg (by omega)) hi]
    exact sumTo_congr fun s hs => (if_pos hs).symm
  rw [e]
  unfold tvl vsum
  rw [← sumTo_add]
  refine sumTo_le fun s hs => ?_
  unfold vof
  rw [Nat.testBit_and, Nat.testBit_and]
  by_cases q : s < i
  · rw [if_pos q]
    cases M.tk.testBit s <;> cases y.testBit s <;> cases ch.testBit s <;> simp
  · rw [if_neg q, h s (by omega)]
    omega
theorem tvl_or {M : Mk} {i ch : Nat} (hi : i < M.n) (hc : ch.testBit i = false) (ht : M.tk.testBit i = true) : tvl M (ch ||| 2 ^ i) = tvl M ch + M.vl i := by
  have e : M.vl i = sumTo (fun s => if s = i then M.vl i else 0) M.n := by
    have h2 : ∀ m, i < m → sumTo (fun s => if s = i then M.vl i else 0) m = M.vl i := by
      intro m
      induction m with
      | zero => intro h; omega
      | succ m ih =>
        intro h
        rw [sumTo]
        by_cases q : m = i
        · rw [if_pos q, sumTo_zero (fun s hs => if_neg (by omega)), Nat.zero_add]
        · rw [if_neg q, Nat.add_zero]
          exact ih (by omega)
    exact (h2 M.n hi).symm
  rw [e]
  unfold tvl vsum
  rw [← sumTo_add]
  refine sumTo_congr fun s hs => ?_
  unfold vof
  rw [Nat.testBit_and, Nat.testBit_and, Nat.testBit_or, tb_pow]
  by_cases q : s = i
  · rw [if_pos q, q, hc, ht]
    simp
  · rw [if_neg q, decide_eq_false q, Bool.or_false, Nat.add_zero]
def EP (M : Mk) (i ch bf bv bf' bv' : Nat) : Prop :=
  ((∀ y, Qst M i ch y → tvl M y < bv) ∧ bf' = bf ∧ bv' = bv) ∨ (Qst M i ch bf' ∧ bv' = tvl M bf' ∧ bv ≤ bv' ∧ ∀ y, Qst M i ch y → tvl M y < tvl M bf' ∨ (tvl M y = tvl M bf' ∧ bf' ≤ y))
theorem ep_two {M : Mk} {i ch bf bv b1 v1 b2 v2 : Nat} (hc : ch.testBit i = false) (h1 : EP M i (ch ||| 2 ^ i) bf bv b1 v1) (h2 : EP M i ch b1 v1 b2 v2) : EP M (i + 1) ch bf bv b2 v2 := by
  have hw : (ch ||| 2 ^ i).testBit i = true := by rw [Nat.testBit_or, tb_pow, decide_eq_true rfl, Bool.or_true]
  have hw2 : ∀ t, i + 1 ≤ t → (ch ||| 2 ^ i).testBit t = ch.testBit t := fun t ht => by rw [Nat.testBit_or, tb_pow, decide_eq_false (by omega), Bool.or_false]
  have up1 : ∀ y, Qst M i (ch ||| 2 ^ i) y → Qst M (i + 1) ch y := fun y h => ⟨h.1, fun t ht => (h.2 t (by omega)).trans (hw2 t ht)⟩
  have up2 : ∀ y, Qst M i ch y → Qst M (i + 1) ch y := fun y h => ⟨h.1, fun t ht => h.2 t (by omega)⟩
  have dn : ∀ y, Qst M (i + 1) ch y → Qst M i (ch ||| 2 ^ i) y ∨ Qst M i ch y := by
    intro y h
    cases q : y.testBit i with
    | true =>
      refine Or.inl ⟨h.1, fun t ht => ?_⟩
      rcases Nat.eq_or_lt_of_le ht with e | e
      · rw [← e, q, hw]
      · rw [h.2 t e, hw2 t e]
    | false =>
      refine Or.inr ⟨h.1, fun t ht => ?_⟩
      rcases Nat.eq_or_lt_of_le ht with e | e
      · rw [← e, q, hc]
      · exact h.2 t e
  have lt : ∀ y z, Qst M i ch y → Qst M i (ch ||| 2 ^ i) z → y < z := by
    intro y z hy hz
    refine lt_of_top i y z ((hy.2 i (Nat.le_refl i)).trans hc) ((hz.2 i (Nat.le_refl i)).trans hw) fun j hj => ?_
    rw [hy.2 j (by omega), hz.2 j (by omega), hw2 j hj]
  rcases h1 with ⟨a1, a2, a3⟩ | ⟨a1, a2, a3, a4⟩
  · rcases h2 with ⟨c1, c2, c3⟩ | ⟨c1, c2, c3, c4⟩
    · refine Or.inl ⟨fun y hy => ?_, by rw [c2, a2], by rw [c3, a3]⟩
      rcases dn y hy with h | h
      · exact a1 y h
      · have := c1 y h
        omega
    · refine Or.inr ⟨up2 _ c1, c2, by omega, fun y hy => ?_⟩
      rcases dn y hy with h | h
      · have := a1 y h
        omega
      · exact c4 y h
  · rcases h2 with ⟨c1, c2, c3⟩ | ⟨c1, c2, c3, c4⟩
    · rw [c2, c3]
      refine Or.inr ⟨up1 _ a1, a2, a3, fun y hy => ?_⟩
      rcases dn y hy with h | h
      · exact a4 y h
      · have := c1 y h
        omega
    · refine Or.inr ⟨up2 _ c1, c2, by omega, fun y hy => ?_⟩
      rcases dn y hy with h | h
      · have h3 := a4 y h
        have h4 := lt _ _ c1 h
        omega
      · exact c4 y h
theorem ep_one {M : Mk} {i ch bf bv b2 v2 : Nat} (h : EP M i ch bf bv b2 v2) (dn : ∀ y, Qst M (i + 1) ch y → ∃ z, Qst M i ch z ∧ tvl M z = tvl M y ∧ z ≤ y) : EP M (i + 1) ch bf bv b2 v2 := by
  rcases h with ⟨c1, c2, c3⟩ | ⟨c1, c2, c3, c4⟩
  · refine Or.inl ⟨fun y hy => ?_, c2, c3⟩
    obtain ⟨z, h1, h2, h3⟩ := dn y hy
    have := c1 z h1
    omega
  · refine Or.inr ⟨⟨c1.1, fun t ht => c1.2 t (by omega)⟩, c2, c3, fun y hy => ?_⟩
    obtain ⟨z, h1, h2, h3⟩ := dn y hy
    have := c4 z h1
    omega
/-- the frame of the best set's search -/
def PcF (σ τ : Sg) : Prop := (∀ k, k ≠ 1 → k ≠ 35 → k ≠ 39 → k ≠ 40 → k ≠ 2 → ¬(41 ≤ k ∧ k ≤ 76) → τ k = σ k) ∧ τ 2 8 = σ 2 8
theorem PcF.refl (σ : Sg) : PcF σ σ := ⟨fun _ _ _ _ _ _ _ => rfl, rfl⟩
theorem PcF.trans {σ τ υ : Sg} (h : PcF σ τ) (h2 : PcF τ υ) : PcF σ υ := ⟨fun k z a b c d e => (h2.1 k z a b c d e).trans (h.1 k z a b c d e), h2.2.trans h.2⟩
theorem PkF.pc {σ τ : Sg} (h : PkF σ τ) : PcF σ τ := ⟨fun k _ a b c d e => h.1 k a b c d e, h.2⟩
theorem PkI.c1 {B : Nat} {M : Mk} {σ : Sg} (h : PkI B M σ) (i : Nat) (v : Int32) : PkI B M (sup σ 1 i v) := by
  refine ⟨?_, h.2.1, h.2.2.1.same (sup_ne (by decide)) (sup_ne (by decide)), h.2.2.2.keep (by rw [sup_ne (by decide)]) (sup_ne (by decide))⟩
  have h1 := h.1
  unfold ClsM at h1 ⊢
  rw [sup_ne (by decide), sup_ne (by decide), sup_ne (by decide), sup_ne (by decide), sup_ne (by decide), sup_ne (by decide), sup_ne (by decide)]
  exact h1
theorem ext_eq {B : Nat} {M : Mk} (hM : M.WF) : ∀ i fuel ch bf bv (σ : Sg), i < fuel → i ≤ M.n → PkI B M σ → σ 1 2 = nI bf → σ 1 3 = nI bv → bv ≤ 119988 → Cand M ch → (∀ t, t < i → ch.testBit t = M.out.testBit t) →
    ∃ τ bf' bv', fX1_extend fuel (nI i - 1) (nI ch) (nI (tvl M ch)) (nI (mor M i)) σ = some ((), τ) ∧ τ 1 2 = nI bf' ∧ τ 1 3 = nI bv' ∧ bv' ≤ 119988 ∧ EP M i ch bf bv bf' bv' ∧ PcF σ τ ∧ PkI B M τ := by
  have hn := hM.1.1
  intro i
  induction i with
  | zero =>
    intro fuel ch bf bv σ hf hi h h2 h3 hb hc hlow
    obtain ⟨f', rfl, -⟩ := fuel_succ hf
    have ht := tvl_lt hM ch
    have hq : ∀ y, Qst M 0 ch y → y = ch := fun y hy => Nat.eq_of_testBit_eq fun t => hy.2 t (Nat.zero_le t)
    rw [fX1_extend, fX1_extendB, h3, show mor M 0 = 0 from rfl, zI_add, if_le (by omega) (by omega)]
    by_cases q : bv ≤ tvl M ch + 0
    · rw [if_pos q]
      simp only [jp_eq, lt'_eq]
      rw [if_pos (by decide)]
      refine ⟨_, ch, tvl M ch, rfl, ?_, ?_, ht, Or.inr ⟨⟨hc, fun _ _ => rfl⟩, rfl, by omega, fun y hy => ?_⟩, ⟨fun k z a b c d e => ?_, ?_⟩, (h.c1 2 _).c1 3 _⟩
      · rw [sup_self, upd_app, if_neg (by decide), sup_self, upd_app, if_pos rfl]
      · rw [sup_self, upd_app, if_pos rfl]
      · rw [hq y hy]
        omega
      · rw [sup_ne z, sup_ne z]
      · rw [sup_ne (by decide), sup_ne (by decide)]
    · rw [if_neg q]
      exact ⟨σ, bf, bv, rfl, h2, h3, hb, Or.inl ⟨fun y hy => by rw [hq y hy]; omega, rfl, rfl⟩, PcF.refl σ, h⟩
  | succ i ih =>
    intro fuel ch bf bv σ hf hi h h2 h3 hb hc hlow
    obtain ⟨f', rfl, hf⟩ := fuel_succ hf
    have ht := tvl_lt hM ch
    have hmo := mor_lt hM hi
    have hin : i < M.n := by omega
    have ea : nI (i + 1) - (1 : Int32) = nI i := by rw [show (1 : Int32) = nI 1 from rfl, zI_sub (by omega), Nat.add_sub_cancel]
    rw [fX1_extend, fX1_extendB, h3, zI_add, if_le (by omega) (by omega), ea]
    by_cases q : bv ≤ tvl M ch + mor M (i + 1)
    · rw [if_pos q, show (12 : Int32) = nI 12 from rfl]
      simp only [jp_eq, lt'_eq]
      rw [if_neg (zI_nn (by omega)), if_lt (by omega) (by decide), if_pos (by omega)]
      rw [h.1.2.1, if_c (hM.1.lt31 hM.2.2.1) (by omega), zI_one_shl (by omega), zI_or, zI_clamp (show i < 2 ^ 31 by omega), (h.1.2.2.2.1 i hin).2.1]
      have hlow' : ∀ t, t < i → ch.testBit t = M.out.testBit t := fun t ht => hlow t (by omega)
      have hci := hlow i (by omega)
      rw [out_tb, decide_eq_true hin, Bool.true_and] at hci
      have hmor : mor M (i + 1) = mor M i + (if M.tk.testBit i = true then M.vl i else 0) := rfl
      have hvl : M.vl i ≤ 9999 := (hM.2.2.2 i hin).2.1
      -- the call without the station
      have last : ∀ (v8 : Nat) (τ : Sg) (b1 v1 : Nat), v8 = (if M.tk.testBit i = true then M.vl i else 0) → PcF σ τ → PkI B M τ → τ 1 2 = nI b1 → τ 1 3 = nI v1 → v1 ≤ 119988 → (∀ b2 v2, EP M i ch b1 v1 b2 v2 → EP M (i + 1) ch bf bv b2 v2) →
          ∃ υ bf' bv', bd (fX1_extend f' (nI i - 1) (nI ch) (nI (tvl M ch)) (nI (mor M (i + 1)) - nI v8) τ) (fun (_ : Unit) (σ12 : Sg) => some ((), σ12)) = some ((), υ) ∧ υ 1 2 = nI bf' ∧ υ 1 3 = nI bv' ∧ bv' ≤ 119988 ∧ EP M (i + 1) ch bf bv bf' bv' ∧ PcF σ υ ∧ PkI B M υ := by
        intro v8 τ b1 v1 h8 hf1 hp g2 g3 gb he
        obtain ⟨υ, b2, v2, e1, k2, k3, kb, ke, kf, kp⟩ := ih f' ch b1 v1 τ (by omega) (by omega) hp g2 g3 gb hc hlow'
        refine ⟨υ, b2, v2, ?_, k2, k3, kb, he b2 v2 ke, hf1.trans kf, kp⟩
        rw [zI_sub (by omega), show mor M (i + 1) - v8 = mor M i by omega, e1, bd_some]
      by_cases qt : M.tk.testBit i = true
      · have hcf : ch.testBit i = false := by rw [hci, qt]; rfl
        rw [if_pos qt, gd_of (inb_ok (by omega) (by omega)), show (0 : Int32) = nI 0 from rfl, if_le (by omega) (by decide)]
        have hw : ch ||| 2 ^ i < 2 ^ M.n := or_lt hc.2.1 (Nat.pow_lt_pow_right (by decide) hin)
        have hsw : sbs ch (ch ||| 2 ^ i) := fun t hx => by rw [Nat.testBit_or, hx]; rfl
        -- a set with the station, the station taken away
        by_cases q0 : M.vl i ≤ 0
        · rw [if_pos q0]
          refine last (M.vl i) σ bf bv (by rw [if_pos qt]) (PcF.refl σ) h h2 h3 hb fun b2 v2 he => ep_one he fun y hy => ?_
          cases qy : y.testBit i with
          | false =>
            refine ⟨y, ⟨hy.1, fun t ht => ?_⟩, rfl, Nat.le_refl _⟩
            rcases Nat.eq_or_lt_of_le ht with e | e
            · rw [← e, qy, hcf]
            · exact hy.2 t e
          | true =>
            have hsub : sbs (ndf y (2 ^ i)) y := fun t hx => by
              rw [ndf_testBit, Bool.and_eq_true] at hx
              exact hx.1
            have hout : sbs M.out (ndf y (2 ^ i)) := fun t hx => by
              rw [ndf_testBit, hy.1.1 t hx, tb_pow]
              by_cases e : t = i
              · rw [e, out_tb, qt, Bool.not_true, Bool.and_false] at hx
                exact absurd hx (by decide)
              · rw [decide_eq_false e]; rfl
            have hyi : ndf y (2 ^ i) ||| 2 ^ i = y := by
              refine Nat.eq_of_testBit_eq fun t => ?_
              rw [Nat.testBit_or, ndf_testBit, tb_pow]
              by_cases e : t = i
              · rw [e, decide_eq_true rfl, qy]; rfl
              · rw [decide_eq_false e]; simp
            refine ⟨ndf y (2 ^ i), ⟨⟨hout, ndf_lt hy.1.2.1, ?_⟩, fun t ht => ?_⟩, ?_, ndf_le _ _⟩
            · rcases hy.1.2.2 with e | e
              · rw [e, out_tb, qt, Bool.not_true, Bool.and_false] at qy
                exact absurd qy (by decide)
              · exact Or.inr (feas_sub hM e hsub)
            · rw [ndf_testBit, tb_pow]
              rcases Nat.eq_or_lt_of_le ht with e | e
              · rw [← e, decide_eq_true rfl, hcf, Bool.not_true, Bool.and_false]
              · rw [decide_eq_false (by omega), hy.2 t e, Bool.not_false, Bool.and_true]
            · have := tvl_or (M := M) (ch := ndf y (2 ^ i)) hin (by rw [ndf_testBit, tb_pow, decide_eq_true rfl, Bool.not_true, Bool.and_false]) qt
              rw [hyi] at this
              omega
        · rw [if_neg q0]
          obtain ⟨τ1, e1, f1, p1⟩ := fits_eq h hw
          rw [e1, bd_some]
          have g2 : τ1 1 2 = nI bf := by rw [f1.1 1 (by decide) (by decide) (by decide) (by decide) (by decide)]; exact h2
          have g3 : τ1 1 3 = nI bv := by rw [f1.1 1 (by decide) (by decide) (by decide) (by decide) (by decide)]; exact h3
          by_cases qf : 0 < M.cnt M.av (ch ||| 2 ^ i)
          · rw [if_pos qf, if_neg (by decide)]
            have htv := tvl_or hin hcf qt
            obtain ⟨τ2, b1, v1, e2, k2, k3, kb, ke, kf, kp⟩ := ih f' (ch ||| 2 ^ i) bf bv τ1 (by omega) (by omega) p1 g2 g3 hb ⟨fun t hx => hsw t (hc.1 t hx), hw, Or.inr qf⟩ (fun t ht => by
              rw [Nat.testBit_or, tb_pow, decide_eq_false (by omega), Bool.or_false]
              exact hlow' t ht)
            rw [if_pos qt] at hmor
            rw [zI_add, zI_sub (by omega), ← htv, show mor M (i + 1) - M.vl i = mor M i by omega, e2, bd_some]
            have := last (M.vl i) τ2 b1 v1 (by rw [if_pos qt]) (f1.pc.trans kf) kp k2 k3 kb fun b2 v2 he => ep_two hcf ke he
            rw [zI_sub (by omega), show mor M (i + 1) - M.vl i = mor M i by omega] at this
            exact this
          · rw [if_neg qf, if_pos (show (0 : Int32) = nI 0 from rfl)]
            refine last (M.vl i) τ1 bf bv (by rw [if_pos qt]) f1.pc p1 g2 g3 hb fun b2 v2 he => ep_one he fun y hy => ?_
            cases qy : y.testBit i with
            | false =>
              refine ⟨y, ⟨hy.1, fun t ht => ?_⟩, rfl, Nat.le_refl _⟩
              rcases Nat.eq_or_lt_of_le ht with e | e
              · rw [← e, qy, hcf]
              · exact hy.2 t e
            | true =>
              exfalso
              rcases hy.1.2.2 with e | e
              · rw [e, out_tb, qt, Bool.not_true, Bool.and_false] at qy
                exact absurd qy (by decide)
              · refine qf (feas_sub hM e fun t hx => ?_)
                rw [Nat.testBit_or, tb_pow] at hx
                rcases Nat.lt_trichotomy t i with z | z | z
                · rw [decide_eq_false (by omega), Bool.or_false, hlow' t z] at hx
                  exact hy.1.1 t hx
                · rw [z]; exact qy
                · rw [decide_eq_false (by omega), Bool.or_false] at hx
                  rw [hy.2 t z]; exact hx
      · rw [if_neg qt, if_pos (by decide)]
        have hcf : ch.testBit i = true := by rw [hci, Bool.eq_false_iff.mpr qt]; rfl
        refine last 0 σ bf bv (by rw [if_neg qt]) (PcF.refl σ) h h2 h3 hb fun b2 v2 he => ep_one he fun y hy => ?_
        refine ⟨y, ⟨hy.1, fun t ht => ?_⟩, rfl, Nat.le_refl _⟩
        rcases Nat.eq_or_lt_of_le ht with e | e
        · rw [← e, hcf]
          exact hy.1.1 i (by rw [← hlow i (by omega)]; exact hcf)
        · exact hy.2 t e
    · rw [if_neg q]
      refine ⟨σ, bf, bv, rfl, h2, h3, hb, Or.inl ⟨fun y hy => ?_, rfl, rfl⟩, PcF.refl σ, h⟩
      have := tvl_le hi hy.2
      omega
theorem best_eq {B : Nat} {M : Mk} {σ : Sg} (h : PkI B M σ) : ∃ τ x, fX1_bestSet σ = some (nI x, τ) ∧ Bst M x ∧ PcF σ τ ∧ PkI B M τ := by
  have hM := h.2.1
  have hn := hM.1.1
  have hp := (h.c1 2 (nI M.out)).c1 3 (0 : Int32)
  obtain ⟨τ, bf, bv, e1, k2, k3, kb, ke, kf, kp⟩ := ext_eq hM M.n 14 M.out M.out 0 (sup (sup σ 1 2 (nI M.out)) 1 3 (0 : Int32)) (by omega) (Nat.le_refl _) hp (by rw [sup_self, upd_app, if_neg (by decide), sup_self, upd_app, if_pos rfl]) (by rw [sup_self, upd_app, if_pos rfl]; rfl) (by omega) (out_cand M) (fun _ _ => rfl)
  have hq : ∀ y, Cand M y → Qst M M.n M.out y := fun y hy => ⟨hy, fun t ht => by rw [tb_not hy.2.1 ht, tb_not (out_lt M) ht]⟩
  have h0 : tvl M M.out = 0 := by
    unfold tvl
    have : M.out &&& M.tk = 0 := by
      refine Nat.eq_of_testBit_eq fun t => ?_
      rw [Nat.testBit_and, out_tb, tb_zero]
      cases M.tk.testBit t <;> cases decide (t < M.n) <;> rfl
    rw [this]
    unfold vsum
    exact sumTo_zero fun s hs => by unfold vof; rw [tb_zero]; rfl
  refine ⟨τ, bf, ?_, ?_, (PcF.trans ⟨fun k z a b c d e => by rw [sup_ne z, sup_ne z], by rw [sup_ne (by decide), sup_ne (by decide)]⟩ kf), kp⟩
  · have h6 : (sup (sup σ 1 2 (nI M.out)) 1 3 (0 : Int32)) 3 = σ 3 := by rw [sup_ne (by decide), sup_ne (by decide)]
    have h12 : (sup (sup σ 1 2 (nI M.out)) 1 3 (0 : Int32)) 12 = σ 12 := by rw [sup_ne (by decide), sup_ne (by decide)]
    have h1 : (sup (sup σ 1 2 (nI M.out)) 1 3 (0 : Int32)) 1 2 = nI M.out := by rw [sup_self, upd_app, if_neg (by decide), sup_self, upd_app, if_pos rfl]
    rw [fX1_bestSet, stay_eq hn h.1, bd_some]
    simp only [lt'_eq]
    rw [h6, h1, h.1.2.1, h.1.1, sumv_eq hM hM.2.2.1 (fun s hs => by rw [h12]; exact (h.1.2.2.2.1 s hs).2.1), bd_some]
    have e0 : (0 : Int32) = nI (tvl M M.out) := by rw [h0]; rfl
    have e1' := e1
    rw [h0] at e1'
    rw [show nI (vsum M M.tk) = nI (mor M M.n) from rfl]
    rw [show nI 0 = (0 : Int32) from rfl] at e1'
    rw [e1', bd_some, k2]
  · rcases ke with ⟨c1, -, -⟩ | ⟨c1, -, -, c4⟩
    · exact absurd (c1 M.out (hq _ (out_cand M))) (Nat.not_lt_zero _)
    · refine ⟨c1.1, fun y hy => ?_⟩
      have h1 := c4 y (hq y hy)
      rw [vsum_split hy.1, vsum_split c1.1.1]
      omega
