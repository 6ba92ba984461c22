/-! Layer 2, 38: the reference considers a station -/
/-- of the row of now no place before 88 has changed -/
def RW (σ τ : Sg) : Prop := (∀ j, j < 88 → τ 1 j = σ 1 j) ∧ τ 2 = σ 2 ∧ τ 3 = σ 3 ∧ ∀ j, j ≠ 14 → τ 0 j = σ 0 j
theorem RW.refl (σ : Sg) : RW σ σ := ⟨fun _ _ => rfl, rfl, rfl, fun _ _ => rfl⟩
theorem RW.trans {σ τ υ : Sg} (h : RW σ τ) (h2 : RW τ υ) : RW σ υ := ⟨fun j a => (h2.1 j a).trans (h.1 j a), h2.2.1.trans h.2.1, h2.2.2.1.trans h.2.2.1, fun j a => (h2.2.2.2 j a).trans (h.2.2.2 j a)⟩
theorem RpF.rw {σ τ : Sg} (h : RpF σ τ) : RW σ τ := ⟨fun j _ => by rw [h.1 1 (by decide) (by decide)], h.1 2 (by decide) (by decide), h.1 3 (by decide) (by decide), h.2⟩
theorem RW.s1 {σ : Sg} {i : Nat} {v : Int32} (h : 88 ≤ i) : RW σ (sup σ 1 i v) := ⟨fun j a => by rw [sup_self, upd_app, if_neg (by omega)], sup_ne (by decide), sup_ne (by decide), fun j _ => by rw [sup_ne (by decide)]⟩
theorem RefM.of88 {g g' : Nat → Int32} {M : Mk} (hn : M.n ≤ 12) (h : RefM g M) (e : ∀ j, j < 88 → j ≠ 2 → j ≠ 3 → g' j = g j) : RefM g' M := by
  refine ⟨(e 0 (by decide) (by decide) (by decide)).trans h.1, (e 1 (by decide) (by decide) (by decide)).trans h.2.1, fun s hs => ?_⟩
  obtain ⟨a1, a2, a3, a4, a5, a6, a7⟩ := h.2.2 s hs
  rw [e _ (by omega) (by omega) (by omega), e _ (by omega) (by omega) (by omega), e _ (by omega) (by omega) (by omega), e _ (by omega) (by omega) (by omega), e _ (by omega) (by omega) (by omega), e _ (by omega) (by omega) (by omega), e _ (by omega) (by omega) (by omega)]
  exact ⟨a1, a2, a3, a4, a5, a6, a7⟩
theorem RefM.rw {σ τ : Sg} {M : Mk} (h : RefM (σ 1) M) (hn : M.n ≤ 12) (hf : RW σ τ) : RefM (τ 1) M := h.of88 hn fun j hj _ _ => hf.1 j hj
theorem i3 (b k s : Nat) : (nI b + nI k * (12 : Int32)) + nI s = nI (b + k * 12 + s) := by
  rw [show (12 : Int32) = nI 12 from rfl, zI_mul, zI_add, zI_add]
theorem stof_eq {M : Mk} {A : Au} {σ : Sg} (hnow : A.now ≤ 100) (hc : A.c A.now = A.m) (hn : M.n ≤ 12) (h : AucM (σ 1) M A) {s : Nat} (hs : s < M.n) : fX7_stateOf (nI s) σ = some (nI (stt M A A.m s), σ) := by
  rw [fX7_stateOf, h.1, show (316 : Int32) = nI 316 from rfl, i3, gd_of (inb_ok (by omega) (by omega)), zI_clamp (by omega), (h.2.1 A.now (Nat.le_refl _)).2.2 s hs, hc]
theorem stt_lt (M : Mk) (A : Au) (k s : Nat) : stt M A k s ≤ 2 := by
  unfold stt
  split
  · omega
  · split <;> omega
theorem in_loop {M : Mk} {A : Au} {σ : Sg} (hM : M.WF) (hnow : A.now ≤ 100) (hc : A.c A.now = A.m) (hr : RefM (σ 1) M) (h : AucM (σ 1) M A) {w T : Nat} (hw : w ≤ 2) (hT : T < 2 ^ M.n) (hb : ∀ t, t < M.n → (T.testBit t = true ↔ stt M A A.m t = w)) : ∀ k i fuel x, i + k = M.n → k < fuel → x < 2 ^ i → (∀ t, t < i → x.testBit t = T.testBit t) →
    fX7_in_4 (nI w) fuel (nI x) (nI i) σ = some (nI T, σ) := by
  have hn := hM.1.1
  intro k
  induction k with
  | zero =>
    intro i fuel x hi hf hx hxb
    obtain ⟨f', rfl, -⟩ := fuel_succ hf
    have e : x = T := by
      refine Nat.eq_of_testBit_eq fun t => ?_
      rcases Nat.lt_or_ge t i with q | q
      · exact hxb t q
      · rw [tb_not hx q, tb_not hT (by omega)]
    rw [fX7_in_4, hr.1, if_le (by omega) (by omega), if_pos (by omega), e]
  | succ k ih =>
    intro i fuel x hi hf hx hxb
    obtain ⟨f', rfl, hf⟩ := fuel_succ hf
    have hx2 : x < 2 ^ (i + 1) := Nat.lt_trans hx (Nat.pow_lt_pow_right (by decide) (by omega))
    have hst := stt_lt M A A.m i
    rw [fX7_in_4, hr.1, if_le (by omega) (by omega), if_neg (by omega), stof_eq hnow hc hn h (by omega), bd_some]
    simp only [jp_eq, lt'_eq]
    rw [if_eq (by omega) (by omega), zs_add, zI_one_shl (by omega), zI_or, show (0 : Int32) = nI 0 from rfl, zI_or, Nat.or_zero]
    by_cases q : stt M A A.m i = w
    · rw [if_pos q]
      refine ih (i + 1) f' (x ||| 2 ^ i) (by omega) (by omega) (or_lt hx2 (Nat.pow_lt_pow_right (by decide) (by omega))) fun t ht => ?_
      rw [Nat.testBit_or, tb_pow]
      rcases Nat.lt_or_ge t i with z | z
      · rw [decide_eq_false (by omega : ¬ t = i), Bool.or_false]
        exact hxb t z
      · rw [show t = i by omega, decide_eq_true rfl, Bool.or_true, (hb i (by omega)).mpr q]
    · rw [if_neg q]
      refine ih (i + 1) f' x (by omega) (by omega) hx2 fun t ht => ?_
      rcases Nat.lt_or_ge t i with z | z
      · exact hxb t z
      · rw [show t = i by omega, tb_not hx (Nat.le_refl i)]
        cases z2 : T.testBit i with
        | false => rfl
        | true => exact absurd ((hb i (by omega)).mp z2) q
theorem in_eq {M : Mk} {A : Au} {σ : Sg} (hM : M.WF) (hA : AucOK M A) (hr : RefM (σ 1) M) (h : AucM (σ 1) M A) {w T : Nat} (hw : w ≤ 2) (hT : T < 2 ^ M.n) (hb : ∀ t, t < M.n → (T.testBit t = true ↔ stt M A A.m t = w)) : fX7_in (nI w) σ = some (nI T, σ) := by
  rw [fX7_in, show (0 : Int32) = nI 0 from rfl]
  exact in_loop hM hA.1 hA.2.2.2.2.2.2.1 hr h hw hT hb M.n 0 FU 0 (by omega) (by have := hM.1.1; unfold FU; omega) (by decide) (fun t ht => absurd ht (Nat.not_lt_zero t))
theorem in0_eq {M : Mk} {A : Au} {σ : Sg} (hM : M.WF) (hA : AucOK M A) (hr : RefM (σ 1) M) (h : AucM (σ 1) M A) : fX7_in 0 σ = some (nI (airk M A A.m), σ) := by
  refine in_eq hM hA hr h (by decide) (airk_lt hM hA.2.2.2.2.1 (Nat.le_refl _)) fun t ht => ?_
  unfold stt
  rcases (part_k hM hA.2.2.2.2.1 A.m (Nat.le_refl _) t).1 ht with ⟨a, b, c⟩ | ⟨a, b, c⟩ | ⟨a, b, c⟩ <;> rw [a, b, c] <;> simp
theorem in1_eq {M : Mk} {A : Au} {σ : Sg} (hM : M.WF) (hA : AucOK M A) (hr : RefM (σ 1) M) (h : AucM (σ 1) M A) : fX7_in 1 σ = some (nI (bidk M A A.m), σ) := by
  refine in_eq (w := 1) hM hA hr h (by decide) (bidk_lt hM _) fun t ht => ?_
  unfold stt
  rcases (part_k hM hA.2.2.2.2.1 A.m (Nat.le_refl _) t).1 ht with ⟨a, b, c⟩ | ⟨a, b, c⟩ | ⟨a, b, c⟩ <;> rw [a] <;> simp [c]
theorem in2_eq {M : Mk} {A : Au} {σ : Sg} (hM : M.WF) (hA : AucOK M A) (hr : RefM (σ 1) M) (h : AucM (σ 1) M A) : fX7_in 2 σ = some (nI (frzk A A.m), σ) := by
  refine in_eq (w := 2) hM hA hr h (by decide) (frzk_lt hM hA.2.2.2.2.1 (Nat.le_refl _)) fun t ht => ?_
  unfold stt
  rcases (part_k hM hA.2.2.2.2.1 A.m (Nat.le_refl _) t).1 ht with ⟨a, b, c⟩ | ⟨a, b, c⟩ | ⟨a, b, c⟩ <;> rw [a, c] <;> simp
theorem rnote_eq {σ : Sg} {m now s w : Nat} (h3 : σ 1 3 = nI now) (hn : now ≤ 100) (hc : σ 1 (214 + now) = nI m) (hm : m < 12) (hs : s < 12) (hw : w ≤ 2) :
    fX7_note (nI s) (nI w) σ = some ((), sup (sup σ 1 (100 + m) (nI (1000 * now + 10 * s + w))) 1 (214 + now) (nI (m + 1))) := by
  rw [fX7_note, h3, show (214 : Int32) = nI 214 from rfl, show (100 : Int32) = nI 100 from rfl, zI_add, gd_of (inb_ok (by omega) (by omega)), zI_clamp (show 214 + now < 2 ^ 31 by omega), hc, zI_add, gd_of (inb_ok (by omega) (by omega))]
  simp only [lt'_eq]
  rw [zI_clamp (show 100 + m < 2 ^ 31 by omega), show (1000 : Int32) = nI 1000 from rfl, show (10 : Int32) = nI 10 from rfl, zI_mul, zI_mul, zI_add, zI_add, sup_self, upd_app, if_neg (by omega), h3, zI_add, gd_of (inb_ok (by omega) (by omega)), gd_of (inb_ok (by omega) (by omega)), zI_clamp (show 214 + now < 2 ^ 31 by omega), upd_app, if_neg (by omega), hc, zs_add]
theorem sset_eq {σ : Sg} {now s : Nat} {v : Int32} (h3 : σ 1 3 = nI now) (hn : now ≤ 100) (hs : s < 12) : fX7_setState (nI s) v σ = some ((), sup σ 1 (316 + now * 12 + s) v) := by
  rw [fX7_setState, h3, show (316 : Int32) = nI 316 from rfl, i3, gd_of (inb_ok (by omega) (by omega)), lt'_eq, zI_clamp (by omega)]
theorem stt_add {M : Mk} {A : Au} {s w : Nat} {k : Nat} (hk : k ≤ A.m) (t : Nat) : stt M (A.add s w) k t = stt M A k t := by
  unfold stt
  rw [bidk_add k hk, frzk_add k hk]
theorem stt_add1 {M : Mk} (hM : M.WF) {A : Au} (hA : AucOK M A) {s w : Nat} (hs : (bidk M A A.m).testBit s = true) (t : Nat) : stt M (A.add s w) (A.m + 1) t = if t = s then (if w = 0 then 0 else 2) else stt M A A.m t := by
  have hsn := tb_lt (bidk_lt hM A.m) hs
  have hp : (frzk A A.m).testBit s = false := by
    rcases (part_k hM hA.2.2.2.2.1 A.m (Nat.le_refl _) s).1 hsn with z | z | z
    · exact z.2.2
    · exact z.2.2
    · rw [z.1] at hs
      exact absurd hs (by decide)
  unfold stt
  rw [bid_add1, frz_add1, ndf_testBit, tb_pow]
  by_cases e : t = s
  · rw [if_pos e, decide_eq_true e, Bool.not_true, Bool.and_false, if_neg (by decide)]
    by_cases w0 : w = 0
    · rw [if_pos w0, if_pos w0, e, hp, if_neg (by decide)]
    · rw [if_neg w0, if_neg w0, Nat.testBit_or, tb_pow, decide_eq_true e, Bool.or_true, if_pos rfl]
  · rw [if_neg e, decide_eq_false e, Bool.not_false, Bool.and_true]
    have : (if w = 0 then frzk A A.m else frzk A A.m ||| 2 ^ s).testBit t = (frzk A A.m).testBit t := by
      split
      · rfl
      · rw [Nat.testBit_or, tb_pow, decide_eq_false e, Bool.or_false]
    rw [this]
theorem AucM.add {g g' : Nat → Int32} {M : Mk} (hM : M.WF) {A : Au} (hA : AucOK M A) (h : AucM g M A) {s w : Nat} (hs : (bidk M A A.m).testBit s = true) (hw : w ≤ 2)
    (h1 : w = 1 → ∃ x, g' (88 + s) = nI x ∧ Rsn M s (airk M A A.m) x ∧ x < 2 ^ 12) (h2 : w = 2 → g' (88 + s) = -1)
    (k1 : g' (316 + A.now * 12 + s) = nI (if w = 0 then 0 else 2)) (k2 : g' (100 + A.m) = nI (1000 * A.now + 10 * s + w)) (k3 : g' (214 + A.now) = nI (A.m + 1))
    (e : ∀ j, j ≠ 316 + A.now * 12 + s → j ≠ 88 + s → j ≠ 100 + A.m → j ≠ 214 + A.now → g' j = g j) : AucM g' M (A.add s w) := by
  have hn := hM.1.1
  have hsn := tb_lt (bidk_lt hM A.m) hs
  have hm := ev_room hM hA.2.2.2.2.1 hs
  have hnow := hA.1
  obtain ⟨g3, gr, gp, gc, ge⟩ := h
  refine ⟨(e 3 (by omega) (by omega) (by omega) (by omega)).trans g3, fun k hk => ?_, fun k hk t ht => ?_, fun t ht => ?_, fun k hk => ?_⟩
  · have hk' : k ≤ A.now := hk
    obtain ⟨a1, a2, a3⟩ := gr k hk'
    by_cases q : k = A.now
    · have ec : (A.add s w).c k = A.m + 1 := if_pos q
      rw [ec, q]
      refine ⟨(e _ (by omega) (by omega) (by omega) (by omega)).trans (by rw [← q]; exact a1), k3, fun t ht => ?_⟩
      rw [stt_add1 hM hA hs]
      by_cases z : t = s
      · rw [if_pos z, z, k1]
      · rw [if_neg z, e _ (by omega) (by omega) (by omega) (by omega), ← q, a3 t ht, q, hA.2.2.2.2.2.2.1]
    · have ec : (A.add s w).c k = A.c k := if_neg q
      rw [ec]
      refine ⟨(e _ (by omega) (by omega) (by omega) (by omega)).trans a1, (e _ (by omega) (by omega) (by omega) (by omega)).trans a2, fun t ht => ?_⟩
      rw [stt_add (hA.2.2.2.2.2.1 k hk').1, e _ (by omega) (by omega) (by omega) (by omega)]
      exact a3 t ht
  · have hk' : k < A.now := hk
    have htn := tb_lt hM.2.2.1 ht
    have ec : (A.add s w).c k = A.c k := if_neg (by omega)
    rw [ec, bidk_add _ (hA.2.2.2.2.2.1 k (by omega)).1, e _ (by omega) (by omega) (by omega) (by omega)]
    exact gp k hk' t ht
  · have htn := tb_lt hM.2.2.1 ht
    show g' (1540 + A.now * 12 + t) = A.cur t
    rw [e _ (by omega) (by omega) (by omega) (by omega)]
    exact gc t ht
  · have hk' : k < A.m + 1 := hk
    rw [airk_add k (by omega), evn_add]
    by_cases q : k = A.m
    · have f1 : (A.add s w).wd k = w := if_pos q
      have f2 : (A.add s w).st k = s := if_pos q
      rw [if_pos q, f1, f2, q]
      exact ⟨h1, h2, k2⟩
    · have f1 : (A.add s w).wd k = A.wd k := if_neg q
      have f2 : (A.add s w).st k = A.st k := if_neg q
      have hne := st_ne hs (show k < A.m by omega)
      have hst := tb_lt (bidk_lt hM k) (hA.2.2.2.2.1 k (by omega)).1
      rw [if_neg q, f1, f2, e _ (by omega) (by omega) (by omega) (by omega), e (100 + k) (by omega) (by omega) (by omega) (by omega)]
      exact ge k (by omega)
theorem rconsider_eq {M : Mk} (hM : M.WF) {A : Au} (hA : AucOK M A) {σ : Sg} (hr : RefM (σ 1) M) (h : AucM (σ 1) M A) {s : Nat} (hs : (bidk M A A.m).testBit s = true) :
    ∃ τ, fX7_consider (nI s) σ = some ((), τ) ∧ RW σ τ ∧ AucM (τ 1) M (cons M A s) := by
  have hn := hM.1.1
  have hsn := tb_lt (bidk_lt hM A.m) hs
  have hm := ev_room hM hA.2.2.2.2.1 hs
  have hnow := hA.1
  have hair := airk_lt hM hA.2.2.2.2.1 (Nat.le_refl A.m)
  obtain ⟨τ1, e1, f1⟩ := poss_eq hM (S := airk M A A.m ||| 2 ^ s) (or_lt hair (Nat.pow_lt_pow_right (by decide) hsn)) hr
  have t1 : τ1 1 = σ 1 := f1.1 1 (by decide) (by decide)
  have hc : σ 1 (214 + A.now) = nI A.m := by rw [(h.2.1 A.now (Nat.le_refl _)).2.1, hA.2.2.2.2.2.2.1]
  rw [fX7_consider, in0_eq hM hA hr h, bd_some, zI_one_shl (by omega), zI_or, e1, bd_some]
  unfold cons
  by_cases q : 0 < M.cnt M.av (airk M A A.m ||| 2 ^ s)
  · rw [if_pos q, if_neg (by decide), if_pos q, t1, h.1, show (112 : Int32) = nI 112 from rfl, zI_add, gd_of (inb_ok (by omega) (by omega)), zI_clamp (by omega), (h.2.1 A.now (Nat.le_refl _)).1, rprice_eq hM hsn hA.2.2.2.1 (by rw [t1]; exact hr), bd_some, show (16 : Int32) = nI 16 from rfl, zI_add, gd_of (inb_ok (by omega) (by omega)), zI_clamp (by omega), t1, (hr.2.2 s hsn).2.1]
    by_cases q2 : nI (M.vl s) ≤ pz M s (A.bs A.now)
    · rw [if_pos q2, if_pos q2, h.1, show (1540 : Int32) = nI 1540 from rfl, i3, gd_of (inb_ok (by omega) (by omega)), lt'_eq, zI_clamp (by omega)]
      refine ⟨_, rfl, f1.rw.trans (RW.s1 (by omega)), ?_⟩
      obtain ⟨g3, gr, gp, gc, ge⟩ := h
      have e : ∀ j, j ≠ 1540 + A.now * 12 + s → sup τ1 1 (1540 + A.now * 12 + s) (pz M s (A.bs A.now)) 1 j = σ 1 j := fun j hj => by rw [sup_self, upd_app, if_neg hj, t1]
      refine ⟨(e 3 (by omega)).trans g3, fun k hk => ?_, fun k hk t ht => ?_, fun t ht => ?_, fun k hk => ?_⟩
      · have hk' : k ≤ A.now := hk
        obtain ⟨a1, a2, a3⟩ := gr k hk'
        refine ⟨(e _ (by omega)).trans a1, (e _ (by omega)).trans a2, fun t ht => ?_⟩
        have : stt M (A.prc s (pz M s (A.bs A.now))) (A.c k) t = stt M A (A.c k) t := by
          unfold stt
          rw [bidk_prc, frzk_prc]
        rw [e _ (by omega)]
        exact (a3 t ht).trans (congrArg nI this.symm)
      · have hk' : k < A.now := hk
        have htn := tb_lt hM.2.2.1 ht
        show sup τ1 1 (1540 + A.now * 12 + s) (pz M s (A.bs A.now)) 1 (1540 + k * 12 + t) = if (bidk M (A.prc s (pz M s (A.bs A.now))) (A.c k)).testBit t then pz M t (A.bs k) else (if t = s then pz M s (A.bs A.now) else A.cur t)
        rw [e _ (by omega), bidk_prc, gp k hk' t ht]
        by_cases z : t = s
        · have hb : (bidk M A (A.c k)).testBit t = true := by
            rw [z]
            exact bidk_sub A.m (A.c k) (hA.2.2.2.2.2.1 k (by omega)).1 s hs
          rw [if_pos hb, if_pos hb]
        · rw [if_neg z]
      · have htn := tb_lt hM.2.2.1 ht
        show sup τ1 1 (1540 + A.now * 12 + s) (pz M s (A.bs A.now)) 1 (1540 + A.now * 12 + t) = if t = s then pz M s (A.bs A.now) else A.cur t
        by_cases z : t = s
        · rw [if_pos z, z, sup_self, upd_app, if_pos rfl]
        · rw [if_neg z, e _ (by omega)]
          exact gc t ht
      · have hk' : k < A.m := hk
        have hst := tb_lt (bidk_lt hM k) (hA.2.2.2.2.1 k hk').1
        rw [airk_prc]
        show (A.wd k = 1 → ∃ x, sup τ1 1 (1540 + A.now * 12 + s) (pz M s (A.bs A.now)) 1 (88 + A.st k) = nI x ∧ Rsn M (A.st k) (airk M A k) x ∧ x < 2 ^ 12) ∧ (A.wd k = 2 → sup τ1 1 (1540 + A.now * 12 + s) (pz M s (A.bs A.now)) 1 (88 + A.st k) = -1) ∧ sup τ1 1 (1540 + A.now * 12 + s) (pz M s (A.bs A.now)) 1 (100 + k) = nI (evn A k)
        rw [e _ (by omega), e (100 + k) (by omega)]
        exact ge k hk'
    · rw [if_neg q2, if_neg q2, sset_eq (now := A.now) (by rw [t1]; exact h.1) hnow (by omega), bd_some, show (0 : Int32) = nI 0 from rfl, rnote_eq (m := A.m) (now := A.now) (by rw [sup_self, upd_app, if_neg (by omega), t1]; exact h.1) hnow (by rw [sup_self, upd_app, if_neg (by omega), t1]; exact hc) hm (by omega) (by decide), bd_some]
      refine ⟨_, rfl, ((f1.rw.trans (RW.s1 (by omega))).trans (RW.s1 (by omega))).trans (RW.s1 (by omega)), ?_⟩
      refine AucM.add hM hA h hs (by decide) (fun z => absurd z (by decide)) (fun z => absurd z (by decide)) ?_ ?_ ?_ ?_
      · rw [sup_self, upd_app, if_neg (by omega), sup_self, upd_app, if_neg (by omega), sup_self, upd_app, if_pos rfl]
        rfl
      · rw [sup_self, upd_app, if_neg (by omega), sup_self, upd_app, if_pos rfl]
      · rw [sup_self, upd_app, if_pos rfl]
      · intro j a1 a2 a3 a4
        rw [sup_self, upd_app, if_neg a4, sup_self, upd_app, if_neg a3, sup_self, upd_app, if_neg a1, t1]
  · rw [if_neg q, if_pos rfl, if_neg q, sset_eq (now := A.now) (by rw [t1]; exact h.1) hnow (by omega), bd_some]
    have r2 : RefM (sup τ1 1 (316 + A.now * 12 + s) (2 : Int32) 1) M := hr.rw hn (f1.rw.trans (RW.s1 (by omega)))
    obtain ⟨τ3, x, e3, i3', f3⟩ := reason_eq hM hsn hair (decide_eq_true q) r2
    have t3 : τ3 1 = sup τ1 1 (316 + A.now * 12 + s) (2 : Int32) 1 := f3.1 1 (by decide) (by decide)
    rw [e3, bd_some, show (88 : Int32) = nI 88 from rfl, zI_add, gd_of (inb_ok (by omega) (by omega)), lt'_eq, zI_clamp (by omega), show (1 : Int32) = nI 1 from rfl, rnote_eq (m := A.m) (now := A.now) (by rw [sup_self, upd_app, if_neg (by omega), t3, sup_self, upd_app, if_neg (by omega), t1]; exact h.1) hnow (by rw [sup_self, upd_app, if_neg (by omega), t3, sup_self, upd_app, if_neg (by omega), t1]; exact hc) hm (by omega) (by decide), bd_some]
    refine ⟨_, rfl, ((((f1.rw.trans (RW.s1 (by omega))).trans f3.rw).trans (RW.s1 (by omega))).trans (RW.s1 (by omega))).trans (RW.s1 (by omega)), ?_⟩
    refine AucM.add hM hA h hs (by decide) (fun _ => ⟨x, ?_, i3', hM.1.lt12 (sbs_lt i3'.1 hair)⟩) (fun z => absurd z (by decide)) ?_ ?_ ?_ ?_
    · rw [sup_self, upd_app, if_neg (by omega), sup_self, upd_app, if_neg (by omega), sup_self, upd_app, if_pos rfl]
    · rw [sup_self, upd_app, if_neg (by omega), sup_self, upd_app, if_neg (by omega), sup_self, upd_app, if_neg (by omega), t3, sup_self, upd_app, if_pos rfl]
      rfl
    · rw [sup_self, upd_app, if_neg (by omega), sup_self, upd_app, if_pos rfl]
    · rw [sup_self, upd_app, if_pos rfl]
    · intro j a1 a2 a3 a4
      rw [sup_self, upd_app, if_neg a4, sup_self, upd_app, if_neg a3, sup_self, upd_app, if_neg a2, t3, sup_self, upd_app, if_neg a1, t1]
