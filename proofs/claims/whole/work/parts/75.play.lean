/-! Layer 2, 36: the class plays a round -/
/-- what stays as it was while an auction runs -/
def CF (σ τ : Sg) : Prop := (∀ k, k = 0 ∨ (3 ≤ k ∧ k ≤ 6) ∨ (8 ≤ k ∧ k ≤ 9) ∨ (11 ≤ k ∧ k ≤ 26) ∨ (31 ≤ k ∧ k ≤ 34) → τ k = σ k) ∧ τ 2 8 = σ 2 8 ∧ τ 7 4 = σ 7 4
theorem CF.refl (σ : Sg) : CF σ σ := ⟨fun _ _ => rfl, rfl, rfl⟩
theorem CF.trans {σ τ υ : Sg} (h : CF σ τ) (h2 : CF τ υ) : CF σ υ := ⟨fun k a => (h2.1 k a).trans (h.1 k a), h2.2.1.trans h.2.1, h2.2.2.trans h.2.2⟩
theorem PkF.cf {σ τ : Sg} (h : PkF σ τ) : CF σ τ := ⟨fun k a => h.1 k (by omega) (by omega) (by omega) (by omega) (by omega), h.2, by rw [h.1 7 (by decide) (by decide) (by decide) (by decide) (by decide)]⟩
theorem F10.cf {σ τ : Sg} (h : F10 σ τ) : CF σ τ := ⟨fun k a => h k (by omega), by rw [h 2 (by decide)], by rw [h 7 (by decide)]⟩
theorem PkI.oth {B : Nat} {M : Mk} {σ τ : Sg} (h : PkI B M σ) (e : ∀ k, k = 2 ∨ k = 3 ∨ (11 ≤ k ∧ k ≤ 16) ∨ k = 39 ∨ k = 40 → τ k = σ k) : PkI B M τ := by
  have h1 := h.1
  refine ⟨?_, h.2.1, h.2.2.1.same (e 2 (by omega)) (e 39 (by omega)), h.2.2.2.keep (by rw [e 2 (by omega)]) (e 40 (by omega))⟩
  unfold ClsM at h1 ⊢
  rw [e 3 (by omega), e 11 (by omega), e (11 + 1) (by omega), e (11 + 2) (by omega), e (11 + 3) (by omega), e (11 + 4) (by omega), e (11 + 5) (by omega)]
  exact h1
/-- the cells of the auction alone have changed -/
def AF (σ τ : Sg) : Prop := (∀ k, k ≠ 7 → ¬(27 ≤ k ∧ k ≤ 30) → τ k = σ k) ∧ τ 7 4 = σ 7 4
theorem AF.refl (σ : Sg) : AF σ σ := ⟨fun _ _ _ => rfl, rfl⟩
theorem AF.trans {σ τ υ : Sg} (h : AF σ τ) (h2 : AF τ υ) : AF σ υ := ⟨fun k a b => (h2.1 k a b).trans (h.1 k a b), h2.2.trans h.2⟩
theorem AF.cf {σ τ : Sg} (h : AF σ τ) : CF σ τ := ⟨fun k a => h.1 k (by omega) (by omega), by rw [h.1 2 (by decide) (by decide)], h.2⟩
theorem PkI.af {B : Nat} {M : Mk} {σ τ : Sg} (h : PkI B M σ) (hf : AF σ τ) : PkI B M τ := h.oth fun k hk => hf.1 k (by omega) (by omega)
theorem AF.s7 {σ : Sg} {i : Nat} {v : Int32} (h : i ≠ 4) : AF σ (sup σ 7 i v) := ⟨fun k a _ => sup_ne a, by rw [sup_self, upd_app, if_neg (by omega)]⟩
theorem AF.row {σ : Sg} {k i : Nat} {v : Int32} (h : 27 ≤ k) (h2 : k ≤ 30) : AF σ (sup σ k i v) := ⟨fun j a b => sup_ne (by omega), by rw [sup_ne (by omega)]⟩
theorem AucX.pk {σ τ : Sg} {M : Mk} {A : Au} (h : AucX 7 27 σ M A) (e7 : τ 7 = σ 7) (e27 : τ 27 = σ 27) (e28 : τ 28 = σ 28) (e29 : τ 29 = σ 29) (e30 : τ 30 = σ 30) : AucX 7 27 τ M A := by
  unfold AucX at h ⊢
  rw [e7, e27, show (27 + 1) = 28 from rfl, show (27 + 2) = 29 from rfl, show (27 + 3) = 30 from rfl, e28, e29, e30]
  exact h
theorem AucX.pkf {σ τ : Sg} {M : Mk} {A : Au} (h : AucX 7 27 σ M A) (hf : PkF σ τ) : AucX 7 27 τ M A :=
  h.pk (hf.1 7 (by decide) (by decide) (by decide) (by decide) (by decide)) (hf.1 27 (by decide) (by decide) (by decide) (by decide) (by decide)) (hf.1 28 (by decide) (by decide) (by decide) (by decide) (by decide)) (hf.1 29 (by decide) (by decide) (by decide) (by decide) (by decide)) (hf.1 30 (by decide) (by decide) (by decide) (by decide) (by decide))
theorem AucX.f10 {σ τ : Sg} {M : Mk} {A : Au} (h : AucX 7 27 σ M A) (hf : F10 σ τ) : AucX 7 27 τ M A :=
  h.pk (hf 7 (by decide)) (hf 27 (by decide)) (hf 28 (by decide)) (hf 29 (by decide)) (hf 30 (by decide))
theorem st_ne {M : Mk} {A : Au} {s k m : Nat} (hs : (bidk M A m).testBit s = true) (hk : k < m) : A.st k ≠ s := by
  intro e
  have := bidk_sub m (k + 1) (by omega) s hs
  rw [bidk, ndf_testBit, e, tb_pow, decide_eq_true rfl, Bool.not_true, Bool.and_false] at this
  exact absurd this (by decide)
theorem AucX.add {σ τ : Sg} {M : Mk} {A : Au} (h : AucX 7 27 σ M A) {s w : Nat} {b : Int32} (hs : (bidk M A A.m).testBit s = true) (h1 : w = 1 → b = nI (airk M A A.m)) (h2 : w = 2 → b = -1)
    (e5 : τ 7 5 = σ 7 5) (e6 : τ 7 6 = nI (if w = 0 then airk M A A.m ||| 2 ^ s else airk M A A.m)) (e7 : τ 7 7 = nI (ndf (bidk M A A.m) (2 ^ s))) (e8 : τ 7 8 = nI (if w = 0 then frzk A A.m else frzk A A.m ||| 2 ^ s)) (e9 : τ 7 9 = nI (A.m + 1))
    (e27 : τ 27 = σ 27) (e28 : τ 28 = σ 28) (e29 : τ 29 = if w = 0 then σ 29 else upd (σ 29) s b) (e30 : τ 30 = upd (σ 30) A.m (nI (1000 * A.now + 10 * s + w))) : AucX 7 27 τ M (A.add s w) := by
  obtain ⟨g5, g6, g7, g8, g9, gb, gp, ge⟩ := h
  refine ⟨e5.trans g5, ?_, ?_, ?_, e9, ?_, ?_, ?_⟩
  · rw [e6]; exact congrArg nI air_add1.symm
  · rw [e7]; exact congrArg nI bid_add1.symm
  · rw [e8]; exact congrArg nI frz_add1.symm
  · rw [e27]; exact gb
  · show ∀ t, M.tk.testBit t = true → τ 28 t = A.cur t
    rw [e28]; exact gp
  · intro k hk
    have hk' : k < A.m + 1 := hk
    show ((A.add s w).wd k = 1 → τ 29 ((A.add s w).st k) = nI (airk M (A.add s w) k)) ∧ ((A.add s w).wd k = 2 → τ 29 ((A.add s w).st k) = -1) ∧ τ 30 k = nI (evn (A.add s w) k)
    rw [airk_add k (by omega), evn_add, e30, upd_app, e29]
    by_cases q : k = A.m
    · have f1 : (A.add s w).wd k = w := if_pos q
      have f2 : (A.add s w).st k = s := if_pos q
      rw [if_pos q, if_pos q, f1, f2, q]
      refine ⟨fun z => ?_, fun z => ?_, rfl⟩
      · rw [if_neg (by omega), upd_app, if_pos rfl, h1 z]
      · rw [if_neg (by omega), upd_app, if_pos rfl, h2 z]
    · have f1 : (A.add s w).wd k = A.wd k := if_neg q
      have f2 : (A.add s w).st k = A.st k := if_neg q
      rw [if_neg q, if_neg q, f1, f2]
      have hne : A.st k ≠ s := st_ne hs (by omega)
      have h29 : (if w = 0 then σ 29 else upd (σ 29) s b) (A.st k) = σ 29 (A.st k) := by
        split
        · rfl
        · rw [upd_app, if_neg hne]
      rw [h29]
      exact ge k (by omega)
theorem note_eq {σ : Sg} {m now s w : Nat} (h9 : σ 7 9 = nI m) (hm : m < 12) (h5 : σ 7 5 = nI now) (hn : now ≤ 100) (hs : s < 12) (hw : w ≤ 2) :
    fX0_note (nI s) (nI w) σ = some ((), sup (sup σ 30 m (nI (1000 * now + 10 * s + w))) 7 9 (nI (m + 1))) := by
  rw [fX0_note, h9, show (12 : Int32) = nI 12 from rfl, if_le (by decide) (by omega), if_neg (by omega), gd_of (inb_ok (by omega) (by omega))]
  simp only [lt'_eq]
  rw [zI_clamp (by omega), h5, show (1000 : Int32) = nI 1000 from rfl, show (10 : Int32) = nI 10 from rfl, zI_mul, zI_mul, zI_add, zI_add, sup_ne (by decide), h9, zs_add]
theorem put_eq {M : Mk} (hM : M.WF) {A : Au} (hA : AucOK M A) {σ : Sg} (h : AucX 7 27 σ M A) {s : Nat} (hs : (bidk M A A.m).testBit s = true) :
    ∃ τ, fX0_putOnAir (nI s) σ = some ((), τ) ∧ AF σ τ ∧ AucX 7 27 τ M (A.add s 0) := by
  have hn := hM.1.1
  have hsn := tb_lt (bidk_lt hM A.m) hs
  have hm := ev_room hM hA.2.2.2.2.1 hs
  obtain ⟨g5, g6, g7, g8, g9, gb, gp, ge⟩ := h
  rw [fX0_putOnAir]
  simp only [lt'_eq]
  rw [g7, zI_one_shl (by omega), zI_ndf, sup_self, upd_app, if_neg (by decide), g6, zI_or, show (0 : Int32) = nI 0 from rfl,
    note_eq (m := A.m) (now := A.now) (by rw [sup_self, upd_app, if_neg (by decide), sup_self, upd_app, if_neg (by decide)]; exact g9) hm (by rw [sup_self, upd_app, if_neg (by decide), sup_self, upd_app, if_neg (by decide)]; exact g5) hA.1 (by omega) (by omega), bd_some]
  refine ⟨_, rfl, ?_, ?_⟩
  · exact (((AF.s7 (by decide)).trans (AF.s7 (by decide))).trans (AF.row (by decide) (by decide))).trans (AF.s7 (by decide))
  · refine AucX.add (b := 0) ⟨g5, g6, g7, g8, g9, gb, gp, ge⟩ hs (fun z => by omega) (fun z => by omega) ?_ ?_ ?_ ?_ ?_ ?_ ?_ ?_ ?_
    all_goals simp [sup_app, upd_app, g8]
theorem frz_eq {M : Mk} (hM : M.WF) {A : Au} (hA : AucOK M A) {σ : Sg} (h : AucX 7 27 σ M A) {s w : Nat} {b : Int32} (hs : (bidk M A A.m).testBit s = true) (hw : w = 1 ∨ w = 2) (h1 : w = 1 → b = nI (airk M A A.m)) (h2 : w = 2 → b = -1) :
    ∃ τ, fX0_freeze (nI s) b (nI w) σ = some ((), τ) ∧ AF σ τ ∧ AucX 7 27 τ M (A.add s w) := by
  have hn := hM.1.1
  have hsn := tb_lt (bidk_lt hM A.m) hs
  have hm := ev_room hM hA.2.2.2.2.1 hs
  obtain ⟨g5, g6, g7, g8, g9, gb, gp, ge⟩ := h
  rw [fX0_freeze]
  simp only [lt'_eq]
  rw [g7, zI_one_shl (by omega), zI_ndf, sup_self, upd_app, if_neg (by decide), g8, zI_or, gd_of (inb_ok (by omega) (by omega)), zI_clamp (by omega),
    note_eq (m := A.m) (now := A.now) (by rw [sup_ne (by decide), sup_self, upd_app, if_neg (by decide), sup_self, upd_app, if_neg (by decide)]; exact g9) hm (by rw [sup_ne (by decide), sup_self, upd_app, if_neg (by decide), sup_self, upd_app, if_neg (by decide)]; exact g5) hA.1 (by omega) (by omega), bd_some]
  refine ⟨_, rfl, ?_, ?_⟩
  · exact ((((AF.s7 (by decide)).trans (AF.s7 (by decide))).trans (AF.row (by decide) (by decide))).trans (AF.row (by decide) (by decide))).trans (AF.s7 (by decide))
  · have hw0 : w ≠ 0 := by omega
    refine AucX.add (b := b) ⟨g5, g6, g7, g8, g9, gb, gp, ge⟩ hs h1 h2 ?_ ?_ ?_ ?_ ?_ ?_ ?_ ?_ ?_
    all_goals simp [sup_app, upd_app, g6, hw0]
/-- what a round does with a station -/
def cons (M : Mk) (A : Au) (s : Nat) : Au :=
  if 0 < M.cnt M.av (airk M A A.m ||| 2 ^ s) then (if nI (M.vl s) ≤ pz M s (A.bs A.now) then A.prc s (pz M s (A.bs A.now)) else A.add s 0) else A.add s 1
theorem cons_ok {M : Mk} (hM : M.WF) {A : Au} (hA : AucOK M A) {s : Nat} (hs : (bidk M A A.m).testBit s = true) : AucOK M (cons M A s) := by
  unfold cons
  split
  · split
    · exact hA.prc (pz_ok hM (tb_lt (bidk_lt hM A.m) hs) hA.2.2.2.1).2
    · exact hA.add hs (by decide) (fun z => by omega)
  · next q => exact hA.add hs (by decide) (fun _ => decide_eq_true q)
theorem consider_eq {B : Nat} {M : Mk} {A : Au} (hA : AucOK M A) {σ : Sg} (hp : PkI B M σ) (h : AucX 7 27 σ M A) {s : Nat} (hs : (bidk M A A.m).testBit s = true) :
    ∃ τ, fX6_consider (nI s) (nI (A.bs A.now)) σ = some ((), τ) ∧ CF σ τ ∧ PkI B M τ ∧ AucX 7 27 τ M (cons M A s) ∧ τ 10 = σ 10 := by
  have hM := hp.2.1
  have hn := hM.1.1
  have hsn := tb_lt (bidk_lt hM A.m) hs
  have hair := airk_lt hM hA.2.2.2.2.1 (Nat.le_refl A.m)
  obtain ⟨τ1, e1, f1, p1⟩ := fits_eq hp (S := airk M A A.m ||| 2 ^ s) (or_lt hair (Nat.pow_lt_pow_right (by decide) hsn))
  have x1 := h.pkf f1
  have t10 : τ1 10 = σ 10 := f1.1 10 (by decide) (by decide) (by decide) (by decide) (by decide)
  rw [fX6_consider, h.2.1, zI_one_shl (by omega), zI_or, e1, bd_some]
  unfold cons
  by_cases q : 0 < M.cnt M.av (airk M A A.m ||| 2 ^ s)
  · rw [if_pos q, if_neg (by decide), if_pos q, cprice_eq hM hsn hA.2.2.2.1 p1.1, bd_some, gd_of (inb_ok (by omega) (by omega)), gd_of (inb_ok (by omega) (by omega)), zI_clamp (by omega)]
    have hv : τ1 12 s = nI (M.vl s) := (p1.1.2.2.2.1 s hsn).2.1
    rw [hv]
    by_cases q2 : nI (M.vl s) ≤ pz M s (A.bs A.now)
    · rw [if_pos q2, if_pos q2, lt'_eq]
      have hf2 : AF τ1 (sup τ1 28 s (pz M s (A.bs A.now))) := AF.row (by decide) (by decide)
      refine ⟨_, rfl, f1.cf.trans hf2.cf, p1.af hf2, ?_, by rw [sup_ne (by decide)]; exact t10⟩
      obtain ⟨g5, g6, g7, g8, g9, gb, gp, ge⟩ := x1
      refine ⟨?_, ?_, ?_, ?_, ?_, ?_, ?_, ?_⟩
      · rw [sup_ne (by decide)]; exact g5
      · rw [sup_ne (by decide), airk_prc]; exact g6
      · rw [sup_ne (by decide), bidk_prc]; exact g7
      · rw [sup_ne (by decide), frzk_prc]; exact g8
      · rw [sup_ne (by decide)]; exact g9
      · rw [sup_ne (by decide)]; exact gb
      · intro t ht
        show sup τ1 28 s (pz M s (A.bs A.now)) 28 t = if t = s then pz M s (A.bs A.now) else A.cur t
        rw [sup_self, upd_app]
        split
        · rfl
        · exact gp t ht
      · intro k hk
        rw [airk_prc, sup_ne (by decide), sup_ne (by decide)]
        exact ge k hk
    · rw [if_neg q2, if_neg q2]
      obtain ⟨τ2, e2, f2, x2⟩ := put_eq hM hA x1 hs
      rw [e2, bd_some]
      exact ⟨τ2, rfl, f1.cf.trans f2.cf, p1.af f2, x2, (f2.1 10 (by decide) (by decide)).trans t10⟩
  · rw [if_neg q, if_pos rfl, if_neg q]
    obtain ⟨τ2, e2, f2, x2⟩ := frz_eq hM hA x1 hs (Or.inl rfl) (fun _ => x1.2.1) (fun z => absurd z (by decide))
    rw [show (1 : Int32) = nI 1 from rfl, e2, bd_some]
    exact ⟨τ2, rfl, f1.cf.trans f2.cf, p1.af f2, x2, (f2.1 10 (by decide) (by decide)).trans t10⟩
