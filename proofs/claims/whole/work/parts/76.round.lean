/-! Layer 2, 37: a round -/
def rstep (M : Mk) (R : Nat → Nat) (A : Au) (j : Nat) : Au := if (bidk M A A.m).testBit (R j) then cons M A (R j) else A
def rall (M : Mk) (R : Nat → Nat) (A : Au) : Nat → Au
  | 0 => A
  | j + 1 => rstep M R (rall M R A j) j
def fstep (M : Mk) (A : Au) (s : Nat) : Au := if (bidk M A A.m).testBit s then A.add s 2 else A
def fall (M : Mk) (A : Au) : Nat → Au
  | 0 => A
  | i + 1 => fstep M (fall M A i) i
def play (M : Mk) (R : Nat → Nat) (m : Nat) (A : Au) : Au := if A.bs A.now = 0 then fall M (rall M R A m) M.n else rall M R A m
theorem cons_now (M : Mk) (A : Au) (s : Nat) : (cons M A s).now = A.now ∧ (cons M A s).bs = A.bs := by
  unfold cons
  split
  · split <;> exact ⟨rfl, rfl⟩
  · exact ⟨rfl, rfl⟩
theorem rall_now (M : Mk) (R : Nat → Nat) (A : Au) : ∀ j, (rall M R A j).now = A.now ∧ (rall M R A j).bs = A.bs := by
  intro j
  induction j with
  | zero => exact ⟨rfl, rfl⟩
  | succ j ih =>
    rw [rall, rstep]
    split
    · rw [(cons_now M _ _).1, (cons_now M _ _).2]
      exact ih
    · exact ih
theorem fall_now (M : Mk) (A : Au) : ∀ j, (fall M A j).now = A.now ∧ (fall M A j).bs = A.bs := by
  intro j
  induction j with
  | zero => exact ⟨rfl, rfl⟩
  | succ j ih =>
    rw [fall, fstep]
    split
    · exact ih
    · exact ih
theorem rall_ok {M : Mk} (hM : M.WF) {R : Nat → Nat} {A : Au} (hA : AucOK M A) : ∀ j, AucOK M (rall M R A j) := by
  intro j
  induction j with
  | zero => exact hA
  | succ j ih =>
    rw [rall, rstep]
    split
    · next q => exact cons_ok hM ih q
    · exact ih
theorem fall_ok {M : Mk} {A : Au} (hA : AucOK M A) : ∀ j, AucOK M (fall M A j) := by
  intro j
  induction j with
  | zero => exact hA
  | succ j ih =>
    rw [fall, fstep]
    split
    · next q => exact ih.add q (Nat.le_refl 2) (fun z => absurd z (by decide))
    · exact ih
theorem bid_cons {M : Mk} {A : Au} {s t : Nat} (h : (bidk M (cons M A s) (cons M A s).m).testBit t = true) : (bidk M A A.m).testBit t = true ∧ (t = s → (cons M A s).cur t = pz M t (A.bs A.now)) ∧ (t ≠ s → (cons M A s).cur t = A.cur t) := by
  unfold cons at h ⊢
  have hadd : ∀ w, (bidk M (A.add s w) (A.add s w).m).testBit t = true → (bidk M A A.m).testBit t = true ∧ t ≠ s := by
    intro w h
    have h' : (bidk M (A.add s w) (A.m + 1)).testBit t = true := h
    rw [bid_add1, ndf_testBit, Bool.and_eq_true, tb_pow] at h'
    refine ⟨h'.1, fun e => ?_⟩
    rw [decide_eq_true e] at h'
    exact absurd h'.2 (by decide)
  split at h
  · split at h
    · next q1 q2 =>
      rw [if_pos q1, if_pos q2]
      refine ⟨?_, fun e => ?_, fun e => ?_⟩
      · rw [bidk_prc] at h
        exact h
      · show (if t = s then _ else _) = _
        rw [if_pos e, e]
      · show (if t = s then _ else _) = _
        rw [if_neg e]
    · next q1 q2 =>
      rw [if_pos q1, if_neg q2]
      exact ⟨(hadd 0 h).1, fun e => absurd e (hadd 0 h).2, fun _ => rfl⟩
  · next q1 =>
    rw [if_neg q1]
    exact ⟨(hadd 1 h).1, fun e => absurd e (hadd 1 h).2, fun _ => rfl⟩
theorem rall_cur {M : Mk} {R : Nat → Nat} {A : Au} : ∀ j i, i < j → (bidk M (rall M R A j) (rall M R A j).m).testBit (R i) = true → (rall M R A j).cur (R i) = pz M (R i) (A.bs A.now) := by
  intro j
  induction j with
  | zero => intro i hi; exact absurd hi (Nat.not_lt_zero i)
  | succ j ih =>
    intro i hi hb
    rw [rall, rstep] at hb ⊢
    split at hb
    · next q =>
      rw [if_pos q]
      obtain ⟨h1, h2, h3⟩ := bid_cons hb
      by_cases e : R i = R j
      · rw [h2 e, (rall_now M R A j).1, (rall_now M R A j).2]
      · rw [h3 e]
        rcases Nat.eq_or_lt_of_le (Nat.le_of_lt_succ hi) with z | z
        · rw [z] at e
          exact absurd rfl e
        · exact ih i z h1
    · next q =>
      rw [if_neg q]
      rcases Nat.eq_or_lt_of_le (Nat.le_of_lt_succ hi) with z | z
      · rw [z] at hb
        exact absurd hb q
      · exact ih i z hb
theorem fall_bid {M : Mk} {A : Au} : ∀ j t, (bidk M (fall M A j) (fall M A j).m).testBit t = true → (bidk M A A.m).testBit t = true ∧ j ≤ t := by
  intro j
  induction j with
  | zero => intro t h; exact ⟨h, Nat.zero_le t⟩
  | succ j ih =>
    intro t h
    rw [fall, fstep] at h
    split at h
    · have h' : (bidk M ((fall M A j).add j 2) ((fall M A j).m + 1)).testBit t = true := h
      rw [bid_add1, ndf_testBit, Bool.and_eq_true, tb_pow] at h'
      obtain ⟨g1, g2⟩ := ih t h'.1
      refine ⟨g1, ?_⟩
      rcases Nat.eq_or_lt_of_le g2 with e | e
      · rw [decide_eq_true e.symm] at h'
        exact absurd h'.2 (by decide)
      · exact e
    · next q =>
      obtain ⟨g1, g2⟩ := ih t h
      refine ⟨g1, ?_⟩
      rcases Nat.eq_or_lt_of_le g2 with e | e
      · rw [← e] at h
        exact absurd h q
      · exact e
theorem play_ok {M : Mk} (hM : M.WF) {R : Nat → Nat} {m : Nat} (hR : Rkd M m R) {A : Au} (hA : AucOK M A) : AucOK M (play M R m A) ∧ AEnd M (play M R m A) ∧ (play M R m A).now = A.now ∧ (play M R m A).bs = A.bs := by
  obtain ⟨r1, r2⟩ := rall_now M R A m
  unfold play
  by_cases q : A.bs A.now = 0
  · rw [if_pos q]
    obtain ⟨f1, f2⟩ := fall_now M (rall M R A m) M.n
    have hok := fall_ok (rall_ok hM hA m) M.n (M := M) (A := rall M R A m)
    have h0 : bidk M (fall M (rall M R A m) M.n) (fall M (rall M R A m) M.n).m = 0 := by
      refine Nat.eq_of_testBit_eq fun t => ?_
      rw [tb_zero]
      cases z : (bidk M (fall M (rall M R A m) M.n) (fall M (rall M R A m) M.n).m).testBit t with
      | false => rfl
      | true =>
        obtain ⟨g1, g2⟩ := fall_bid M.n t z
        have := tb_lt (bidk_lt hM _) g1
        omega
    refine ⟨hok, ⟨fun s hs => ?_, fun _ => h0⟩, f1.trans r1, f2.trans r2⟩
    rw [h0, tb_zero] at hs
    exact absurd hs (by decide)
  · rw [if_neg q]
    refine ⟨rall_ok hM hA m, ⟨fun s hs => ?_, fun z => ?_⟩, r1, r2⟩
    · obtain ⟨i, g1, g2⟩ := hR.2.2.1 s (bidk_tk _ s hs)
      rw [r1, r2, ← g2]
      rw [← g2] at hs
      exact rall_cur m i g1 hs
    · rw [r1, r2] at z
      exact absurd z q
/-! the class -/
theorem rall_loop {B : Nat} {M : Mk} (hM : M.WF) {m : Nat} {R : Nat → Nat} (hR : Rkd M m R) {A : Au} (hA : AucOK M A) (K : Sg → Option (Unit × Sg)) : ∀ k j fuel (σ : Sg), j + k = m → k < fuel → PkI B M σ → AucX 7 27 σ M (rall M R A j) → (∀ a, a < m → σ 10 a = nI (R a)) →
    ∃ τ, fX6_playRound_23 (nI (A.bs A.now)) (nI m) K fuel (nI j) σ = K τ ∧ CF σ τ ∧ PkI B M τ ∧ AucX 7 27 τ M (rall M R A m) := by
  have hn := hM.1.1
  have hm := hR.1
  intro k
  induction k with
  | zero =>
    intro j fuel σ hj hf hp h h10
    obtain ⟨f', rfl, -⟩ := fuel_succ hf
    refine ⟨σ, ?_, CF.refl σ, hp, ?_⟩
    · rw [fX6_playRound_23, if_le (by omega) (by omega), if_pos (by omega)]
    · rw [← show j = m by omega]
      exact h
  | succ k ih =>
    intro j fuel σ hj hf hp h h10
    obtain ⟨f', rfl, hf⟩ := fuel_succ hf
    have hj12 : j < m := by omega
    have hRn := tb_lt hM.2.2.1 (hR.2.1 j hj12)
    rw [fX6_playRound_23, if_le (by omega) (by omega), if_neg (by omega), gd_of (inb_ok (by omega) (by omega))]
    simp only [jp_eq]
    rw [gd_of (inb_ok (by omega) (by omega)), zI_clamp (by omega), h10 j hj12, h.2.2.1, if_c (hM.1.lt31 (bidk_lt hM _)) (by omega), zs_add]
    by_cases q : (bidk M (rall M R A j) (rall M R A j).m).testBit (R j) = true
    · rw [if_pos q]
      have e0 : nI (A.bs A.now) = nI ((rall M R A j).bs (rall M R A j).now) := by rw [(rall_now M R A j).1, (rall_now M R A j).2]
      obtain ⟨τ, e1, f1, p1, x1, t1⟩ := consider_eq (rall_ok hM hA j) hp h q
      rw [← e0] at e1
      rw [e1, bd_some]
      obtain ⟨υ, e2, f2, p2, x2⟩ := ih (j + 1) f' τ (by omega) (by omega) p1 (by rw [rall, rstep, if_pos q]; exact x1) (fun a ha => by rw [t1]; exact h10 a ha)
      exact ⟨υ, e2, f1.trans f2, p2, x2⟩
    · rw [if_neg q]
      exact ih (j + 1) f' σ (by omega) (by omega) hp (by rw [rall, rstep, if_neg q]; exact h) h10
theorem fall_loop {M : Mk} (hM : M.WF) {A : Au} (hA : AucOK M A) : ∀ k i fuel (σ : Sg), i + k = 12 → k < fuel → AucX 7 27 σ M (fall M A i) →
    ∃ τ, fX0_freezeBidders_2 fuel (nI i) σ = some ((), τ) ∧ AF σ τ ∧ AucX 7 27 τ M (fall M A 12) := by
  have hn := hM.1.1
  intro k
  induction k with
  | zero =>
    intro i fuel σ hi hf h
    obtain ⟨f', rfl, -⟩ := fuel_succ hf
    refine ⟨σ, ?_, AF.refl σ, ?_⟩
    · rw [fX0_freezeBidders_2, show (12 : Int32) = nI 12 from rfl, if_le (by omega) (by omega), if_pos (by omega)]
    · rw [← show i = 12 by omega]
      exact h
  | succ k ih =>
    intro i fuel σ hi hf h
    obtain ⟨f', rfl, hf⟩ := fuel_succ hf
    rw [fX0_freezeBidders_2, show (12 : Int32) = nI 12 from rfl, if_le (by omega) (by omega), if_neg (by omega)]
    simp only [jp_eq]
    rw [h.2.2.1, if_c (hM.1.lt31 (bidk_lt hM _)) (by omega), zs_add]
    by_cases q : (bidk M (fall M A i) (fall M A i).m).testBit i = true
    · rw [if_pos q]
      obtain ⟨τ, e1, f1, x1⟩ := frz_eq hM (fall_ok hA i) h q (Or.inr rfl) (fun z => absurd z (by decide)) (fun _ => rfl)
      rw [show (2 : Int32) = nI 2 from rfl, e1, bd_some]
      obtain ⟨υ, e2, f2, x2⟩ := ih (i + 1) f' τ (by omega) (by omega) (by rw [fall, fstep, if_pos q]; exact x1)
      exact ⟨υ, e2, f1.trans f2, x2⟩
    · rw [if_neg q]
      exact ih (i + 1) f' σ (by omega) (by omega) (by rw [fall, fstep, if_neg q]; exact h)
theorem fall_stop {M : Mk} (hM : M.WF) (A : Au) : ∀ k, M.n ≤ k → fall M A k = fall M A M.n := by
  intro k
  induction k with
  | zero => intro h; rw [show M.n = 0 by omega]
  | succ k ih =>
    intro h
    rcases Nat.eq_or_lt_of_le h with e | e
    · rw [← e]
    · rw [fall, fstep, if_neg, ih (by omega)]
      rw [tb_not (bidk_lt hM _) (by omega)]
      decide
theorem play_eq {B : Nat} {M : Mk} {A : Au} (hA : AucOK M A) {σ : Sg} (hp : PkI B M σ) (h : AucX 7 27 σ M A) :
    ∃ τ m R, fX6_playRound σ = some ((), τ) ∧ CF σ τ ∧ PkI B M τ ∧ Rkd M m R ∧ AucX 7 27 τ M (play M R m A) := by
  have hM := hp.2.1
  have hn := hM.1.1
  have hnow := hA.1
  obtain ⟨F, hF8, hFe⟩ : ∃ F, 12 < F ∧ FU = F := ⟨FU, by unfold FU; omega, rfl⟩
  obtain ⟨m, R, τ1, e1, hR, h10, f1⟩ := rank_eq hM hp.1
  rw [fX6_playRound, h.1, gd_of (inb_ok (by omega) (by omega)), lt'_eq, zI_clamp (by omega), h.2.2.2.2.2.1 A.now (Nat.le_refl _), e1, bd_some, hFe]
  have p1 : PkI B M τ1 := hp.oth fun k hk => f1 k (by omega)
  obtain ⟨τ2, e2, f2, p2, x2⟩ := rall_loop hM hR hA (fun (σ15 : Sg) => if nI (A.bs A.now) = 0 then (bd (fX0_freezeBidders  σ15) (fun (_ : Unit) (σ17 : Sg) => some ((), σ17))) else (some ((), σ15))) m 0 F τ1 (by omega) (by have := hR.1; omega) p1 (h.f10 f1) h10
  have hb := hA.2.2.2.1
  rw [show (0 : Int32) = nI 0 from rfl]
  rw [show (0 : Int32) = nI 0 from rfl] at e2
  rw [e2, if_eq (by omega) (by decide)]
  by_cases q : A.bs A.now = 0
  · rw [if_pos q]
    obtain ⟨τ3, e3, f3, x3⟩ := fall_loop hM (rall_ok hM hA m) 12 0 FU τ2 (by omega) (by unfold FU; omega) x2
    rw [fX0_freezeBidders, show (0 : Int32) = nI 0 from rfl, e3, bd_some]
    refine ⟨τ3, m, R, rfl, (f1.cf.trans f2).trans f3.cf, p2.af f3, hR, ?_⟩
    rw [fall_stop hM _ 12 hn] at x3
    unfold play
    rw [if_pos q]
    exact x3
  · rw [if_neg q]
    refine ⟨τ2, m, R, rfl, f1.cf.trans f2, p2, hR, ?_⟩
    unfold play
    rw [if_neg q]
    exact x2
