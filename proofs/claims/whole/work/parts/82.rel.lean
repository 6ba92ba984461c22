/-! Layer 2, 43: the two sides together -/
/-- those on the air can be given channels -/
def Fe (M : Mk) (A : Au) : Prop := 0 < M.cnt M.av (airk M A A.m)
def KnR (f r : Nat) (σ : Sg) (g : Nat → Int32) (M : Mk) : Prop := (σ f 4 = 0 ∧ g 2 = 0) ∨ (σ f 4 = 1 ∧ g 2 = 1 ∧ ∃ A, AucOK M A ∧ AEnd M A ∧ AucX f r σ M A ∧ AucM g M A ∧ Fe M A)
def SvR (σ τ : Sg) : Prop := (σ 0 10 = 0 ∧ τ 0 3 = 0) ∨ (σ 0 10 = 1 ∧ τ 0 3 = 1 ∧ ∃ M : Mk, M.WF ∧ ClsM 8 17 σ M ∧ RefM (τ 2) M ∧ KnR 9 31 σ (τ 2) M)
def BfR (σ τ : Sg) : Prop := ∃ L, L ≤ 40 ∧ σ 5 1 = nI L ∧ τ 0 7 = nI L ∧ ∀ i, i < L → ∃ ch, 33 ≤ ch ∧ ch ≤ 126 ∧ σ 25 i = nI ch ∧ τ 3 i = nI ch
/-- the class's state and the reference's state say the same, of the market M, t calls after the beginning -/
def Rel (t : Nat) (M : Mk) (σ τ : Sg) : Prop := PkI t M σ ∧ RefM (τ 1) M ∧ KnR 7 27 σ (τ 1) M ∧ SvR σ τ ∧ BfR σ τ ∧ σ 0 11 = τ 0 9
def XF (σ τ : Sg) : Prop := ∀ k, k = 0 ∨ k = 5 ∨ k = 8 ∨ k = 9 ∨ (17 ≤ k ∧ k ≤ 22) ∨ k = 25 ∨ (31 ≤ k ∧ k ≤ 34) → τ k = σ k
def MF (σ τ : Sg) : Prop := τ 2 = σ 2 ∧ τ 3 = σ 3 ∧ τ 0 3 = σ 0 3 ∧ τ 0 7 = σ 0 7 ∧ τ 0 9 = σ 0 9
theorem XF.refl (σ : Sg) : XF σ σ := fun _ _ => rfl
theorem XF.trans {σ τ υ : Sg} (h : XF σ τ) (h2 : XF τ υ) : XF σ υ := fun k a => (h2 k a).trans (h k a)
theorem MF.refl (σ : Sg) : MF σ σ := ⟨rfl, rfl, rfl, rfl, rfl⟩
theorem MF.trans {σ τ υ : Sg} (h : MF σ τ) (h2 : MF τ υ) : MF σ υ := ⟨h2.1.trans h.1, h2.2.1.trans h.2.1, h2.2.2.1.trans h.2.2.1, h2.2.2.2.1.trans h.2.2.2.1, h2.2.2.2.2.trans h.2.2.2.2⟩
theorem CF.xf {σ τ : Sg} (h : CF σ τ) : XF σ τ := fun k a => h.1 k (by omega)
theorem PkF.xf {σ τ : Sg} (h : PkF σ τ) : XF σ τ := h.cf.xf
theorem PcF.xf {σ τ : Sg} (h : PcF σ τ) : XF σ τ := fun k a => h.1 k (by omega) (by omega) (by omega) (by omega) (by omega) (by omega)
theorem F10.xf {σ τ : Sg} (h : F10 σ τ) : XF σ τ := h.cf.xf
theorem AF.xf {σ τ : Sg} (h : AF σ τ) : XF σ τ := h.cf.xf
theorem RX.mf {σ τ : Sg} (h : RX σ τ) : MF σ τ := ⟨h.2.1, h.2.2.1, h.2.2.2 3 (by decide), h.2.2.2 7 (by decide), h.2.2.2 9 (by decide)⟩
theorem RF.mf {σ τ : Sg} (h : RF σ τ) : MF σ τ := ⟨h.2.1, h.2.2.1, h.2.2.2 3 (by decide), h.2.2.2 7 (by decide), h.2.2.2 9 (by decide)⟩
theorem RpF.mf {σ τ : Sg} (h : RpF σ τ) : MF σ τ := h.rf.mf
theorem RW.mf {σ τ : Sg} (h : RW σ τ) : MF σ τ := h.rx.mf
theorem MF.s00 (σ : Sg) (v : Int32) : MF σ (sup σ 0 0 v) := ⟨sup_ne (by decide), sup_ne (by decide), by rw [sup_self, upd_app, if_neg (by decide)], by rw [sup_self, upd_app, if_neg (by decide)], by rw [sup_self, upd_app, if_neg (by decide)]⟩
theorem KnR.fr {f r : Nat} {σ τ : Sg} {g : Nat → Int32} {M : Mk} (h : KnR f r σ g M) (e0 : τ f = σ f) (e1 : τ r = σ r) (e2 : τ (r + 1) = σ (r + 1)) (e3 : τ (r + 2) = σ (r + 2)) (e4 : τ (r + 3) = σ (r + 3)) : KnR f r τ g M := by
  unfold KnR AucX at h ⊢
  rw [e0, e1, e2, e3, e4]
  exact h
theorem KnR.pk {σ τ : Sg} {g : Nat → Int32} {M : Mk} (h : KnR 7 27 σ g M) (hf : PkF σ τ) : KnR 7 27 τ g M :=
  h.fr (hf.1 7 (by decide) (by decide) (by decide) (by decide) (by decide)) (hf.1 27 (by decide) (by decide) (by decide) (by decide) (by decide)) (hf.1 28 (by decide) (by decide) (by decide) (by decide) (by decide)) (hf.1 29 (by decide) (by decide) (by decide) (by decide) (by decide)) (hf.1 30 (by decide) (by decide) (by decide) (by decide) (by decide))
theorem KnR.pc {σ τ : Sg} {g : Nat → Int32} {M : Mk} (h : KnR 7 27 σ g M) (hf : PcF σ τ) : KnR 7 27 τ g M :=
  h.fr (hf.1 7 (by decide) (by decide) (by decide) (by decide) (by decide) (by decide)) (hf.1 27 (by decide) (by decide) (by decide) (by decide) (by decide) (by decide)) (hf.1 28 (by decide) (by decide) (by decide) (by decide) (by decide) (by decide)) (hf.1 29 (by decide) (by decide) (by decide) (by decide) (by decide) (by decide)) (hf.1 30 (by decide) (by decide) (by decide) (by decide) (by decide) (by decide))
theorem KnR.f10 {σ τ : Sg} {g : Nat → Int32} {M : Mk} (h : KnR 7 27 σ g M) (hf : F10 σ τ) : KnR 7 27 τ g M :=
  h.fr (hf 7 (by decide)) (hf 27 (by decide)) (hf 28 (by decide)) (hf 29 (by decide)) (hf 30 (by decide))
theorem ClsM.sv {σ τ : Sg} {M : Mk} (h : ClsM 8 17 σ M) (hf : XF σ τ) : ClsM 8 17 τ M := by
  unfold ClsM at h ⊢
  rw [hf 8 (by decide), hf 17 (by decide), hf (17 + 1) (by decide), hf (17 + 2) (by decide), hf (17 + 3) (by decide), hf (17 + 4) (by decide), hf (17 + 5) (by decide)]
  exact h
theorem Rel.fr {t t' : Nat} {M M' : Mk} {σ τ σ' τ' : Sg} (h : Rel t M σ τ) (hx : XF σ σ') (hm : MF τ τ') (p : PkI t' M' σ') (r : RefM (τ' 1) M') (k : KnR 7 27 σ' (τ' 1) M') : Rel t' M' σ' τ' := by
  obtain ⟨-, -, -, h4, h5, h6⟩ := h
  refine ⟨p, r, k, ?_, ?_, ?_⟩
  · rcases h4 with ⟨a, b⟩ | ⟨a, b, N, c1, c2, c3, c4⟩
    · exact Or.inl ⟨by rw [hx 0 (by decide)]; exact a, hm.2.2.1.trans b⟩
    · refine Or.inr ⟨by rw [hx 0 (by decide)]; exact a, hm.2.2.1.trans b, N, c1, c2.sv hx, by rw [hm.1]; exact c3, ?_⟩
      rw [hm.1]
      exact c4.fr (hx 9 (by decide)) (hx 31 (by decide)) (hx (31 + 1) (by decide)) (hx (31 + 2) (by decide)) (hx (31 + 3) (by decide))
  · obtain ⟨L, a, b, c, d⟩ := h5
    refine ⟨L, a, by rw [hx 5 (by decide)]; exact b, hm.2.2.2.1.trans c, ?_⟩
    rw [hx 25 (by decide), hm.2.1]
    exact d
  · rw [hx 0 (by decide), hm.2.2.2.2]
    exact h6
theorem PkI.mono {t t' : Nat} {M : Mk} {σ : Sg} (h : PkI t M σ) (h1 : t ≤ t') (h2 : t' < 2 ^ 20) : PkI t' M σ := by
  obtain ⟨a, b, c, v, d1, d2, -, d4⟩ := h
  exact ⟨a, b, c, v, d1, by omega, h2, d4⟩
theorem Rel.mono {t t' : Nat} {M : Mk} {σ τ : Sg} (h : Rel t M σ τ) (h1 : t ≤ t') (h2 : t' < 2 ^ 20) : Rel t' M σ τ := ⟨h.1.mono h1 h2, h.2⟩
/-- only what is thrown differs -/
theorem Rel.s00 {t : Nat} {M : Mk} {σ τ : Sg} (h : Rel t M σ τ) (v : Int32) : Rel t M σ (sup τ 0 0 v) :=
  h.fr (XF.refl σ) (MF.s00 τ v) h.1 (by rw [sup_ne (by decide)]; exact h.2.1) (by rw [sup_ne (by decide)]; exact h.2.2.1)
/-- two answers that agree: es are the throws that the document names -/
def Ans (es : List String) (x : String ⊕ Int32) (y z : Int32) : Prop := match x with
  | .inr v => z = 0 ∧ y = v
  | .inl E => ∃ k, es[k]? = some E ∧ z = nI (k + 1)
def Agr (es : List String) (t : Nat) (x : Option ((String ⊕ Int32) × Sg)) (y : Option (Int32 × Sg)) : Prop :=
  ∃ a σ b τ M, x = some (a, σ) ∧ y = some (b, τ) ∧ Rel t M σ τ ∧ Ans es a b (τ 0 0)
theorem Agr.ok {es : List String} {t : Nat} {v : Int32} {σ τ : Sg} {M : Mk} (h : Rel t M σ τ) (hz : τ 0 0 = 0) : Agr es t (some (.inr v, σ)) (some (v, τ)) := ⟨_, _, _, _, M, rfl, rfl, h, hz, rfl⟩
theorem Agr.no {es : List String} {t : Nat} {E : String} {b : Int32} {σ τ : Sg} {M : Mk} (h : Rel t M σ τ) (k : Nat) (he : es[k]? = some E) (hz : τ 0 0 = nI (k + 1)) : Agr es t (some (.inl E, σ)) (some (b, τ)) := ⟨_, _, _, _, M, rfl, rfl, h, k, he, hz⟩
theorem fails0 (a : Int32) (σ : Sg) : fX7_fails a 0 σ = some (0, sup σ 0 0 0) := by
  rw [fX7_fails, if_pos rfl, lt'_eq, gd_of (by decide)]
theorem fails1 (a : Int32) (σ : Sg) : fX7_fails a 1 σ = some (1, sup σ 0 0 a) := by
  rw [fX7_fails, if_neg (by decide), lt'_eq, gd_of (by decide)]
theorem s00_0 (σ : Sg) (v : Int32) : sup σ 0 0 v 0 0 = v := by rw [sup_self, upd_app, if_pos rfl]
theorem s00_1 (σ : Sg) (v : Int32) : sup σ 0 0 v 1 = σ 1 := sup_ne (by decide)
/-! what a call must find -/
theorem sta_dec (M : Mk) (a : Int32) : (∃ s, s < M.n ∧ a = nI s) ∨ ¬ ∃ s, s < M.n ∧ a = nI s := Classical.em _
theorem int_cases (a : Int32) : (∃ k, k < 2 ^ 31 ∧ a = nI k) ∨ a < 0 := by
  obtain ⟨x, h1, h2⟩ := any_nI a
  rcases Nat.lt_or_ge x (2 ^ 31) with q | q
  · exact Or.inl ⟨x, q, h2⟩
  · refine Or.inr ?_
    rw [h2, Int32.lt_iff_toInt_lt]
    have e : (nI x).toInt = (x : Int) - 2 ^ 32 := by
      show (BitVec.ofNat 32 x).toInt = _
      rw [BitVec.toInt_eq_toNat_cond, BitVec.toNat_ofNat]
      split <;> omega
    rw [e]
    show (x : Int) - 2 ^ 32 < 0
    omega
theorem lt_nI {a : Int32} {b : Nat} (hb : b < 2 ^ 31) : (¬ a < 0 ∧ a < nI b) ↔ ∃ k, k < b ∧ a = nI k := by
  constructor
  · rintro ⟨h1, h2⟩
    rcases int_cases a with ⟨k, k1, k2⟩ | h
    · rw [k2] at h2
      exact ⟨k, (zI_lt k1 hb).mp h2, k2⟩
    · exact absurd h h1
  · rintro ⟨k, k1, k2⟩
    rw [k2]
    exact ⟨zI_nn (by omega), (zI_lt (by omega) hb).mpr k1⟩
theorem btw {a : Int32} {lo hi : Nat} (hh : hi < 2 ^ 31) : (∃ k, lo ≤ k ∧ k ≤ hi ∧ a = nI k) ∨ ((¬ ∃ k, lo ≤ k ∧ k ≤ hi ∧ a = nI k)) := Classical.em _
theorem btw_lo {a : Int32} {lo hi : Nat} (hl : lo < 2 ^ 31) (hh : hi < 2 ^ 31) : (¬ a < nI lo ∧ a ≤ nI hi) ↔ ∃ k, lo ≤ k ∧ k ≤ hi ∧ a = nI k := by
  constructor
  · rintro ⟨h1, h2⟩
    rcases int_cases a with ⟨k, k1, k2⟩ | h
    · rw [k2] at h1 h2
      rw [zI_lt k1 hl] at h1
      exact ⟨k, by omega, (zI_le k1 hh).mp h2, k2⟩
    · refine absurd ?_ h1
      have h3 : (0 : Int32) ≤ nI lo := zI_ge0 hl
      exact Int32.lt_of_lt_of_le h h3
  · rintro ⟨k, k1, k2, k3⟩
    rw [k3, zI_lt (by omega) hl, zI_le (by omega) hh]
    omega
theorem isb_yes {a : Int32} {lo hi k : Nat} (hh : hi < 2 ^ 31) (h1 : lo ≤ k) (h2 : k ≤ hi) (h : a = nI k) : pX7_isBetween a (nI lo) (nI hi) = 1 := by
  unfold pX7_isBetween
  rw [jp_eq, h, if_lt (by omega) (by omega), if_neg (by omega), if_lt (by omega) (by omega), if_neg (by omega)]
theorem isb_no {a : Int32} {lo hi : Nat} (hl : lo < 2 ^ 31) (hh : hi < 2 ^ 31) (h : ¬ ∃ k, lo ≤ k ∧ k ≤ hi ∧ a = nI k) : pX7_isBetween a (nI lo) (nI hi) = 0 := by
  unfold pX7_isBetween
  rw [jp_eq]
  by_cases q : a < nI lo
  · rw [if_pos q]
  · rw [if_neg q]
    by_cases q2 : nI hi < a
    · rw [if_pos q2]
    · exact absurd ((btw_lo hl hh).mp ⟨q, Int32.not_lt.mp q2⟩) h
theorem reqSta_ok {M : Mk} {σ : Sg} (hn : M.n ≤ 12) (h6 : σ 3 6 = nI M.n) {s : Nat} (hs : s < M.n) : fX6_requireStation (nI s) σ = some (.inr (), σ) := by
  rw [fX6_requireStation]
  simp only [jp_eq]
  rw [h6, if_neg (zI_nn (by omega)), if_lt (by omega) (by omega), if_pos hs]
theorem reqSta_no {M : Mk} {σ : Sg} (hn : M.n ≤ 12) (h6 : σ 3 6 = nI M.n) {a : Int32} (h : ¬ ∃ s, s < M.n ∧ a = nI s) : fX6_requireStation a σ = some (.inl "java/lang/IndexOutOfBoundsException", σ) := by
  rw [fX6_requireStation]
  simp only [jp_eq]
  rw [h6]
  by_cases q : a < 0
  · rw [if_pos q]
  · rw [if_neg q]
    by_cases q2 : a < nI M.n
    · exact absurd ((lt_nI (by omega)).mp ⟨q, q2⟩) h
    · rw [if_neg q2]
theorem isSta_aux {M : Mk} (hn : M.n ≤ 12) (a : Int32) : pX7_isBetween a 0 (nI M.n - 1) = 1 ∧ (∃ s, s < M.n ∧ a = nI s) ∨ pX7_isBetween a 0 (nI M.n - 1) = 0 ∧ ¬ ∃ s, s < M.n ∧ a = nI s := by
  rcases Nat.eq_zero_or_pos M.n with z | z
  · refine Or.inr ⟨?_, fun ⟨s, h1, _⟩ => by omega⟩
    rw [z]
    unfold pX7_isBetween
    rw [jp_eq]
    by_cases q : a < 0
    · rw [if_pos q]
    · rw [if_neg q, if_pos]
      rcases int_cases a with ⟨k, k1, k2⟩ | h
      · rw [k2]
        exact Int32.lt_of_lt_of_le (show nI 0 - 1 < (0 : Int32) by decide) (zI_ge0 k1)
      · exact absurd h q
  · have e : nI M.n - 1 = nI (M.n - 1) := by rw [show (1 : Int32) = nI 1 from rfl, zI_sub (by omega)]
    rw [e, show (0 : Int32) = nI 0 from rfl]
    rcases sta_dec M a with ⟨s, h1, h2⟩ | h
    · exact Or.inl ⟨isb_yes (by omega) (Nat.zero_le s) (by omega) h2, s, h1, h2⟩
    · refine Or.inr ⟨isb_no (by decide) (by omega) ?_, h⟩
      rintro ⟨k, -, h2, h3⟩
      exact h ⟨k, by omega, h3⟩
theorem isSta_ok {M : Mk} {σ : Sg} (hn : M.n ≤ 12) (h : RefM (σ 1) M) {s : Nat} (hs : s < M.n) : fX7_isStation (nI s) σ = some (1, σ) := by
  rcases isSta_aux hn (nI s) with ⟨e, -⟩ | ⟨-, q⟩
  · rw [fX7_isStation, h.1, e, gd_of (by decide)]
  · exact absurd ⟨s, hs, rfl⟩ q
theorem isSta_no {M : Mk} {σ : Sg} (hn : M.n ≤ 12) (h : RefM (σ 1) M) {a : Int32} (hs : ¬ ∃ s, s < M.n ∧ a = nI s) : fX7_isStation a σ = some (0, σ) := by
  rcases isSta_aux hn a with ⟨-, q⟩ | ⟨e, -⟩
  · exact absurd q hs
  · rw [fX7_isStation, h.1, e, gd_of (by decide)]
