/-! Layer 2, 55: both sides read a text -/
/-- both readers stand at p in the text T -/
def PH (T : Nat → Nat) (L n p : Nat) (σ τ : Sg) : Prop :=
  σ 4 4 = nI p ∧ σ 4 6 = -1 ∧ σ 4 3 = nI n ∧ σ 5 1 = nI L ∧ (∀ i, i < L → σ 25 i = nI (T i)) ∧
  τ 0 8 = nI p ∧ τ 0 10 = 0 ∧ τ 0 7 = nI L ∧ (∀ i, i < L → τ 3 i = nI (T i)) ∧ τ 1 0 = nI n ∧
  (∀ i, i < L → 33 ≤ T i ∧ T i ≤ 126) ∧ p ≤ L ∧ L ≤ 40 ∧ n ≤ 12
def C4 (σ τ : Sg) : Prop := (∀ k, k ≠ 4 → τ k = σ k) ∧ τ 4 3 = σ 4 3 ∧ τ 4 5 = σ 4 5
theorem C4.refl (σ : Sg) : C4 σ σ := ⟨fun _ _ => rfl, rfl, rfl⟩
theorem C4.trans {σ τ υ : Sg} (h : C4 σ τ) (h2 : C4 τ υ) : C4 σ υ := ⟨fun k a => (h2.1 k a).trans (h.1 k a), h2.2.1.trans h.2.1, h2.2.2.trans h.2.2⟩
theorem C4.s {σ : Sg} {j : Nat} {v : Int32} (h : j = 4 ∨ j = 6) : C4 σ (sup σ 4 j v) := ⟨fun k a => sup_ne a, by rw [sup_self, upd_app, if_neg (by omega)], by rw [sup_self, upd_app, if_neg (by omega)]⟩
def M0 (σ τ : Sg) : Prop := (∀ k, k ≠ 0 → τ k = σ k) ∧ ∀ j, j ≠ 8 → j ≠ 10 → τ 0 j = σ 0 j
theorem M0.refl (σ : Sg) : M0 σ σ := ⟨fun _ _ => rfl, fun _ _ _ => rfl⟩
theorem M0.trans {σ τ υ : Sg} (h : M0 σ τ) (h2 : M0 τ υ) : M0 σ υ := ⟨fun k a => (h2.1 k a).trans (h.1 k a), fun j a b => (h2.2 j a b).trans (h.2 j a b)⟩
theorem M0.s {σ : Sg} {j : Nat} {v : Int32} (h : j = 8 ∨ j = 10) : M0 σ (sup σ 0 j v) := ⟨fun k a => sup_ne a, fun i a b => by rw [sup_self, upd_app, if_neg (by omega)]⟩
theorem PH.next {T : Nat → Nat} {L n p p' : Nat} {σ τ σ' τ' : Sg} (h : PH T L n p σ τ) (f : C4 σ σ') (g : M0 τ τ') (hp : p' ≤ L) (h1 : σ' 4 4 = nI p') (h2 : σ' 4 6 = -1) (h3 : τ' 0 8 = nI p') (h4 : τ' 0 10 = 0) : PH T L n p' σ' τ' := by
  obtain ⟨a1, a2, a3, a4, a5, a6, a7, a8, a9, b1, b2, b3, b4, b5⟩ := h
  refine ⟨h1, h2, f.2.1.trans a3, by rw [f.1 5 (by decide)]; exact a4, by rw [f.1 25 (by decide)]; exact a5, h3, h4, (g.2 7 (by decide) (by decide)).trans a8, by rw [g.1 3 (by decide)]; exact a9, by rw [g.1 1 (by decide)]; exact b1, b2, hp, b4, b5⟩
theorem nch_all : ∀ b : Nat, b < 127 → nch (nI b) = true := by decide +kernel
theorem at_eq {T : Nat → Nat} {L n p : Nat} {σ τ : Sg} (h : PH T L n p σ τ) (q : Nat) (hq : q ≤ 41) : fX5_at (nI q) σ = some (if q < L then nI (T q) else 0, σ) := by
  obtain ⟨a1, a2, a3, a4, a5, a6, a7, a8, a9, b1, b2, b3, b4, b5⟩ := h
  rw [fX5_at]
  simp only [jp_eq]
  rw [a4, if_neg (zI_nn (by omega)), if_le (by omega) (by omega)]
  by_cases z : q < L
  · rw [if_neg (by omega), if_pos z, gd_of (inb_ok (by omega) (by omega)), zI_clamp (by omega), a5 q z, gd_of (nch_all _ (by have := b2 q z; omega))]
  · rw [if_pos (by omega), if_neg z, gd_of (by decide)]
theorem digit_eq {T : Nat → Nat} {L n p : Nat} {σ τ : Sg} (h : PH T L n p σ τ) (q : Nat) (hq : q ≤ 41) : fX2_digitAt (nI q) σ = some (if q < L ∧ 48 ≤ T q ∧ T q ≤ 57 then nI (T q - 48) else -1, σ) := by
  have hb := h.2.2.2.2.2.2.2.2.2.2.1
  rw [fX2_digitAt, at_eq h q hq, bd_some]
  simp only [jp_eq]
  by_cases z : q < L
  · have := hb q z
    rw [if_pos z, show (48 : Int32) = nI 48 from rfl, show (57 : Int32) = nI 57 from rfl, if_lt (by omega) (by decide), if_lt (by decide) (by omega)]
    by_cases z1 : T q < 48
    · rw [if_pos z1, if_neg (by omega)]
    · rw [if_neg z1]
      by_cases z2 : 57 < T q
      · rw [if_pos z2, if_neg (by omega)]
      · rw [if_neg z2, zI_sub (by omega), if_pos ⟨z, by omega, by omega⟩]
  · rw [if_neg z, if_pos (by decide), if_neg (fun y => z y.1)]
theorem skip_eq {T : Nat → Nat} {L n p : Nat} {σ τ : Sg} (h : PH T L n p σ τ) {c : Nat} (hc : 33 ≤ c) (hc2 : c ≤ 126) : fX2_skip (nI c) σ = if p < L ∧ T p = c then some (1, sup σ 4 4 (nI (p + 1))) else some (0, σ) := by
  have hb := h.2.2.2.2.2.2.2.2.2.2.1
  have hp := h.2.2.2.2.2.2.2.2.2.2.2
  rw [fX2_skip, h.1, at_eq h p (by omega), bd_some]
  by_cases z : p < L
  · have := hb p z
    rw [if_pos z, if_eq (by omega) (by omega), h.1, zs_add, lt'_eq]
    by_cases z1 : T p = c
    · rw [if_pos z1, if_pos ⟨z, z1⟩]
    · rw [if_neg z1, if_neg (fun y => z1 y.2)]
  · rw [if_neg z, if_neg (show ¬ (0 : Int32) = nI c by rw [show (0 : Int32) = nI 0 from rfl, zI_inj (by decide) (by omega)]; omega), if_neg (fun y => z y.1)]
theorem sees_eq {T : Nat → Nat} {L n p : Nat} {σ τ : Sg} (h : PH T L n p σ τ) {lo hi : Nat} (hh : hi ≤ 126) (hl : lo ≤ 126) : fX7_sees (nI lo) (nI hi) τ = some (if p < L ∧ lo ≤ T p ∧ T p ≤ hi then 1 else 0, τ) := by
  obtain ⟨a1, a2, a3, a4, a5, a6, a7, a8, a9, b1, b2, b3, b4, b5⟩ := h
  rw [fX7_sees]
  simp only [jp_eq]
  rw [a7, if_pos rfl, a8, a6, if_le (by omega) (by omega)]
  by_cases z : p < L
  · have := b2 p z
    rw [if_neg (by omega), gd_of (inb_ok (by omega) (by omega)), zI_clamp (by omega), a9 p z]
    by_cases z1 : lo ≤ T p ∧ T p ≤ hi
    · rw [isb_yes (by omega) z1.1 z1.2 rfl, if_neg n10, if_pos ⟨z, z1⟩]
    · rw [isb_no (by omega) (by omega) (fun ⟨k, k1, k2, k3⟩ => z1 (by rw [(zI_inj (by omega) (by omega)).mp k3]; exact ⟨k1, k2⟩)), if_pos rfl, if_neg (fun y => z1 y.2)]
  · rw [if_pos (by omega), if_neg (fun y => z y.1)]
theorem sup_same (σ : Sg) (k i : Nat) : sup σ k i (σ k i) = σ := by
  funext j
  by_cases q : j = k
  · rw [q]
    funext m
    rw [sup_self, upd_app]
    by_cases z : m = i
    · rw [if_pos z, z]
    · rw [if_neg z]
  · rw [sup_ne q]
theorem passes_eq {T : Nat → Nat} {L n p : Nat} {σ τ : Sg} (h : PH T L n p σ τ) {c : Nat} (hc2 : c ≤ 126) : fX7_passes (nI c) τ = if p < L ∧ T p = c then some (1, sup τ 0 8 (nI (p + 1))) else some (0, τ) := by
  rw [fX7_passes, sees_eq h hc2 hc2, bd_some]
  simp only [jp_eq, lt'_eq]
  by_cases z : p < L ∧ T p = c
  · have sv : (if p < L ∧ c ≤ T p ∧ T p ≤ c then (1 : Int32) else 0) = 1 := if_pos ⟨z.1, by omega, by omega⟩
    rw [sv, if_neg n10, if_pos z, h.2.2.2.2.2.1, zs_add, gd_of (by decide)]
  · have z' : ¬ (p < L ∧ c ≤ T p ∧ T p ≤ c) := fun y => z ⟨y.1, by omega⟩
    have sv : (if p < L ∧ c ≤ T p ∧ T p ≤ c then (1 : Int32) else 0) = 0 := if_neg z'
    rw [sv, if_pos rfl, if_neg z, Int32.add_zero, sup_same, gd_of (by decide)]
theorem passes_wrong {τ : Sg} (h : τ 0 10 = 1) (c : Int32) : fX7_passes c τ = some (0, τ) := by
  rw [fX7_passes, fX7_sees]
  simp only [jp_eq, lt'_eq]
  rw [h, if_neg n10, bd_some, if_pos rfl, Int32.add_zero, sup_same, gd_of (by decide)]
theorem b01_or : ∀ a b : Int32, (a = 0 ∨ a = 1) → (b = 0 ∨ b = 1) → b01 (a ||| b) = true := by
  rintro a b (rfl | rfl) (rfl | rfl) <;> decide
/-- a number of a station -/
def StaR (T : Nat → Nat) (L n p : Nat) (ex : Int32) (σ τ : Sg) : Prop :=
  (∃ v p' σ' τ', v < n ∧ ex ≠ nI v ∧ p < p' ∧ p' ≤ L ∧ fX2_readStation ex σ = some (nI v, σ') ∧ fX7_passStation ex τ = some (nI v, τ') ∧ C4 σ σ' ∧ M0 τ τ' ∧ σ' 4 4 = nI p' ∧ σ' 4 6 = -1 ∧ τ' 0 8 = nI p' ∧ τ' 0 10 = 0) ∨
  (∃ e v σ' τ', e ≤ 40 ∧ fX2_readStation ex σ = some (-1, σ') ∧ fX7_passStation ex τ = some (v, τ') ∧ C4 σ σ' ∧ M0 τ τ' ∧ σ' 4 6 = nI e ∧ τ' 0 8 = nI e ∧ τ' 0 10 = 1)
theorem isSta_raw {n : Nat} (hn : n ≤ 12) {τ : Sg} (h : τ 1 0 = nI n) (v : Nat) (hv : v < 100) : fX7_isStation (nI v) τ = some (if v < n then 1 else 0, τ) := by
  have haux := isSta_aux (M := (n, 0, 0, (fun _ => 0), (fun _ => 0), (fun _ => 0), (fun _ => 0), (fun _ => 0), fun _ => 0)) hn (nI v)
  have en : (Mk.n (n, 0, 0, (fun _ => 0), (fun _ => 0), (fun _ => 0), (fun _ => 0), (fun _ => 0), fun _ => 0)) = n := rfl
  rw [en] at haux
  rw [fX7_isStation, h]
  by_cases q : v < n
  · rcases haux with ⟨e, -⟩ | ⟨-, q2⟩
    · rw [e, if_pos q, gd_of (by decide)]
    · exact absurd ⟨v, q, rfl⟩ q2
  · rcases haux with ⟨-, s, s1, s2⟩ | ⟨e, -⟩
    · have := (zI_inj (by omega) (by omega)).mp s2
      omega
    · rw [e, if_neg q, gd_of (by decide)]
theorem sta_both {T : Nat → Nat} {L n p : Nat} {σ τ : Sg} (h : PH T L n p σ τ) (ex : Int32) : StaR T L n p ex σ τ := by
  have h0 := h
  obtain ⟨a1, a2, a3, a4, a5, a6, a7, a8, a9, b1, b2, b3, b4, b5⟩ := h
  unfold StaR
  rw [fX2_readStation, fX7_passStation, a1, lt'_eq, digit_eq h0 p (by omega), bd_some, show (48 : Int32) = nI 48 from rfl, show (57 : Int32) = nI 57 from rfl, sees_eq h0 (by decide) (by decide), bd_some]
  simp only [jp_eq]
  by_cases z : p < L ∧ 48 ≤ T p ∧ T p ≤ 57
  · -- a digit
    have hx : ∃ x, x = T p - 48 := ⟨_, rfl⟩
    obtain ⟨x, hx⟩ := hx
    have hT : T p = 48 + x := by omega
    have e10 : sup τ 0 10 ((0 : Int32) ||| 0) = τ := by
      rw [show (0 : Int32) ||| 0 = τ 0 10 by rw [a7]; rfl, sup_same]
    rw [if_pos z, ← hx, if_pos (zI_ge0 (by omega)), if_pos z, if_neg n10, a7, gd_of (by decide), lt'_eq, lt'_eq, e10, a7, if_pos (show (0 : Int32) = 0 from rfl), a6, lt'_eq, gd_of (inb_ok (show p < 40 by omega) (by omega)), zI_clamp (show p < 2 ^ 31 by omega), a9 p z.1, lt'_eq, hT, show nI (48 + x) - nI 48 = nI x by rw [zI_sub (by omega), show 48 + x - 48 = x by omega], a1, zs_add, lt'_eq]
    have hp1 : PH T L n (p + 1) (sup σ 4 4 (nI (p + 1))) (sup τ 0 8 (nI (p + 1))) := h0.next (C4.s (Or.inl rfl)) (M0.s (Or.inl rfl)) (by omega) (by rw [sup_self, upd_app, if_pos rfl]) (by rw [sup_self, upd_app, if_neg (by decide)]; exact a2) (by rw [sup_self, upd_app, if_pos rfl]) (by rw [sup_self, upd_app, if_neg (by decide)]; exact a7)
    have c1 : C4 σ (sup σ 4 4 (nI (p + 1))) := C4.s (Or.inl rfl)
    have m1 : M0 τ (sup τ 0 8 (nI (p + 1))) := M0.s (Or.inl rfl)
    obtain ⟨σ1, hσ1⟩ : ∃ σ1, σ1 = sup σ 4 4 (nI (p + 1)) := ⟨_, rfl⟩
    obtain ⟨τ1, hτ1⟩ : ∃ τ1, τ1 = sup τ 0 8 (nI (p + 1)) := ⟨_, rfl⟩
    rw [← hσ1] at hp1 c1 ⊢
    rw [← hτ1] at hp1 m1 ⊢
    rw [hp1.1, digit_eq hp1 (p + 1) (by omega), bd_some]
    -- the end: the number v, at p'
    have fin : ∀ (v p' : Nat) (σ2 τ2 : Sg), v < 100 → p < p' → PH T L n p' σ2 τ2 → C4 σ σ2 → M0 τ τ2 →
        (∃ w q' σ' τ', w < n ∧ ex ≠ nI w ∧ p < q' ∧ q' ≤ L ∧ (if (σ2 4 3) ≤ nI v then (lt' (sup σ2 4 6 (nI p)) (fun (σ13 : Sg) => some ((-1 : Int32), σ13))) else (if nI v = ex then (lt' (sup σ2 4 6 (nI p)) (fun (σ13 : Sg) => some ((-1 : Int32), σ13))) else (some (nI v, σ2)))) = some (nI w, σ') ∧ bd (fX7_isStation (nI v) τ2) (fun (r15 : Int32) (σ16 : Sg) => if r15 = 0 then (lt' (sup σ16 0 10 1) (fun (σ19 : Sg) => lt' (sup σ19 0 8 (nI p)) (fun (σ20 : Sg) => some ((0 : Int32), σ20)))) else (if nI v = ex then (lt' (sup σ16 0 10 1) (fun (σ19 : Sg) => lt' (sup σ19 0 8 (nI p)) (fun (σ20 : Sg) => some ((0 : Int32), σ20)))) else (some (nI v, σ16)))) = some (nI w, τ') ∧ C4 σ σ' ∧ M0 τ τ' ∧ σ' 4 4 = nI q' ∧ σ' 4 6 = -1 ∧ τ' 0 8 = nI q' ∧ τ' 0 10 = 0) ∨
        (∃ e w σ' τ', e ≤ 40 ∧ (if (σ2 4 3) ≤ nI v then (lt' (sup σ2 4 6 (nI p)) (fun (σ13 : Sg) => some ((-1 : Int32), σ13))) else (if nI v = ex then (lt' (sup σ2 4 6 (nI p)) (fun (σ13 : Sg) => some ((-1 : Int32), σ13))) else (some (nI v, σ2)))) = some (-1, σ') ∧ bd (fX7_isStation (nI v) τ2) (fun (r15 : Int32) (σ16 : Sg) => if r15 = 0 then (lt' (sup σ16 0 10 1) (fun (σ19 : Sg) => lt' (sup σ19 0 8 (nI p)) (fun (σ20 : Sg) => some ((0 : Int32), σ20)))) else (if nI v = ex then (lt' (sup σ16 0 10 1) (fun (σ19 : Sg) => lt' (sup σ19 0 8 (nI p)) (fun (σ20 : Sg) => some ((0 : Int32), σ20)))) else (some (nI v, σ16)))) = some (w, τ') ∧ C4 σ σ' ∧ M0 τ τ' ∧ σ' 4 6 = nI e ∧ τ' 0 8 = nI e ∧ τ' 0 10 = 1) := by
      intro v p' σ2 τ2 hv hpp h2 c2 m2
      have bad : C4 σ (sup σ2 4 6 (nI p)) ∧ M0 τ (sup (sup τ2 0 10 1) 0 8 (nI p)) ∧ (sup σ2 4 6 (nI p)) 4 6 = nI p ∧ (sup (sup τ2 0 10 1) 0 8 (nI p)) 0 8 = nI p ∧ (sup (sup τ2 0 10 1) 0 8 (nI p)) 0 10 = 1 :=
        ⟨c2.trans (C4.s (Or.inr rfl)), (m2.trans (M0.s (Or.inr rfl))).trans (M0.s (Or.inl rfl)), by rw [sup_self, upd_app, if_pos rfl], by rw [sup_self, upd_app, if_pos rfl], by rw [sup_self, upd_app, if_neg (by decide), sup_self, upd_app, if_pos rfl]⟩
      rw [h2.2.2.1, isSta_raw b5 h2.2.2.2.2.2.2.2.2.2.1 v hv, bd_some, if_le (by omega) (by omega)]
      simp only [lt'_eq]
      by_cases y : v < n
      · rw [if_neg (by omega), if_pos y, if_neg n10]
        by_cases y2 : nI v = ex
        · rw [if_pos y2, if_pos y2]
          exact Or.inr ⟨p, 0, _, _, by omega, rfl, rfl, bad.1, bad.2.1, bad.2.2.1, bad.2.2.2.1, bad.2.2.2.2⟩
        · rw [if_neg y2, if_neg y2]
          exact Or.inl ⟨v, p', σ2, τ2, y, fun w => y2 w.symm, hpp, h2.2.2.2.2.2.2.2.2.2.2.2.1, rfl, rfl, c2, m2, h2.1, h2.2.1, h2.2.2.2.2.2.1, h2.2.2.2.2.2.2.1⟩
      · rw [if_pos (by omega), if_neg y, if_pos (show (0 : Int32) = 0 from rfl)]
        exact Or.inr ⟨p, 0, _, _, by omega, rfl, rfl, bad.1, bad.2.1, bad.2.2.1, bad.2.2.2.1, bad.2.2.2.2⟩
    rw [if_eq1 (by omega), if_eq1 (by omega)]
    by_cases w1 : x = 1
    · rw [if_pos w1, if_pos w1, w1, show (49 : Int32) = nI 49 from rfl, sees_eq hp1 (by decide) (by decide), bd_some]
      by_cases z2 : p + 1 < L ∧ 48 ≤ T (p + 1) ∧ T (p + 1) ≤ 57
      · rw [if_pos z2]
        by_cases z3 : T (p + 1) ≤ 49
        · -- two digits
          have sv : (if p + 1 < L ∧ 48 ≤ T (p + 1) ∧ T (p + 1) ≤ 49 then (1 : Int32) else 0) = 1 := if_pos ⟨z2.1, z2.2.1, z3⟩
          rw [sv, if_neg n10, hp1.2.2.2.2.2.1, gd_of (inb_ok (show p + 1 < 40 by omega) (by omega)), zI_clamp (show p + 1 < 2 ^ 31 by omega), hp1.2.2.2.2.2.2.2.2.1 (p + 1) z2.1, lt'_eq, lt'_eq, hp1.1, zs_add, show (10 : Int32) = nI 10 from rfl, zI_add, zI_add, zI_sub (show 48 ≤ 10 + T (p + 1) by omega), show 10 + T (p + 1) - 48 = 10 + (T (p + 1) - 48) by omega]
          have hp2 : PH T L n (p + 2) (sup σ1 4 4 (nI (p + 2))) (sup τ1 0 8 (nI (p + 2))) := hp1.next (C4.s (Or.inl rfl)) (M0.s (Or.inl rfl)) (by omega) (by rw [sup_self, upd_app, if_pos rfl]) (by rw [sup_self, upd_app, if_neg (by decide)]; exact hp1.2.1) (by rw [sup_self, upd_app, if_pos rfl]) (by rw [sup_self, upd_app, if_neg (by decide)]; exact hp1.2.2.2.2.2.2.1)
          have f2 := fin (10 + (T (p + 1) - 48)) (p + 2) _ _ (by omega) (by omega) hp2 (c1.trans (C4.s (Or.inl rfl))) (m1.trans (M0.s (Or.inl rfl)))
          rcases (by omega : T (p + 1) = 48 ∨ T (p + 1) = 49) with e | e
          · rw [e, if_pos (show nI (48 - 48) = 0 from rfl), lt'_eq, lt'_eq]
            rw [e] at f2
            exact f2
          · rw [e, if_neg (show ¬ nI (49 - 48) = 0 by decide), if_pos (show nI (49 - 48) = 1 from rfl), lt'_eq, lt'_eq]
            rw [e] at f2
            exact f2
        · have sv : (if p + 1 < L ∧ 48 ≤ T (p + 1) ∧ T (p + 1) ≤ 49 then (1 : Int32) else 0) = 0 := if_neg fun y => z3 y.2.2
          rw [sv, if_pos (show (0 : Int32) = 0 from rfl), if_eq0 (by omega), if_eq1 (by omega), if_neg (by omega), if_neg (by omega)]
          exact fin 1 (p + 1) σ1 τ1 (by omega) (by omega) hp1 c1 m1
      · have sv : (if p + 1 < L ∧ 48 ≤ T (p + 1) ∧ T (p + 1) ≤ 49 then (1 : Int32) else 0) = 0 := if_neg fun y => z2 ⟨y.1, y.2.1, by omega⟩
        rw [if_neg z2, if_neg (show ¬ (-1 : Int32) = 0 by decide), if_neg (show ¬ (-1 : Int32) = 1 by decide), sv, if_pos (show (0 : Int32) = 0 from rfl)]
        exact fin 1 (p + 1) σ1 τ1 (by omega) (by omega) hp1 c1 m1
    · rw [if_neg w1, if_neg w1]
      exact fin x (p + 1) σ1 τ1 (by omega) (by omega) hp1 c1 m1
  · -- no digit
    rw [if_neg z, if_neg (show ¬ (0 : Int32) ≤ -1 by decide), if_neg z, if_pos (show (0 : Int32) = 0 from rfl), a7, gd_of (by decide), lt'_eq, lt'_eq, sup_self, upd_app, if_pos rfl, if_neg (show ¬ (0 : Int32) ||| 1 = 0 by decide)]
    refine Or.inr ⟨p, 0, _, _, by omega, rfl, rfl, C4.s (Or.inr rfl), M0.s (Or.inr rfl), ?_, ?_, ?_⟩
    · rw [sup_self, upd_app, if_pos rfl]
    · rw [sup_self, upd_app, if_neg (by decide)]; exact a6
    · rw [sup_self, upd_app, if_pos rfl]; rfl
