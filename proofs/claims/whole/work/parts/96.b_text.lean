/-! Layer 2, 58: the text of all conflicts -/
def Tx : Type := Nat × (Nat → Nat)
def Tx.push (t : Tx) (c : Nat) : Tx := (t.1 + 1, fun k => if k = t.1 then c else t.2 k)
def Tx.num (t : Tx) (a : Nat) : Tx := if a < 10 then t.push (48 + a) else (t.push 49).push (48 + (a - 10))
def tsep (t : Tx) : Tx := if t.1 = 0 then t else t.push 59
def enc (M : Mk) (t : Tx) (i j : Nat) : Tx :=
  if (M.sm i).testBit j = false ∧ (M.nx i).testBit j = false then t
  else (fun u : Tx => if (M.nx i).testBit j = true then u.push 97 else u) ((fun u : Tx => if (M.sm i).testBit j = true then u.push 99 else u) ((((tsep t).num i).push 45).num j))
def stp (M : Mk) (t : Tx) (i j : Nat) : Tx := if i < j ∧ j < M.n then enc M t i j else t
def rowk (M : Mk) (t : Tx) (i : Nat) : Nat → Tx
  | 0 => t
  | j + 1 => stp M (rowk M t i j) i j
def altx (M : Mk) : Nat → Tx
  | 0 => (0, fun _ => 0)
  | i + 1 => rowk M (altx M i) i 12
theorem rowk_low {M : Mk} {t : Tx} {i : Nat} : ∀ j, j ≤ i + 1 → rowk M t i j = t := by
  intro j
  induction j with
  | zero => intro _; rfl
  | succ j ih => intro h; rw [rowk, stp, if_neg (by omega), ih (by omega)]
theorem rowk_high {M : Mk} {t : Tx} {i : Nat} : ∀ j, M.n ≤ j → rowk M t i j = rowk M t i M.n := by
  intro j
  induction j with
  | zero => intro h; rw [show M.n = 0 by omega]
  | succ j ih =>
    intro h
    rcases Nat.eq_or_lt_of_le h with e | e
    · rw [e]
    · rw [rowk, stp, if_neg (by omega), ih (by omega)]
theorem altx_high {M : Mk} : ∀ i, M.n ≤ i → altx M i = altx M M.n := by
  intro i
  induction i with
  | zero => intro h; rw [show M.n = 0 by omega]
  | succ i ih =>
    intro h
    rcases Nat.eq_or_lt_of_le h with e | e
    · rw [e]
    · rw [altx, ← ih (by omega)]
      have : ∀ j, rowk M (altx M i) i j = altx M i := by
        intro j
        induction j with
        | zero => rfl
        | succ j ih2 => rw [rowk, stp, if_neg (by omega), ih2]
      exact this 12
def lnum (a : Nat) : Nat := if a < 10 then 1 else 2
def gtx (x : Nat) : Nat := if x / 12 < x % 12 then lnum (x / 12) + lnum (x % 12) + 4 else 0
theorem gtx_all : sumTo gtx 144 = 418 := by decide +kernel
theorem num_len (t : Tx) (a : Nat) : (t.num a).1 = t.1 + lnum a := by
  unfold Tx.num lnum
  split <;> rfl
theorem sep_len (t : Tx) : (tsep t).1 ≤ t.1 + 1 := by
  unfold tsep
  split
  · omega
  · exact Nat.le_refl _
theorem enc_len (M : Mk) (t : Tx) (i j : Nat) : (enc M t i j).1 ≤ t.1 + (lnum i + lnum j + 4) := by
  unfold enc
  split
  · omega
  · have h1 := sep_len t
    have h2 := num_len (tsep t) i
    have h3 := num_len (((tsep t).num i).push 45) j
    have h4 : (((tsep t).num i).push 45).1 = ((tsep t).num i).1 + 1 := rfl
    have h5 : ∀ (u : Tx) (c : Nat), (u.push c).1 = u.1 + 1 := fun _ _ => rfl
    show (if (M.nx i).testBit j = true then (if (M.sm i).testBit j = true then ((((tsep t).num i).push 45).num j).push 99 else (((tsep t).num i).push 45).num j).push 97 else (if (M.sm i).testBit j = true then ((((tsep t).num i).push 45).num j).push 99 else (((tsep t).num i).push 45).num j)).1 ≤ _
    split <;> split
    · rw [h5, h5]; omega
    · rw [h5]; omega
    · rw [h5]; omega
    · omega
theorem rowk_len {M : Mk} {t : Tx} {i : Nat} (ht : t.1 ≤ sumTo gtx (12 * i)) (hi : i < 12) : ∀ j, j ≤ 12 → (rowk M t i j).1 ≤ sumTo gtx (12 * i + j) := by
  intro j
  induction j with
  | zero => intro _; exact ht
  | succ j ih =>
    intro hj
    have h1 := ih (by omega)
    rw [rowk, stp, show 12 * i + (j + 1) = (12 * i + j) + 1 by omega, sumTo]
    split
    · next q =>
      have h2 := enc_len M (rowk M t i j) i j
      have h3 : gtx (12 * i + j) = lnum i + lnum j + 4 := by
        unfold gtx
        rw [show (12 * i + j) / 12 = i by omega, show (12 * i + j) % 12 = j by omega, if_pos q.1]
      omega
    · omega
theorem altx_len {M : Mk} : ∀ i, i ≤ 12 → (altx M i).1 ≤ sumTo gtx (12 * i) := by
  intro i
  induction i with
  | zero => intro _; exact Nat.le_refl _
  | succ i ih =>
    intro hi
    have := rowk_len (M := M) (ih (by omega)) (by omega) 12 (Nat.le_refl _)
    rw [altx, show 12 * (i + 1) = 12 * i + 12 by omega]
    exact this
theorem gtx_le {x : Nat} (h : x ≤ 144) : sumTo gtx x ≤ 418 := by
  rw [← gtx_all]
  exact sumTo_mono gtx h
/-- the class's text, the reference's text -/
def HX (t : Tx) (σ : Sg) : Prop := σ 6 1 = nI t.1 ∧ ∀ k, k < t.1 → t.2 k < 127 ∧ σ 26 k = nI (t.2 k)
def HM (t : Tx) (σ : Sg) : Prop := σ 0 12 = nI t.1 ∧ ∀ k, k < t.1 → σ 6 k = nI (t.2 k)
def GX (σ τ : Sg) : Prop := ∀ k, k ≠ 6 → k ≠ 26 → τ k = σ k
theorem GX.refl (σ : Sg) : GX σ σ := fun _ _ _ => rfl
theorem GX.trans {σ τ υ : Sg} (h : GX σ τ) (h2 : GX τ υ) : GX σ υ := fun k a b => (h2 k a b).trans (h k a b)
def GM (σ τ : Sg) : Prop := (∀ k, k ≠ 0 → k ≠ 6 → τ k = σ k) ∧ ∀ j, j ≠ 12 → τ 0 j = σ 0 j
theorem GM.refl (σ : Sg) : GM σ σ := ⟨fun _ _ _ => rfl, fun _ _ => rfl⟩
theorem GM.trans {σ τ υ : Sg} (h : GM σ τ) (h2 : GM τ υ) : GM σ υ := ⟨fun k a b => (h2.1 k a b).trans (h.1 k a b), fun j a => (h2.2 j a).trans (h.2 j a)⟩
theorem put6_eq {t : Tx} {σ : Sg} (h : HX t σ) (hl : t.1 < 420) {c : Nat} (hc : c < 127) {x : Int32} (hx : vp_nar .char x = nI c) : ∃ τ, fX5_put_6 x σ = some ((), τ) ∧ HX (t.push c) τ ∧ GX σ τ := by
  rw [fX5_put_6, h.1, show (420 : Int32) = nI 420 from rfl, if_le (by decide) (by omega), if_neg (by omega), gd_of (inb_ok hl (by omega)), lt'_eq, lt'_eq, zI_clamp (by omega), hx, sup_ne (by decide), h.1, zs_add]
  refine ⟨_, rfl, ⟨?_, fun k hk => ?_⟩, fun k a b => by rw [sup_ne a, sup_ne b]⟩
  · rw [sup_self, upd_app, if_pos rfl]; rfl
  · have hk' : k < t.1 + 1 := hk
    show (if k = t.1 then c else t.2 k) < 127 ∧ _ = nI (if k = t.1 then c else t.2 k)
    rw [sup_ne (by decide), sup_self, upd_app]
    by_cases q : k = t.1
    · rw [if_pos q, if_pos q]
      exact ⟨hc, rfl⟩
    · rw [if_neg q, if_neg q]
      exact h.2 k (by omega)
theorem write_eq {t : Tx} {σ : Sg} (h : HM t σ) (hl : t.1 < 700) (c : Nat) : ∃ τ, fX7_write (nI c) σ = some ((), τ) ∧ HM (t.push c) τ ∧ GM σ τ := by
  rw [fX7_write, h.1, gd_of (inb_ok hl (by omega)), lt'_eq, lt'_eq, zI_clamp (by omega), sup_ne (by decide), h.1, zs_add]
  refine ⟨_, rfl, ⟨?_, fun k hk => ?_⟩, fun k a b => by rw [sup_ne a, sup_ne b], fun j a => by rw [sup_self, upd_app, if_neg a, sup_ne (by decide)]⟩
  · rw [sup_self, upd_app, if_pos rfl]; rfl
  · have hk' : k < t.1 + 1 := hk
    show _ = nI (if k = t.1 then c else t.2 k)
    rw [sup_ne (by decide), sup_self, upd_app]
    by_cases q : k = t.1
    · rw [if_pos q, if_pos q]
    · rw [if_neg q, if_neg q]
      exact h.2 k (by omega)
theorem nar_c : ∀ b : Nat, b < 127 → vp_nar .char (nI b) = nI b := by decide +kernel
theorem numc : ∀ a : Nat, a < 12 → vp_nar .char ((((48 : Int32) + (nI a - nI a / (10 : Int32) * (10 : Int32))).toUInt32 % 65536).toInt32) = nI (48 + (if a < 10 then a else a - 10)) ∧ (10 ≤ a → vp_nar .char ((((48 : Int32) + (nI a / (10 : Int32))).toUInt32 % 65536).toInt32) = nI 49) := by decide +kernel
theorem numm : ∀ a : Nat, a < 12 → (48 : Int32) + (nI a - nI a / (10 : Int32) * (10 : Int32)) = nI (48 + (if a < 10 then a else a - 10)) := by decide +kernel
theorem putn_eq {t : Tx} {σ : Sg} (h : HX t σ) (hl : t.1 + 1 < 420) {a : Nat} (ha : a < 12) : ∃ τ, fX5_putNumber_6 (nI a) σ = some ((), τ) ∧ HX (t.num a) τ ∧ GX σ τ := by
  obtain ⟨n1, n2⟩ := numc a ha
  rw [fX5_putNumber_6]
  simp only [jp_eq]
  rw [show (10 : Int32) = nI 10 from rfl, if_lt (by omega) (by decide)]
  unfold Tx.num
  by_cases q : a < 10
  · rw [if_pos q] at n1
    rw [if_pos q, if_pos q]
    obtain ⟨τ, e1, e2, e3⟩ := put6_eq h (by omega) (c := 48 + a) (by omega) n1
    rw [show (10 : Int32) = nI 10 from rfl] at e1
    rw [e1, bd_some]
    exact ⟨τ, rfl, e2, e3⟩
  · rw [if_neg q] at n1
    rw [if_neg q, if_neg q]
    obtain ⟨τ, e1, e2, e3⟩ := put6_eq h (by omega) (c := 49) (by omega) (n2 (by omega))
    obtain ⟨τ2, f1, f2, f3⟩ := put6_eq e2 (show t.1 + 1 < 420 from hl) (c := 48 + (a - 10)) (by omega) n1
    rw [show (10 : Int32) = nI 10 from rfl] at e1 f1
    rw [e1, bd_some, f1, bd_some]
    exact ⟨τ2, rfl, f2, e3.trans f3⟩
theorem writen_eq {t : Tx} {σ : Sg} (h : HM t σ) (hl : t.1 + 1 < 700) {a : Nat} (ha : a < 12) : ∃ τ, fX7_writeStation (nI a) σ = some ((), τ) ∧ HM (t.num a) τ ∧ GM σ τ := by
  have n1 := numm a ha
  rw [fX7_writeStation]
  simp only [jp_eq]
  rw [n1, show (9 : Int32) = nI 9 from rfl, if_le (by omega) (by decide)]
  unfold Tx.num
  by_cases q : a < 10
  · rw [if_pos (show a ≤ 9 by omega), if_pos q, if_pos q]
    obtain ⟨τ, e1, e2, e3⟩ := write_eq h (by omega) (48 + a)
    rw [e1, bd_some]
    exact ⟨τ, rfl, e2, e3⟩
  · rw [if_neg (show ¬ a ≤ 9 by omega), if_neg q, if_neg q]
    obtain ⟨τ, e1, e2, e3⟩ := write_eq h (by omega) 49
    obtain ⟨τ2, f1, f2, f3⟩ := write_eq e2 (show t.1 + 1 < 700 from hl) (48 + (a - 10))
    rw [show (49 : Int32) = nI 49 from rfl, e1, bd_some, f1, bd_some]
    exact ⟨τ2, rfl, f2, e3.trans f3⟩
theorem num_le (t : Tx) (a : Nat) : (t.num a).1 ≤ t.1 + 2 := by
  rw [num_len]
  unfold lnum
  split <;> omega
theorem sepX {t : Tx} {σ : Sg} (h : HX t σ) (hl : t.1 < 420) : ∃ σ1, (∀ J : Sg → Option (Unit × Sg), (if (σ 6 1) ≤ 0 then J σ else bd (fX5_put_6 (59 : Int32) σ) (fun (_ : Unit) (υ : Sg) => J υ)) = J σ1) ∧ HX (tsep t) σ1 ∧ GX σ σ1 := by
  unfold tsep
  have hle : σ 6 1 ≤ 0 ↔ t.1 = 0 := by
    rw [h.1]
    show nI t.1 ≤ nI 0 ↔ _
    rw [zI_le (by omega) (by decide)]
    omega
  by_cases q : t.1 = 0
  · rw [if_pos q]
    exact ⟨σ, fun J => if_pos (hle.mpr q), h, GX.refl σ⟩
  · rw [if_neg q]
    obtain ⟨τ, e1, e2, e3⟩ := put6_eq h hl (c := 59) (by decide) (nar_c 59 (by decide))
    refine ⟨τ, fun J => ?_, e2, e3⟩
    rw [if_neg (fun z => q (hle.mp z)), show (59 : Int32) = nI 59 from rfl, e1, bd_some]
theorem letX {t : Tx} {σ : Sg} (h : HX t σ) (hl : t.1 < 420) (b : Bool) {c : Nat} (hc : c < 127) : ∃ σ1, (∀ J : Sg → Option (Unit × Sg), (if b = true then bd (fX5_put_6 (nI c) σ) (fun (_ : Unit) (υ : Sg) => J υ) else J σ) = J σ1) ∧ HX (if b = true then t.push c else t) σ1 ∧ GX σ σ1 := by
  cases b
  · exact ⟨σ, fun J => rfl, h, GX.refl σ⟩
  · obtain ⟨τ, e1, e2, e3⟩ := put6_eq h hl hc (nar_c c hc)
    refine ⟨τ, fun J => ?_, e2, e3⟩
    rw [if_pos rfl, e1, bd_some]
theorem sepM {t : Tx} {σ : Sg} (h : HM t σ) (hl : t.1 < 700) : ∃ σ1, (∀ J : Sg → Option (Unit × Sg), (if (σ 0 12) ≤ 0 then J σ else bd (fX7_write (59 : Int32) σ) (fun (_ : Unit) (υ : Sg) => J υ)) = J σ1) ∧ HM (tsep t) σ1 ∧ GM σ σ1 := by
  unfold tsep
  have hle : σ 0 12 ≤ 0 ↔ t.1 = 0 := by
    rw [h.1]
    show nI t.1 ≤ nI 0 ↔ _
    rw [zI_le (by omega) (by decide)]
    omega
  by_cases q : t.1 = 0
  · rw [if_pos q]
    exact ⟨σ, fun J => if_pos (hle.mpr q), h, GM.refl σ⟩
  · rw [if_neg q]
    obtain ⟨τ, e1, e2, e3⟩ := write_eq h hl 59
    refine ⟨τ, fun J => ?_, e2, e3⟩
    rw [if_neg (fun z => q (hle.mp z)), show (59 : Int32) = nI 59 from rfl, e1, bd_some]
theorem letM {t : Tx} {σ : Sg} (h : HM t σ) (hl : t.1 < 700) (b : Bool) (c : Nat) : ∃ σ1, (∀ J : Sg → Option (Unit × Sg), (if b = true then bd (fX7_write (nI c) σ) (fun (_ : Unit) (υ : Sg) => J υ) else J σ) = J σ1) ∧ HM (if b = true then t.push c else t) σ1 ∧ GM σ σ1 := by
  cases b
  · exact ⟨σ, fun J => rfl, h, GM.refl σ⟩
  · obtain ⟨τ, e1, e2, e3⟩ := write_eq h hl c
    refine ⟨τ, fun J => ?_, e2, e3⟩
    rw [if_pos rfl, e1, bd_some]
theorem push_len (u : Tx) (c : Nat) : (u.push c).1 = u.1 + 1 := rfl
theorem let_len (u : Tx) (b : Bool) (c : Nat) : (if b = true then u.push c else u).1 ≤ u.1 + 1 := by
  split
  · exact Nat.le_refl _
  · omega
theorem pair_eq {M : Mk} (hM : M.WF) {t : Tx} {σ : Sg} (h : HX t σ) (hc : ∀ s, s < 12 → σ 15 s = nI (M.sm s) ∧ σ 16 s = nI (M.nx s)) {i j : Nat} (hi : i < 12) (hj : j < 12) (hl : t.1 + (lnum i + lnum j + 4) ≤ 418) : ∃ τ, fX6_describePair (nI i) (nI j) σ = some ((), τ) ∧ HX (enc M t i j) τ ∧ GX σ τ := by
  have hn1 := sep_len t
  have hn2 := num_le (tsep t) i
  have hn3 := num_le (((tsep t).num i).push 45) j
  have hn4 : (((tsep t).num i).push 45).1 = ((tsep t).num i).1 + 1 := rfl
  have hli : 1 ≤ lnum i ∧ lnum i ≤ 2 := by unfold lnum; split <;> omega
  have hlj : 1 ≤ lnum j ∧ lnum j ≤ 2 := by unfold lnum; split <;> omega
  have hn5 := num_len (tsep t) i
  have hn6 := num_len (((tsep t).num i).push 45) j
  have hn7 := let_len ((((tsep t).num i).push 45).num j) ((M.sm i).testBit j) 99
  obtain ⟨σ1, e1, h1, g1⟩ := sepX h (by omega)
  obtain ⟨σ2, e2, h2, g2⟩ := putn_eq h1 (show (tsep t).1 + 1 < 420 by omega) hi
  obtain ⟨σ3, e3, h3, g3⟩ := put6_eq h2 (by omega) (c := 45) (by decide) (nar_c 45 (by decide))
  obtain ⟨σ4, e4, h4, g4⟩ := putn_eq h3 (by omega) hj
  obtain ⟨σ5, e5, h5, g5⟩ := letX h4 (by omega) ((M.sm i).testBit j) (c := 99) (by decide)
  obtain ⟨σ6, e6, h6, g6⟩ := letX h5 (by omega) ((M.nx i).testBit j) (c := 97) (by decide)
  rw [fX6_describePair, gd_of (inb_ok (by omega) (by omega))]
  simp only [jp_eq, lt'_eq]
  rw [gd_of (inb_ok (by omega) (by omega)), zI_clamp (by omega), (hc i hi).1, (hc i hi).2, if_c (hM.1.lt31 (hM.1.2.1 i)) (by omega), if_c (hM.1.lt31 (hM.1.2.2.1 i)) (by omega)]
  have big : ∀ x : Option (Unit × Sg), x = some ((), σ6) → ¬((M.sm i).testBit j = false ∧ (M.nx i).testBit j = false) → ∃ τ, x = some ((), τ) ∧ HX (enc M t i j) τ ∧ GX σ τ := by
    intro x hx hno
    refine ⟨σ6, hx, ?_, ((((g1.trans g2).trans g3).trans g4).trans g5).trans g6⟩
    unfold enc
    rw [if_neg hno]
    exact h6
  have c99 : (99 : Int32) = nI 99 := rfl
  have c97 : (97 : Int32) = nI 97 := rfl
  have c45 : (45 : Int32) = nI 45 := rfl
  have i1 := hM.1.lt31 (hM.1.2.1 i)
  have i2 := hM.1.lt31 (hM.1.2.2.1 i)
  rw [c99, c97, c45]
  by_cases b1 : (M.sm i).testBit j = true
  · refine big _ ?_ (fun z => by rw [z.1] at b1; exact absurd b1 (by decide))
    rw [if_pos b1]
    refine (e1 _).trans ?_
    rw [e2, bd_some, e3, bd_some, e4, bd_some, if_c i1 (by omega)]
    refine (e5 _).trans ?_
    rw [if_c i2 (by omega)]
    exact e6 _
  · by_cases b2 : (M.nx i).testBit j = true
    · refine big _ ?_ (fun z => by rw [z.2] at b2; exact absurd b2 (by decide))
      rw [if_neg b1, if_pos b2]
      refine (e1 _).trans ?_
      rw [e2, bd_some, e3, bd_some, e4, bd_some, if_c i1 (by omega)]
      refine (e5 _).trans ?_
      rw [if_c i2 (by omega)]
      exact e6 _
    · rw [if_neg b1, if_neg b2]
      refine ⟨σ, rfl, ?_, GX.refl σ⟩
      unfold enc
      rw [if_pos ⟨Bool.eq_false_iff.mpr b1, Bool.eq_false_iff.mpr b2⟩]
      exact h
