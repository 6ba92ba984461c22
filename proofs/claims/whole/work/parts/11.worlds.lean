/-! The two worlds (the class X, the reference M): their cells, and what each reading and writing of a cell is. Printed by wip/gen/layout.py. -/
abbrev Sg : Type := Nat → Nat → Int32
/-- a row of the state put in another's place -/
def sst (σ : Sg) (k : Nat) (g : Nat → Int32) : Sg := fun j => if j = k then g else σ j
def sup (σ : Sg) (k i : Nat) (v : Int32) : Sg := sst σ k (upd (σ k) i v)
theorem sst_self (σ : Sg) (k : Nat) (g : Nat → Int32) : sst σ k g k = g := if_pos rfl
theorem sst_ne {σ : Sg} {k j : Nat} {g : Nat → Int32} (h : j ≠ k) : sst σ k g j = σ j := if_neg h
theorem sup_self (σ : Sg) (k i : Nat) (v : Int32) : sup σ k i v k = upd (σ k) i v := sst_self σ k _
theorem sup_ne {σ : Sg} {k j i : Nat} {v : Int32} (h : j ≠ k) : sup σ k i v j = σ j := sst_ne h
/-- the parts of the functions that the methods are -/
def inb (i : Int32) (m : Nat) : Bool := !(decide (i < 0) || decide (m ≤ i.toNatClampNeg))
def gd {α : Type} (b : Bool) (x : Option α) : Option α := match b with
  | true => x
  | false => none
def bd {α β γ : Type} (x : Option (α × β)) (k : α → β → Option γ) : Option γ := match x with
  | none => none
  | some (a, b) => k a b
def bx {α β γ : Type} (x : Option ((String ⊕ α) × β)) (kx : String → β → Option γ) (k : α → β → Option γ) : Option γ := match x with
  | none => none
  | some (.inl e, b) => kx e b
  | some (.inr a, b) => k a b
def lt' {α γ : Type} (a : α) (k : α → γ) : γ := k a
def jp {J γ : Type} (j : J) (k : J → γ) : γ := k j
theorem inb_in {i : Int32} {m : Nat} (h : inb i m = true) : vp_in i m := by
  intro q
  simp only [inb, Bool.not_eq_true', Bool.or_eq_false_iff, decide_eq_false_iff_not] at h
  rcases q with q | q
  · exact h.1 q
  · exact h.2 q
theorem gd_s {α : Type} {b : Bool} {x : Option α} {o : α} (h : gd b x = some o) : b = true ∧ x = some o := by
  cases b
  · exact absurd h (by simp [gd])
  · exact ⟨rfl, h⟩
theorem bd_s {α β γ : Type} {x : Option (α × β)} {k : α → β → Option γ} {o : γ} (h : bd x k = some o) : ∃ a b, x = some (a, b) ∧ k a b = some o := by
  cases x with
  | none => exact absurd h (by simp [bd])
  | some p => exact ⟨p.1, p.2, rfl, h⟩
theorem bx_s {α β γ : Type} {x : Option ((String ⊕ α) × β)} {kx : String → β → Option γ} {k : α → β → Option γ} {o : γ} (h : bx x kx k = some o) : ∃ r b, x = some (r, b) ∧ (∀ e, r = .inl e → kx e b = some o) ∧ (∀ a, r = .inr a → k a b = some o) := by
  cases x with
  | none => exact absurd h (by simp [bx])
  | some p =>
    obtain ⟨r, b⟩ := p
    cases r with
    | inl e => exact ⟨.inl e, b, rfl, fun e' h' => by cases h'; exact h, fun a h' => by cases h'⟩
    | inr a => exact ⟨.inr a, b, rfl, fun e' h' => by (cases h'), fun a' h' => by cases h'; exact h⟩
theorem ite_s {γ : Type} {c : Prop} [Decidable c] {x y o : γ} (h : (if c then x else y) = o) : (c → x = o) ∧ (¬ c → y = o) :=
  ⟨fun q => by rwa [if_pos q] at h, fun q => by rwa [if_neg q] at h⟩
theorem pr_s {α β : Type} {a a' : α} {b b' : β} (h : some (a, b) = some (a', b')) : a = a' ∧ b = b' := by cases h; exact ⟨rfl, rfl⟩
def b01 (v : Int32) : Bool := decide (v = 0) || decide (v = 1)
theorem b01_s {v : Int32} (h : b01 v = true) : v = 0 ∨ v = 1 := by simpa [b01] using h
theorem nn_s {v : Int32} (h : (!decide (v = 0)) = true) : ¬ v = 0 := by simpa using h
def n32 (x : UInt32) : Bool := decide (x &&& 0x7fffffff ≤ 0x7f800000)
def n64 (x : UInt64) : Bool := decide (x &&& 0x7fffffffffffffff ≤ 0x7ff0000000000000)
theorem n32_s {x : UInt32} (h : n32 x = true) : vf_n32 x := by
  unfold n32 at h
  have h2 := of_decide_eq_true h
  exact h2
theorem n64_s {x : UInt64} (h : n64 x = true) : vf_n64 x := by
  unfold n64 at h
  have h2 := of_decide_eq_true h
  exact h2
/-- the bound of every loop -/
def FU : Nat := 1000000
theorem sw_out {x : Int32} {h : Nat} (hh : h < 1000) (k : ∀ i, i ≤ h → ¬ x = nI i) : x.toInt < 0 ∨ (h : Int) < x.toInt := by
  rcases Int.lt_or_le x.toInt 0 with q | q
  · exact Or.inl q
  · right
    rcases Int.lt_or_le (h : Int) x.toInt with q2 | q2
    · exact q2
    · obtain ⟨i, hi⟩ := Int.eq_ofNat_of_zero_le q
      exfalso
      refine k i (by omega) ?_
      rw [← Int32.toInt_inj, nI_toInt (by omega), hi]
theorem inX0 : ∀ z ∈ u_ws RX0 TX0 10, z ∈ lw_tbl := by
  intro z hz
  obtain ⟨k, hk, rfl⟩ := List.mem_map.mp hz
  have hk := List.mem_range.mp hk
  match k, hk with
  | 0, _ => exact q_330
  | 1, _ => exact q_332
  | 2, _ => exact q_334
  | 3, _ => exact q_336
  | 4, _ => exact q_338
  | 5, _ => exact q_340
  | 6, _ => exact q_342
  | 7, _ => exact q_344
  | 8, _ => exact q_346
  | 9, _ => exact q_348
  | k + 10, h => exact absurd h (by omega)
theorem goX0 : (u_ws RX0 TX0 10).all goodWord = true := by decide +kernel
theorem inX1 : ∀ z ∈ u_ws RX1 TX1 4, z ∈ lw_tbl := by
  intro z hz
  obtain ⟨k, hk, rfl⟩ := List.mem_map.mp hz
  have hk := List.mem_range.mp hk
  match k, hk with
  | 0, _ => exact q_247
  | 1, _ => exact q_249
  | 2, _ => exact q_251
  | 3, _ => exact q_253
  | k + 4, h => exact absurd h (by omega)
theorem goX1 : (u_ws RX1 TX1 4).all goodWord = true := by decide +kernel
theorem inX2 : ∀ z ∈ u_ws RX2 TX2 7, z ∈ lw_tbl := by
  intro z hz
  obtain ⟨k, hk, rfl⟩ := List.mem_map.mp hz
  have hk := List.mem_range.mp hk
  match k, hk with
  | 0, _ => exact q_287
  | 1, _ => exact q_289
  | 2, _ => exact q_291
  | 3, _ => exact q_293
  | 4, _ => exact q_295
  | 5, _ => exact q_297
  | 6, _ => exact q_299
  | k + 7, h => exact absurd h (by omega)
theorem goX2 : (u_ws RX2 TX2 7).all goodWord = true := by decide +kernel
theorem inX3 : ∀ z ∈ u_ws RX3 TX3 9, z ∈ lw_tbl := by
  intro z hz
  obtain ⟨k, hk, rfl⟩ := List.mem_map.mp hz
  have hk := List.mem_range.mp hk
  match k, hk with
  | 0, _ => exact q_190
  | 1, _ => exact q_192
  | 2, _ => exact q_194
  | 3, _ => exact q_196
  | 4, _ => exact q_198
  | 5, _ => exact q_200
  | 6, _ => exact q_202
  | 7, _ => exact q_204
  | 8, _ => exact q_206
  | k + 9, h => exact absurd h (by omega)
theorem goX3 : (u_ws RX3 TX3 9).all goodWord = true := by decide +kernel
theorem inX4 : ∀ z ∈ u_ws RX4 TX4 9, z ∈ lw_tbl := by
  intro z hz
  obtain ⟨k, hk, rfl⟩ := List.mem_map.mp hz
  have hk := List.mem_range.mp hk
  match k, hk with
  | 0, _ => exact q_223
  | 1, _ => exact q_225
  | 2, _ => exact q_227
  | 3, _ => exact q_229
  | 4, _ => exact q_231
  | 5, _ => exact q_233
  | 6, _ => exact q_235
  | 7, _ => exact q_237
  | 8, _ => exact q_239
  | k + 9, h => exact absurd h (by omega)
theorem goX4 : (u_ws RX4 TX4 9).all goodWord = true := by decide +kernel
theorem inX5 : ∀ z ∈ u_ws RX5 TX5 2, z ∈ lw_tbl := by
  intro z hz
  obtain ⟨k, hk, rfl⟩ := List.mem_map.mp hz
  have hk := List.mem_range.mp hk
  match k, hk with
  | 0, _ => exact q_272
  | 1, _ => exact q_274
  | k + 2, h => exact absurd h (by omega)
theorem goX5 : (u_ws RX5 TX5 2).all goodWord = true := by decide +kernel
theorem inX6 : ∀ z ∈ u_ws RX6 TX6 12, z ∈ lw_tbl := by
  intro z hz
  obtain ⟨k, hk, rfl⟩ := List.mem_map.mp hz
  have hk := List.mem_range.mp hk
  match k, hk with
  | 0, _ => exact q_365
  | 1, _ => exact q_367
  | 2, _ => exact q_369
  | 3, _ => exact q_371
  | 4, _ => exact q_373
  | 5, _ => exact q_375
  | 6, _ => exact q_377
  | 7, _ => exact q_379
  | 8, _ => exact q_381
  | 9, _ => exact q_383
  | 10, _ => exact q_385
  | 11, _ => exact q_387
  | k + 12, h => exact absurd h (by omega)
theorem goX6 : (u_ws RX6 TX6 12).all goodWord = true := by decide +kernel
theorem inX7 : ∀ z ∈ u_ws RX7 TX7 17, z ∈ lw_tbl := by
  intro z hz
  obtain ⟨k, hk, rfl⟩ := List.mem_map.mp hz
  have hk := List.mem_range.mp hk
  match k, hk with
  | 0, _ => exact q_1199
  | 1, _ => exact q_1201
  | 2, _ => exact q_1203
  | 3, _ => exact q_1205
  | 4, _ => exact q_1207
  | 5, _ => exact q_1209
  | 6, _ => exact q_1211
  | 7, _ => exact q_1213
  | 8, _ => exact q_1215
  | 9, _ => exact q_1217
  | 10, _ => exact q_1219
  | 11, _ => exact q_1221
  | 12, _ => exact q_1223
  | 13, _ => exact q_1225
  | 14, _ => exact q_1227
  | 15, _ => exact q_1229
  | 16, _ => exact q_1231
  | k + 17, h => exact absurd h (by omega)
theorem goX7 : (u_ws RX7 TX7 17).all goodWord = true := by decide +kernel
section WL
variable {X : Cx} {G : Gx} {ad : Nat → Nat} {own : String} {cc : ByteArray} {nL k n pc q : Nat} {rm : Room} {Q : State → Prop} {σ : Sg} {L : List (Nat × Value)} {st : List Value}
def shX (G : Gx) (ad : Nat → Nat) (f : Nat → Int32) : List va_E := [.inr (6, [.ref (ad 1), .ref (ad 2), .ref (ad 3), .ref (ad 4), .ref (ad 5), .ref (ad 6), .ref (ad 7), .ref (ad 8), .ref (ad 9), .ref (ad 10), .int (f 10), .int (f 11)]),
  .inr (1, [.ref (ad 2), .ref (ad 3), .int (f 2), .int (f 3)]),
  .inr (4, [.ref (ad 3), .ref (ad 35), .ref (ad 36), .ref (ad 37), .ref (ad 38), .ref (ad 39), .int (f 6), .ref (ad 40), .int (f 8)]),
  .inr (3, [.ref (ad 11), .ref (ad 12), .ref (ad 13), .ref (ad 14), .ref (ad 15), .ref (ad 16), .int (f 6), .int (f 7), .int (f 8)]),
  .inr (2, [.ref (ad 5), .ref (ad 23), .ref (ad 24), .int (f 3), .int (f 4), .int (f 5), .int (f 6)]),
  .inr (5, [.ref (ad 25), .int (f 1)]),
  .inr (5, [.ref (ad 26), .int (f 1)]),
  .inr (0, [.ref (ad 27), .ref (ad 28), .ref (ad 29), .ref (ad 30), .int (f 4), .int (f 5), .int (f 6), .int (f 7), .int (f 8), .int (f 9)]),
  .inr (3, [.ref (ad 17), .ref (ad 18), .ref (ad 19), .ref (ad 20), .ref (ad 21), .ref (ad 22), .int (f 6), .int (f 7), .int (f 8)]),
  .inr (0, [.ref (ad 31), .ref (ad 32), .ref (ad 33), .ref (ad 34), .int (f 4), .int (f 5), .int (f 6), .int (f 7), .int (f 8), .int (f 9)]),
  .inl (G.2.1, 12, .inl f),
  .inl (G.2.1, 12, .inl f),
  .inl (G.2.1, 12, .inl f),
  .inl (G.2.1, 12, .inl f),
  .inl (G.2.1, 12, .inl f),
  .inl (G.2.1, 12, .inl f),
  .inl (G.2.1, 12, .inl f),
  .inl (G.2.1, 12, .inl f),
  .inl (G.2.1, 12, .inl f),
  .inl (G.2.1, 12, .inl f),
  .inl (G.2.1, 12, .inl f),
  .inl (G.2.1, 12, .inl f),
  .inl (G.2.1, 12, .inl f),
  .inl (G.2.1, 12, .inl f),
  .inl (G.2.1, 12, .inl f),
  .inl (G.2.2.2.1, 420, .inl f),
  .inl (G.2.2.2.1, 420, .inl f),
  .inl (G.2.1, 101, .inl f),
  .inl (G.2.1, 12, .inl f),
  .inl (G.2.1, 12, .inl f),
  .inl (G.2.1, 12, .inl f),
  .inl (G.2.1, 101, .inl f),
  .inl (G.2.1, 12, .inl f),
  .inl (G.2.1, 12, .inl f),
  .inl (G.2.1, 12, .inl f),
  .inl (G.2.1, 12, .inl f),
  .inl (G.2.2.1, 12, .inr (.inr (.inr (.inr (fun i => if i < 12 then some (ad (41 + i)) else none))))),
  .inl (G.2.2.1, 12, .inr (.inr (.inr (.inr (fun i => if i < 12 then some (ad (53 + i)) else none))))),
  .inl (G.2.2.1, 12, .inr (.inr (.inr (.inr (fun i => if i < 12 then some (ad (65 + i)) else none))))),
  .inl (G.2.1, 4096, .inl f),
  .inl (G.2.1, 4096, .inl f)]
def shpX (G : Gx) (ad : Nat → Nat) (j : Nat) (f : Nat → Int32) : va_E := if j < 41 then (shX G ad f).getD j (.inr (0, [])) else if j < 53 then .inl (G.2.1, 12, .inl f) else if j < 65 then .inl (G.2.1, 8, .inl f) else .inl (G.2.1, 8, .inl f)
def wX : Wd Sg := (77, fun G ad j σ => shpX G ad j (σ j))
theorem hoX {j : Nat} {g : Nat → Int32} : ∀ i, i < wX.1 → i ≠ j → wX.2 G ad i (sst σ j g) = wX.2 G ad i σ := fun i _ h => by
  show shpX G ad i (sst σ j g i) = shpX G ad i (σ i)
  rw [sst_ne h]
theorem hsX {j : Nat} {g : Nat → Int32} {e : va_E} (h : shpX G ad j g = e) : wX.2 G ad j (sst σ j g) = e := by
  show shpX G ad j (sst σ j g j) = e
  rw [sst_self]
  exact h
theorem eX_0 (G : Gx) (ad : Nat → Nat) (f : Nat → Int32) : shpX G ad 0 f = .inr (6, [.ref (ad 1), .ref (ad 2), .ref (ad 3), .ref (ad 4), .ref (ad 5), .ref (ad 6), .ref (ad 7), .ref (ad 8), .ref (ad 9), .ref (ad 10), .int (f 10), .int (f 11)]) := rfl
theorem eX_1 (G : Gx) (ad : Nat → Nat) (f : Nat → Int32) : shpX G ad 1 f = .inr (1, [.ref (ad 2), .ref (ad 3), .int (f 2), .int (f 3)]) := rfl
theorem eX_2 (G : Gx) (ad : Nat → Nat) (f : Nat → Int32) : shpX G ad 2 f = .inr (4, [.ref (ad 3), .ref (ad 35), .ref (ad 36), .ref (ad 37), .ref (ad 38), .ref (ad 39), .int (f 6), .ref (ad 40), .int (f 8)]) := rfl
theorem eX_3 (G : Gx) (ad : Nat → Nat) (f : Nat → Int32) : shpX G ad 3 f = .inr (3, [.ref (ad 11), .ref (ad 12), .ref (ad 13), .ref (ad 14), .ref (ad 15), .ref (ad 16), .int (f 6), .int (f 7), .int (f 8)]) := rfl
theorem eX_4 (G : Gx) (ad : Nat → Nat) (f : Nat → Int32) : shpX G ad 4 f = .inr (2, [.ref (ad 5), .ref (ad 23), .ref (ad 24), .int (f 3), .int (f 4), .int (f 5), .int (f 6)]) := rfl
theorem eX_5 (G : Gx) (ad : Nat → Nat) (f : Nat → Int32) : shpX G ad 5 f = .inr (5, [.ref (ad 25), .int (f 1)]) := rfl
theorem eX_6 (G : Gx) (ad : Nat → Nat) (f : Nat → Int32) : shpX G ad 6 f = .inr (5, [.ref (ad 26), .int (f 1)]) := rfl
theorem eX_7 (G : Gx) (ad : Nat → Nat) (f : Nat → Int32) : shpX G ad 7 f = .inr (0, [.ref (ad 27), .ref (ad 28), .ref (ad 29), .ref (ad 30), .int (f 4), .int (f 5), .int (f 6), .int (f 7), .int (f 8), .int (f 9)]) := rfl
theorem eX_8 (G : Gx) (ad : Nat → Nat) (f : Nat → Int32) : shpX G ad 8 f = .inr (3, [.ref (ad 17), .ref (ad 18), .ref (ad 19), .ref (ad 20), .ref (ad 21), .ref (ad 22), .int (f 6), .int (f 7), .int (f 8)]) := rfl
theorem eX_9 (G : Gx) (ad : Nat → Nat) (f : Nat → Int32) : shpX G ad 9 f = .inr (0, [.ref (ad 31), .ref (ad 32), .ref (ad 33), .ref (ad 34), .int (f 4), .int (f 5), .int (f 6), .int (f 7), .int (f 8), .int (f 9)]) := rfl
theorem eX_10 (G : Gx) (ad : Nat → Nat) (f : Nat → Int32) : shpX G ad 10 f = .inl (G.2.1, 12, .inl f) := rfl
theorem eX_11 (G : Gx) (ad : Nat → Nat) (f : Nat → Int32) : shpX G ad 11 f = .inl (G.2.1, 12, .inl f) := rfl
theorem eX_12 (G : Gx) (ad : Nat → Nat) (f : Nat → Int32) : shpX G ad 12 f = .inl (G.2.1, 12, .inl f) := rfl
theorem eX_13 (G : Gx) (ad : Nat → Nat) (f : Nat → Int32) : shpX G ad 13 f = .inl (G.2.1, 12, .inl f) := rfl
theorem eX_14 (G : Gx) (ad : Nat → Nat) (f : Nat → Int32) : shpX G ad 14 f = .inl (G.2.1, 12, .inl f) := rfl
theorem eX_15 (G : Gx) (ad : Nat → Nat) (f : Nat → Int32) : shpX G ad 15 f = .inl (G.2.1, 12, .inl f) := rfl
theorem eX_16 (G : Gx) (ad : Nat → Nat) (f : Nat → Int32) : shpX G ad 16 f = .inl (G.2.1, 12, .inl f) := rfl
theorem eX_17 (G : Gx) (ad : Nat → Nat) (f : Nat → Int32) : shpX G ad 17 f = .inl (G.2.1, 12, .inl f) := rfl
theorem eX_18 (G : Gx) (ad : Nat → Nat) (f : Nat → Int32) : shpX G ad 18 f = .inl (G.2.1, 12, .inl f) := rfl
theorem eX_19 (G : Gx) (ad : Nat → Nat) (f : Nat → Int32) : shpX G ad 19 f = .inl (G.2.1, 12, .inl f) := rfl
theorem eX_20 (G : Gx) (ad : Nat → Nat) (f : Nat → Int32) : shpX G ad 20 f = .inl (G.2.1, 12, .inl f) := rfl
theorem eX_21 (G : Gx) (ad : Nat → Nat) (f : Nat → Int32) : shpX G ad 21 f = .inl (G.2.1, 12, .inl f) := rfl
theorem eX_22 (G : Gx) (ad : Nat → Nat) (f : Nat → Int32) : shpX G ad 22 f = .inl (G.2.1, 12, .inl f) := rfl
theorem eX_23 (G : Gx) (ad : Nat → Nat) (f : Nat → Int32) : shpX G ad 23 f = .inl (G.2.1, 12, .inl f) := rfl
theorem eX_24 (G : Gx) (ad : Nat → Nat) (f : Nat → Int32) : shpX G ad 24 f = .inl (G.2.1, 12, .inl f) := rfl
theorem eX_25 (G : Gx) (ad : Nat → Nat) (f : Nat → Int32) : shpX G ad 25 f = .inl (G.2.2.2.1, 420, .inl f) := rfl
theorem eX_26 (G : Gx) (ad : Nat → Nat) (f : Nat → Int32) : shpX G ad 26 f = .inl (G.2.2.2.1, 420, .inl f) := rfl
theorem eX_27 (G : Gx) (ad : Nat → Nat) (f : Nat → Int32) : shpX G ad 27 f = .inl (G.2.1, 101, .inl f) := rfl
theorem eX_28 (G : Gx) (ad : Nat → Nat) (f : Nat → Int32) : shpX G ad 28 f = .inl (G.2.1, 12, .inl f) := rfl
theorem eX_29 (G : Gx) (ad : Nat → Nat) (f : Nat → Int32) : shpX G ad 29 f = .inl (G.2.1, 12, .inl f) := rfl
theorem eX_30 (G : Gx) (ad : Nat → Nat) (f : Nat → Int32) : shpX G ad 30 f = .inl (G.2.1, 12, .inl f) := rfl
theorem eX_31 (G : Gx) (ad : Nat → Nat) (f : Nat → Int32) : shpX G ad 31 f = .inl (G.2.1, 101, .inl f) := rfl
theorem eX_32 (G : Gx) (ad : Nat → Nat) (f : Nat → Int32) : shpX G ad 32 f = .inl (G.2.1, 12, .inl f) := rfl
theorem eX_33 (G : Gx) (ad : Nat → Nat) (f : Nat → Int32) : shpX G ad 33 f = .inl (G.2.1, 12, .inl f) := rfl
theorem eX_34 (G : Gx) (ad : Nat → Nat) (f : Nat → Int32) : shpX G ad 34 f = .inl (G.2.1, 12, .inl f) := rfl
theorem eX_35 (G : Gx) (ad : Nat → Nat) (f : Nat → Int32) : shpX G ad 35 f = .inl (G.2.1, 12, .inl f) := rfl
theorem eX_36 (G : Gx) (ad : Nat → Nat) (f : Nat → Int32) : shpX G ad 36 f = .inl (G.2.2.1, 12, .inr (.inr (.inr (.inr (fun i => if i < 12 then some (ad (41 + i)) else none))))) := rfl
theorem eX_37 (G : Gx) (ad : Nat → Nat) (f : Nat → Int32) : shpX G ad 37 f = .inl (G.2.2.1, 12, .inr (.inr (.inr (.inr (fun i => if i < 12 then some (ad (53 + i)) else none))))) := rfl
theorem eX_38 (G : Gx) (ad : Nat → Nat) (f : Nat → Int32) : shpX G ad 38 f = .inl (G.2.2.1, 12, .inr (.inr (.inr (.inr (fun i => if i < 12 then some (ad (65 + i)) else none))))) := rfl
theorem eX_39 (G : Gx) (ad : Nat → Nat) (f : Nat → Int32) : shpX G ad 39 f = .inl (G.2.1, 4096, .inl f) := rfl
theorem eX_40 (G : Gx) (ad : Nat → Nat) (f : Nat → Int32) : shpX G ad 40 f = .inl (G.2.1, 4096, .inl f) := rfl
theorem eXr0 {G : Gx} {ad : Nat → Nat} {f : Nat → Int32} {j : Nat} (h1 : 41 ≤ j) (h2 : j < 53) : shpX G ad j f = .inl (G.2.1, 12, .inl f) := by
  unfold shpX
  rw [if_neg (by omega)]
  rw [if_pos (by omega)]
theorem eXr1 {G : Gx} {ad : Nat → Nat} {f : Nat → Int32} {j : Nat} (h1 : 53 ≤ j) (h2 : j < 65) : shpX G ad j f = .inl (G.2.1, 8, .inl f) := by
  unfold shpX
  rw [if_neg (by omega)]
  rw [if_neg (by omega)]
  rw [if_pos (by omega)]
theorem eXr2 {G : Gx} {ad : Nat → Nat} {f : Nat → Int32} {j : Nat} (h1 : 65 ≤ j) (h2 : j < 77) : shpX G ad j f = .inl (G.2.1, 8, .inl f) := by
  unfold shpX
  rw [if_neg (by omega)]
  rw [if_neg (by omega)]
  rw [if_neg (by omega)]
theorem GX_0_0 (C : OK wX X G ad own cc nL rm) {index : Nat} (hq : Cond.fieldLink own index "SpectrumReallocator" "chooser" "LSpectrumReallocator$Chooser;" ∈ lw_tbl) (d : decode cc pc = .ok (.getfield index, 3)) (e : pc + 3 = q) (kk : V wX X G ad nL Q k n σ q L (.ref (ad 1) :: st)) : V wX X G ad nL Q k n σ pc L (.ref (ad 0) :: st) :=
  V_get C 0 (by decide) (eX_0 G ad (σ 0)) rfl inX6 goX6 0 (by decide) hq rfl d e kk
theorem GNX_0_0 (C : OK wX X G ad own cc nL rm) {index : Nat} {host : String} (hq : Cond.fieldLinkNest own index "SpectrumReallocator" "chooser" "LSpectrumReallocator$Chooser;" host ∈ lw_tbl) (d : decode cc pc = .ok (.getfield index, 3)) (e : pc + 3 = q) (kk : V wX X G ad nL Q k n σ q L (.ref (ad 1) :: st)) : V wX X G ad nL Q k n σ pc L (.ref (ad 0) :: st) :=
  V_getN C 0 (by decide) (eX_0 G ad (σ 0)) rfl inX6 goX6 0 (by decide) hq rfl d e kk
theorem GX_0_1 (C : OK wX X G ad own cc nL rm) {index : Nat} (hq : Cond.fieldLink own index "SpectrumReallocator" "packer" "LSpectrumReallocator$Packer;" ∈ lw_tbl) (d : decode cc pc = .ok (.getfield index, 3)) (e : pc + 3 = q) (kk : V wX X G ad nL Q k n σ q L (.ref (ad 2) :: st)) : V wX X G ad nL Q k n σ pc L (.ref (ad 0) :: st) :=
  V_get C 0 (by decide) (eX_0 G ad (σ 0)) rfl inX6 goX6 1 (by decide) hq rfl d e kk
theorem GNX_0_1 (C : OK wX X G ad own cc nL rm) {index : Nat} {host : String} (hq : Cond.fieldLinkNest own index "SpectrumReallocator" "packer" "LSpectrumReallocator$Packer;" host ∈ lw_tbl) (d : decode cc pc = .ok (.getfield index, 3)) (e : pc + 3 = q) (kk : V wX X G ad nL Q k n σ q L (.ref (ad 2) :: st)) : V wX X G ad nL Q k n σ pc L (.ref (ad 0) :: st) :=
  V_getN C 0 (by decide) (eX_0 G ad (σ 0)) rfl inX6 goX6 1 (by decide) hq rfl d e kk
theorem GX_0_2 (C : OK wX X G ad own cc nL rm) {index : Nat} (hq : Cond.fieldLink own index "SpectrumReallocator" "market" "LSpectrumReallocator$Market;" ∈ lw_tbl) (d : decode cc pc = .ok (.getfield index, 3)) (e : pc + 3 = q) (kk : V wX X G ad nL Q k n σ q L (.ref (ad 3) :: st)) : V wX X G ad nL Q k n σ pc L (.ref (ad 0) :: st) :=
  V_get C 0 (by decide) (eX_0 G ad (σ 0)) rfl inX6 goX6 2 (by decide) hq rfl d e kk
theorem GNX_0_2 (C : OK wX X G ad own cc nL rm) {index : Nat} {host : String} (hq : Cond.fieldLinkNest own index "SpectrumReallocator" "market" "LSpectrumReallocator$Market;" host ∈ lw_tbl) (d : decode cc pc = .ok (.getfield index, 3)) (e : pc + 3 = q) (kk : V wX X G ad nL Q k n σ q L (.ref (ad 3) :: st)) : V wX X G ad nL Q k n σ pc L (.ref (ad 0) :: st) :=
  V_getN C 0 (by decide) (eX_0 G ad (σ 0)) rfl inX6 goX6 2 (by decide) hq rfl d e kk
theorem GX_0_3 (C : OK wX X G ad own cc nL rm) {index : Nat} (hq : Cond.fieldLink own index "SpectrumReallocator" "reader" "LSpectrumReallocator$ConflictReader;" ∈ lw_tbl) (d : decode cc pc = .ok (.getfield index, 3)) (e : pc + 3 = q) (kk : V wX X G ad nL Q k n σ q L (.ref (ad 4) :: st)) : V wX X G ad nL Q k n σ pc L (.ref (ad 0) :: st) :=
  V_get C 0 (by decide) (eX_0 G ad (σ 0)) rfl inX6 goX6 3 (by decide) hq rfl d e kk
theorem GNX_0_3 (C : OK wX X G ad own cc nL rm) {index : Nat} {host : String} (hq : Cond.fieldLinkNest own index "SpectrumReallocator" "reader" "LSpectrumReallocator$ConflictReader;" host ∈ lw_tbl) (d : decode cc pc = .ok (.getfield index, 3)) (e : pc + 3 = q) (kk : V wX X G ad nL Q k n σ q L (.ref (ad 4) :: st)) : V wX X G ad nL Q k n σ pc L (.ref (ad 0) :: st) :=
  V_getN C 0 (by decide) (eX_0 G ad (σ 0)) rfl inX6 goX6 3 (by decide) hq rfl d e kk
theorem GX_0_4 (C : OK wX X G ad own cc nL rm) {index : Nat} (hq : Cond.fieldLink own index "SpectrumReallocator" "buffer" "LSpectrumReallocator$Text;" ∈ lw_tbl) (d : decode cc pc = .ok (.getfield index, 3)) (e : pc + 3 = q) (kk : V wX X G ad nL Q k n σ q L (.ref (ad 5) :: st)) : V wX X G ad nL Q k n σ pc L (.ref (ad 0) :: st) :=
  V_get C 0 (by decide) (eX_0 G ad (σ 0)) rfl inX6 goX6 4 (by decide) hq rfl d e kk
theorem GNX_0_4 (C : OK wX X G ad own cc nL rm) {index : Nat} {host : String} (hq : Cond.fieldLinkNest own index "SpectrumReallocator" "buffer" "LSpectrumReallocator$Text;" host ∈ lw_tbl) (d : decode cc pc = .ok (.getfield index, 3)) (e : pc + 3 = q) (kk : V wX X G ad nL Q k n σ q L (.ref (ad 5) :: st)) : V wX X G ad nL Q k n σ pc L (.ref (ad 0) :: st) :=
  V_getN C 0 (by decide) (eX_0 G ad (σ 0)) rfl inX6 goX6 4 (by decide) hq rfl d e kk
theorem GX_0_5 (C : OK wX X G ad own cc nL rm) {index : Nat} (hq : Cond.fieldLink own index "SpectrumReallocator" "description" "LSpectrumReallocator$Text;" ∈ lw_tbl) (d : decode cc pc = .ok (.getfield index, 3)) (e : pc + 3 = q) (kk : V wX X G ad nL Q k n σ q L (.ref (ad 6) :: st)) : V wX X G ad nL Q k n σ pc L (.ref (ad 0) :: st) :=
  V_get C 0 (by decide) (eX_0 G ad (σ 0)) rfl inX6 goX6 5 (by decide) hq rfl d e kk
theorem GNX_0_5 (C : OK wX X G ad own cc nL rm) {index : Nat} {host : String} (hq : Cond.fieldLinkNest own index "SpectrumReallocator" "description" "LSpectrumReallocator$Text;" host ∈ lw_tbl) (d : decode cc pc = .ok (.getfield index, 3)) (e : pc + 3 = q) (kk : V wX X G ad nL Q k n σ q L (.ref (ad 6) :: st)) : V wX X G ad nL Q k n σ pc L (.ref (ad 0) :: st) :=
  V_getN C 0 (by decide) (eX_0 G ad (σ 0)) rfl inX6 goX6 5 (by decide) hq rfl d e kk
theorem GX_0_6 (C : OK wX X G ad own cc nL rm) {index : Nat} (hq : Cond.fieldLink own index "SpectrumReallocator" "auction" "LSpectrumReallocator$Auction;" ∈ lw_tbl) (d : decode cc pc = .ok (.getfield index, 3)) (e : pc + 3 = q) (kk : V wX X G ad nL Q k n σ q L (.ref (ad 7) :: st)) : V wX X G ad nL Q k n σ pc L (.ref (ad 0) :: st) :=
  V_get C 0 (by decide) (eX_0 G ad (σ 0)) rfl inX6 goX6 6 (by decide) hq rfl d e kk
theorem GNX_0_6 (C : OK wX X G ad own cc nL rm) {index : Nat} {host : String} (hq : Cond.fieldLinkNest own index "SpectrumReallocator" "auction" "LSpectrumReallocator$Auction;" host ∈ lw_tbl) (d : decode cc pc = .ok (.getfield index, 3)) (e : pc + 3 = q) (kk : V wX X G ad nL Q k n σ q L (.ref (ad 7) :: st)) : V wX X G ad nL Q k n σ pc L (.ref (ad 0) :: st) :=
  V_getN C 0 (by decide) (eX_0 G ad (σ 0)) rfl inX6 goX6 6 (by decide) hq rfl d e kk
theorem GX_0_7 (C : OK wX X G ad own cc nL rm) {index : Nat} (hq : Cond.fieldLink own index "SpectrumReallocator" "savedMarket" "LSpectrumReallocator$Market;" ∈ lw_tbl) (d : decode cc pc = .ok (.getfield index, 3)) (e : pc + 3 = q) (kk : V wX X G ad nL Q k n σ q L (.ref (ad 8) :: st)) : V wX X G ad nL Q k n σ pc L (.ref (ad 0) :: st) :=
  V_get C 0 (by decide) (eX_0 G ad (σ 0)) rfl inX6 goX6 7 (by decide) hq rfl d e kk
theorem GNX_0_7 (C : OK wX X G ad own cc nL rm) {index : Nat} {host : String} (hq : Cond.fieldLinkNest own index "SpectrumReallocator" "savedMarket" "LSpectrumReallocator$Market;" host ∈ lw_tbl) (d : decode cc pc = .ok (.getfield index, 3)) (e : pc + 3 = q) (kk : V wX X G ad nL Q k n σ q L (.ref (ad 8) :: st)) : V wX X G ad nL Q k n σ pc L (.ref (ad 0) :: st) :=
  V_getN C 0 (by decide) (eX_0 G ad (σ 0)) rfl inX6 goX6 7 (by decide) hq rfl d e kk
theorem GX_0_8 (C : OK wX X G ad own cc nL rm) {index : Nat} (hq : Cond.fieldLink own index "SpectrumReallocator" "savedAuction" "LSpectrumReallocator$Auction;" ∈ lw_tbl) (d : decode cc pc = .ok (.getfield index, 3)) (e : pc + 3 = q) (kk : V wX X G ad nL Q k n σ q L (.ref (ad 9) :: st)) : V wX X G ad nL Q k n σ pc L (.ref (ad 0) :: st) :=
  V_get C 0 (by decide) (eX_0 G ad (σ 0)) rfl inX6 goX6 8 (by decide) hq rfl d e kk
theorem GNX_0_8 (C : OK wX X G ad own cc nL rm) {index : Nat} {host : String} (hq : Cond.fieldLinkNest own index "SpectrumReallocator" "savedAuction" "LSpectrumReallocator$Auction;" host ∈ lw_tbl) (d : decode cc pc = .ok (.getfield index, 3)) (e : pc + 3 = q) (kk : V wX X G ad nL Q k n σ q L (.ref (ad 9) :: st)) : V wX X G ad nL Q k n σ pc L (.ref (ad 0) :: st) :=
  V_getN C 0 (by decide) (eX_0 G ad (σ 0)) rfl inX6 goX6 8 (by decide) hq rfl d e kk
theorem GX_0_9 (C : OK wX X G ad own cc nL rm) {index : Nat} (hq : Cond.fieldLink own index "SpectrumReallocator" "ranking" "[I" ∈ lw_tbl) (d : decode cc pc = .ok (.getfield index, 3)) (e : pc + 3 = q) (kk : V wX X G ad nL Q k n σ q L (.ref (ad 10) :: st)) : V wX X G ad nL Q k n σ pc L (.ref (ad 0) :: st) :=
  V_get C 0 (by decide) (eX_0 G ad (σ 0)) rfl inX6 goX6 9 (by decide) hq rfl d e kk
theorem GNX_0_9 (C : OK wX X G ad own cc nL rm) {index : Nat} {host : String} (hq : Cond.fieldLinkNest own index "SpectrumReallocator" "ranking" "[I" host ∈ lw_tbl) (d : decode cc pc = .ok (.getfield index, 3)) (e : pc + 3 = q) (kk : V wX X G ad nL Q k n σ q L (.ref (ad 10) :: st)) : V wX X G ad nL Q k n σ pc L (.ref (ad 0) :: st) :=
  V_getN C 0 (by decide) (eX_0 G ad (σ 0)) rfl inX6 goX6 9 (by decide) hq rfl d e kk
theorem GX_0_10 (C : OK wX X G ad own cc nL rm) {index : Nat} (hq : Cond.fieldLink own index "SpectrumReallocator" "hasSaved" "Z" ∈ lw_tbl) (d : decode cc pc = .ok (.getfield index, 3)) (e : pc + 3 = q) (kk : V wX X G ad nL Q k n σ q L (.int (σ 0 10) :: st)) : V wX X G ad nL Q k n σ pc L (.ref (ad 0) :: st) :=
  V_get C 0 (by decide) (eX_0 G ad (σ 0)) rfl inX6 goX6 10 (by decide) hq rfl d e kk
theorem PX_0_10 (C : OK wX X G ad own cc nL rm) {index : Nat} {v : Int32} (hv : v = 0 ∨ v = 1) (hq : Cond.fieldLink own index "SpectrumReallocator" "hasSaved" "Z" ∈ lw_tbl) (d : decode cc pc = .ok (.putfield index, 3)) (e : pc + 3 = q) (kk : V wX X G ad nL Q k n (sup σ 0 10 v) q L st) : V wX X G ad nL Q k n σ pc L (.int v :: .ref (ad 0) :: st) :=
  V_put C 0 10 (by decide) (eX_0 G ad (σ 0)) (hsX (g := upd (σ 0) 10 v) rfl) hoX rfl inX6 goX6 tyX6 tyX6_ok nmX6 (by decide) rfl (ty := .boolean) rfl (by rcases hv with h | h <;> subst h <;> decide) (by rcases hv with h | h <;> subst h <;> decide) (Nat.le_of_ble_eq_true rfl) hq d e kk
theorem GNX_0_10 (C : OK wX X G ad own cc nL rm) {index : Nat} {host : String} (hq : Cond.fieldLinkNest own index "SpectrumReallocator" "hasSaved" "Z" host ∈ lw_tbl) (d : decode cc pc = .ok (.getfield index, 3)) (e : pc + 3 = q) (kk : V wX X G ad nL Q k n σ q L (.int (σ 0 10) :: st)) : V wX X G ad nL Q k n σ pc L (.ref (ad 0) :: st) :=
  V_getN C 0 (by decide) (eX_0 G ad (σ 0)) rfl inX6 goX6 10 (by decide) hq rfl d e kk
theorem PNX_0_10 (C : OK wX X G ad own cc nL rm) {index : Nat} {host : String} {v : Int32} (hv : v = 0 ∨ v = 1) (hq : Cond.fieldLinkNest own index "SpectrumReallocator" "hasSaved" "Z" host ∈ lw_tbl) (d : decode cc pc = .ok (.putfield index, 3)) (e : pc + 3 = q) (kk : V wX X G ad nL Q k n (sup σ 0 10 v) q L st) : V wX X G ad nL Q k n σ pc L (.int v :: .ref (ad 0) :: st) :=
  V_putN C 0 10 (by decide) (eX_0 G ad (σ 0)) (hsX (g := upd (σ 0) 10 v) rfl) hoX rfl inX6 goX6 tyX6 tyX6_ok nmX6 (by decide) rfl (ty := .boolean) rfl (by rcases hv with h | h <;> subst h <;> decide) (by rcases hv with h | h <;> subst h <;> decide) (Nat.le_of_ble_eq_true rfl) hq d e kk
theorem GX_0_11 (C : OK wX X G ad own cc nL rm) {index : Nat} (hq : Cond.fieldLink own index "SpectrumReallocator" "lastError" "I" ∈ lw_tbl) (d : decode cc pc = .ok (.getfield index, 3)) (e : pc + 3 = q) (kk : V wX X G ad nL Q k n σ q L (.int (σ 0 11) :: st)) : V wX X G ad nL Q k n σ pc L (.ref (ad 0) :: st) :=
  V_get C 0 (by decide) (eX_0 G ad (σ 0)) rfl inX6 goX6 11 (by decide) hq rfl d e kk
theorem PX_0_11 (C : OK wX X G ad own cc nL rm) {index : Nat} {v : Int32} (hq : Cond.fieldLink own index "SpectrumReallocator" "lastError" "I" ∈ lw_tbl) (d : decode cc pc = .ok (.putfield index, 3)) (e : pc + 3 = q) (kk : V wX X G ad nL Q k n (sup σ 0 11 v) q L st) : V wX X G ad nL Q k n σ pc L (.int v :: .ref (ad 0) :: st) :=
  V_put C 0 11 (by decide) (eX_0 G ad (σ 0)) (hsX (g := upd (σ 0) 11 v) rfl) hoX rfl inX6 goX6 tyX6 tyX6_ok nmX6 (by decide) rfl (ty := .int) rfl rfl rfl (Nat.le_of_ble_eq_true rfl) hq d e kk
theorem GNX_0_11 (C : OK wX X G ad own cc nL rm) {index : Nat} {host : String} (hq : Cond.fieldLinkNest own index "SpectrumReallocator" "lastError" "I" host ∈ lw_tbl) (d : decode cc pc = .ok (.getfield index, 3)) (e : pc + 3 = q) (kk : V wX X G ad nL Q k n σ q L (.int (σ 0 11) :: st)) : V wX X G ad nL Q k n σ pc L (.ref (ad 0) :: st) :=
  V_getN C 0 (by decide) (eX_0 G ad (σ 0)) rfl inX6 goX6 11 (by decide) hq rfl d e kk
theorem PNX_0_11 (C : OK wX X G ad own cc nL rm) {index : Nat} {host : String} {v : Int32} (hq : Cond.fieldLinkNest own index "SpectrumReallocator" "lastError" "I" host ∈ lw_tbl) (d : decode cc pc = .ok (.putfield index, 3)) (e : pc + 3 = q) (kk : V wX X G ad nL Q k n (sup σ 0 11 v) q L st) : V wX X G ad nL Q k n σ pc L (.int v :: .ref (ad 0) :: st) :=
  V_putN C 0 11 (by decide) (eX_0 G ad (σ 0)) (hsX (g := upd (σ 0) 11 v) rfl) hoX rfl inX6 goX6 tyX6 tyX6_ok nmX6 (by decide) rfl (ty := .int) rfl rfl rfl (Nat.le_of_ble_eq_true rfl) hq d e kk
theorem GX_1_0 (C : OK wX X G ad own cc nL rm) {index : Nat} (hq : Cond.fieldLink own index "SpectrumReallocator$Chooser" "packer" "LSpectrumReallocator$Packer;" ∈ lw_tbl) (d : decode cc pc = .ok (.getfield index, 3)) (e : pc + 3 = q) (kk : V wX X G ad nL Q k n σ q L (.ref (ad 2) :: st)) : V wX X G ad nL Q k n σ pc L (.ref (ad 1) :: st) :=
  V_get C 1 (by decide) (eX_1 G ad (σ 1)) rfl inX1 goX1 0 (by decide) hq rfl d e kk
theorem GNX_1_0 (C : OK wX X G ad own cc nL rm) {index : Nat} {host : String} (hq : Cond.fieldLinkNest own index "SpectrumReallocator$Chooser" "packer" "LSpectrumReallocator$Packer;" host ∈ lw_tbl) (d : decode cc pc = .ok (.getfield index, 3)) (e : pc + 3 = q) (kk : V wX X G ad nL Q k n σ q L (.ref (ad 2) :: st)) : V wX X G ad nL Q k n σ pc L (.ref (ad 1) :: st) :=
  V_getN C 1 (by decide) (eX_1 G ad (σ 1)) rfl inX1 goX1 0 (by decide) hq rfl d e kk
theorem GX_1_1 (C : OK wX X G ad own cc nL rm) {index : Nat} (hq : Cond.fieldLink own index "SpectrumReallocator$Chooser" "market" "LSpectrumReallocator$Market;" ∈ lw_tbl) (d : decode cc pc = .ok (.getfield index, 3)) (e : pc + 3 = q) (kk : V wX X G ad nL Q k n σ q L (.ref (ad 3) :: st)) : V wX X G ad nL Q k n σ pc L (.ref (ad 1) :: st) :=
  V_get C 1 (by decide) (eX_1 G ad (σ 1)) rfl inX1 goX1 1 (by decide) hq rfl d e kk
theorem GNX_1_1 (C : OK wX X G ad own cc nL rm) {index : Nat} {host : String} (hq : Cond.fieldLinkNest own index "SpectrumReallocator$Chooser" "market" "LSpectrumReallocator$Market;" host ∈ lw_tbl) (d : decode cc pc = .ok (.getfield index, 3)) (e : pc + 3 = q) (kk : V wX X G ad nL Q k n σ q L (.ref (ad 3) :: st)) : V wX X G ad nL Q k n σ pc L (.ref (ad 1) :: st) :=
  V_getN C 1 (by decide) (eX_1 G ad (σ 1)) rfl inX1 goX1 1 (by decide) hq rfl d e kk
theorem GX_1_2 (C : OK wX X G ad own cc nL rm) {index : Nat} (hq : Cond.fieldLink own index "SpectrumReallocator$Chooser" "bestFound" "I" ∈ lw_tbl) (d : decode cc pc = .ok (.getfield index, 3)) (e : pc + 3 = q) (kk : V wX X G ad nL Q k n σ q L (.int (σ 1 2) :: st)) : V wX X G ad nL Q k n σ pc L (.ref (ad 1) :: st) :=
  V_get C 1 (by decide) (eX_1 G ad (σ 1)) rfl inX1 goX1 2 (by decide) hq rfl d e kk
theorem PX_1_2 (C : OK wX X G ad own cc nL rm) {index : Nat} {v : Int32} (hq : Cond.fieldLink own index "SpectrumReallocator$Chooser" "bestFound" "I" ∈ lw_tbl) (d : decode cc pc = .ok (.putfield index, 3)) (e : pc + 3 = q) (kk : V wX X G ad nL Q k n (sup σ 1 2 v) q L st) : V wX X G ad nL Q k n σ pc L (.int v :: .ref (ad 1) :: st) :=
  V_put C 1 2 (by decide) (eX_1 G ad (σ 1)) (hsX (g := upd (σ 1) 2 v) rfl) hoX rfl inX1 goX1 tyX1 tyX1_ok nmX1 (by decide) rfl (ty := .int) rfl rfl rfl (Nat.le_of_ble_eq_true rfl) hq d e kk
theorem GNX_1_2 (C : OK wX X G ad own cc nL rm) {index : Nat} {host : String} (hq : Cond.fieldLinkNest own index "SpectrumReallocator$Chooser" "bestFound" "I" host ∈ lw_tbl) (d : decode cc pc = .ok (.getfield index, 3)) (e : pc + 3 = q) (kk : V wX X G ad nL Q k n σ q L (.int (σ 1 2) :: st)) : V wX X G ad nL Q k n σ pc L (.ref (ad 1) :: st) :=
  V_getN C 1 (by decide) (eX_1 G ad (σ 1)) rfl inX1 goX1 2 (by decide) hq rfl d e kk
theorem PNX_1_2 (C : OK wX X G ad own cc nL rm) {index : Nat} {host : String} {v : Int32} (hq : Cond.fieldLinkNest own index "SpectrumReallocator$Chooser" "bestFound" "I" host ∈ lw_tbl) (d : decode cc pc = .ok (.putfield index, 3)) (e : pc + 3 = q) (kk : V wX X G ad nL Q k n (sup σ 1 2 v) q L st) : V wX X G ad nL Q k n σ pc L (.int v :: .ref (ad 1) :: st) :=
  V_putN C 1 2 (by decide) (eX_1 G ad (σ 1)) (hsX (g := upd (σ 1) 2 v) rfl) hoX rfl inX1 goX1 tyX1 tyX1_ok nmX1 (by decide) rfl (ty := .int) rfl rfl rfl (Nat.le_of_ble_eq_true rfl) hq d e kk
theorem GX_1_3 (C : OK wX X G ad own cc nL rm) {index : Nat} (hq : Cond.fieldLink own index "SpectrumReallocator$Chooser" "bestValue" "I" ∈ lw_tbl) (d : decode cc pc = .ok (.getfield index, 3)) (e : pc + 3 = q) (kk : V wX X G ad nL Q k n σ q L (.int (σ 1 3) :: st)) : V wX X G ad nL Q k n σ pc L (.ref (ad 1) :: st) :=
  V_get C 1 (by decide) (eX_1 G ad (σ 1)) rfl inX1 goX1 3 (by decide) hq rfl d e kk
theorem PX_1_3 (C : OK wX X G ad own cc nL rm) {index : Nat} {v : Int32} (hq : Cond.fieldLink own index "SpectrumReallocator$Chooser" "bestValue" "I" ∈ lw_tbl) (d : decode cc pc = .ok (.putfield index, 3)) (e : pc + 3 = q) (kk : V wX X G ad nL Q k n (sup σ 1 3 v) q L st) : V wX X G ad nL Q k n σ pc L (.int v :: .ref (ad 1) :: st) :=
  V_put C 1 3 (by decide) (eX_1 G ad (σ 1)) (hsX (g := upd (σ 1) 3 v) rfl) hoX rfl inX1 goX1 tyX1 tyX1_ok nmX1 (by decide) rfl (ty := .int) rfl rfl rfl (Nat.le_of_ble_eq_true rfl) hq d e kk
theorem GNX_1_3 (C : OK wX X G ad own cc nL rm) {index : Nat} {host : String} (hq : Cond.fieldLinkNest own index "SpectrumReallocator$Chooser" "bestValue" "I" host ∈ lw_tbl) (d : decode cc pc = .ok (.getfield index, 3)) (e : pc + 3 = q) (kk : V wX X G ad nL Q k n σ q L (.int (σ 1 3) :: st)) : V wX X G ad nL Q k n σ pc L (.ref (ad 1) :: st) :=
  V_getN C 1 (by decide) (eX_1 G ad (σ 1)) rfl inX1 goX1 3 (by decide) hq rfl d e kk
theorem PNX_1_3 (C : OK wX X G ad own cc nL rm) {index : Nat} {host : String} {v : Int32} (hq : Cond.fieldLinkNest own index "SpectrumReallocator$Chooser" "bestValue" "I" host ∈ lw_tbl) (d : decode cc pc = .ok (.putfield index, 3)) (e : pc + 3 = q) (kk : V wX X G ad nL Q k n (sup σ 1 3 v) q L st) : V wX X G ad nL Q k n σ pc L (.int v :: .ref (ad 1) :: st) :=
  V_putN C 1 3 (by decide) (eX_1 G ad (σ 1)) (hsX (g := upd (σ 1) 3 v) rfl) hoX rfl inX1 goX1 tyX1 tyX1_ok nmX1 (by decide) rfl (ty := .int) rfl rfl rfl (Nat.le_of_ble_eq_true rfl) hq d e kk
theorem GX_2_0 (C : OK wX X G ad own cc nL rm) {index : Nat} (hq : Cond.fieldLink own index "SpectrumReallocator$Packer" "market" "LSpectrumReallocator$Market;" ∈ lw_tbl) (d : decode cc pc = .ok (.getfield index, 3)) (e : pc + 3 = q) (kk : V wX X G ad nL Q k n σ q L (.ref (ad 3) :: st)) : V wX X G ad nL Q k n σ pc L (.ref (ad 2) :: st) :=
  V_get C 2 (by decide) (eX_2 G ad (σ 2)) rfl inX4 goX4 0 (by decide) hq rfl d e kk
theorem GNX_2_0 (C : OK wX X G ad own cc nL rm) {index : Nat} {host : String} (hq : Cond.fieldLinkNest own index "SpectrumReallocator$Packer" "market" "LSpectrumReallocator$Market;" host ∈ lw_tbl) (d : decode cc pc = .ok (.getfield index, 3)) (e : pc + 3 = q) (kk : V wX X G ad nL Q k n σ q L (.ref (ad 3) :: st)) : V wX X G ad nL Q k n σ pc L (.ref (ad 2) :: st) :=
  V_getN C 2 (by decide) (eX_2 G ad (σ 2)) rfl inX4 goX4 0 (by decide) hq rfl d e kk
theorem GX_2_1 (C : OK wX X G ad own cc nL rm) {index : Nat} (hq : Cond.fieldLink own index "SpectrumReallocator$Packer" "allowed" "[I" ∈ lw_tbl) (d : decode cc pc = .ok (.getfield index, 3)) (e : pc + 3 = q) (kk : V wX X G ad nL Q k n σ q L (.ref (ad 35) :: st)) : V wX X G ad nL Q k n σ pc L (.ref (ad 2) :: st) :=
  V_get C 2 (by decide) (eX_2 G ad (σ 2)) rfl inX4 goX4 1 (by decide) hq rfl d e kk
theorem GNX_2_1 (C : OK wX X G ad own cc nL rm) {index : Nat} {host : String} (hq : Cond.fieldLinkNest own index "SpectrumReallocator$Packer" "allowed" "[I" host ∈ lw_tbl) (d : decode cc pc = .ok (.getfield index, 3)) (e : pc + 3 = q) (kk : V wX X G ad nL Q k n σ q L (.ref (ad 35) :: st)) : V wX X G ad nL Q k n σ pc L (.ref (ad 2) :: st) :=
  V_getN C 2 (by decide) (eX_2 G ad (σ 2)) rfl inX4 goX4 1 (by decide) hq rfl d e kk
theorem GX_2_2 (C : OK wX X G ad own cc nL rm) {index : Nat} (hq : Cond.fieldLink own index "SpectrumReallocator$Packer" "left" "[[I" ∈ lw_tbl) (d : decode cc pc = .ok (.getfield index, 3)) (e : pc + 3 = q) (kk : V wX X G ad nL Q k n σ q L (.ref (ad 36) :: st)) : V wX X G ad nL Q k n σ pc L (.ref (ad 2) :: st) :=
  V_get C 2 (by decide) (eX_2 G ad (σ 2)) rfl inX4 goX4 2 (by decide) hq rfl d e kk
theorem GNX_2_2 (C : OK wX X G ad own cc nL rm) {index : Nat} {host : String} (hq : Cond.fieldLinkNest own index "SpectrumReallocator$Packer" "left" "[[I" host ∈ lw_tbl) (d : decode cc pc = .ok (.getfield index, 3)) (e : pc + 3 = q) (kk : V wX X G ad nL Q k n σ q L (.ref (ad 36) :: st)) : V wX X G ad nL Q k n σ pc L (.ref (ad 2) :: st) :=
  V_getN C 2 (by decide) (eX_2 G ad (σ 2)) rfl inX4 goX4 2 (by decide) hq rfl d e kk
theorem GX_2_3 (C : OK wX X G ad own cc nL rm) {index : Nat} (hq : Cond.fieldLink own index "SpectrumReallocator$Packer" "users" "[[I" ∈ lw_tbl) (d : decode cc pc = .ok (.getfield index, 3)) (e : pc + 3 = q) (kk : V wX X G ad nL Q k n σ q L (.ref (ad 37) :: st)) : V wX X G ad nL Q k n σ pc L (.ref (ad 2) :: st) :=
  V_get C 2 (by decide) (eX_2 G ad (σ 2)) rfl inX4 goX4 3 (by decide) hq rfl d e kk
theorem GNX_2_3 (C : OK wX X G ad own cc nL rm) {index : Nat} {host : String} (hq : Cond.fieldLinkNest own index "SpectrumReallocator$Packer" "users" "[[I" host ∈ lw_tbl) (d : decode cc pc = .ok (.getfield index, 3)) (e : pc + 3 = q) (kk : V wX X G ad nL Q k n σ q L (.ref (ad 37) :: st)) : V wX X G ad nL Q k n σ pc L (.ref (ad 2) :: st) :=
  V_getN C 2 (by decide) (eX_2 G ad (σ 2)) rfl inX4 goX4 3 (by decide) hq rfl d e kk
theorem GX_2_4 (C : OK wX X G ad own cc nL rm) {index : Nat} (hq : Cond.fieldLink own index "SpectrumReallocator$Packer" "found" "[[I" ∈ lw_tbl) (d : decode cc pc = .ok (.getfield index, 3)) (e : pc + 3 = q) (kk : V wX X G ad nL Q k n σ q L (.ref (ad 38) :: st)) : V wX X G ad nL Q k n σ pc L (.ref (ad 2) :: st) :=
  V_get C 2 (by decide) (eX_2 G ad (σ 2)) rfl inX4 goX4 4 (by decide) hq rfl d e kk
theorem GNX_2_4 (C : OK wX X G ad own cc nL rm) {index : Nat} {host : String} (hq : Cond.fieldLinkNest own index "SpectrumReallocator$Packer" "found" "[[I" host ∈ lw_tbl) (d : decode cc pc = .ok (.getfield index, 3)) (e : pc + 3 = q) (kk : V wX X G ad nL Q k n σ q L (.ref (ad 38) :: st)) : V wX X G ad nL Q k n σ pc L (.ref (ad 2) :: st) :=
  V_getN C 2 (by decide) (eX_2 G ad (σ 2)) rfl inX4 goX4 4 (by decide) hq rfl d e kk
theorem GX_2_5 (C : OK wX X G ad own cc nL rm) {index : Nat} (hq : Cond.fieldLink own index "SpectrumReallocator$Packer" "sharing" "[I" ∈ lw_tbl) (d : decode cc pc = .ok (.getfield index, 3)) (e : pc + 3 = q) (kk : V wX X G ad nL Q k n σ q L (.ref (ad 39) :: st)) : V wX X G ad nL Q k n σ pc L (.ref (ad 2) :: st) :=
  V_get C 2 (by decide) (eX_2 G ad (σ 2)) rfl inX4 goX4 5 (by decide) hq rfl d e kk
theorem GNX_2_5 (C : OK wX X G ad own cc nL rm) {index : Nat} {host : String} (hq : Cond.fieldLinkNest own index "SpectrumReallocator$Packer" "sharing" "[I" host ∈ lw_tbl) (d : decode cc pc = .ok (.getfield index, 3)) (e : pc + 3 = q) (kk : V wX X G ad nL Q k n σ q L (.ref (ad 39) :: st)) : V wX X G ad nL Q k n σ pc L (.ref (ad 2) :: st) :=
  V_getN C 2 (by decide) (eX_2 G ad (σ 2)) rfl inX4 goX4 5 (by decide) hq rfl d e kk
theorem GX_2_6 (C : OK wX X G ad own cc nL rm) {index : Nat} (hq : Cond.fieldLink own index "SpectrumReallocator$Packer" "sharingVersion" "I" ∈ lw_tbl) (d : decode cc pc = .ok (.getfield index, 3)) (e : pc + 3 = q) (kk : V wX X G ad nL Q k n σ q L (.int (σ 2 6) :: st)) : V wX X G ad nL Q k n σ pc L (.ref (ad 2) :: st) :=
  V_get C 2 (by decide) (eX_2 G ad (σ 2)) rfl inX4 goX4 6 (by decide) hq rfl d e kk
theorem PX_2_6 (C : OK wX X G ad own cc nL rm) {index : Nat} {v : Int32} (hq : Cond.fieldLink own index "SpectrumReallocator$Packer" "sharingVersion" "I" ∈ lw_tbl) (d : decode cc pc = .ok (.putfield index, 3)) (e : pc + 3 = q) (kk : V wX X G ad nL Q k n (sup σ 2 6 v) q L st) : V wX X G ad nL Q k n σ pc L (.int v :: .ref (ad 2) :: st) :=
  V_put C 2 6 (by decide) (eX_2 G ad (σ 2)) (hsX (g := upd (σ 2) 6 v) rfl) hoX rfl inX4 goX4 tyX4 tyX4_ok nmX4 (by decide) rfl (ty := .int) rfl rfl rfl (Nat.le_of_ble_eq_true rfl) hq d e kk
theorem GNX_2_6 (C : OK wX X G ad own cc nL rm) {index : Nat} {host : String} (hq : Cond.fieldLinkNest own index "SpectrumReallocator$Packer" "sharingVersion" "I" host ∈ lw_tbl) (d : decode cc pc = .ok (.getfield index, 3)) (e : pc + 3 = q) (kk : V wX X G ad nL Q k n σ q L (.int (σ 2 6) :: st)) : V wX X G ad nL Q k n σ pc L (.ref (ad 2) :: st) :=
  V_getN C 2 (by decide) (eX_2 G ad (σ 2)) rfl inX4 goX4 6 (by decide) hq rfl d e kk
theorem PNX_2_6 (C : OK wX X G ad own cc nL rm) {index : Nat} {host : String} {v : Int32} (hq : Cond.fieldLinkNest own index "SpectrumReallocator$Packer" "sharingVersion" "I" host ∈ lw_tbl) (d : decode cc pc = .ok (.putfield index, 3)) (e : pc + 3 = q) (kk : V wX X G ad nL Q k n (sup σ 2 6 v) q L st) : V wX X G ad nL Q k n σ pc L (.int v :: .ref (ad 2) :: st) :=
  V_putN C 2 6 (by decide) (eX_2 G ad (σ 2)) (hsX (g := upd (σ 2) 6 v) rfl) hoX rfl inX4 goX4 tyX4 tyX4_ok nmX4 (by decide) rfl (ty := .int) rfl rfl rfl (Nat.le_of_ble_eq_true rfl) hq d e kk
theorem GX_2_7 (C : OK wX X G ad own cc nL rm) {index : Nat} (hq : Cond.fieldLink own index "SpectrumReallocator$Packer" "verdicts" "[I" ∈ lw_tbl) (d : decode cc pc = .ok (.getfield index, 3)) (e : pc + 3 = q) (kk : V wX X G ad nL Q k n σ q L (.ref (ad 40) :: st)) : V wX X G ad nL Q k n σ pc L (.ref (ad 2) :: st) :=
  V_get C 2 (by decide) (eX_2 G ad (σ 2)) rfl inX4 goX4 7 (by decide) hq rfl d e kk
theorem GNX_2_7 (C : OK wX X G ad own cc nL rm) {index : Nat} {host : String} (hq : Cond.fieldLinkNest own index "SpectrumReallocator$Packer" "verdicts" "[I" host ∈ lw_tbl) (d : decode cc pc = .ok (.getfield index, 3)) (e : pc + 3 = q) (kk : V wX X G ad nL Q k n σ q L (.ref (ad 40) :: st)) : V wX X G ad nL Q k n σ pc L (.ref (ad 2) :: st) :=
  V_getN C 2 (by decide) (eX_2 G ad (σ 2)) rfl inX4 goX4 7 (by decide) hq rfl d e kk
theorem GX_2_8 (C : OK wX X G ad own cc nL rm) {index : Nat} (hq : Cond.fieldLink own index "SpectrumReallocator$Packer" "version" "I" ∈ lw_tbl) (d : decode cc pc = .ok (.getfield index, 3)) (e : pc + 3 = q) (kk : V wX X G ad nL Q k n σ q L (.int (σ 2 8) :: st)) : V wX X G ad nL Q k n σ pc L (.ref (ad 2) :: st) :=
  V_get C 2 (by decide) (eX_2 G ad (σ 2)) rfl inX4 goX4 8 (by decide) hq rfl d e kk
theorem PX_2_8 (C : OK wX X G ad own cc nL rm) {index : Nat} {v : Int32} (hq : Cond.fieldLink own index "SpectrumReallocator$Packer" "version" "I" ∈ lw_tbl) (d : decode cc pc = .ok (.putfield index, 3)) (e : pc + 3 = q) (kk : V wX X G ad nL Q k n (sup σ 2 8 v) q L st) : V wX X G ad nL Q k n σ pc L (.int v :: .ref (ad 2) :: st) :=
  V_put C 2 8 (by decide) (eX_2 G ad (σ 2)) (hsX (g := upd (σ 2) 8 v) rfl) hoX rfl inX4 goX4 tyX4 tyX4_ok nmX4 (by decide) rfl (ty := .int) rfl rfl rfl (Nat.le_of_ble_eq_true rfl) hq d e kk
theorem GNX_2_8 (C : OK wX X G ad own cc nL rm) {index : Nat} {host : String} (hq : Cond.fieldLinkNest own index "SpectrumReallocator$Packer" "version" "I" host ∈ lw_tbl) (d : decode cc pc = .ok (.getfield index, 3)) (e : pc + 3 = q) (kk : V wX X G ad nL Q k n σ q L (.int (σ 2 8) :: st)) : V wX X G ad nL Q k n σ pc L (.ref (ad 2) :: st) :=
  V_getN C 2 (by decide) (eX_2 G ad (σ 2)) rfl inX4 goX4 8 (by decide) hq rfl d e kk
theorem PNX_2_8 (C : OK wX X G ad own cc nL rm) {index : Nat} {host : String} {v : Int32} (hq : Cond.fieldLinkNest own index "SpectrumReallocator$Packer" "version" "I" host ∈ lw_tbl) (d : decode cc pc = .ok (.putfield index, 3)) (e : pc + 3 = q) (kk : V wX X G ad nL Q k n (sup σ 2 8 v) q L st) : V wX X G ad nL Q k n σ pc L (.int v :: .ref (ad 2) :: st) :=
  V_putN C 2 8 (by decide) (eX_2 G ad (σ 2)) (hsX (g := upd (σ 2) 8 v) rfl) hoX rfl inX4 goX4 tyX4 tyX4_ok nmX4 (by decide) rfl (ty := .int) rfl rfl rfl (Nat.le_of_ble_eq_true rfl) hq d e kk
theorem GX_3_0 (C : OK wX X G ad own cc nL rm) {index : Nat} (hq : Cond.fieldLink own index "SpectrumReallocator$Market" "channels" "[I" ∈ lw_tbl) (d : decode cc pc = .ok (.getfield index, 3)) (e : pc + 3 = q) (kk : V wX X G ad nL Q k n σ q L (.ref (ad 11) :: st)) : V wX X G ad nL Q k n σ pc L (.ref (ad 3) :: st) :=
  V_get C 3 (by decide) (eX_3 G ad (σ 3)) rfl inX3 goX3 0 (by decide) hq rfl d e kk
theorem GNX_3_0 (C : OK wX X G ad own cc nL rm) {index : Nat} {host : String} (hq : Cond.fieldLinkNest own index "SpectrumReallocator$Market" "channels" "[I" host ∈ lw_tbl) (d : decode cc pc = .ok (.getfield index, 3)) (e : pc + 3 = q) (kk : V wX X G ad nL Q k n σ q L (.ref (ad 11) :: st)) : V wX X G ad nL Q k n σ pc L (.ref (ad 3) :: st) :=
  V_getN C 3 (by decide) (eX_3 G ad (σ 3)) rfl inX3 goX3 0 (by decide) hq rfl d e kk
theorem GX_3_1 (C : OK wX X G ad own cc nL rm) {index : Nat} (hq : Cond.fieldLink own index "SpectrumReallocator$Market" "values" "[I" ∈ lw_tbl) (d : decode cc pc = .ok (.getfield index, 3)) (e : pc + 3 = q) (kk : V wX X G ad nL Q k n σ q L (.ref (ad 12) :: st)) : V wX X G ad nL Q k n σ pc L (.ref (ad 3) :: st) :=
  V_get C 3 (by decide) (eX_3 G ad (σ 3)) rfl inX3 goX3 1 (by decide) hq rfl d e kk
theorem GNX_3_1 (C : OK wX X G ad own cc nL rm) {index : Nat} {host : String} (hq : Cond.fieldLinkNest own index "SpectrumReallocator$Market" "values" "[I" host ∈ lw_tbl) (d : decode cc pc = .ok (.getfield index, 3)) (e : pc + 3 = q) (kk : V wX X G ad nL Q k n σ q L (.ref (ad 12) :: st)) : V wX X G ad nL Q k n σ pc L (.ref (ad 3) :: st) :=
  V_getN C 3 (by decide) (eX_3 G ad (σ 3)) rfl inX3 goX3 1 (by decide) hq rfl d e kk
theorem GX_3_2 (C : OK wX X G ad own cc nL rm) {index : Nat} (hq : Cond.fieldLink own index "SpectrumReallocator$Market" "weights" "[I" ∈ lw_tbl) (d : decode cc pc = .ok (.getfield index, 3)) (e : pc + 3 = q) (kk : V wX X G ad nL Q k n σ q L (.ref (ad 13) :: st)) : V wX X G ad nL Q k n σ pc L (.ref (ad 3) :: st) :=
  V_get C 3 (by decide) (eX_3 G ad (σ 3)) rfl inX3 goX3 2 (by decide) hq rfl d e kk
theorem GNX_3_2 (C : OK wX X G ad own cc nL rm) {index : Nat} {host : String} (hq : Cond.fieldLinkNest own index "SpectrumReallocator$Market" "weights" "[I" host ∈ lw_tbl) (d : decode cc pc = .ok (.getfield index, 3)) (e : pc + 3 = q) (kk : V wX X G ad nL Q k n σ q L (.ref (ad 13) :: st)) : V wX X G ad nL Q k n σ pc L (.ref (ad 3) :: st) :=
  V_getN C 3 (by decide) (eX_3 G ad (σ 3)) rfl inX3 goX3 2 (by decide) hq rfl d e kk
theorem GX_3_3 (C : OK wX X G ad own cc nL rm) {index : Nat} (hq : Cond.fieldLink own index "SpectrumReallocator$Market" "kept" "[I" ∈ lw_tbl) (d : decode cc pc = .ok (.getfield index, 3)) (e : pc + 3 = q) (kk : V wX X G ad nL Q k n σ q L (.ref (ad 14) :: st)) : V wX X G ad nL Q k n σ pc L (.ref (ad 3) :: st) :=
  V_get C 3 (by decide) (eX_3 G ad (σ 3)) rfl inX3 goX3 3 (by decide) hq rfl d e kk
theorem GNX_3_3 (C : OK wX X G ad own cc nL rm) {index : Nat} {host : String} (hq : Cond.fieldLinkNest own index "SpectrumReallocator$Market" "kept" "[I" host ∈ lw_tbl) (d : decode cc pc = .ok (.getfield index, 3)) (e : pc + 3 = q) (kk : V wX X G ad nL Q k n σ q L (.ref (ad 14) :: st)) : V wX X G ad nL Q k n σ pc L (.ref (ad 3) :: st) :=
  V_getN C 3 (by decide) (eX_3 G ad (σ 3)) rfl inX3 goX3 3 (by decide) hq rfl d e kk
theorem GX_3_4 (C : OK wX X G ad own cc nL rm) {index : Nat} (hq : Cond.fieldLink own index "SpectrumReallocator$Market" "same" "[I" ∈ lw_tbl) (d : decode cc pc = .ok (.getfield index, 3)) (e : pc + 3 = q) (kk : V wX X G ad nL Q k n σ q L (.ref (ad 15) :: st)) : V wX X G ad nL Q k n σ pc L (.ref (ad 3) :: st) :=
  V_get C 3 (by decide) (eX_3 G ad (σ 3)) rfl inX3 goX3 4 (by decide) hq rfl d e kk
theorem GNX_3_4 (C : OK wX X G ad own cc nL rm) {index : Nat} {host : String} (hq : Cond.fieldLinkNest own index "SpectrumReallocator$Market" "same" "[I" host ∈ lw_tbl) (d : decode cc pc = .ok (.getfield index, 3)) (e : pc + 3 = q) (kk : V wX X G ad nL Q k n σ q L (.ref (ad 15) :: st)) : V wX X G ad nL Q k n σ pc L (.ref (ad 3) :: st) :=
  V_getN C 3 (by decide) (eX_3 G ad (σ 3)) rfl inX3 goX3 4 (by decide) hq rfl d e kk
theorem GX_3_5 (C : OK wX X G ad own cc nL rm) {index : Nat} (hq : Cond.fieldLink own index "SpectrumReallocator$Market" "next" "[I" ∈ lw_tbl) (d : decode cc pc = .ok (.getfield index, 3)) (e : pc + 3 = q) (kk : V wX X G ad nL Q k n σ q L (.ref (ad 16) :: st)) : V wX X G ad nL Q k n σ pc L (.ref (ad 3) :: st) :=
  V_get C 3 (by decide) (eX_3 G ad (σ 3)) rfl inX3 goX3 5 (by decide) hq rfl d e kk
theorem GNX_3_5 (C : OK wX X G ad own cc nL rm) {index : Nat} {host : String} (hq : Cond.fieldLinkNest own index "SpectrumReallocator$Market" "next" "[I" host ∈ lw_tbl) (d : decode cc pc = .ok (.getfield index, 3)) (e : pc + 3 = q) (kk : V wX X G ad nL Q k n σ q L (.ref (ad 16) :: st)) : V wX X G ad nL Q k n σ pc L (.ref (ad 3) :: st) :=
  V_getN C 3 (by decide) (eX_3 G ad (σ 3)) rfl inX3 goX3 5 (by decide) hq rfl d e kk
theorem GX_3_6 (C : OK wX X G ad own cc nL rm) {index : Nat} (hq : Cond.fieldLink own index "SpectrumReallocator$Market" "size" "I" ∈ lw_tbl) (d : decode cc pc = .ok (.getfield index, 3)) (e : pc + 3 = q) (kk : V wX X G ad nL Q k n σ q L (.int (σ 3 6) :: st)) : V wX X G ad nL Q k n σ pc L (.ref (ad 3) :: st) :=
  V_get C 3 (by decide) (eX_3 G ad (σ 3)) rfl inX3 goX3 6 (by decide) hq rfl d e kk
theorem PX_3_6 (C : OK wX X G ad own cc nL rm) {index : Nat} {v : Int32} (hq : Cond.fieldLink own index "SpectrumReallocator$Market" "size" "I" ∈ lw_tbl) (d : decode cc pc = .ok (.putfield index, 3)) (e : pc + 3 = q) (kk : V wX X G ad nL Q k n (sup σ 3 6 v) q L st) : V wX X G ad nL Q k n σ pc L (.int v :: .ref (ad 3) :: st) :=
  V_put C 3 6 (by decide) (eX_3 G ad (σ 3)) (hsX (g := upd (σ 3) 6 v) rfl) hoX rfl inX3 goX3 tyX3 tyX3_ok nmX3 (by decide) rfl (ty := .int) rfl rfl rfl (Nat.le_of_ble_eq_true rfl) hq d e kk
theorem GNX_3_6 (C : OK wX X G ad own cc nL rm) {index : Nat} {host : String} (hq : Cond.fieldLinkNest own index "SpectrumReallocator$Market" "size" "I" host ∈ lw_tbl) (d : decode cc pc = .ok (.getfield index, 3)) (e : pc + 3 = q) (kk : V wX X G ad nL Q k n σ q L (.int (σ 3 6) :: st)) : V wX X G ad nL Q k n σ pc L (.ref (ad 3) :: st) :=
  V_getN C 3 (by decide) (eX_3 G ad (σ 3)) rfl inX3 goX3 6 (by decide) hq rfl d e kk
theorem PNX_3_6 (C : OK wX X G ad own cc nL rm) {index : Nat} {host : String} {v : Int32} (hq : Cond.fieldLinkNest own index "SpectrumReallocator$Market" "size" "I" host ∈ lw_tbl) (d : decode cc pc = .ok (.putfield index, 3)) (e : pc + 3 = q) (kk : V wX X G ad nL Q k n (sup σ 3 6 v) q L st) : V wX X G ad nL Q k n σ pc L (.int v :: .ref (ad 3) :: st) :=
  V_putN C 3 6 (by decide) (eX_3 G ad (σ 3)) (hsX (g := upd (σ 3) 6 v) rfl) hoX rfl inX3 goX3 tyX3 tyX3_ok nmX3 (by decide) rfl (ty := .int) rfl rfl rfl (Nat.le_of_ble_eq_true rfl) hq d e kk
theorem GX_3_7 (C : OK wX X G ad own cc nL rm) {index : Nat} (hq : Cond.fieldLink own index "SpectrumReallocator$Market" "takers" "I" ∈ lw_tbl) (d : decode cc pc = .ok (.getfield index, 3)) (e : pc + 3 = q) (kk : V wX X G ad nL Q k n σ q L (.int (σ 3 7) :: st)) : V wX X G ad nL Q k n σ pc L (.ref (ad 3) :: st) :=
  V_get C 3 (by decide) (eX_3 G ad (σ 3)) rfl inX3 goX3 7 (by decide) hq rfl d e kk
theorem PX_3_7 (C : OK wX X G ad own cc nL rm) {index : Nat} {v : Int32} (hq : Cond.fieldLink own index "SpectrumReallocator$Market" "takers" "I" ∈ lw_tbl) (d : decode cc pc = .ok (.putfield index, 3)) (e : pc + 3 = q) (kk : V wX X G ad nL Q k n (sup σ 3 7 v) q L st) : V wX X G ad nL Q k n σ pc L (.int v :: .ref (ad 3) :: st) :=
  V_put C 3 7 (by decide) (eX_3 G ad (σ 3)) (hsX (g := upd (σ 3) 7 v) rfl) hoX rfl inX3 goX3 tyX3 tyX3_ok nmX3 (by decide) rfl (ty := .int) rfl rfl rfl (Nat.le_of_ble_eq_true rfl) hq d e kk
theorem GNX_3_7 (C : OK wX X G ad own cc nL rm) {index : Nat} {host : String} (hq : Cond.fieldLinkNest own index "SpectrumReallocator$Market" "takers" "I" host ∈ lw_tbl) (d : decode cc pc = .ok (.getfield index, 3)) (e : pc + 3 = q) (kk : V wX X G ad nL Q k n σ q L (.int (σ 3 7) :: st)) : V wX X G ad nL Q k n σ pc L (.ref (ad 3) :: st) :=
  V_getN C 3 (by decide) (eX_3 G ad (σ 3)) rfl inX3 goX3 7 (by decide) hq rfl d e kk
theorem PNX_3_7 (C : OK wX X G ad own cc nL rm) {index : Nat} {host : String} {v : Int32} (hq : Cond.fieldLinkNest own index "SpectrumReallocator$Market" "takers" "I" host ∈ lw_tbl) (d : decode cc pc = .ok (.putfield index, 3)) (e : pc + 3 = q) (kk : V wX X G ad nL Q k n (sup σ 3 7 v) q L st) : V wX X G ad nL Q k n σ pc L (.int v :: .ref (ad 3) :: st) :=
  V_putN C 3 7 (by decide) (eX_3 G ad (σ 3)) (hsX (g := upd (σ 3) 7 v) rfl) hoX rfl inX3 goX3 tyX3 tyX3_ok nmX3 (by decide) rfl (ty := .int) rfl rfl rfl (Nat.le_of_ble_eq_true rfl) hq d e kk
theorem GX_3_8 (C : OK wX X G ad own cc nL rm) {index : Nat} (hq : Cond.fieldLink own index "SpectrumReallocator$Market" "available" "I" ∈ lw_tbl) (d : decode cc pc = .ok (.getfield index, 3)) (e : pc + 3 = q) (kk : V wX X G ad nL Q k n σ q L (.int (σ 3 8) :: st)) : V wX X G ad nL Q k n σ pc L (.ref (ad 3) :: st) :=
  V_get C 3 (by decide) (eX_3 G ad (σ 3)) rfl inX3 goX3 8 (by decide) hq rfl d e kk
theorem PX_3_8 (C : OK wX X G ad own cc nL rm) {index : Nat} {v : Int32} (hq : Cond.fieldLink own index "SpectrumReallocator$Market" "available" "I" ∈ lw_tbl) (d : decode cc pc = .ok (.putfield index, 3)) (e : pc + 3 = q) (kk : V wX X G ad nL Q k n (sup σ 3 8 v) q L st) : V wX X G ad nL Q k n σ pc L (.int v :: .ref (ad 3) :: st) :=
  V_put C 3 8 (by decide) (eX_3 G ad (σ 3)) (hsX (g := upd (σ 3) 8 v) rfl) hoX rfl inX3 goX3 tyX3 tyX3_ok nmX3 (by decide) rfl (ty := .int) rfl rfl rfl (Nat.le_of_ble_eq_true rfl) hq d e kk
theorem GNX_3_8 (C : OK wX X G ad own cc nL rm) {index : Nat} {host : String} (hq : Cond.fieldLinkNest own index "SpectrumReallocator$Market" "available" "I" host ∈ lw_tbl) (d : decode cc pc = .ok (.getfield index, 3)) (e : pc + 3 = q) (kk : V wX X G ad nL Q k n σ q L (.int (σ 3 8) :: st)) : V wX X G ad nL Q k n σ pc L (.ref (ad 3) :: st) :=
  V_getN C 3 (by decide) (eX_3 G ad (σ 3)) rfl inX3 goX3 8 (by decide) hq rfl d e kk
theorem PNX_3_8 (C : OK wX X G ad own cc nL rm) {index : Nat} {host : String} {v : Int32} (hq : Cond.fieldLinkNest own index "SpectrumReallocator$Market" "available" "I" host ∈ lw_tbl) (d : decode cc pc = .ok (.putfield index, 3)) (e : pc + 3 = q) (kk : V wX X G ad nL Q k n (sup σ 3 8 v) q L st) : V wX X G ad nL Q k n σ pc L (.int v :: .ref (ad 3) :: st) :=
  V_putN C 3 8 (by decide) (eX_3 G ad (σ 3)) (hsX (g := upd (σ 3) 8 v) rfl) hoX rfl inX3 goX3 tyX3 tyX3_ok nmX3 (by decide) rfl (ty := .int) rfl rfl rfl (Nat.le_of_ble_eq_true rfl) hq d e kk
theorem GX_4_0 (C : OK wX X G ad own cc nL rm) {index : Nat} (hq : Cond.fieldLink own index "SpectrumReallocator$ConflictReader" "text" "LSpectrumReallocator$Text;" ∈ lw_tbl) (d : decode cc pc = .ok (.getfield index, 3)) (e : pc + 3 = q) (kk : V wX X G ad nL Q k n σ q L (.ref (ad 5) :: st)) : V wX X G ad nL Q k n σ pc L (.ref (ad 4) :: st) :=
  V_get C 4 (by decide) (eX_4 G ad (σ 4)) rfl inX2 goX2 0 (by decide) hq rfl d e kk
theorem GNX_4_0 (C : OK wX X G ad own cc nL rm) {index : Nat} {host : String} (hq : Cond.fieldLinkNest own index "SpectrumReallocator$ConflictReader" "text" "LSpectrumReallocator$Text;" host ∈ lw_tbl) (d : decode cc pc = .ok (.getfield index, 3)) (e : pc + 3 = q) (kk : V wX X G ad nL Q k n σ q L (.ref (ad 5) :: st)) : V wX X G ad nL Q k n σ pc L (.ref (ad 4) :: st) :=
  V_getN C 4 (by decide) (eX_4 G ad (σ 4)) rfl inX2 goX2 0 (by decide) hq rfl d e kk
theorem GX_4_1 (C : OK wX X G ad own cc nL rm) {index : Nat} (hq : Cond.fieldLink own index "SpectrumReallocator$ConflictReader" "same" "[I" ∈ lw_tbl) (d : decode cc pc = .ok (.getfield index, 3)) (e : pc + 3 = q) (kk : V wX X G ad nL Q k n σ q L (.ref (ad 23) :: st)) : V wX X G ad nL Q k n σ pc L (.ref (ad 4) :: st) :=
  V_get C 4 (by decide) (eX_4 G ad (σ 4)) rfl inX2 goX2 1 (by decide) hq rfl d e kk
theorem GNX_4_1 (C : OK wX X G ad own cc nL rm) {index : Nat} {host : String} (hq : Cond.fieldLinkNest own index "SpectrumReallocator$ConflictReader" "same" "[I" host ∈ lw_tbl) (d : decode cc pc = .ok (.getfield index, 3)) (e : pc + 3 = q) (kk : V wX X G ad nL Q k n σ q L (.ref (ad 23) :: st)) : V wX X G ad nL Q k n σ pc L (.ref (ad 4) :: st) :=
  V_getN C 4 (by decide) (eX_4 G ad (σ 4)) rfl inX2 goX2 1 (by decide) hq rfl d e kk
theorem GX_4_2 (C : OK wX X G ad own cc nL rm) {index : Nat} (hq : Cond.fieldLink own index "SpectrumReallocator$ConflictReader" "next" "[I" ∈ lw_tbl) (d : decode cc pc = .ok (.getfield index, 3)) (e : pc + 3 = q) (kk : V wX X G ad nL Q k n σ q L (.ref (ad 24) :: st)) : V wX X G ad nL Q k n σ pc L (.ref (ad 4) :: st) :=
  V_get C 4 (by decide) (eX_4 G ad (σ 4)) rfl inX2 goX2 2 (by decide) hq rfl d e kk
theorem GNX_4_2 (C : OK wX X G ad own cc nL rm) {index : Nat} {host : String} (hq : Cond.fieldLinkNest own index "SpectrumReallocator$ConflictReader" "next" "[I" host ∈ lw_tbl) (d : decode cc pc = .ok (.getfield index, 3)) (e : pc + 3 = q) (kk : V wX X G ad nL Q k n σ q L (.ref (ad 24) :: st)) : V wX X G ad nL Q k n σ pc L (.ref (ad 4) :: st) :=
  V_getN C 4 (by decide) (eX_4 G ad (σ 4)) rfl inX2 goX2 2 (by decide) hq rfl d e kk
theorem GX_4_3 (C : OK wX X G ad own cc nL rm) {index : Nat} (hq : Cond.fieldLink own index "SpectrumReallocator$ConflictReader" "size" "I" ∈ lw_tbl) (d : decode cc pc = .ok (.getfield index, 3)) (e : pc + 3 = q) (kk : V wX X G ad nL Q k n σ q L (.int (σ 4 3) :: st)) : V wX X G ad nL Q k n σ pc L (.ref (ad 4) :: st) :=
  V_get C 4 (by decide) (eX_4 G ad (σ 4)) rfl inX2 goX2 3 (by decide) hq rfl d e kk
theorem PX_4_3 (C : OK wX X G ad own cc nL rm) {index : Nat} {v : Int32} (hq : Cond.fieldLink own index "SpectrumReallocator$ConflictReader" "size" "I" ∈ lw_tbl) (d : decode cc pc = .ok (.putfield index, 3)) (e : pc + 3 = q) (kk : V wX X G ad nL Q k n (sup σ 4 3 v) q L st) : V wX X G ad nL Q k n σ pc L (.int v :: .ref (ad 4) :: st) :=
  V_put C 4 3 (by decide) (eX_4 G ad (σ 4)) (hsX (g := upd (σ 4) 3 v) rfl) hoX rfl inX2 goX2 tyX2 tyX2_ok nmX2 (by decide) rfl (ty := .int) rfl rfl rfl (Nat.le_of_ble_eq_true rfl) hq d e kk
theorem GNX_4_3 (C : OK wX X G ad own cc nL rm) {index : Nat} {host : String} (hq : Cond.fieldLinkNest own index "SpectrumReallocator$ConflictReader" "size" "I" host ∈ lw_tbl) (d : decode cc pc = .ok (.getfield index, 3)) (e : pc + 3 = q) (kk : V wX X G ad nL Q k n σ q L (.int (σ 4 3) :: st)) : V wX X G ad nL Q k n σ pc L (.ref (ad 4) :: st) :=
  V_getN C 4 (by decide) (eX_4 G ad (σ 4)) rfl inX2 goX2 3 (by decide) hq rfl d e kk
theorem PNX_4_3 (C : OK wX X G ad own cc nL rm) {index : Nat} {host : String} {v : Int32} (hq : Cond.fieldLinkNest own index "SpectrumReallocator$ConflictReader" "size" "I" host ∈ lw_tbl) (d : decode cc pc = .ok (.putfield index, 3)) (e : pc + 3 = q) (kk : V wX X G ad nL Q k n (sup σ 4 3 v) q L st) : V wX X G ad nL Q k n σ pc L (.int v :: .ref (ad 4) :: st) :=
  V_putN C 4 3 (by decide) (eX_4 G ad (σ 4)) (hsX (g := upd (σ 4) 3 v) rfl) hoX rfl inX2 goX2 tyX2 tyX2_ok nmX2 (by decide) rfl (ty := .int) rfl rfl rfl (Nat.le_of_ble_eq_true rfl) hq d e kk
theorem GX_4_4 (C : OK wX X G ad own cc nL rm) {index : Nat} (hq : Cond.fieldLink own index "SpectrumReallocator$ConflictReader" "position" "I" ∈ lw_tbl) (d : decode cc pc = .ok (.getfield index, 3)) (e : pc + 3 = q) (kk : V wX X G ad nL Q k n σ q L (.int (σ 4 4) :: st)) : V wX X G ad nL Q k n σ pc L (.ref (ad 4) :: st) :=
  V_get C 4 (by decide) (eX_4 G ad (σ 4)) rfl inX2 goX2 4 (by decide) hq rfl d e kk
theorem PX_4_4 (C : OK wX X G ad own cc nL rm) {index : Nat} {v : Int32} (hq : Cond.fieldLink own index "SpectrumReallocator$ConflictReader" "position" "I" ∈ lw_tbl) (d : decode cc pc = .ok (.putfield index, 3)) (e : pc + 3 = q) (kk : V wX X G ad nL Q k n (sup σ 4 4 v) q L st) : V wX X G ad nL Q k n σ pc L (.int v :: .ref (ad 4) :: st) :=
  V_put C 4 4 (by decide) (eX_4 G ad (σ 4)) (hsX (g := upd (σ 4) 4 v) rfl) hoX rfl inX2 goX2 tyX2 tyX2_ok nmX2 (by decide) rfl (ty := .int) rfl rfl rfl (Nat.le_of_ble_eq_true rfl) hq d e kk
theorem GNX_4_4 (C : OK wX X G ad own cc nL rm) {index : Nat} {host : String} (hq : Cond.fieldLinkNest own index "SpectrumReallocator$ConflictReader" "position" "I" host ∈ lw_tbl) (d : decode cc pc = .ok (.getfield index, 3)) (e : pc + 3 = q) (kk : V wX X G ad nL Q k n σ q L (.int (σ 4 4) :: st)) : V wX X G ad nL Q k n σ pc L (.ref (ad 4) :: st) :=
  V_getN C 4 (by decide) (eX_4 G ad (σ 4)) rfl inX2 goX2 4 (by decide) hq rfl d e kk
theorem PNX_4_4 (C : OK wX X G ad own cc nL rm) {index : Nat} {host : String} {v : Int32} (hq : Cond.fieldLinkNest own index "SpectrumReallocator$ConflictReader" "position" "I" host ∈ lw_tbl) (d : decode cc pc = .ok (.putfield index, 3)) (e : pc + 3 = q) (kk : V wX X G ad nL Q k n (sup σ 4 4 v) q L st) : V wX X G ad nL Q k n σ pc L (.int v :: .ref (ad 4) :: st) :=
  V_putN C 4 4 (by decide) (eX_4 G ad (σ 4)) (hsX (g := upd (σ 4) 4 v) rfl) hoX rfl inX2 goX2 tyX2 tyX2_ok nmX2 (by decide) rfl (ty := .int) rfl rfl rfl (Nat.le_of_ble_eq_true rfl) hq d e kk
theorem GX_4_5 (C : OK wX X G ad own cc nL rm) {index : Nat} (hq : Cond.fieldLink own index "SpectrumReallocator$ConflictReader" "pairs" "I" ∈ lw_tbl) (d : decode cc pc = .ok (.getfield index, 3)) (e : pc + 3 = q) (kk : V wX X G ad nL Q k n σ q L (.int (σ 4 5) :: st)) : V wX X G ad nL Q k n σ pc L (.ref (ad 4) :: st) :=
  V_get C 4 (by decide) (eX_4 G ad (σ 4)) rfl inX2 goX2 5 (by decide) hq rfl d e kk
theorem PX_4_5 (C : OK wX X G ad own cc nL rm) {index : Nat} {v : Int32} (hq : Cond.fieldLink own index "SpectrumReallocator$ConflictReader" "pairs" "I" ∈ lw_tbl) (d : decode cc pc = .ok (.putfield index, 3)) (e : pc + 3 = q) (kk : V wX X G ad nL Q k n (sup σ 4 5 v) q L st) : V wX X G ad nL Q k n σ pc L (.int v :: .ref (ad 4) :: st) :=
  V_put C 4 5 (by decide) (eX_4 G ad (σ 4)) (hsX (g := upd (σ 4) 5 v) rfl) hoX rfl inX2 goX2 tyX2 tyX2_ok nmX2 (by decide) rfl (ty := .int) rfl rfl rfl (Nat.le_of_ble_eq_true rfl) hq d e kk
theorem GNX_4_5 (C : OK wX X G ad own cc nL rm) {index : Nat} {host : String} (hq : Cond.fieldLinkNest own index "SpectrumReallocator$ConflictReader" "pairs" "I" host ∈ lw_tbl) (d : decode cc pc = .ok (.getfield index, 3)) (e : pc + 3 = q) (kk : V wX X G ad nL Q k n σ q L (.int (σ 4 5) :: st)) : V wX X G ad nL Q k n σ pc L (.ref (ad 4) :: st) :=
  V_getN C 4 (by decide) (eX_4 G ad (σ 4)) rfl inX2 goX2 5 (by decide) hq rfl d e kk
theorem PNX_4_5 (C : OK wX X G ad own cc nL rm) {index : Nat} {host : String} {v : Int32} (hq : Cond.fieldLinkNest own index "SpectrumReallocator$ConflictReader" "pairs" "I" host ∈ lw_tbl) (d : decode cc pc = .ok (.putfield index, 3)) (e : pc + 3 = q) (kk : V wX X G ad nL Q k n (sup σ 4 5 v) q L st) : V wX X G ad nL Q k n σ pc L (.int v :: .ref (ad 4) :: st) :=
  V_putN C 4 5 (by decide) (eX_4 G ad (σ 4)) (hsX (g := upd (σ 4) 5 v) rfl) hoX rfl inX2 goX2 tyX2 tyX2_ok nmX2 (by decide) rfl (ty := .int) rfl rfl rfl (Nat.le_of_ble_eq_true rfl) hq d e kk
theorem GX_4_6 (C : OK wX X G ad own cc nL rm) {index : Nat} (hq : Cond.fieldLink own index "SpectrumReallocator$ConflictReader" "error" "I" ∈ lw_tbl) (d : decode cc pc = .ok (.getfield index, 3)) (e : pc + 3 = q) (kk : V wX X G ad nL Q k n σ q L (.int (σ 4 6) :: st)) : V wX X G ad nL Q k n σ pc L (.ref (ad 4) :: st) :=
  V_get C 4 (by decide) (eX_4 G ad (σ 4)) rfl inX2 goX2 6 (by decide) hq rfl d e kk
theorem PX_4_6 (C : OK wX X G ad own cc nL rm) {index : Nat} {v : Int32} (hq : Cond.fieldLink own index "SpectrumReallocator$ConflictReader" "error" "I" ∈ lw_tbl) (d : decode cc pc = .ok (.putfield index, 3)) (e : pc + 3 = q) (kk : V wX X G ad nL Q k n (sup σ 4 6 v) q L st) : V wX X G ad nL Q k n σ pc L (.int v :: .ref (ad 4) :: st) :=
  V_put C 4 6 (by decide) (eX_4 G ad (σ 4)) (hsX (g := upd (σ 4) 6 v) rfl) hoX rfl inX2 goX2 tyX2 tyX2_ok nmX2 (by decide) rfl (ty := .int) rfl rfl rfl (Nat.le_of_ble_eq_true rfl) hq d e kk
theorem GNX_4_6 (C : OK wX X G ad own cc nL rm) {index : Nat} {host : String} (hq : Cond.fieldLinkNest own index "SpectrumReallocator$ConflictReader" "error" "I" host ∈ lw_tbl) (d : decode cc pc = .ok (.getfield index, 3)) (e : pc + 3 = q) (kk : V wX X G ad nL Q k n σ q L (.int (σ 4 6) :: st)) : V wX X G ad nL Q k n σ pc L (.ref (ad 4) :: st) :=
  V_getN C 4 (by decide) (eX_4 G ad (σ 4)) rfl inX2 goX2 6 (by decide) hq rfl d e kk
theorem PNX_4_6 (C : OK wX X G ad own cc nL rm) {index : Nat} {host : String} {v : Int32} (hq : Cond.fieldLinkNest own index "SpectrumReallocator$ConflictReader" "error" "I" host ∈ lw_tbl) (d : decode cc pc = .ok (.putfield index, 3)) (e : pc + 3 = q) (kk : V wX X G ad nL Q k n (sup σ 4 6 v) q L st) : V wX X G ad nL Q k n σ pc L (.int v :: .ref (ad 4) :: st) :=
  V_putN C 4 6 (by decide) (eX_4 G ad (σ 4)) (hsX (g := upd (σ 4) 6 v) rfl) hoX rfl inX2 goX2 tyX2 tyX2_ok nmX2 (by decide) rfl (ty := .int) rfl rfl rfl (Nat.le_of_ble_eq_true rfl) hq d e kk
theorem GX_5_0 (C : OK wX X G ad own cc nL rm) {index : Nat} (hq : Cond.fieldLink own index "SpectrumReallocator$Text" "characters" "[C" ∈ lw_tbl) (d : decode cc pc = .ok (.getfield index, 3)) (e : pc + 3 = q) (kk : V wX X G ad nL Q k n σ q L (.ref (ad 25) :: st)) : V wX X G ad nL Q k n σ pc L (.ref (ad 5) :: st) :=
  V_get C 5 (by decide) (eX_5 G ad (σ 5)) rfl inX5 goX5 0 (by decide) hq rfl d e kk
theorem GNX_5_0 (C : OK wX X G ad own cc nL rm) {index : Nat} {host : String} (hq : Cond.fieldLinkNest own index "SpectrumReallocator$Text" "characters" "[C" host ∈ lw_tbl) (d : decode cc pc = .ok (.getfield index, 3)) (e : pc + 3 = q) (kk : V wX X G ad nL Q k n σ q L (.ref (ad 25) :: st)) : V wX X G ad nL Q k n σ pc L (.ref (ad 5) :: st) :=
  V_getN C 5 (by decide) (eX_5 G ad (σ 5)) rfl inX5 goX5 0 (by decide) hq rfl d e kk
theorem GX_5_1 (C : OK wX X G ad own cc nL rm) {index : Nat} (hq : Cond.fieldLink own index "SpectrumReallocator$Text" "length" "I" ∈ lw_tbl) (d : decode cc pc = .ok (.getfield index, 3)) (e : pc + 3 = q) (kk : V wX X G ad nL Q k n σ q L (.int (σ 5 1) :: st)) : V wX X G ad nL Q k n σ pc L (.ref (ad 5) :: st) :=
  V_get C 5 (by decide) (eX_5 G ad (σ 5)) rfl inX5 goX5 1 (by decide) hq rfl d e kk
theorem PX_5_1 (C : OK wX X G ad own cc nL rm) {index : Nat} {v : Int32} (hq : Cond.fieldLink own index "SpectrumReallocator$Text" "length" "I" ∈ lw_tbl) (d : decode cc pc = .ok (.putfield index, 3)) (e : pc + 3 = q) (kk : V wX X G ad nL Q k n (sup σ 5 1 v) q L st) : V wX X G ad nL Q k n σ pc L (.int v :: .ref (ad 5) :: st) :=
  V_put C 5 1 (by decide) (eX_5 G ad (σ 5)) (hsX (g := upd (σ 5) 1 v) rfl) hoX rfl inX5 goX5 tyX5 tyX5_ok nmX5 (by decide) rfl (ty := .int) rfl rfl rfl (Nat.le_of_ble_eq_true rfl) hq d e kk
theorem GNX_5_1 (C : OK wX X G ad own cc nL rm) {index : Nat} {host : String} (hq : Cond.fieldLinkNest own index "SpectrumReallocator$Text" "length" "I" host ∈ lw_tbl) (d : decode cc pc = .ok (.getfield index, 3)) (e : pc + 3 = q) (kk : V wX X G ad nL Q k n σ q L (.int (σ 5 1) :: st)) : V wX X G ad nL Q k n σ pc L (.ref (ad 5) :: st) :=
  V_getN C 5 (by decide) (eX_5 G ad (σ 5)) rfl inX5 goX5 1 (by decide) hq rfl d e kk
theorem PNX_5_1 (C : OK wX X G ad own cc nL rm) {index : Nat} {host : String} {v : Int32} (hq : Cond.fieldLinkNest own index "SpectrumReallocator$Text" "length" "I" host ∈ lw_tbl) (d : decode cc pc = .ok (.putfield index, 3)) (e : pc + 3 = q) (kk : V wX X G ad nL Q k n (sup σ 5 1 v) q L st) : V wX X G ad nL Q k n σ pc L (.int v :: .ref (ad 5) :: st) :=
  V_putN C 5 1 (by decide) (eX_5 G ad (σ 5)) (hsX (g := upd (σ 5) 1 v) rfl) hoX rfl inX5 goX5 tyX5 tyX5_ok nmX5 (by decide) rfl (ty := .int) rfl rfl rfl (Nat.le_of_ble_eq_true rfl) hq d e kk
theorem GX_6_0 (C : OK wX X G ad own cc nL rm) {index : Nat} (hq : Cond.fieldLink own index "SpectrumReallocator$Text" "characters" "[C" ∈ lw_tbl) (d : decode cc pc = .ok (.getfield index, 3)) (e : pc + 3 = q) (kk : V wX X G ad nL Q k n σ q L (.ref (ad 26) :: st)) : V wX X G ad nL Q k n σ pc L (.ref (ad 6) :: st) :=
  V_get C 6 (by decide) (eX_6 G ad (σ 6)) rfl inX5 goX5 0 (by decide) hq rfl d e kk
theorem GNX_6_0 (C : OK wX X G ad own cc nL rm) {index : Nat} {host : String} (hq : Cond.fieldLinkNest own index "SpectrumReallocator$Text" "characters" "[C" host ∈ lw_tbl) (d : decode cc pc = .ok (.getfield index, 3)) (e : pc + 3 = q) (kk : V wX X G ad nL Q k n σ q L (.ref (ad 26) :: st)) : V wX X G ad nL Q k n σ pc L (.ref (ad 6) :: st) :=
  V_getN C 6 (by decide) (eX_6 G ad (σ 6)) rfl inX5 goX5 0 (by decide) hq rfl d e kk
theorem GX_6_1 (C : OK wX X G ad own cc nL rm) {index : Nat} (hq : Cond.fieldLink own index "SpectrumReallocator$Text" "length" "I" ∈ lw_tbl) (d : decode cc pc = .ok (.getfield index, 3)) (e : pc + 3 = q) (kk : V wX X G ad nL Q k n σ q L (.int (σ 6 1) :: st)) : V wX X G ad nL Q k n σ pc L (.ref (ad 6) :: st) :=
  V_get C 6 (by decide) (eX_6 G ad (σ 6)) rfl inX5 goX5 1 (by decide) hq rfl d e kk
theorem PX_6_1 (C : OK wX X G ad own cc nL rm) {index : Nat} {v : Int32} (hq : Cond.fieldLink own index "SpectrumReallocator$Text" "length" "I" ∈ lw_tbl) (d : decode cc pc = .ok (.putfield index, 3)) (e : pc + 3 = q) (kk : V wX X G ad nL Q k n (sup σ 6 1 v) q L st) : V wX X G ad nL Q k n σ pc L (.int v :: .ref (ad 6) :: st) :=
  V_put C 6 1 (by decide) (eX_6 G ad (σ 6)) (hsX (g := upd (σ 6) 1 v) rfl) hoX rfl inX5 goX5 tyX5 tyX5_ok nmX5 (by decide) rfl (ty := .int) rfl rfl rfl (Nat.le_of_ble_eq_true rfl) hq d e kk
theorem GNX_6_1 (C : OK wX X G ad own cc nL rm) {index : Nat} {host : String} (hq : Cond.fieldLinkNest own index "SpectrumReallocator$Text" "length" "I" host ∈ lw_tbl) (d : decode cc pc = .ok (.getfield index, 3)) (e : pc + 3 = q) (kk : V wX X G ad nL Q k n σ q L (.int (σ 6 1) :: st)) : V wX X G ad nL Q k n σ pc L (.ref (ad 6) :: st) :=
  V_getN C 6 (by decide) (eX_6 G ad (σ 6)) rfl inX5 goX5 1 (by decide) hq rfl d e kk
theorem PNX_6_1 (C : OK wX X G ad own cc nL rm) {index : Nat} {host : String} {v : Int32} (hq : Cond.fieldLinkNest own index "SpectrumReallocator$Text" "length" "I" host ∈ lw_tbl) (d : decode cc pc = .ok (.putfield index, 3)) (e : pc + 3 = q) (kk : V wX X G ad nL Q k n (sup σ 6 1 v) q L st) : V wX X G ad nL Q k n σ pc L (.int v :: .ref (ad 6) :: st) :=
  V_putN C 6 1 (by decide) (eX_6 G ad (σ 6)) (hsX (g := upd (σ 6) 1 v) rfl) hoX rfl inX5 goX5 tyX5 tyX5_ok nmX5 (by decide) rfl (ty := .int) rfl rfl rfl (Nat.le_of_ble_eq_true rfl) hq d e kk
theorem GX_7_0 (C : OK wX X G ad own cc nL rm) {index : Nat} (hq : Cond.fieldLink own index "SpectrumReallocator$Auction" "bases" "[I" ∈ lw_tbl) (d : decode cc pc = .ok (.getfield index, 3)) (e : pc + 3 = q) (kk : V wX X G ad nL Q k n σ q L (.ref (ad 27) :: st)) : V wX X G ad nL Q k n σ pc L (.ref (ad 7) :: st) :=
  V_get C 7 (by decide) (eX_7 G ad (σ 7)) rfl inX0 goX0 0 (by decide) hq rfl d e kk
theorem GNX_7_0 (C : OK wX X G ad own cc nL rm) {index : Nat} {host : String} (hq : Cond.fieldLinkNest own index "SpectrumReallocator$Auction" "bases" "[I" host ∈ lw_tbl) (d : decode cc pc = .ok (.getfield index, 3)) (e : pc + 3 = q) (kk : V wX X G ad nL Q k n σ q L (.ref (ad 27) :: st)) : V wX X G ad nL Q k n σ pc L (.ref (ad 7) :: st) :=
  V_getN C 7 (by decide) (eX_7 G ad (σ 7)) rfl inX0 goX0 0 (by decide) hq rfl d e kk
theorem GX_7_1 (C : OK wX X G ad own cc nL rm) {index : Nat} (hq : Cond.fieldLink own index "SpectrumReallocator$Auction" "prices" "[I" ∈ lw_tbl) (d : decode cc pc = .ok (.getfield index, 3)) (e : pc + 3 = q) (kk : V wX X G ad nL Q k n σ q L (.ref (ad 28) :: st)) : V wX X G ad nL Q k n σ pc L (.ref (ad 7) :: st) :=
  V_get C 7 (by decide) (eX_7 G ad (σ 7)) rfl inX0 goX0 1 (by decide) hq rfl d e kk
theorem GNX_7_1 (C : OK wX X G ad own cc nL rm) {index : Nat} {host : String} (hq : Cond.fieldLinkNest own index "SpectrumReallocator$Auction" "prices" "[I" host ∈ lw_tbl) (d : decode cc pc = .ok (.getfield index, 3)) (e : pc + 3 = q) (kk : V wX X G ad nL Q k n σ q L (.ref (ad 28) :: st)) : V wX X G ad nL Q k n σ pc L (.ref (ad 7) :: st) :=
  V_getN C 7 (by decide) (eX_7 G ad (σ 7)) rfl inX0 goX0 1 (by decide) hq rfl d e kk
theorem GX_7_2 (C : OK wX X G ad own cc nL rm) {index : Nat} (hq : Cond.fieldLink own index "SpectrumReallocator$Auction" "blockers" "[I" ∈ lw_tbl) (d : decode cc pc = .ok (.getfield index, 3)) (e : pc + 3 = q) (kk : V wX X G ad nL Q k n σ q L (.ref (ad 29) :: st)) : V wX X G ad nL Q k n σ pc L (.ref (ad 7) :: st) :=
  V_get C 7 (by decide) (eX_7 G ad (σ 7)) rfl inX0 goX0 2 (by decide) hq rfl d e kk
theorem GNX_7_2 (C : OK wX X G ad own cc nL rm) {index : Nat} {host : String} (hq : Cond.fieldLinkNest own index "SpectrumReallocator$Auction" "blockers" "[I" host ∈ lw_tbl) (d : decode cc pc = .ok (.getfield index, 3)) (e : pc + 3 = q) (kk : V wX X G ad nL Q k n σ q L (.ref (ad 29) :: st)) : V wX X G ad nL Q k n σ pc L (.ref (ad 7) :: st) :=
  V_getN C 7 (by decide) (eX_7 G ad (σ 7)) rfl inX0 goX0 2 (by decide) hq rfl d e kk
theorem GX_7_3 (C : OK wX X G ad own cc nL rm) {index : Nat} (hq : Cond.fieldLink own index "SpectrumReallocator$Auction" "events" "[I" ∈ lw_tbl) (d : decode cc pc = .ok (.getfield index, 3)) (e : pc + 3 = q) (kk : V wX X G ad nL Q k n σ q L (.ref (ad 30) :: st)) : V wX X G ad nL Q k n σ pc L (.ref (ad 7) :: st) :=
  V_get C 7 (by decide) (eX_7 G ad (σ 7)) rfl inX0 goX0 3 (by decide) hq rfl d e kk
theorem GNX_7_3 (C : OK wX X G ad own cc nL rm) {index : Nat} {host : String} (hq : Cond.fieldLinkNest own index "SpectrumReallocator$Auction" "events" "[I" host ∈ lw_tbl) (d : decode cc pc = .ok (.getfield index, 3)) (e : pc + 3 = q) (kk : V wX X G ad nL Q k n σ q L (.ref (ad 30) :: st)) : V wX X G ad nL Q k n σ pc L (.ref (ad 7) :: st) :=
  V_getN C 7 (by decide) (eX_7 G ad (σ 7)) rfl inX0 goX0 3 (by decide) hq rfl d e kk
theorem GX_7_4 (C : OK wX X G ad own cc nL rm) {index : Nat} (hq : Cond.fieldLink own index "SpectrumReallocator$Auction" "known" "Z" ∈ lw_tbl) (d : decode cc pc = .ok (.getfield index, 3)) (e : pc + 3 = q) (kk : V wX X G ad nL Q k n σ q L (.int (σ 7 4) :: st)) : V wX X G ad nL Q k n σ pc L (.ref (ad 7) :: st) :=
  V_get C 7 (by decide) (eX_7 G ad (σ 7)) rfl inX0 goX0 4 (by decide) hq rfl d e kk
theorem PX_7_4 (C : OK wX X G ad own cc nL rm) {index : Nat} {v : Int32} (hv : v = 0 ∨ v = 1) (hq : Cond.fieldLink own index "SpectrumReallocator$Auction" "known" "Z" ∈ lw_tbl) (d : decode cc pc = .ok (.putfield index, 3)) (e : pc + 3 = q) (kk : V wX X G ad nL Q k n (sup σ 7 4 v) q L st) : V wX X G ad nL Q k n σ pc L (.int v :: .ref (ad 7) :: st) :=
  V_put C 7 4 (by decide) (eX_7 G ad (σ 7)) (hsX (g := upd (σ 7) 4 v) rfl) hoX rfl inX0 goX0 tyX0 tyX0_ok nmX0 (by decide) rfl (ty := .boolean) rfl (by rcases hv with h | h <;> subst h <;> decide) (by rcases hv with h | h <;> subst h <;> decide) (Nat.le_of_ble_eq_true rfl) hq d e kk
theorem GNX_7_4 (C : OK wX X G ad own cc nL rm) {index : Nat} {host : String} (hq : Cond.fieldLinkNest own index "SpectrumReallocator$Auction" "known" "Z" host ∈ lw_tbl) (d : decode cc pc = .ok (.getfield index, 3)) (e : pc + 3 = q) (kk : V wX X G ad nL Q k n σ q L (.int (σ 7 4) :: st)) : V wX X G ad nL Q k n σ pc L (.ref (ad 7) :: st) :=
  V_getN C 7 (by decide) (eX_7 G ad (σ 7)) rfl inX0 goX0 4 (by decide) hq rfl d e kk
theorem PNX_7_4 (C : OK wX X G ad own cc nL rm) {index : Nat} {host : String} {v : Int32} (hv : v = 0 ∨ v = 1) (hq : Cond.fieldLinkNest own index "SpectrumReallocator$Auction" "known" "Z" host ∈ lw_tbl) (d : decode cc pc = .ok (.putfield index, 3)) (e : pc + 3 = q) (kk : V wX X G ad nL Q k n (sup σ 7 4 v) q L st) : V wX X G ad nL Q k n σ pc L (.int v :: .ref (ad 7) :: st) :=
  V_putN C 7 4 (by decide) (eX_7 G ad (σ 7)) (hsX (g := upd (σ 7) 4 v) rfl) hoX rfl inX0 goX0 tyX0 tyX0_ok nmX0 (by decide) rfl (ty := .boolean) rfl (by rcases hv with h | h <;> subst h <;> decide) (by rcases hv with h | h <;> subst h <;> decide) (Nat.le_of_ble_eq_true rfl) hq d e kk
theorem GX_7_5 (C : OK wX X G ad own cc nL rm) {index : Nat} (hq : Cond.fieldLink own index "SpectrumReallocator$Auction" "now" "I" ∈ lw_tbl) (d : decode cc pc = .ok (.getfield index, 3)) (e : pc + 3 = q) (kk : V wX X G ad nL Q k n σ q L (.int (σ 7 5) :: st)) : V wX X G ad nL Q k n σ pc L (.ref (ad 7) :: st) :=
  V_get C 7 (by decide) (eX_7 G ad (σ 7)) rfl inX0 goX0 5 (by decide) hq rfl d e kk
theorem PX_7_5 (C : OK wX X G ad own cc nL rm) {index : Nat} {v : Int32} (hq : Cond.fieldLink own index "SpectrumReallocator$Auction" "now" "I" ∈ lw_tbl) (d : decode cc pc = .ok (.putfield index, 3)) (e : pc + 3 = q) (kk : V wX X G ad nL Q k n (sup σ 7 5 v) q L st) : V wX X G ad nL Q k n σ pc L (.int v :: .ref (ad 7) :: st) :=
  V_put C 7 5 (by decide) (eX_7 G ad (σ 7)) (hsX (g := upd (σ 7) 5 v) rfl) hoX rfl inX0 goX0 tyX0 tyX0_ok nmX0 (by decide) rfl (ty := .int) rfl rfl rfl (Nat.le_of_ble_eq_true rfl) hq d e kk
theorem GNX_7_5 (C : OK wX X G ad own cc nL rm) {index : Nat} {host : String} (hq : Cond.fieldLinkNest own index "SpectrumReallocator$Auction" "now" "I" host ∈ lw_tbl) (d : decode cc pc = .ok (.getfield index, 3)) (e : pc + 3 = q) (kk : V wX X G ad nL Q k n σ q L (.int (σ 7 5) :: st)) : V wX X G ad nL Q k n σ pc L (.ref (ad 7) :: st) :=
  V_getN C 7 (by decide) (eX_7 G ad (σ 7)) rfl inX0 goX0 5 (by decide) hq rfl d e kk
theorem PNX_7_5 (C : OK wX X G ad own cc nL rm) {index : Nat} {host : String} {v : Int32} (hq : Cond.fieldLinkNest own index "SpectrumReallocator$Auction" "now" "I" host ∈ lw_tbl) (d : decode cc pc = .ok (.putfield index, 3)) (e : pc + 3 = q) (kk : V wX X G ad nL Q k n (sup σ 7 5 v) q L st) : V wX X G ad nL Q k n σ pc L (.int v :: .ref (ad 7) :: st) :=
  V_putN C 7 5 (by decide) (eX_7 G ad (σ 7)) (hsX (g := upd (σ 7) 5 v) rfl) hoX rfl inX0 goX0 tyX0 tyX0_ok nmX0 (by decide) rfl (ty := .int) rfl rfl rfl (Nat.le_of_ble_eq_true rfl) hq d e kk
theorem GX_7_6 (C : OK wX X G ad own cc nL rm) {index : Nat} (hq : Cond.fieldLink own index "SpectrumReallocator$Auction" "onAir" "I" ∈ lw_tbl) (d : decode cc pc = .ok (.getfield index, 3)) (e : pc + 3 = q) (kk : V wX X G ad nL Q k n σ q L (.int (σ 7 6) :: st)) : V wX X G ad nL Q k n σ pc L (.ref (ad 7) :: st) :=
  V_get C 7 (by decide) (eX_7 G ad (σ 7)) rfl inX0 goX0 6 (by decide) hq rfl d e kk
theorem PX_7_6 (C : OK wX X G ad own cc nL rm) {index : Nat} {v : Int32} (hq : Cond.fieldLink own index "SpectrumReallocator$Auction" "onAir" "I" ∈ lw_tbl) (d : decode cc pc = .ok (.putfield index, 3)) (e : pc + 3 = q) (kk : V wX X G ad nL Q k n (sup σ 7 6 v) q L st) : V wX X G ad nL Q k n σ pc L (.int v :: .ref (ad 7) :: st) :=
  V_put C 7 6 (by decide) (eX_7 G ad (σ 7)) (hsX (g := upd (σ 7) 6 v) rfl) hoX rfl inX0 goX0 tyX0 tyX0_ok nmX0 (by decide) rfl (ty := .int) rfl rfl rfl (Nat.le_of_ble_eq_true rfl) hq d e kk
theorem GNX_7_6 (C : OK wX X G ad own cc nL rm) {index : Nat} {host : String} (hq : Cond.fieldLinkNest own index "SpectrumReallocator$Auction" "onAir" "I" host ∈ lw_tbl) (d : decode cc pc = .ok (.getfield index, 3)) (e : pc + 3 = q) (kk : V wX X G ad nL Q k n σ q L (.int (σ 7 6) :: st)) : V wX X G ad nL Q k n σ pc L (.ref (ad 7) :: st) :=
  V_getN C 7 (by decide) (eX_7 G ad (σ 7)) rfl inX0 goX0 6 (by decide) hq rfl d e kk
theorem PNX_7_6 (C : OK wX X G ad own cc nL rm) {index : Nat} {host : String} {v : Int32} (hq : Cond.fieldLinkNest own index "SpectrumReallocator$Auction" "onAir" "I" host ∈ lw_tbl) (d : decode cc pc = .ok (.putfield index, 3)) (e : pc + 3 = q) (kk : V wX X G ad nL Q k n (sup σ 7 6 v) q L st) : V wX X G ad nL Q k n σ pc L (.int v :: .ref (ad 7) :: st) :=
  V_putN C 7 6 (by decide) (eX_7 G ad (σ 7)) (hsX (g := upd (σ 7) 6 v) rfl) hoX rfl inX0 goX0 tyX0 tyX0_ok nmX0 (by decide) rfl (ty := .int) rfl rfl rfl (Nat.le_of_ble_eq_true rfl) hq d e kk
theorem GX_7_7 (C : OK wX X G ad own cc nL rm) {index : Nat} (hq : Cond.fieldLink own index "SpectrumReallocator$Auction" "bidding" "I" ∈ lw_tbl) (d : decode cc pc = .ok (.getfield index, 3)) (e : pc + 3 = q) (kk : V wX X G ad nL Q k n σ q L (.int (σ 7 7) :: st)) : V wX X G ad nL Q k n σ pc L (.ref (ad 7) :: st) :=
  V_get C 7 (by decide) (eX_7 G ad (σ 7)) rfl inX0 goX0 7 (by decide) hq rfl d e kk
theorem PX_7_7 (C : OK wX X G ad own cc nL rm) {index : Nat} {v : Int32} (hq : Cond.fieldLink own index "SpectrumReallocator$Auction" "bidding" "I" ∈ lw_tbl) (d : decode cc pc = .ok (.putfield index, 3)) (e : pc + 3 = q) (kk : V wX X G ad nL Q k n (sup σ 7 7 v) q L st) : V wX X G ad nL Q k n σ pc L (.int v :: .ref (ad 7) :: st) :=
  V_put C 7 7 (by decide) (eX_7 G ad (σ 7)) (hsX (g := upd (σ 7) 7 v) rfl) hoX rfl inX0 goX0 tyX0 tyX0_ok nmX0 (by decide) rfl (ty := .int) rfl rfl rfl (Nat.le_of_ble_eq_true rfl) hq d e kk
theorem GNX_7_7 (C : OK wX X G ad own cc nL rm) {index : Nat} {host : String} (hq : Cond.fieldLinkNest own index "SpectrumReallocator$Auction" "bidding" "I" host ∈ lw_tbl) (d : decode cc pc = .ok (.getfield index, 3)) (e : pc + 3 = q) (kk : V wX X G ad nL Q k n σ q L (.int (σ 7 7) :: st)) : V wX X G ad nL Q k n σ pc L (.ref (ad 7) :: st) :=
  V_getN C 7 (by decide) (eX_7 G ad (σ 7)) rfl inX0 goX0 7 (by decide) hq rfl d e kk
theorem PNX_7_7 (C : OK wX X G ad own cc nL rm) {index : Nat} {host : String} {v : Int32} (hq : Cond.fieldLinkNest own index "SpectrumReallocator$Auction" "bidding" "I" host ∈ lw_tbl) (d : decode cc pc = .ok (.putfield index, 3)) (e : pc + 3 = q) (kk : V wX X G ad nL Q k n (sup σ 7 7 v) q L st) : V wX X G ad nL Q k n σ pc L (.int v :: .ref (ad 7) :: st) :=
  V_putN C 7 7 (by decide) (eX_7 G ad (σ 7)) (hsX (g := upd (σ 7) 7 v) rfl) hoX rfl inX0 goX0 tyX0 tyX0_ok nmX0 (by decide) rfl (ty := .int) rfl rfl rfl (Nat.le_of_ble_eq_true rfl) hq d e kk
theorem GX_7_8 (C : OK wX X G ad own cc nL rm) {index : Nat} (hq : Cond.fieldLink own index "SpectrumReallocator$Auction" "frozen" "I" ∈ lw_tbl) (d : decode cc pc = .ok (.getfield index, 3)) (e : pc + 3 = q) (kk : V wX X G ad nL Q k n σ q L (.int (σ 7 8) :: st)) : V wX X G ad nL Q k n σ pc L (.ref (ad 7) :: st) :=
  V_get C 7 (by decide) (eX_7 G ad (σ 7)) rfl inX0 goX0 8 (by decide) hq rfl d e kk
theorem PX_7_8 (C : OK wX X G ad own cc nL rm) {index : Nat} {v : Int32} (hq : Cond.fieldLink own index "SpectrumReallocator$Auction" "frozen" "I" ∈ lw_tbl) (d : decode cc pc = .ok (.putfield index, 3)) (e : pc + 3 = q) (kk : V wX X G ad nL Q k n (sup σ 7 8 v) q L st) : V wX X G ad nL Q k n σ pc L (.int v :: .ref (ad 7) :: st) :=
  V_put C 7 8 (by decide) (eX_7 G ad (σ 7)) (hsX (g := upd (σ 7) 8 v) rfl) hoX rfl inX0 goX0 tyX0 tyX0_ok nmX0 (by decide) rfl (ty := .int) rfl rfl rfl (Nat.le_of_ble_eq_true rfl) hq d e kk
theorem GNX_7_8 (C : OK wX X G ad own cc nL rm) {index : Nat} {host : String} (hq : Cond.fieldLinkNest own index "SpectrumReallocator$Auction" "frozen" "I" host ∈ lw_tbl) (d : decode cc pc = .ok (.getfield index, 3)) (e : pc + 3 = q) (kk : V wX X G ad nL Q k n σ q L (.int (σ 7 8) :: st)) : V wX X G ad nL Q k n σ pc L (.ref (ad 7) :: st) :=
  V_getN C 7 (by decide) (eX_7 G ad (σ 7)) rfl inX0 goX0 8 (by decide) hq rfl d e kk
theorem PNX_7_8 (C : OK wX X G ad own cc nL rm) {index : Nat} {host : String} {v : Int32} (hq : Cond.fieldLinkNest own index "SpectrumReallocator$Auction" "frozen" "I" host ∈ lw_tbl) (d : decode cc pc = .ok (.putfield index, 3)) (e : pc + 3 = q) (kk : V wX X G ad nL Q k n (sup σ 7 8 v) q L st) : V wX X G ad nL Q k n σ pc L (.int v :: .ref (ad 7) :: st) :=
  V_putN C 7 8 (by decide) (eX_7 G ad (σ 7)) (hsX (g := upd (σ 7) 8 v) rfl) hoX rfl inX0 goX0 tyX0 tyX0_ok nmX0 (by decide) rfl (ty := .int) rfl rfl rfl (Nat.le_of_ble_eq_true rfl) hq d e kk
theorem GX_7_9 (C : OK wX X G ad own cc nL rm) {index : Nat} (hq : Cond.fieldLink own index "SpectrumReallocator$Auction" "eventCount" "I" ∈ lw_tbl) (d : decode cc pc = .ok (.getfield index, 3)) (e : pc + 3 = q) (kk : V wX X G ad nL Q k n σ q L (.int (σ 7 9) :: st)) : V wX X G ad nL Q k n σ pc L (.ref (ad 7) :: st) :=
  V_get C 7 (by decide) (eX_7 G ad (σ 7)) rfl inX0 goX0 9 (by decide) hq rfl d e kk
theorem PX_7_9 (C : OK wX X G ad own cc nL rm) {index : Nat} {v : Int32} (hq : Cond.fieldLink own index "SpectrumReallocator$Auction" "eventCount" "I" ∈ lw_tbl) (d : decode cc pc = .ok (.putfield index, 3)) (e : pc + 3 = q) (kk : V wX X G ad nL Q k n (sup σ 7 9 v) q L st) : V wX X G ad nL Q k n σ pc L (.int v :: .ref (ad 7) :: st) :=
  V_put C 7 9 (by decide) (eX_7 G ad (σ 7)) (hsX (g := upd (σ 7) 9 v) rfl) hoX rfl inX0 goX0 tyX0 tyX0_ok nmX0 (by decide) rfl (ty := .int) rfl rfl rfl (Nat.le_of_ble_eq_true rfl) hq d e kk
theorem GNX_7_9 (C : OK wX X G ad own cc nL rm) {index : Nat} {host : String} (hq : Cond.fieldLinkNest own index "SpectrumReallocator$Auction" "eventCount" "I" host ∈ lw_tbl) (d : decode cc pc = .ok (.getfield index, 3)) (e : pc + 3 = q) (kk : V wX X G ad nL Q k n σ q L (.int (σ 7 9) :: st)) : V wX X G ad nL Q k n σ pc L (.ref (ad 7) :: st) :=
  V_getN C 7 (by decide) (eX_7 G ad (σ 7)) rfl inX0 goX0 9 (by decide) hq rfl d e kk
theorem PNX_7_9 (C : OK wX X G ad own cc nL rm) {index : Nat} {host : String} {v : Int32} (hq : Cond.fieldLinkNest own index "SpectrumReallocator$Auction" "eventCount" "I" host ∈ lw_tbl) (d : decode cc pc = .ok (.putfield index, 3)) (e : pc + 3 = q) (kk : V wX X G ad nL Q k n (sup σ 7 9 v) q L st) : V wX X G ad nL Q k n σ pc L (.int v :: .ref (ad 7) :: st) :=
  V_putN C 7 9 (by decide) (eX_7 G ad (σ 7)) (hsX (g := upd (σ 7) 9 v) rfl) hoX rfl inX0 goX0 tyX0 tyX0_ok nmX0 (by decide) rfl (ty := .int) rfl rfl rfl (Nat.le_of_ble_eq_true rfl) hq d e kk
theorem GX_8_0 (C : OK wX X G ad own cc nL rm) {index : Nat} (hq : Cond.fieldLink own index "SpectrumReallocator$Market" "channels" "[I" ∈ lw_tbl) (d : decode cc pc = .ok (.getfield index, 3)) (e : pc + 3 = q) (kk : V wX X G ad nL Q k n σ q L (.ref (ad 17) :: st)) : V wX X G ad nL Q k n σ pc L (.ref (ad 8) :: st) :=
  V_get C 8 (by decide) (eX_8 G ad (σ 8)) rfl inX3 goX3 0 (by decide) hq rfl d e kk
theorem GNX_8_0 (C : OK wX X G ad own cc nL rm) {index : Nat} {host : String} (hq : Cond.fieldLinkNest own index "SpectrumReallocator$Market" "channels" "[I" host ∈ lw_tbl) (d : decode cc pc = .ok (.getfield index, 3)) (e : pc + 3 = q) (kk : V wX X G ad nL Q k n σ q L (.ref (ad 17) :: st)) : V wX X G ad nL Q k n σ pc L (.ref (ad 8) :: st) :=
  V_getN C 8 (by decide) (eX_8 G ad (σ 8)) rfl inX3 goX3 0 (by decide) hq rfl d e kk
theorem GX_8_1 (C : OK wX X G ad own cc nL rm) {index : Nat} (hq : Cond.fieldLink own index "SpectrumReallocator$Market" "values" "[I" ∈ lw_tbl) (d : decode cc pc = .ok (.getfield index, 3)) (e : pc + 3 = q) (kk : V wX X G ad nL Q k n σ q L (.ref (ad 18) :: st)) : V wX X G ad nL Q k n σ pc L (.ref (ad 8) :: st) :=
  V_get C 8 (by decide) (eX_8 G ad (σ 8)) rfl inX3 goX3 1 (by decide) hq rfl d e kk
theorem GNX_8_1 (C : OK wX X G ad own cc nL rm) {index : Nat} {host : String} (hq : Cond.fieldLinkNest own index "SpectrumReallocator$Market" "values" "[I" host ∈ lw_tbl) (d : decode cc pc = .ok (.getfield index, 3)) (e : pc + 3 = q) (kk : V wX X G ad nL Q k n σ q L (.ref (ad 18) :: st)) : V wX X G ad nL Q k n σ pc L (.ref (ad 8) :: st) :=
  V_getN C 8 (by decide) (eX_8 G ad (σ 8)) rfl inX3 goX3 1 (by decide) hq rfl d e kk
theorem GX_8_2 (C : OK wX X G ad own cc nL rm) {index : Nat} (hq : Cond.fieldLink own index "SpectrumReallocator$Market" "weights" "[I" ∈ lw_tbl) (d : decode cc pc = .ok (.getfield index, 3)) (e : pc + 3 = q) (kk : V wX X G ad nL Q k n σ q L (.ref (ad 19) :: st)) : V wX X G ad nL Q k n σ pc L (.ref (ad 8) :: st) :=
  V_get C 8 (by decide) (eX_8 G ad (σ 8)) rfl inX3 goX3 2 (by decide) hq rfl d e kk
theorem GNX_8_2 (C : OK wX X G ad own cc nL rm) {index : Nat} {host : String} (hq : Cond.fieldLinkNest own index "SpectrumReallocator$Market" "weights" "[I" host ∈ lw_tbl) (d : decode cc pc = .ok (.getfield index, 3)) (e : pc + 3 = q) (kk : V wX X G ad nL Q k n σ q L (.ref (ad 19) :: st)) : V wX X G ad nL Q k n σ pc L (.ref (ad 8) :: st) :=
  V_getN C 8 (by decide) (eX_8 G ad (σ 8)) rfl inX3 goX3 2 (by decide) hq rfl d e kk
theorem GX_8_3 (C : OK wX X G ad own cc nL rm) {index : Nat} (hq : Cond.fieldLink own index "SpectrumReallocator$Market" "kept" "[I" ∈ lw_tbl) (d : decode cc pc = .ok (.getfield index, 3)) (e : pc + 3 = q) (kk : V wX X G ad nL Q k n σ q L (.ref (ad 20) :: st)) : V wX X G ad nL Q k n σ pc L (.ref (ad 8) :: st) :=
  V_get C 8 (by decide) (eX_8 G ad (σ 8)) rfl inX3 goX3 3 (by decide) hq rfl d e kk
theorem GNX_8_3 (C : OK wX X G ad own cc nL rm) {index : Nat} {host : String} (hq : Cond.fieldLinkNest own index "SpectrumReallocator$Market" "kept" "[I" host ∈ lw_tbl) (d : decode cc pc = .ok (.getfield index, 3)) (e : pc + 3 = q) (kk : V wX X G ad nL Q k n σ q L (.ref (ad 20) :: st)) : V wX X G ad nL Q k n σ pc L (.ref (ad 8) :: st) :=
  V_getN C 8 (by decide) (eX_8 G ad (σ 8)) rfl inX3 goX3 3 (by decide) hq rfl d e kk
theorem GX_8_4 (C : OK wX X G ad own cc nL rm) {index : Nat} (hq : Cond.fieldLink own index "SpectrumReallocator$Market" "same" "[I" ∈ lw_tbl) (d : decode cc pc = .ok (.getfield index, 3)) (e : pc + 3 = q) (kk : V wX X G ad nL Q k n σ q L (.ref (ad 21) :: st)) : V wX X G ad nL Q k n σ pc L (.ref (ad 8) :: st) :=
  V_get C 8 (by decide) (eX_8 G ad (σ 8)) rfl inX3 goX3 4 (by decide) hq rfl d e kk
theorem GNX_8_4 (C : OK wX X G ad own cc nL rm) {index : Nat} {host : String} (hq : Cond.fieldLinkNest own index "SpectrumReallocator$Market" "same" "[I" host ∈ lw_tbl) (d : decode cc pc = .ok (.getfield index, 3)) (e : pc + 3 = q) (kk : V wX X G ad nL Q k n σ q L (.ref (ad 21) :: st)) : V wX X G ad nL Q k n σ pc L (.ref (ad 8) :: st) :=
  V_getN C 8 (by decide) (eX_8 G ad (σ 8)) rfl inX3 goX3 4 (by decide) hq rfl d e kk
theorem GX_8_5 (C : OK wX X G ad own cc nL rm) {index : Nat} (hq : Cond.fieldLink own index "SpectrumReallocator$Market" "next" "[I" ∈ lw_tbl) (d : decode cc pc = .ok (.getfield index, 3)) (e : pc + 3 = q) (kk : V wX X G ad nL Q k n σ q L (.ref (ad 22) :: st)) : V wX X G ad nL Q k n σ pc L (.ref (ad 8) :: st) :=
  V_get C 8 (by decide) (eX_8 G ad (σ 8)) rfl inX3 goX3 5 (by decide) hq rfl d e kk
theorem GNX_8_5 (C : OK wX X G ad own cc nL rm) {index : Nat} {host : String} (hq : Cond.fieldLinkNest own index "SpectrumReallocator$Market" "next" "[I" host ∈ lw_tbl) (d : decode cc pc = .ok (.getfield index, 3)) (e : pc + 3 = q) (kk : V wX X G ad nL Q k n σ q L (.ref (ad 22) :: st)) : V wX X G ad nL Q k n σ pc L (.ref (ad 8) :: st) :=
  V_getN C 8 (by decide) (eX_8 G ad (σ 8)) rfl inX3 goX3 5 (by decide) hq rfl d e kk
theorem GX_8_6 (C : OK wX X G ad own cc nL rm) {index : Nat} (hq : Cond.fieldLink own index "SpectrumReallocator$Market" "size" "I" ∈ lw_tbl) (d : decode cc pc = .ok (.getfield index, 3)) (e : pc + 3 = q) (kk : V wX X G ad nL Q k n σ q L (.int (σ 8 6) :: st)) : V wX X G ad nL Q k n σ pc L (.ref (ad 8) :: st) :=
  V_get C 8 (by decide) (eX_8 G ad (σ 8)) rfl inX3 goX3 6 (by decide) hq rfl d e kk
theorem PX_8_6 (C : OK wX X G ad own cc nL rm) {index : Nat} {v : Int32} (hq : Cond.fieldLink own index "SpectrumReallocator$Market" "size" "I" ∈ lw_tbl) (d : decode cc pc = .ok (.putfield index, 3)) (e : pc + 3 = q) (kk : V wX X G ad nL Q k n (sup σ 8 6 v) q L st) : V wX X G ad nL Q k n σ pc L (.int v :: .ref (ad 8) :: st) :=
  V_put C 8 6 (by decide) (eX_8 G ad (σ 8)) (hsX (g := upd (σ 8) 6 v) rfl) hoX rfl inX3 goX3 tyX3 tyX3_ok nmX3 (by decide) rfl (ty := .int) rfl rfl rfl (Nat.le_of_ble_eq_true rfl) hq d e kk
theorem GNX_8_6 (C : OK wX X G ad own cc nL rm) {index : Nat} {host : String} (hq : Cond.fieldLinkNest own index "SpectrumReallocator$Market" "size" "I" host ∈ lw_tbl) (d : decode cc pc = .ok (.getfield index, 3)) (e : pc + 3 = q) (kk : V wX X G ad nL Q k n σ q L (.int (σ 8 6) :: st)) : V wX X G ad nL Q k n σ pc L (.ref (ad 8) :: st) :=
  V_getN C 8 (by decide) (eX_8 G ad (σ 8)) rfl inX3 goX3 6 (by decide) hq rfl d e kk
theorem PNX_8_6 (C : OK wX X G ad own cc nL rm) {index : Nat} {host : String} {v : Int32} (hq : Cond.fieldLinkNest own index "SpectrumReallocator$Market" "size" "I" host ∈ lw_tbl) (d : decode cc pc = .ok (.putfield index, 3)) (e : pc + 3 = q) (kk : V wX X G ad nL Q k n (sup σ 8 6 v) q L st) : V wX X G ad nL Q k n σ pc L (.int v :: .ref (ad 8) :: st) :=
  V_putN C 8 6 (by decide) (eX_8 G ad (σ 8)) (hsX (g := upd (σ 8) 6 v) rfl) hoX rfl inX3 goX3 tyX3 tyX3_ok nmX3 (by decide) rfl (ty := .int) rfl rfl rfl (Nat.le_of_ble_eq_true rfl) hq d e kk
theorem GX_8_7 (C : OK wX X G ad own cc nL rm) {index : Nat} (hq : Cond.fieldLink own index "SpectrumReallocator$Market" "takers" "I" ∈ lw_tbl) (d : decode cc pc = .ok (.getfield index, 3)) (e : pc + 3 = q) (kk : V wX X G ad nL Q k n σ q L (.int (σ 8 7) :: st)) : V wX X G ad nL Q k n σ pc L (.ref (ad 8) :: st) :=
  V_get C 8 (by decide) (eX_8 G ad (σ 8)) rfl inX3 goX3 7 (by decide) hq rfl d e kk
theorem PX_8_7 (C : OK wX X G ad own cc nL rm) {index : Nat} {v : Int32} (hq : Cond.fieldLink own index "SpectrumReallocator$Market" "takers" "I" ∈ lw_tbl) (d : decode cc pc = .ok (.putfield index, 3)) (e : pc + 3 = q) (kk : V wX X G ad nL Q k n (sup σ 8 7 v) q L st) : V wX X G ad nL Q k n σ pc L (.int v :: .ref (ad 8) :: st) :=
  V_put C 8 7 (by decide) (eX_8 G ad (σ 8)) (hsX (g := upd (σ 8) 7 v) rfl) hoX rfl inX3 goX3 tyX3 tyX3_ok nmX3 (by decide) rfl (ty := .int) rfl rfl rfl (Nat.le_of_ble_eq_true rfl) hq d e kk
theorem GNX_8_7 (C : OK wX X G ad own cc nL rm) {index : Nat} {host : String} (hq : Cond.fieldLinkNest own index "SpectrumReallocator$Market" "takers" "I" host ∈ lw_tbl) (d : decode cc pc = .ok (.getfield index, 3)) (e : pc + 3 = q) (kk : V wX X G ad nL Q k n σ q L (.int (σ 8 7) :: st)) : V wX X G ad nL Q k n σ pc L (.ref (ad 8) :: st) :=
  V_getN C 8 (by decide) (eX_8 G ad (σ 8)) rfl inX3 goX3 7 (by decide) hq rfl d e kk
theorem PNX_8_7 (C : OK wX X G ad own cc nL rm) {index : Nat} {host : String} {v : Int32} (hq : Cond.fieldLinkNest own index "SpectrumReallocator$Market" "takers" "I" host ∈ lw_tbl) (d : decode cc pc = .ok (.putfield index, 3)) (e : pc + 3 = q) (kk : V wX X G ad nL Q k n (sup σ 8 7 v) q L st) : V wX X G ad nL Q k n σ pc L (.int v :: .ref (ad 8) :: st) :=
  V_putN C 8 7 (by decide) (eX_8 G ad (σ 8)) (hsX (g := upd (σ 8) 7 v) rfl) hoX rfl inX3 goX3 tyX3 tyX3_ok nmX3 (by decide) rfl (ty := .int) rfl rfl rfl (Nat.le_of_ble_eq_true rfl) hq d e kk
theorem GX_8_8 (C : OK wX X G ad own cc nL rm) {index : Nat} (hq : Cond.fieldLink own index "SpectrumReallocator$Market" "available" "I" ∈ lw_tbl) (d : decode cc pc = .ok (.getfield index, 3)) (e : pc + 3 = q) (kk : V wX X G ad nL Q k n σ q L (.int (σ 8 8) :: st)) : V wX X G ad nL Q k n σ pc L (.ref (ad 8) :: st) :=
  V_get C 8 (by decide) (eX_8 G ad (σ 8)) rfl inX3 goX3 8 (by decide) hq rfl d e kk
theorem PX_8_8 (C : OK wX X G ad own cc nL rm) {index : Nat} {v : Int32} (hq : Cond.fieldLink own index "SpectrumReallocator$Market" "available" "I" ∈ lw_tbl) (d : decode cc pc = .ok (.putfield index, 3)) (e : pc + 3 = q) (kk : V wX X G ad nL Q k n (sup σ 8 8 v) q L st) : V wX X G ad nL Q k n σ pc L (.int v :: .ref (ad 8) :: st) :=
  V_put C 8 8 (by decide) (eX_8 G ad (σ 8)) (hsX (g := upd (σ 8) 8 v) rfl) hoX rfl inX3 goX3 tyX3 tyX3_ok nmX3 (by decide) rfl (ty := .int) rfl rfl rfl (Nat.le_of_ble_eq_true rfl) hq d e kk
theorem GNX_8_8 (C : OK wX X G ad own cc nL rm) {index : Nat} {host : String} (hq : Cond.fieldLinkNest own index "SpectrumReallocator$Market" "available" "I" host ∈ lw_tbl) (d : decode cc pc = .ok (.getfield index, 3)) (e : pc + 3 = q) (kk : V wX X G ad nL Q k n σ q L (.int (σ 8 8) :: st)) : V wX X G ad nL Q k n σ pc L (.ref (ad 8) :: st) :=
  V_getN C 8 (by decide) (eX_8 G ad (σ 8)) rfl inX3 goX3 8 (by decide) hq rfl d e kk
theorem PNX_8_8 (C : OK wX X G ad own cc nL rm) {index : Nat} {host : String} {v : Int32} (hq : Cond.fieldLinkNest own index "SpectrumReallocator$Market" "available" "I" host ∈ lw_tbl) (d : decode cc pc = .ok (.putfield index, 3)) (e : pc + 3 = q) (kk : V wX X G ad nL Q k n (sup σ 8 8 v) q L st) : V wX X G ad nL Q k n σ pc L (.int v :: .ref (ad 8) :: st) :=
  V_putN C 8 8 (by decide) (eX_8 G ad (σ 8)) (hsX (g := upd (σ 8) 8 v) rfl) hoX rfl inX3 goX3 tyX3 tyX3_ok nmX3 (by decide) rfl (ty := .int) rfl rfl rfl (Nat.le_of_ble_eq_true rfl) hq d e kk
theorem GX_9_0 (C : OK wX X G ad own cc nL rm) {index : Nat} (hq : Cond.fieldLink own index "SpectrumReallocator$Auction" "bases" "[I" ∈ lw_tbl) (d : decode cc pc = .ok (.getfield index, 3)) (e : pc + 3 = q) (kk : V wX X G ad nL Q k n σ q L (.ref (ad 31) :: st)) : V wX X G ad nL Q k n σ pc L (.ref (ad 9) :: st) :=
  V_get C 9 (by decide) (eX_9 G ad (σ 9)) rfl inX0 goX0 0 (by decide) hq rfl d e kk
theorem GNX_9_0 (C : OK wX X G ad own cc nL rm) {index : Nat} {host : String} (hq : Cond.fieldLinkNest own index "SpectrumReallocator$Auction" "bases" "[I" host ∈ lw_tbl) (d : decode cc pc = .ok (.getfield index, 3)) (e : pc + 3 = q) (kk : V wX X G ad nL Q k n σ q L (.ref (ad 31) :: st)) : V wX X G ad nL Q k n σ pc L (.ref (ad 9) :: st) :=
  V_getN C 9 (by decide) (eX_9 G ad (σ 9)) rfl inX0 goX0 0 (by decide) hq rfl d e kk
theorem GX_9_1 (C : OK wX X G ad own cc nL rm) {index : Nat} (hq : Cond.fieldLink own index "SpectrumReallocator$Auction" "prices" "[I" ∈ lw_tbl) (d : decode cc pc = .ok (.getfield index, 3)) (e : pc + 3 = q) (kk : V wX X G ad nL Q k n σ q L (.ref (ad 32) :: st)) : V wX X G ad nL Q k n σ pc L (.ref (ad 9) :: st) :=
  V_get C 9 (by decide) (eX_9 G ad (σ 9)) rfl inX0 goX0 1 (by decide) hq rfl d e kk
theorem GNX_9_1 (C : OK wX X G ad own cc nL rm) {index : Nat} {host : String} (hq : Cond.fieldLinkNest own index "SpectrumReallocator$Auction" "prices" "[I" host ∈ lw_tbl) (d : decode cc pc = .ok (.getfield index, 3)) (e : pc + 3 = q) (kk : V wX X G ad nL Q k n σ q L (.ref (ad 32) :: st)) : V wX X G ad nL Q k n σ pc L (.ref (ad 9) :: st) :=
  V_getN C 9 (by decide) (eX_9 G ad (σ 9)) rfl inX0 goX0 1 (by decide) hq rfl d e kk
theorem GX_9_2 (C : OK wX X G ad own cc nL rm) {index : Nat} (hq : Cond.fieldLink own index "SpectrumReallocator$Auction" "blockers" "[I" ∈ lw_tbl) (d : decode cc pc = .ok (.getfield index, 3)) (e : pc + 3 = q) (kk : V wX X G ad nL Q k n σ q L (.ref (ad 33) :: st)) : V wX X G ad nL Q k n σ pc L (.ref (ad 9) :: st) :=
  V_get C 9 (by decide) (eX_9 G ad (σ 9)) rfl inX0 goX0 2 (by decide) hq rfl d e kk
theorem GNX_9_2 (C : OK wX X G ad own cc nL rm) {index : Nat} {host : String} (hq : Cond.fieldLinkNest own index "SpectrumReallocator$Auction" "blockers" "[I" host ∈ lw_tbl) (d : decode cc pc = .ok (.getfield index, 3)) (e : pc + 3 = q) (kk : V wX X G ad nL Q k n σ q L (.ref (ad 33) :: st)) : V wX X G ad nL Q k n σ pc L (.ref (ad 9) :: st) :=
  V_getN C 9 (by decide) (eX_9 G ad (σ 9)) rfl inX0 goX0 2 (by decide) hq rfl d e kk
theorem GX_9_3 (C : OK wX X G ad own cc nL rm) {index : Nat} (hq : Cond.fieldLink own index "SpectrumReallocator$Auction" "events" "[I" ∈ lw_tbl) (d : decode cc pc = .ok (.getfield index, 3)) (e : pc + 3 = q) (kk : V wX X G ad nL Q k n σ q L (.ref (ad 34) :: st)) : V wX X G ad nL Q k n σ pc L (.ref (ad 9) :: st) :=
  V_get C 9 (by decide) (eX_9 G ad (σ 9)) rfl inX0 goX0 3 (by decide) hq rfl d e kk
theorem GNX_9_3 (C : OK wX X G ad own cc nL rm) {index : Nat} {host : String} (hq : Cond.fieldLinkNest own index "SpectrumReallocator$Auction" "events" "[I" host ∈ lw_tbl) (d : decode cc pc = .ok (.getfield index, 3)) (e : pc + 3 = q) (kk : V wX X G ad nL Q k n σ q L (.ref (ad 34) :: st)) : V wX X G ad nL Q k n σ pc L (.ref (ad 9) :: st) :=
  V_getN C 9 (by decide) (eX_9 G ad (σ 9)) rfl inX0 goX0 3 (by decide) hq rfl d e kk
theorem GX_9_4 (C : OK wX X G ad own cc nL rm) {index : Nat} (hq : Cond.fieldLink own index "SpectrumReallocator$Auction" "known" "Z" ∈ lw_tbl) (d : decode cc pc = .ok (.getfield index, 3)) (e : pc + 3 = q) (kk : V wX X G ad nL Q k n σ q L (.int (σ 9 4) :: st)) : V wX X G ad nL Q k n σ pc L (.ref (ad 9) :: st) :=
  V_get C 9 (by decide) (eX_9 G ad (σ 9)) rfl inX0 goX0 4 (by decide) hq rfl d e kk
theorem PX_9_4 (C : OK wX X G ad own cc nL rm) {index : Nat} {v : Int32} (hv : v = 0 ∨ v = 1) (hq : Cond.fieldLink own index "SpectrumReallocator$Auction" "known" "Z" ∈ lw_tbl) (d : decode cc pc = .ok (.putfield index, 3)) (e : pc + 3 = q) (kk : V wX X G ad nL Q k n (sup σ 9 4 v) q L st) : V wX X G ad nL Q k n σ pc L (.int v :: .ref (ad 9) :: st) :=
  V_put C 9 4 (by decide) (eX_9 G ad (σ 9)) (hsX (g := upd (σ 9) 4 v) rfl) hoX rfl inX0 goX0 tyX0 tyX0_ok nmX0 (by decide) rfl (ty := .boolean) rfl (by rcases hv with h | h <;> subst h <;> decide) (by rcases hv with h | h <;> subst h <;> decide) (Nat.le_of_ble_eq_true rfl) hq d e kk
theorem GNX_9_4 (C : OK wX X G ad own cc nL rm) {index : Nat} {host : String} (hq : Cond.fieldLinkNest own index "SpectrumReallocator$Auction" "known" "Z" host ∈ lw_tbl) (d : decode cc pc = .ok (.getfield index, 3)) (e : pc + 3 = q) (kk : V wX X G ad nL Q k n σ q L (.int (σ 9 4) :: st)) : V wX X G ad nL Q k n σ pc L (.ref (ad 9) :: st) :=
  V_getN C 9 (by decide) (eX_9 G ad (σ 9)) rfl inX0 goX0 4 (by decide) hq rfl d e kk
theorem PNX_9_4 (C : OK wX X G ad own cc nL rm) {index : Nat} {host : String} {v : Int32} (hv : v = 0 ∨ v = 1) (hq : Cond.fieldLinkNest own index "SpectrumReallocator$Auction" "known" "Z" host ∈ lw_tbl) (d : decode cc pc = .ok (.putfield index, 3)) (e : pc + 3 = q) (kk : V wX X G ad nL Q k n (sup σ 9 4 v) q L st) : V wX X G ad nL Q k n σ pc L (.int v :: .ref (ad 9) :: st) :=
  V_putN C 9 4 (by decide) (eX_9 G ad (σ 9)) (hsX (g := upd (σ 9) 4 v) rfl) hoX rfl inX0 goX0 tyX0 tyX0_ok nmX0 (by decide) rfl (ty := .boolean) rfl (by rcases hv with h | h <;> subst h <;> decide) (by rcases hv with h | h <;> subst h <;> decide) (Nat.le_of_ble_eq_true rfl) hq d e kk
theorem GX_9_5 (C : OK wX X G ad own cc nL rm) {index : Nat} (hq : Cond.fieldLink own index "SpectrumReallocator$Auction" "now" "I" ∈ lw_tbl) (d : decode cc pc = .ok (.getfield index, 3)) (e : pc + 3 = q) (kk : V wX X G ad nL Q k n σ q L (.int (σ 9 5) :: st)) : V wX X G ad nL Q k n σ pc L (.ref (ad 9) :: st) :=
  V_get C 9 (by decide) (eX_9 G ad (σ 9)) rfl inX0 goX0 5 (by decide) hq rfl d e kk
theorem PX_9_5 (C : OK wX X G ad own cc nL rm) {index : Nat} {v : Int32} (hq : Cond.fieldLink own index "SpectrumReallocator$Auction" "now" "I" ∈ lw_tbl) (d : decode cc pc = .ok (.putfield index, 3)) (e : pc + 3 = q) (kk : V wX X G ad nL Q k n (sup σ 9 5 v) q L st) : V wX X G ad nL Q k n σ pc L (.int v :: .ref (ad 9) :: st) :=
  V_put C 9 5 (by decide) (eX_9 G ad (σ 9)) (hsX (g := upd (σ 9) 5 v) rfl) hoX rfl inX0 goX0 tyX0 tyX0_ok nmX0 (by decide) rfl (ty := .int) rfl rfl rfl (Nat.le_of_ble_eq_true rfl) hq d e kk
theorem GNX_9_5 (C : OK wX X G ad own cc nL rm) {index : Nat} {host : String} (hq : Cond.fieldLinkNest own index "SpectrumReallocator$Auction" "now" "I" host ∈ lw_tbl) (d : decode cc pc = .ok (.getfield index, 3)) (e : pc + 3 = q) (kk : V wX X G ad nL Q k n σ q L (.int (σ 9 5) :: st)) : V wX X G ad nL Q k n σ pc L (.ref (ad 9) :: st) :=
  V_getN C 9 (by decide) (eX_9 G ad (σ 9)) rfl inX0 goX0 5 (by decide) hq rfl d e kk
theorem PNX_9_5 (C : OK wX X G ad own cc nL rm) {index : Nat} {host : String} {v : Int32} (hq : Cond.fieldLinkNest own index "SpectrumReallocator$Auction" "now" "I" host ∈ lw_tbl) (d : decode cc pc = .ok (.putfield index, 3)) (e : pc + 3 = q) (kk : V wX X G ad nL Q k n (sup σ 9 5 v) q L st) : V wX X G ad nL Q k n σ pc L (.int v :: .ref (ad 9) :: st) :=
  V_putN C 9 5 (by decide) (eX_9 G ad (σ 9)) (hsX (g := upd (σ 9) 5 v) rfl) hoX rfl inX0 goX0 tyX0 tyX0_ok nmX0 (by decide) rfl (ty := .int) rfl rfl rfl (Nat.le_of_ble_eq_true rfl) hq d e kk
theorem GX_9_6 (C : OK wX X G ad own cc nL rm) {index : Nat} (hq : Cond.fieldLink own index "SpectrumReallocator$Auction" "onAir" "I" ∈ lw_tbl) (d : decode cc pc = .ok (.getfield index, 3)) (e : pc + 3 = q) (kk : V wX X G ad nL Q k n σ q L (.int (σ 9 6) :: st)) : V wX X G ad nL Q k n σ pc L (.ref (ad 9) :: st) :=
  V_get C 9 (by decide) (eX_9 G ad (σ 9)) rfl inX0 goX0 6 (by decide) hq rfl d e kk
theorem PX_9_6 (C : OK wX X G ad own cc nL rm) {index : Nat} {v : Int32} (hq : Cond.fieldLink own index "SpectrumReallocator$Auction" "onAir" "I" ∈ lw_tbl) (d : decode cc pc = .ok (.putfield index, 3)) (e : pc + 3 = q) (kk : V wX X G ad nL Q k n (sup σ 9 6 v) q L st) : V wX X G ad nL Q k n σ pc L (.int v :: .ref (ad 9) :: st) :=
  V_put C 9 6 (by decide) (eX_9 G ad (σ 9)) (hsX (g := upd (σ 9) 6 v) rfl) hoX rfl inX0 goX0 tyX0 tyX0_ok nmX0 (by decide) rfl (ty := .int) rfl rfl rfl (Nat.le_of_ble_eq_true rfl) hq d e kk
theorem GNX_9_6 (C : OK wX X G ad own cc nL rm) {index : Nat} {host : String} (hq : Cond.fieldLinkNest own index "SpectrumReallocator$Auction" "onAir" "I" host ∈ lw_tbl) (d : decode cc pc = .ok (.getfield index, 3)) (e : pc + 3 = q) (kk : V wX X G ad nL Q k n σ q L (.int (σ 9 6) :: st)) : V wX X G ad nL Q k n σ pc L (.ref (ad 9) :: st) :=
  V_getN C 9 (by decide) (eX_9 G ad (σ 9)) rfl inX0 goX0 6 (by decide) hq rfl d e kk
theorem PNX_9_6 (C : OK wX X G ad own cc nL rm) {index : Nat} {host : String} {v : Int32} (hq : Cond.fieldLinkNest own index "SpectrumReallocator$Auction" "onAir" "I" host ∈ lw_tbl) (d : decode cc pc = .ok (.putfield index, 3)) (e : pc + 3 = q) (kk : V wX X G ad nL Q k n (sup σ 9 6 v) q L st) : V wX X G ad nL Q k n σ pc L (.int v :: .ref (ad 9) :: st) :=
  V_putN C 9 6 (by decide) (eX_9 G ad (σ 9)) (hsX (g := upd (σ 9) 6 v) rfl) hoX rfl inX0 goX0 tyX0 tyX0_ok nmX0 (by decide) rfl (ty := .int) rfl rfl rfl (Nat.le_of_ble_eq_true rfl) hq d e kk
theorem GX_9_7 (C : OK wX X G ad own cc nL rm) {index : Nat} (hq : Cond.fieldLink own index "SpectrumReallocator$Auction" "bidding" "I" ∈ lw_tbl) (d : decode cc pc = .ok (.getfield index, 3)) (e : pc + 3 = q) (kk : V wX X G ad nL Q k n σ q L (.int (σ 9 7) :: st)) : V wX X G ad nL Q k n σ pc L (.ref (ad 9) :: st) :=
  V_get C 9 (by decide) (eX_9 G ad (σ 9)) rfl inX0 goX0 7 (by decide) hq rfl d e kk
theorem PX_9_7 (C : OK wX X G ad own cc nL rm) {index : Nat} {v : Int32} (hq : Cond.fieldLink own index "SpectrumReallocator$Auction" "bidding" "I" ∈ lw_tbl) (d : decode cc pc = .ok (.putfield index, 3)) (e : pc + 3 = q) (kk : V wX X G ad nL Q k n (sup σ 9 7 v) q L st) : V wX X G ad nL Q k n σ pc L (.int v :: .ref (ad 9) :: st) :=
  V_put C 9 7 (by decide) (eX_9 G ad (σ 9)) (hsX (g := upd (σ 9) 7 v) rfl) hoX rfl inX0 goX0 tyX0 tyX0_ok nmX0 (by decide) rfl (ty := .int) rfl rfl rfl (Nat.le_of_ble_eq_true rfl) hq d e kk
theorem GNX_9_7 (C : OK wX X G ad own cc nL rm) {index : Nat} {host : String} (hq : Cond.fieldLinkNest own index "SpectrumReallocator$Auction" "bidding" "I" host ∈ lw_tbl) (d : decode cc pc = .ok (.getfield index, 3)) (e : pc + 3 = q) (kk : V wX X G ad nL Q k n σ q L (.int (σ 9 7) :: st)) : V wX X G ad nL Q k n σ pc L (.ref (ad 9) :: st) :=
  V_getN C 9 (by decide) (eX_9 G ad (σ 9)) rfl inX0 goX0 7 (by decide) hq rfl d e kk
theorem PNX_9_7 (C : OK wX X G ad own cc nL rm) {index : Nat} {host : String} {v : Int32} (hq : Cond.fieldLinkNest own index "SpectrumReallocator$Auction" "bidding" "I" host ∈ lw_tbl) (d : decode cc pc = .ok (.putfield index, 3)) (e : pc + 3 = q) (kk : V wX X G ad nL Q k n (sup σ 9 7 v) q L st) : V wX X G ad nL Q k n σ pc L (.int v :: .ref (ad 9) :: st) :=
  V_putN C 9 7 (by decide) (eX_9 G ad (σ 9)) (hsX (g := upd (σ 9) 7 v) rfl) hoX rfl inX0 goX0 tyX0 tyX0_ok nmX0 (by decide) rfl (ty := .int) rfl rfl rfl (Nat.le_of_ble_eq_true rfl) hq d e kk
theorem GX_9_8 (C : OK wX X G ad own cc nL rm) {index : Nat} (hq : Cond.fieldLink own index "SpectrumReallocator$Auction" "frozen" "I" ∈ lw_tbl) (d : decode cc pc = .ok (.getfield index, 3)) (e : pc + 3 = q) (kk : V wX X G ad nL Q k n σ q L (.int (σ 9 8) :: st)) : V wX X G ad nL Q k n σ pc L (.ref (ad 9) :: st) :=
  V_get C 9 (by decide) (eX_9 G ad (σ 9)) rfl inX0 goX0 8 (by decide) hq rfl d e kk
theorem PX_9_8 (C : OK wX X G ad own cc nL rm) {index : Nat} {v : Int32} (hq : Cond.fieldLink own index "SpectrumReallocator$Auction" "frozen" "I" ∈ lw_tbl) (d : decode cc pc = .ok (.putfield index, 3)) (e : pc + 3 = q) (kk : V wX X G ad nL Q k n (sup σ 9 8 v) q L st) : V wX X G ad nL Q k n σ pc L (.int v :: .ref (ad 9) :: st) :=
  V_put C 9 8 (by decide) (eX_9 G ad (σ 9)) (hsX (g := upd (σ 9) 8 v) rfl) hoX rfl inX0 goX0 tyX0 tyX0_ok nmX0 (by decide) rfl (ty := .int) rfl rfl rfl (Nat.le_of_ble_eq_true rfl) hq d e kk
theorem GNX_9_8 (C : OK wX X G ad own cc nL rm) {index : Nat} {host : String} (hq : Cond.fieldLinkNest own index "SpectrumReallocator$Auction" "frozen" "I" host ∈ lw_tbl) (d : decode cc pc = .ok (.getfield index, 3)) (e : pc + 3 = q) (kk : V wX X G ad nL Q k n σ q L (.int (σ 9 8) :: st)) : V wX X G ad nL Q k n σ pc L (.ref (ad 9) :: st) :=
  V_getN C 9 (by decide) (eX_9 G ad (σ 9)) rfl inX0 goX0 8 (by decide) hq rfl d e kk
theorem PNX_9_8 (C : OK wX X G ad own cc nL rm) {index : Nat} {host : String} {v : Int32} (hq : Cond.fieldLinkNest own index "SpectrumReallocator$Auction" "frozen" "I" host ∈ lw_tbl) (d : decode cc pc = .ok (.putfield index, 3)) (e : pc + 3 = q) (kk : V wX X G ad nL Q k n (sup σ 9 8 v) q L st) : V wX X G ad nL Q k n σ pc L (.int v :: .ref (ad 9) :: st) :=
  V_putN C 9 8 (by decide) (eX_9 G ad (σ 9)) (hsX (g := upd (σ 9) 8 v) rfl) hoX rfl inX0 goX0 tyX0 tyX0_ok nmX0 (by decide) rfl (ty := .int) rfl rfl rfl (Nat.le_of_ble_eq_true rfl) hq d e kk
theorem GX_9_9 (C : OK wX X G ad own cc nL rm) {index : Nat} (hq : Cond.fieldLink own index "SpectrumReallocator$Auction" "eventCount" "I" ∈ lw_tbl) (d : decode cc pc = .ok (.getfield index, 3)) (e : pc + 3 = q) (kk : V wX X G ad nL Q k n σ q L (.int (σ 9 9) :: st)) : V wX X G ad nL Q k n σ pc L (.ref (ad 9) :: st) :=
  V_get C 9 (by decide) (eX_9 G ad (σ 9)) rfl inX0 goX0 9 (by decide) hq rfl d e kk
theorem PX_9_9 (C : OK wX X G ad own cc nL rm) {index : Nat} {v : Int32} (hq : Cond.fieldLink own index "SpectrumReallocator$Auction" "eventCount" "I" ∈ lw_tbl) (d : decode cc pc = .ok (.putfield index, 3)) (e : pc + 3 = q) (kk : V wX X G ad nL Q k n (sup σ 9 9 v) q L st) : V wX X G ad nL Q k n σ pc L (.int v :: .ref (ad 9) :: st) :=
  V_put C 9 9 (by decide) (eX_9 G ad (σ 9)) (hsX (g := upd (σ 9) 9 v) rfl) hoX rfl inX0 goX0 tyX0 tyX0_ok nmX0 (by decide) rfl (ty := .int) rfl rfl rfl (Nat.le_of_ble_eq_true rfl) hq d e kk
theorem GNX_9_9 (C : OK wX X G ad own cc nL rm) {index : Nat} {host : String} (hq : Cond.fieldLinkNest own index "SpectrumReallocator$Auction" "eventCount" "I" host ∈ lw_tbl) (d : decode cc pc = .ok (.getfield index, 3)) (e : pc + 3 = q) (kk : V wX X G ad nL Q k n σ q L (.int (σ 9 9) :: st)) : V wX X G ad nL Q k n σ pc L (.ref (ad 9) :: st) :=
  V_getN C 9 (by decide) (eX_9 G ad (σ 9)) rfl inX0 goX0 9 (by decide) hq rfl d e kk
theorem PNX_9_9 (C : OK wX X G ad own cc nL rm) {index : Nat} {host : String} {v : Int32} (hq : Cond.fieldLinkNest own index "SpectrumReallocator$Auction" "eventCount" "I" host ∈ lw_tbl) (d : decode cc pc = .ok (.putfield index, 3)) (e : pc + 3 = q) (kk : V wX X G ad nL Q k n (sup σ 9 9 v) q L st) : V wX X G ad nL Q k n σ pc L (.int v :: .ref (ad 9) :: st) :=
  V_putN C 9 9 (by decide) (eX_9 G ad (σ 9)) (hsX (g := upd (σ 9) 9 v) rfl) hoX rfl inX0 goX0 tyX0 tyX0_ok nmX0 (by decide) rfl (ty := .int) rfl rfl rfl (Nat.le_of_ble_eq_true rfl) hq d e kk
theorem RX_10 (C : OK wX X G ad own cc nL rm) {i : Int32} {z : Nat} (hz : i.toNatClampNeg = z) (hi : vp_in i 12) (d : decode cc pc = .ok (.iaload, 1)) (e : pc + 1 = q) (kk : V wX X G ad nL Q k n σ q L (.int (σ 10 z) :: st)) : V wX X G ad nL Q k n σ pc L (.int i :: .ref (ad 10) :: st) :=
  V_iald C 10 (by decide) (eX_10 G ad (σ 10)) rfl hi d e (by rw [hz]; exact kk)
theorem SX_10 (C : OK wX X G ad own cc nL rm) {i v : Int32} {z : Nat} (hz : i.toNatClampNeg = z) (hi : vp_in i 12) (d : decode cc pc = .ok (.iastore, 1)) (e : pc + 1 = q) (kk : V wX X G ad nL Q k n (sup σ 10 z v) q L st) : V wX X G ad nL Q k n σ pc L (.int v :: .int i :: .ref (ad 10) :: st) :=
  V_iast C 10 (by decide) (eX_10 G ad (σ 10)) (hsX (g := upd (σ 10) i.toNatClampNeg v) rfl) hoX rfl hi d e (by rw [← hz] at kk; exact kk)
theorem LX_10 (C : OK wX X G ad own cc nL rm) (d : decode cc pc = .ok (.arraylength, 1)) (e : pc + 1 = q) (kk : V wX X G ad nL Q k n σ q L (.int 12 :: st)) : V wX X G ad nL Q k n σ pc L (.ref (ad 10) :: st) :=
  V_alen C 10 0 (by decide) (eX_10 G ad (σ 10)) (ty := .int) rfl rfl d e kk
theorem RX_11 (C : OK wX X G ad own cc nL rm) {i : Int32} {z : Nat} (hz : i.toNatClampNeg = z) (hi : vp_in i 12) (d : decode cc pc = .ok (.iaload, 1)) (e : pc + 1 = q) (kk : V wX X G ad nL Q k n σ q L (.int (σ 11 z) :: st)) : V wX X G ad nL Q k n σ pc L (.int i :: .ref (ad 11) :: st) :=
  V_iald C 11 (by decide) (eX_11 G ad (σ 11)) rfl hi d e (by rw [hz]; exact kk)
theorem SX_11 (C : OK wX X G ad own cc nL rm) {i v : Int32} {z : Nat} (hz : i.toNatClampNeg = z) (hi : vp_in i 12) (d : decode cc pc = .ok (.iastore, 1)) (e : pc + 1 = q) (kk : V wX X G ad nL Q k n (sup σ 11 z v) q L st) : V wX X G ad nL Q k n σ pc L (.int v :: .int i :: .ref (ad 11) :: st) :=
  V_iast C 11 (by decide) (eX_11 G ad (σ 11)) (hsX (g := upd (σ 11) i.toNatClampNeg v) rfl) hoX rfl hi d e (by rw [← hz] at kk; exact kk)
theorem LX_11 (C : OK wX X G ad own cc nL rm) (d : decode cc pc = .ok (.arraylength, 1)) (e : pc + 1 = q) (kk : V wX X G ad nL Q k n σ q L (.int 12 :: st)) : V wX X G ad nL Q k n σ pc L (.ref (ad 11) :: st) :=
  V_alen C 11 0 (by decide) (eX_11 G ad (σ 11)) (ty := .int) rfl rfl d e kk
theorem RX_12 (C : OK wX X G ad own cc nL rm) {i : Int32} {z : Nat} (hz : i.toNatClampNeg = z) (hi : vp_in i 12) (d : decode cc pc = .ok (.iaload, 1)) (e : pc + 1 = q) (kk : V wX X G ad nL Q k n σ q L (.int (σ 12 z) :: st)) : V wX X G ad nL Q k n σ pc L (.int i :: .ref (ad 12) :: st) :=
  V_iald C 12 (by decide) (eX_12 G ad (σ 12)) rfl hi d e (by rw [hz]; exact kk)
theorem SX_12 (C : OK wX X G ad own cc nL rm) {i v : Int32} {z : Nat} (hz : i.toNatClampNeg = z) (hi : vp_in i 12) (d : decode cc pc = .ok (.iastore, 1)) (e : pc + 1 = q) (kk : V wX X G ad nL Q k n (sup σ 12 z v) q L st) : V wX X G ad nL Q k n σ pc L (.int v :: .int i :: .ref (ad 12) :: st) :=
  V_iast C 12 (by decide) (eX_12 G ad (σ 12)) (hsX (g := upd (σ 12) i.toNatClampNeg v) rfl) hoX rfl hi d e (by rw [← hz] at kk; exact kk)
theorem LX_12 (C : OK wX X G ad own cc nL rm) (d : decode cc pc = .ok (.arraylength, 1)) (e : pc + 1 = q) (kk : V wX X G ad nL Q k n σ q L (.int 12 :: st)) : V wX X G ad nL Q k n σ pc L (.ref (ad 12) :: st) :=
  V_alen C 12 0 (by decide) (eX_12 G ad (σ 12)) (ty := .int) rfl rfl d e kk
theorem RX_13 (C : OK wX X G ad own cc nL rm) {i : Int32} {z : Nat} (hz : i.toNatClampNeg = z) (hi : vp_in i 12) (d : decode cc pc = .ok (.iaload, 1)) (e : pc + 1 = q) (kk : V wX X G ad nL Q k n σ q L (.int (σ 13 z) :: st)) : V wX X G ad nL Q k n σ pc L (.int i :: .ref (ad 13) :: st) :=
  V_iald C 13 (by decide) (eX_13 G ad (σ 13)) rfl hi d e (by rw [hz]; exact kk)
theorem SX_13 (C : OK wX X G ad own cc nL rm) {i v : Int32} {z : Nat} (hz : i.toNatClampNeg = z) (hi : vp_in i 12) (d : decode cc pc = .ok (.iastore, 1)) (e : pc + 1 = q) (kk : V wX X G ad nL Q k n (sup σ 13 z v) q L st) : V wX X G ad nL Q k n σ pc L (.int v :: .int i :: .ref (ad 13) :: st) :=
  V_iast C 13 (by decide) (eX_13 G ad (σ 13)) (hsX (g := upd (σ 13) i.toNatClampNeg v) rfl) hoX rfl hi d e (by rw [← hz] at kk; exact kk)
theorem LX_13 (C : OK wX X G ad own cc nL rm) (d : decode cc pc = .ok (.arraylength, 1)) (e : pc + 1 = q) (kk : V wX X G ad nL Q k n σ q L (.int 12 :: st)) : V wX X G ad nL Q k n σ pc L (.ref (ad 13) :: st) :=
  V_alen C 13 0 (by decide) (eX_13 G ad (σ 13)) (ty := .int) rfl rfl d e kk
theorem RX_14 (C : OK wX X G ad own cc nL rm) {i : Int32} {z : Nat} (hz : i.toNatClampNeg = z) (hi : vp_in i 12) (d : decode cc pc = .ok (.iaload, 1)) (e : pc + 1 = q) (kk : V wX X G ad nL Q k n σ q L (.int (σ 14 z) :: st)) : V wX X G ad nL Q k n σ pc L (.int i :: .ref (ad 14) :: st) :=
  V_iald C 14 (by decide) (eX_14 G ad (σ 14)) rfl hi d e (by rw [hz]; exact kk)
theorem SX_14 (C : OK wX X G ad own cc nL rm) {i v : Int32} {z : Nat} (hz : i.toNatClampNeg = z) (hi : vp_in i 12) (d : decode cc pc = .ok (.iastore, 1)) (e : pc + 1 = q) (kk : V wX X G ad nL Q k n (sup σ 14 z v) q L st) : V wX X G ad nL Q k n σ pc L (.int v :: .int i :: .ref (ad 14) :: st) :=
  V_iast C 14 (by decide) (eX_14 G ad (σ 14)) (hsX (g := upd (σ 14) i.toNatClampNeg v) rfl) hoX rfl hi d e (by rw [← hz] at kk; exact kk)
theorem LX_14 (C : OK wX X G ad own cc nL rm) (d : decode cc pc = .ok (.arraylength, 1)) (e : pc + 1 = q) (kk : V wX X G ad nL Q k n σ q L (.int 12 :: st)) : V wX X G ad nL Q k n σ pc L (.ref (ad 14) :: st) :=
  V_alen C 14 0 (by decide) (eX_14 G ad (σ 14)) (ty := .int) rfl rfl d e kk
theorem RX_15 (C : OK wX X G ad own cc nL rm) {i : Int32} {z : Nat} (hz : i.toNatClampNeg = z) (hi : vp_in i 12) (d : decode cc pc = .ok (.iaload, 1)) (e : pc + 1 = q) (kk : V wX X G ad nL Q k n σ q L (.int (σ 15 z) :: st)) : V wX X G ad nL Q k n σ pc L (.int i :: .ref (ad 15) :: st) :=
  V_iald C 15 (by decide) (eX_15 G ad (σ 15)) rfl hi d e (by rw [hz]; exact kk)
theorem SX_15 (C : OK wX X G ad own cc nL rm) {i v : Int32} {z : Nat} (hz : i.toNatClampNeg = z) (hi : vp_in i 12) (d : decode cc pc = .ok (.iastore, 1)) (e : pc + 1 = q) (kk : V wX X G ad nL Q k n (sup σ 15 z v) q L st) : V wX X G ad nL Q k n σ pc L (.int v :: .int i :: .ref (ad 15) :: st) :=
  V_iast C 15 (by decide) (eX_15 G ad (σ 15)) (hsX (g := upd (σ 15) i.toNatClampNeg v) rfl) hoX rfl hi d e (by rw [← hz] at kk; exact kk)
theorem LX_15 (C : OK wX X G ad own cc nL rm) (d : decode cc pc = .ok (.arraylength, 1)) (e : pc + 1 = q) (kk : V wX X G ad nL Q k n σ q L (.int 12 :: st)) : V wX X G ad nL Q k n σ pc L (.ref (ad 15) :: st) :=
  V_alen C 15 0 (by decide) (eX_15 G ad (σ 15)) (ty := .int) rfl rfl d e kk
theorem RX_16 (C : OK wX X G ad own cc nL rm) {i : Int32} {z : Nat} (hz : i.toNatClampNeg = z) (hi : vp_in i 12) (d : decode cc pc = .ok (.iaload, 1)) (e : pc + 1 = q) (kk : V wX X G ad nL Q k n σ q L (.int (σ 16 z) :: st)) : V wX X G ad nL Q k n σ pc L (.int i :: .ref (ad 16) :: st) :=
  V_iald C 16 (by decide) (eX_16 G ad (σ 16)) rfl hi d e (by rw [hz]; exact kk)
theorem SX_16 (C : OK wX X G ad own cc nL rm) {i v : Int32} {z : Nat} (hz : i.toNatClampNeg = z) (hi : vp_in i 12) (d : decode cc pc = .ok (.iastore, 1)) (e : pc + 1 = q) (kk : V wX X G ad nL Q k n (sup σ 16 z v) q L st) : V wX X G ad nL Q k n σ pc L (.int v :: .int i :: .ref (ad 16) :: st) :=
  V_iast C 16 (by decide) (eX_16 G ad (σ 16)) (hsX (g := upd (σ 16) i.toNatClampNeg v) rfl) hoX rfl hi d e (by rw [← hz] at kk; exact kk)
theorem LX_16 (C : OK wX X G ad own cc nL rm) (d : decode cc pc = .ok (.arraylength, 1)) (e : pc + 1 = q) (kk : V wX X G ad nL Q k n σ q L (.int 12 :: st)) : V wX X G ad nL Q k n σ pc L (.ref (ad 16) :: st) :=
  V_alen C 16 0 (by decide) (eX_16 G ad (σ 16)) (ty := .int) rfl rfl d e kk
theorem RX_17 (C : OK wX X G ad own cc nL rm) {i : Int32} {z : Nat} (hz : i.toNatClampNeg = z) (hi : vp_in i 12) (d : decode cc pc = .ok (.iaload, 1)) (e : pc + 1 = q) (kk : V wX X G ad nL Q k n σ q L (.int (σ 17 z) :: st)) : V wX X G ad nL Q k n σ pc L (.int i :: .ref (ad 17) :: st) :=
  V_iald C 17 (by decide) (eX_17 G ad (σ 17)) rfl hi d e (by rw [hz]; exact kk)
theorem SX_17 (C : OK wX X G ad own cc nL rm) {i v : Int32} {z : Nat} (hz : i.toNatClampNeg = z) (hi : vp_in i 12) (d : decode cc pc = .ok (.iastore, 1)) (e : pc + 1 = q) (kk : V wX X G ad nL Q k n (sup σ 17 z v) q L st) : V wX X G ad nL Q k n σ pc L (.int v :: .int i :: .ref (ad 17) :: st) :=
  V_iast C 17 (by decide) (eX_17 G ad (σ 17)) (hsX (g := upd (σ 17) i.toNatClampNeg v) rfl) hoX rfl hi d e (by rw [← hz] at kk; exact kk)
theorem LX_17 (C : OK wX X G ad own cc nL rm) (d : decode cc pc = .ok (.arraylength, 1)) (e : pc + 1 = q) (kk : V wX X G ad nL Q k n σ q L (.int 12 :: st)) : V wX X G ad nL Q k n σ pc L (.ref (ad 17) :: st) :=
  V_alen C 17 0 (by decide) (eX_17 G ad (σ 17)) (ty := .int) rfl rfl d e kk
theorem RX_18 (C : OK wX X G ad own cc nL rm) {i : Int32} {z : Nat} (hz : i.toNatClampNeg = z) (hi : vp_in i 12) (d : decode cc pc = .ok (.iaload, 1)) (e : pc + 1 = q) (kk : V wX X G ad nL Q k n σ q L (.int (σ 18 z) :: st)) : V wX X G ad nL Q k n σ pc L (.int i :: .ref (ad 18) :: st) :=
  V_iald C 18 (by decide) (eX_18 G ad (σ 18)) rfl hi d e (by rw [hz]; exact kk)
theorem SX_18 (C : OK wX X G ad own cc nL rm) {i v : Int32} {z : Nat} (hz : i.toNatClampNeg = z) (hi : vp_in i 12) (d : decode cc pc = .ok (.iastore, 1)) (e : pc + 1 = q) (kk : V wX X G ad nL Q k n (sup σ 18 z v) q L st) : V wX X G ad nL Q k n σ pc L (.int v :: .int i :: .ref (ad 18) :: st) :=
  V_iast C 18 (by decide) (eX_18 G ad (σ 18)) (hsX (g := upd (σ 18) i.toNatClampNeg v) rfl) hoX rfl hi d e (by rw [← hz] at kk; exact kk)
theorem LX_18 (C : OK wX X G ad own cc nL rm) (d : decode cc pc = .ok (.arraylength, 1)) (e : pc + 1 = q) (kk : V wX X G ad nL Q k n σ q L (.int 12 :: st)) : V wX X G ad nL Q k n σ pc L (.ref (ad 18) :: st) :=
  V_alen C 18 0 (by decide) (eX_18 G ad (σ 18)) (ty := .int) rfl rfl d e kk
theorem RX_19 (C : OK wX X G ad own cc nL rm) {i : Int32} {z : Nat} (hz : i.toNatClampNeg = z) (hi : vp_in i 12) (d : decode cc pc = .ok (.iaload, 1)) (e : pc + 1 = q) (kk : V wX X G ad nL Q k n σ q L (.int (σ 19 z) :: st)) : V wX X G ad nL Q k n σ pc L (.int i :: .ref (ad 19) :: st) :=
  V_iald C 19 (by decide) (eX_19 G ad (σ 19)) rfl hi d e (by rw [hz]; exact kk)
theorem SX_19 (C : OK wX X G ad own cc nL rm) {i v : Int32} {z : Nat} (hz : i.toNatClampNeg = z) (hi : vp_in i 12) (d : decode cc pc = .ok (.iastore, 1)) (e : pc + 1 = q) (kk : V wX X G ad nL Q k n (sup σ 19 z v) q L st) : V wX X G ad nL Q k n σ pc L (.int v :: .int i :: .ref (ad 19) :: st) :=
  V_iast C 19 (by decide) (eX_19 G ad (σ 19)) (hsX (g := upd (σ 19) i.toNatClampNeg v) rfl) hoX rfl hi d e (by rw [← hz] at kk; exact kk)
theorem LX_19 (C : OK wX X G ad own cc nL rm) (d : decode cc pc = .ok (.arraylength, 1)) (e : pc + 1 = q) (kk : V wX X G ad nL Q k n σ q L (.int 12 :: st)) : V wX X G ad nL Q k n σ pc L (.ref (ad 19) :: st) :=
  V_alen C 19 0 (by decide) (eX_19 G ad (σ 19)) (ty := .int) rfl rfl d e kk
theorem RX_20 (C : OK wX X G ad own cc nL rm) {i : Int32} {z : Nat} (hz : i.toNatClampNeg = z) (hi : vp_in i 12) (d : decode cc pc = .ok (.iaload, 1)) (e : pc + 1 = q) (kk : V wX X G ad nL Q k n σ q L (.int (σ 20 z) :: st)) : V wX X G ad nL Q k n σ pc L (.int i :: .ref (ad 20) :: st) :=
  V_iald C 20 (by decide) (eX_20 G ad (σ 20)) rfl hi d e (by rw [hz]; exact kk)
theorem SX_20 (C : OK wX X G ad own cc nL rm) {i v : Int32} {z : Nat} (hz : i.toNatClampNeg = z) (hi : vp_in i 12) (d : decode cc pc = .ok (.iastore, 1)) (e : pc + 1 = q) (kk : V wX X G ad nL Q k n (sup σ 20 z v) q L st) : V wX X G ad nL Q k n σ pc L (.int v :: .int i :: .ref (ad 20) :: st) :=
  V_iast C 20 (by decide) (eX_20 G ad (σ 20)) (hsX (g := upd (σ 20) i.toNatClampNeg v) rfl) hoX rfl hi d e (by rw [← hz] at kk; exact kk)
theorem LX_20 (C : OK wX X G ad own cc nL rm) (d : decode cc pc = .ok (.arraylength, 1)) (e : pc + 1 = q) (kk : V wX X G ad nL Q k n σ q L (.int 12 :: st)) : V wX X G ad nL Q k n σ pc L (.ref (ad 20) :: st) :=
  V_alen C 20 0 (by decide) (eX_20 G ad (σ 20)) (ty := .int) rfl rfl d e kk
theorem RX_21 (C : OK wX X G ad own cc nL rm) {i : Int32} {z : Nat} (hz : i.toNatClampNeg = z) (hi : vp_in i 12) (d : decode cc pc = .ok (.iaload, 1)) (e : pc + 1 = q) (kk : V wX X G ad nL Q k n σ q L (.int (σ 21 z) :: st)) : V wX X G ad nL Q k n σ pc L (.int i :: .ref (ad 21) :: st) :=
  V_iald C 21 (by decide) (eX_21 G ad (σ 21)) rfl hi d e (by rw [hz]; exact kk)
theorem SX_21 (C : OK wX X G ad own cc nL rm) {i v : Int32} {z : Nat} (hz : i.toNatClampNeg = z) (hi : vp_in i 12) (d : decode cc pc = .ok (.iastore, 1)) (e : pc + 1 = q) (kk : V wX X G ad nL Q k n (sup σ 21 z v) q L st) : V wX X G ad nL Q k n σ pc L (.int v :: .int i :: .ref (ad 21) :: st) :=
  V_iast C 21 (by decide) (eX_21 G ad (σ 21)) (hsX (g := upd (σ 21) i.toNatClampNeg v) rfl) hoX rfl hi d e (by rw [← hz] at kk; exact kk)
theorem LX_21 (C : OK wX X G ad own cc nL rm) (d : decode cc pc = .ok (.arraylength, 1)) (e : pc + 1 = q) (kk : V wX X G ad nL Q k n σ q L (.int 12 :: st)) : V wX X G ad nL Q k n σ pc L (.ref (ad 21) :: st) :=
  V_alen C 21 0 (by decide) (eX_21 G ad (σ 21)) (ty := .int) rfl rfl d e kk
theorem RX_22 (C : OK wX X G ad own cc nL rm) {i : Int32} {z : Nat} (hz : i.toNatClampNeg = z) (hi : vp_in i 12) (d : decode cc pc = .ok (.iaload, 1)) (e : pc + 1 = q) (kk : V wX X G ad nL Q k n σ q L (.int (σ 22 z) :: st)) : V wX X G ad nL Q k n σ pc L (.int i :: .ref (ad 22) :: st) :=
  V_iald C 22 (by decide) (eX_22 G ad (σ 22)) rfl hi d e (by rw [hz]; exact kk)
theorem SX_22 (C : OK wX X G ad own cc nL rm) {i v : Int32} {z : Nat} (hz : i.toNatClampNeg = z) (hi : vp_in i 12) (d : decode cc pc = .ok (.iastore, 1)) (e : pc + 1 = q) (kk : V wX X G ad nL Q k n (sup σ 22 z v) q L st) : V wX X G ad nL Q k n σ pc L (.int v :: .int i :: .ref (ad 22) :: st) :=
  V_iast C 22 (by decide) (eX_22 G ad (σ 22)) (hsX (g := upd (σ 22) i.toNatClampNeg v) rfl) hoX rfl hi d e (by rw [← hz] at kk; exact kk)
theorem LX_22 (C : OK wX X G ad own cc nL rm) (d : decode cc pc = .ok (.arraylength, 1)) (e : pc + 1 = q) (kk : V wX X G ad nL Q k n σ q L (.int 12 :: st)) : V wX X G ad nL Q k n σ pc L (.ref (ad 22) :: st) :=
  V_alen C 22 0 (by decide) (eX_22 G ad (σ 22)) (ty := .int) rfl rfl d e kk
theorem RX_23 (C : OK wX X G ad own cc nL rm) {i : Int32} {z : Nat} (hz : i.toNatClampNeg = z) (hi : vp_in i 12) (d : decode cc pc = .ok (.iaload, 1)) (e : pc + 1 = q) (kk : V wX X G ad nL Q k n σ q L (.int (σ 23 z) :: st)) : V wX X G ad nL Q k n σ pc L (.int i :: .ref (ad 23) :: st) :=
  V_iald C 23 (by decide) (eX_23 G ad (σ 23)) rfl hi d e (by rw [hz]; exact kk)
theorem SX_23 (C : OK wX X G ad own cc nL rm) {i v : Int32} {z : Nat} (hz : i.toNatClampNeg = z) (hi : vp_in i 12) (d : decode cc pc = .ok (.iastore, 1)) (e : pc + 1 = q) (kk : V wX X G ad nL Q k n (sup σ 23 z v) q L st) : V wX X G ad nL Q k n σ pc L (.int v :: .int i :: .ref (ad 23) :: st) :=
  V_iast C 23 (by decide) (eX_23 G ad (σ 23)) (hsX (g := upd (σ 23) i.toNatClampNeg v) rfl) hoX rfl hi d e (by rw [← hz] at kk; exact kk)
theorem LX_23 (C : OK wX X G ad own cc nL rm) (d : decode cc pc = .ok (.arraylength, 1)) (e : pc + 1 = q) (kk : V wX X G ad nL Q k n σ q L (.int 12 :: st)) : V wX X G ad nL Q k n σ pc L (.ref (ad 23) :: st) :=
  V_alen C 23 0 (by decide) (eX_23 G ad (σ 23)) (ty := .int) rfl rfl d e kk
theorem RX_24 (C : OK wX X G ad own cc nL rm) {i : Int32} {z : Nat} (hz : i.toNatClampNeg = z) (hi : vp_in i 12) (d : decode cc pc = .ok (.iaload, 1)) (e : pc + 1 = q) (kk : V wX X G ad nL Q k n σ q L (.int (σ 24 z) :: st)) : V wX X G ad nL Q k n σ pc L (.int i :: .ref (ad 24) :: st) :=
  V_iald C 24 (by decide) (eX_24 G ad (σ 24)) rfl hi d e (by rw [hz]; exact kk)
theorem SX_24 (C : OK wX X G ad own cc nL rm) {i v : Int32} {z : Nat} (hz : i.toNatClampNeg = z) (hi : vp_in i 12) (d : decode cc pc = .ok (.iastore, 1)) (e : pc + 1 = q) (kk : V wX X G ad nL Q k n (sup σ 24 z v) q L st) : V wX X G ad nL Q k n σ pc L (.int v :: .int i :: .ref (ad 24) :: st) :=
  V_iast C 24 (by decide) (eX_24 G ad (σ 24)) (hsX (g := upd (σ 24) i.toNatClampNeg v) rfl) hoX rfl hi d e (by rw [← hz] at kk; exact kk)
theorem LX_24 (C : OK wX X G ad own cc nL rm) (d : decode cc pc = .ok (.arraylength, 1)) (e : pc + 1 = q) (kk : V wX X G ad nL Q k n σ q L (.int 12 :: st)) : V wX X G ad nL Q k n σ pc L (.ref (ad 24) :: st) :=
  V_alen C 24 0 (by decide) (eX_24 G ad (σ 24)) (ty := .int) rfl rfl d e kk
theorem RX_25 (C : OK wX X G ad own cc nL rm) {i : Int32} {z : Nat} (hz : i.toNatClampNeg = z) (hi : vp_in i 420) (d : decode cc pc = .ok (.caload, 1)) (e : pc + 1 = q) (kk : V wX X G ad nL Q k n σ q L (.int (σ 25 z) :: st)) : V wX X G ad nL Q k n σ pc L (.int i :: .ref (ad 25) :: st) :=
  V_cald C 25 (by decide) (eX_25 G ad (σ 25)) rfl hi d e (by rw [hz]; exact kk)
theorem SX_25 (C : OK wX X G ad own cc nL rm) {i v : Int32} {z : Nat} (hz : i.toNatClampNeg = z) (hi : vp_in i 420) (d : decode cc pc = .ok (.castore, 1)) (e : pc + 1 = q) (kk : V wX X G ad nL Q k n (sup σ 25 z (vp_nar .char v)) q L st) : V wX X G ad nL Q k n σ pc L (.int v :: .int i :: .ref (ad 25) :: st) :=
  V_cast C 25 (by decide) (eX_25 G ad (σ 25)) (hsX (g := upd (σ 25) i.toNatClampNeg (vp_nar .char v)) rfl) hoX rfl hi d e (by rw [← hz] at kk; exact kk)
theorem LX_25 (C : OK wX X G ad own cc nL rm) (d : decode cc pc = .ok (.arraylength, 1)) (e : pc + 1 = q) (kk : V wX X G ad nL Q k n σ q L (.int 420 :: st)) : V wX X G ad nL Q k n σ pc L (.ref (ad 25) :: st) :=
  V_alen C 25 2 (by decide) (eX_25 G ad (σ 25)) (ty := .char) rfl rfl d e kk
theorem RX_26 (C : OK wX X G ad own cc nL rm) {i : Int32} {z : Nat} (hz : i.toNatClampNeg = z) (hi : vp_in i 420) (d : decode cc pc = .ok (.caload, 1)) (e : pc + 1 = q) (kk : V wX X G ad nL Q k n σ q L (.int (σ 26 z) :: st)) : V wX X G ad nL Q k n σ pc L (.int i :: .ref (ad 26) :: st) :=
  V_cald C 26 (by decide) (eX_26 G ad (σ 26)) rfl hi d e (by rw [hz]; exact kk)
theorem SX_26 (C : OK wX X G ad own cc nL rm) {i v : Int32} {z : Nat} (hz : i.toNatClampNeg = z) (hi : vp_in i 420) (d : decode cc pc = .ok (.castore, 1)) (e : pc + 1 = q) (kk : V wX X G ad nL Q k n (sup σ 26 z (vp_nar .char v)) q L st) : V wX X G ad nL Q k n σ pc L (.int v :: .int i :: .ref (ad 26) :: st) :=
  V_cast C 26 (by decide) (eX_26 G ad (σ 26)) (hsX (g := upd (σ 26) i.toNatClampNeg (vp_nar .char v)) rfl) hoX rfl hi d e (by rw [← hz] at kk; exact kk)
theorem LX_26 (C : OK wX X G ad own cc nL rm) (d : decode cc pc = .ok (.arraylength, 1)) (e : pc + 1 = q) (kk : V wX X G ad nL Q k n σ q L (.int 420 :: st)) : V wX X G ad nL Q k n σ pc L (.ref (ad 26) :: st) :=
  V_alen C 26 2 (by decide) (eX_26 G ad (σ 26)) (ty := .char) rfl rfl d e kk
theorem RX_27 (C : OK wX X G ad own cc nL rm) {i : Int32} {z : Nat} (hz : i.toNatClampNeg = z) (hi : vp_in i 101) (d : decode cc pc = .ok (.iaload, 1)) (e : pc + 1 = q) (kk : V wX X G ad nL Q k n σ q L (.int (σ 27 z) :: st)) : V wX X G ad nL Q k n σ pc L (.int i :: .ref (ad 27) :: st) :=
  V_iald C 27 (by decide) (eX_27 G ad (σ 27)) rfl hi d e (by rw [hz]; exact kk)
theorem SX_27 (C : OK wX X G ad own cc nL rm) {i v : Int32} {z : Nat} (hz : i.toNatClampNeg = z) (hi : vp_in i 101) (d : decode cc pc = .ok (.iastore, 1)) (e : pc + 1 = q) (kk : V wX X G ad nL Q k n (sup σ 27 z v) q L st) : V wX X G ad nL Q k n σ pc L (.int v :: .int i :: .ref (ad 27) :: st) :=
  V_iast C 27 (by decide) (eX_27 G ad (σ 27)) (hsX (g := upd (σ 27) i.toNatClampNeg v) rfl) hoX rfl hi d e (by rw [← hz] at kk; exact kk)
theorem LX_27 (C : OK wX X G ad own cc nL rm) (d : decode cc pc = .ok (.arraylength, 1)) (e : pc + 1 = q) (kk : V wX X G ad nL Q k n σ q L (.int 101 :: st)) : V wX X G ad nL Q k n σ pc L (.ref (ad 27) :: st) :=
  V_alen C 27 0 (by decide) (eX_27 G ad (σ 27)) (ty := .int) rfl rfl d e kk
theorem RX_28 (C : OK wX X G ad own cc nL rm) {i : Int32} {z : Nat} (hz : i.toNatClampNeg = z) (hi : vp_in i 12) (d : decode cc pc = .ok (.iaload, 1)) (e : pc + 1 = q) (kk : V wX X G ad nL Q k n σ q L (.int (σ 28 z) :: st)) : V wX X G ad nL Q k n σ pc L (.int i :: .ref (ad 28) :: st) :=
  V_iald C 28 (by decide) (eX_28 G ad (σ 28)) rfl hi d e (by rw [hz]; exact kk)
theorem SX_28 (C : OK wX X G ad own cc nL rm) {i v : Int32} {z : Nat} (hz : i.toNatClampNeg = z) (hi : vp_in i 12) (d : decode cc pc = .ok (.iastore, 1)) (e : pc + 1 = q) (kk : V wX X G ad nL Q k n (sup σ 28 z v) q L st) : V wX X G ad nL Q k n σ pc L (.int v :: .int i :: .ref (ad 28) :: st) :=
  V_iast C 28 (by decide) (eX_28 G ad (σ 28)) (hsX (g := upd (σ 28) i.toNatClampNeg v) rfl) hoX rfl hi d e (by rw [← hz] at kk; exact kk)
theorem LX_28 (C : OK wX X G ad own cc nL rm) (d : decode cc pc = .ok (.arraylength, 1)) (e : pc + 1 = q) (kk : V wX X G ad nL Q k n σ q L (.int 12 :: st)) : V wX X G ad nL Q k n σ pc L (.ref (ad 28) :: st) :=
  V_alen C 28 0 (by decide) (eX_28 G ad (σ 28)) (ty := .int) rfl rfl d e kk
theorem RX_29 (C : OK wX X G ad own cc nL rm) {i : Int32} {z : Nat} (hz : i.toNatClampNeg = z) (hi : vp_in i 12) (d : decode cc pc = .ok (.iaload, 1)) (e : pc + 1 = q) (kk : V wX X G ad nL Q k n σ q L (.int (σ 29 z) :: st)) : V wX X G ad nL Q k n σ pc L (.int i :: .ref (ad 29) :: st) :=
  V_iald C 29 (by decide) (eX_29 G ad (σ 29)) rfl hi d e (by rw [hz]; exact kk)
theorem SX_29 (C : OK wX X G ad own cc nL rm) {i v : Int32} {z : Nat} (hz : i.toNatClampNeg = z) (hi : vp_in i 12) (d : decode cc pc = .ok (.iastore, 1)) (e : pc + 1 = q) (kk : V wX X G ad nL Q k n (sup σ 29 z v) q L st) : V wX X G ad nL Q k n σ pc L (.int v :: .int i :: .ref (ad 29) :: st) :=
  V_iast C 29 (by decide) (eX_29 G ad (σ 29)) (hsX (g := upd (σ 29) i.toNatClampNeg v) rfl) hoX rfl hi d e (by rw [← hz] at kk; exact kk)
theorem LX_29 (C : OK wX X G ad own cc nL rm) (d : decode cc pc = .ok (.arraylength, 1)) (e : pc + 1 = q) (kk : V wX X G ad nL Q k n σ q L (.int 12 :: st)) : V wX X G ad nL Q k n σ pc L (.ref (ad 29) :: st) :=
  V_alen C 29 0 (by decide) (eX_29 G ad (σ 29)) (ty := .int) rfl rfl d e kk
theorem RX_30 (C : OK wX X G ad own cc nL rm) {i : Int32} {z : Nat} (hz : i.toNatClampNeg = z) (hi : vp_in i 12) (d : decode cc pc = .ok (.iaload, 1)) (e : pc + 1 = q) (kk : V wX X G ad nL Q k n σ q L (.int (σ 30 z) :: st)) : V wX X G ad nL Q k n σ pc L (.int i :: .ref (ad 30) :: st) :=
  V_iald C 30 (by decide) (eX_30 G ad (σ 30)) rfl hi d e (by rw [hz]; exact kk)
theorem SX_30 (C : OK wX X G ad own cc nL rm) {i v : Int32} {z : Nat} (hz : i.toNatClampNeg = z) (hi : vp_in i 12) (d : decode cc pc = .ok (.iastore, 1)) (e : pc + 1 = q) (kk : V wX X G ad nL Q k n (sup σ 30 z v) q L st) : V wX X G ad nL Q k n σ pc L (.int v :: .int i :: .ref (ad 30) :: st) :=
  V_iast C 30 (by decide) (eX_30 G ad (σ 30)) (hsX (g := upd (σ 30) i.toNatClampNeg v) rfl) hoX rfl hi d e (by rw [← hz] at kk; exact kk)
theorem LX_30 (C : OK wX X G ad own cc nL rm) (d : decode cc pc = .ok (.arraylength, 1)) (e : pc + 1 = q) (kk : V wX X G ad nL Q k n σ q L (.int 12 :: st)) : V wX X G ad nL Q k n σ pc L (.ref (ad 30) :: st) :=
  V_alen C 30 0 (by decide) (eX_30 G ad (σ 30)) (ty := .int) rfl rfl d e kk
theorem RX_31 (C : OK wX X G ad own cc nL rm) {i : Int32} {z : Nat} (hz : i.toNatClampNeg = z) (hi : vp_in i 101) (d : decode cc pc = .ok (.iaload, 1)) (e : pc + 1 = q) (kk : V wX X G ad nL Q k n σ q L (.int (σ 31 z) :: st)) : V wX X G ad nL Q k n σ pc L (.int i :: .ref (ad 31) :: st) :=
  V_iald C 31 (by decide) (eX_31 G ad (σ 31)) rfl hi d e (by rw [hz]; exact kk)
theorem SX_31 (C : OK wX X G ad own cc nL rm) {i v : Int32} {z : Nat} (hz : i.toNatClampNeg = z) (hi : vp_in i 101) (d : decode cc pc = .ok (.iastore, 1)) (e : pc + 1 = q) (kk : V wX X G ad nL Q k n (sup σ 31 z v) q L st) : V wX X G ad nL Q k n σ pc L (.int v :: .int i :: .ref (ad 31) :: st) :=
  V_iast C 31 (by decide) (eX_31 G ad (σ 31)) (hsX (g := upd (σ 31) i.toNatClampNeg v) rfl) hoX rfl hi d e (by rw [← hz] at kk; exact kk)
theorem LX_31 (C : OK wX X G ad own cc nL rm) (d : decode cc pc = .ok (.arraylength, 1)) (e : pc + 1 = q) (kk : V wX X G ad nL Q k n σ q L (.int 101 :: st)) : V wX X G ad nL Q k n σ pc L (.ref (ad 31) :: st) :=
  V_alen C 31 0 (by decide) (eX_31 G ad (σ 31)) (ty := .int) rfl rfl d e kk
theorem RX_32 (C : OK wX X G ad own cc nL rm) {i : Int32} {z : Nat} (hz : i.toNatClampNeg = z) (hi : vp_in i 12) (d : decode cc pc = .ok (.iaload, 1)) (e : pc + 1 = q) (kk : V wX X G ad nL Q k n σ q L (.int (σ 32 z) :: st)) : V wX X G ad nL Q k n σ pc L (.int i :: .ref (ad 32) :: st) :=
  V_iald C 32 (by decide) (eX_32 G ad (σ 32)) rfl hi d e (by rw [hz]; exact kk)
theorem SX_32 (C : OK wX X G ad own cc nL rm) {i v : Int32} {z : Nat} (hz : i.toNatClampNeg = z) (hi : vp_in i 12) (d : decode cc pc = .ok (.iastore, 1)) (e : pc + 1 = q) (kk : V wX X G ad nL Q k n (sup σ 32 z v) q L st) : V wX X G ad nL Q k n σ pc L (.int v :: .int i :: .ref (ad 32) :: st) :=
  V_iast C 32 (by decide) (eX_32 G ad (σ 32)) (hsX (g := upd (σ 32) i.toNatClampNeg v) rfl) hoX rfl hi d e (by rw [← hz] at kk; exact kk)
theorem LX_32 (C : OK wX X G ad own cc nL rm) (d : decode cc pc = .ok (.arraylength, 1)) (e : pc + 1 = q) (kk : V wX X G ad nL Q k n σ q L (.int 12 :: st)) : V wX X G ad nL Q k n σ pc L (.ref (ad 32) :: st) :=
  V_alen C 32 0 (by decide) (eX_32 G ad (σ 32)) (ty := .int) rfl rfl d e kk
theorem RX_33 (C : OK wX X G ad own cc nL rm) {i : Int32} {z : Nat} (hz : i.toNatClampNeg = z) (hi : vp_in i 12) (d : decode cc pc = .ok (.iaload, 1)) (e : pc + 1 = q) (kk : V wX X G ad nL Q k n σ q L (.int (σ 33 z) :: st)) : V wX X G ad nL Q k n σ pc L (.int i :: .ref (ad 33) :: st) :=
  V_iald C 33 (by decide) (eX_33 G ad (σ 33)) rfl hi d e (by rw [hz]; exact kk)
theorem SX_33 (C : OK wX X G ad own cc nL rm) {i v : Int32} {z : Nat} (hz : i.toNatClampNeg = z) (hi : vp_in i 12) (d : decode cc pc = .ok (.iastore, 1)) (e : pc + 1 = q) (kk : V wX X G ad nL Q k n (sup σ 33 z v) q L st) : V wX X G ad nL Q k n σ pc L (.int v :: .int i :: .ref (ad 33) :: st) :=
  V_iast C 33 (by decide) (eX_33 G ad (σ 33)) (hsX (g := upd (σ 33) i.toNatClampNeg v) rfl) hoX rfl hi d e (by rw [← hz] at kk; exact kk)
theorem LX_33 (C : OK wX X G ad own cc nL rm) (d : decode cc pc = .ok (.arraylength, 1)) (e : pc + 1 = q) (kk : V wX X G ad nL Q k n σ q L (.int 12 :: st)) : V wX X G ad nL Q k n σ pc L (.ref (ad 33) :: st) :=
  V_alen C 33 0 (by decide) (eX_33 G ad (σ 33)) (ty := .int) rfl rfl d e kk
theorem RX_34 (C : OK wX X G ad own cc nL rm) {i : Int32} {z : Nat} (hz : i.toNatClampNeg = z) (hi : vp_in i 12) (d : decode cc pc = .ok (.iaload, 1)) (e : pc + 1 = q) (kk : V wX X G ad nL Q k n σ q L (.int (σ 34 z) :: st)) : V wX X G ad nL Q k n σ pc L (.int i :: .ref (ad 34) :: st) :=
  V_iald C 34 (by decide) (eX_34 G ad (σ 34)) rfl hi d e (by rw [hz]; exact kk)
theorem SX_34 (C : OK wX X G ad own cc nL rm) {i v : Int32} {z : Nat} (hz : i.toNatClampNeg = z) (hi : vp_in i 12) (d : decode cc pc = .ok (.iastore, 1)) (e : pc + 1 = q) (kk : V wX X G ad nL Q k n (sup σ 34 z v) q L st) : V wX X G ad nL Q k n σ pc L (.int v :: .int i :: .ref (ad 34) :: st) :=
  V_iast C 34 (by decide) (eX_34 G ad (σ 34)) (hsX (g := upd (σ 34) i.toNatClampNeg v) rfl) hoX rfl hi d e (by rw [← hz] at kk; exact kk)
theorem LX_34 (C : OK wX X G ad own cc nL rm) (d : decode cc pc = .ok (.arraylength, 1)) (e : pc + 1 = q) (kk : V wX X G ad nL Q k n σ q L (.int 12 :: st)) : V wX X G ad nL Q k n σ pc L (.ref (ad 34) :: st) :=
  V_alen C 34 0 (by decide) (eX_34 G ad (σ 34)) (ty := .int) rfl rfl d e kk
theorem RX_35 (C : OK wX X G ad own cc nL rm) {i : Int32} {z : Nat} (hz : i.toNatClampNeg = z) (hi : vp_in i 12) (d : decode cc pc = .ok (.iaload, 1)) (e : pc + 1 = q) (kk : V wX X G ad nL Q k n σ q L (.int (σ 35 z) :: st)) : V wX X G ad nL Q k n σ pc L (.int i :: .ref (ad 35) :: st) :=
  V_iald C 35 (by decide) (eX_35 G ad (σ 35)) rfl hi d e (by rw [hz]; exact kk)
theorem SX_35 (C : OK wX X G ad own cc nL rm) {i v : Int32} {z : Nat} (hz : i.toNatClampNeg = z) (hi : vp_in i 12) (d : decode cc pc = .ok (.iastore, 1)) (e : pc + 1 = q) (kk : V wX X G ad nL Q k n (sup σ 35 z v) q L st) : V wX X G ad nL Q k n σ pc L (.int v :: .int i :: .ref (ad 35) :: st) :=
  V_iast C 35 (by decide) (eX_35 G ad (σ 35)) (hsX (g := upd (σ 35) i.toNatClampNeg v) rfl) hoX rfl hi d e (by rw [← hz] at kk; exact kk)
theorem LX_35 (C : OK wX X G ad own cc nL rm) (d : decode cc pc = .ok (.arraylength, 1)) (e : pc + 1 = q) (kk : V wX X G ad nL Q k n σ q L (.int 12 :: st)) : V wX X G ad nL Q k n σ pc L (.ref (ad 35) :: st) :=
  V_alen C 35 0 (by decide) (eX_35 G ad (σ 35)) (ty := .int) rfl rfl d e kk
theorem AX_36 (C : OK wX X G ad own cc nL rm) {i : Int32} {z : Nat} (hz : 41 + i.toNatClampNeg = z) (hi : vp_in i 12) (d : decode cc pc = .ok (.aaload, 1)) (e : pc + 1 = q) (kk : V wX X G ad nL Q k n σ q L (.ref (ad z) :: st)) : V wX X G ad nL Q k n σ pc L (.int i :: .ref (ad 36) :: st) :=
  V_aald C 36 (by decide) (eX_36 G ad (σ 36)) hi (by rw [← hz]; exact if_pos (Nat.not_le.mp fun h => hi (Or.inr h))) d e kk
theorem AX_37 (C : OK wX X G ad own cc nL rm) {i : Int32} {z : Nat} (hz : 53 + i.toNatClampNeg = z) (hi : vp_in i 12) (d : decode cc pc = .ok (.aaload, 1)) (e : pc + 1 = q) (kk : V wX X G ad nL Q k n σ q L (.ref (ad z) :: st)) : V wX X G ad nL Q k n σ pc L (.int i :: .ref (ad 37) :: st) :=
  V_aald C 37 (by decide) (eX_37 G ad (σ 37)) hi (by rw [← hz]; exact if_pos (Nat.not_le.mp fun h => hi (Or.inr h))) d e kk
theorem AX_38 (C : OK wX X G ad own cc nL rm) {i : Int32} {z : Nat} (hz : 65 + i.toNatClampNeg = z) (hi : vp_in i 12) (d : decode cc pc = .ok (.aaload, 1)) (e : pc + 1 = q) (kk : V wX X G ad nL Q k n σ q L (.ref (ad z) :: st)) : V wX X G ad nL Q k n σ pc L (.int i :: .ref (ad 38) :: st) :=
  V_aald C 38 (by decide) (eX_38 G ad (σ 38)) hi (by rw [← hz]; exact if_pos (Nat.not_le.mp fun h => hi (Or.inr h))) d e kk
theorem RX_39 (C : OK wX X G ad own cc nL rm) {i : Int32} {z : Nat} (hz : i.toNatClampNeg = z) (hi : vp_in i 4096) (d : decode cc pc = .ok (.iaload, 1)) (e : pc + 1 = q) (kk : V wX X G ad nL Q k n σ q L (.int (σ 39 z) :: st)) : V wX X G ad nL Q k n σ pc L (.int i :: .ref (ad 39) :: st) :=
  V_iald C 39 (by decide) (eX_39 G ad (σ 39)) rfl hi d e (by rw [hz]; exact kk)
theorem SX_39 (C : OK wX X G ad own cc nL rm) {i v : Int32} {z : Nat} (hz : i.toNatClampNeg = z) (hi : vp_in i 4096) (d : decode cc pc = .ok (.iastore, 1)) (e : pc + 1 = q) (kk : V wX X G ad nL Q k n (sup σ 39 z v) q L st) : V wX X G ad nL Q k n σ pc L (.int v :: .int i :: .ref (ad 39) :: st) :=
  V_iast C 39 (by decide) (eX_39 G ad (σ 39)) (hsX (g := upd (σ 39) i.toNatClampNeg v) rfl) hoX rfl hi d e (by rw [← hz] at kk; exact kk)
theorem LX_39 (C : OK wX X G ad own cc nL rm) (d : decode cc pc = .ok (.arraylength, 1)) (e : pc + 1 = q) (kk : V wX X G ad nL Q k n σ q L (.int 4096 :: st)) : V wX X G ad nL Q k n σ pc L (.ref (ad 39) :: st) :=
  V_alen C 39 0 (by decide) (eX_39 G ad (σ 39)) (ty := .int) rfl rfl d e kk
theorem RX_40 (C : OK wX X G ad own cc nL rm) {i : Int32} {z : Nat} (hz : i.toNatClampNeg = z) (hi : vp_in i 4096) (d : decode cc pc = .ok (.iaload, 1)) (e : pc + 1 = q) (kk : V wX X G ad nL Q k n σ q L (.int (σ 40 z) :: st)) : V wX X G ad nL Q k n σ pc L (.int i :: .ref (ad 40) :: st) :=
  V_iald C 40 (by decide) (eX_40 G ad (σ 40)) rfl hi d e (by rw [hz]; exact kk)
theorem SX_40 (C : OK wX X G ad own cc nL rm) {i v : Int32} {z : Nat} (hz : i.toNatClampNeg = z) (hi : vp_in i 4096) (d : decode cc pc = .ok (.iastore, 1)) (e : pc + 1 = q) (kk : V wX X G ad nL Q k n (sup σ 40 z v) q L st) : V wX X G ad nL Q k n σ pc L (.int v :: .int i :: .ref (ad 40) :: st) :=
  V_iast C 40 (by decide) (eX_40 G ad (σ 40)) (hsX (g := upd (σ 40) i.toNatClampNeg v) rfl) hoX rfl hi d e (by rw [← hz] at kk; exact kk)
theorem LX_40 (C : OK wX X G ad own cc nL rm) (d : decode cc pc = .ok (.arraylength, 1)) (e : pc + 1 = q) (kk : V wX X G ad nL Q k n σ q L (.int 4096 :: st)) : V wX X G ad nL Q k n σ pc L (.ref (ad 40) :: st) :=
  V_alen C 40 0 (by decide) (eX_40 G ad (σ 40)) (ty := .int) rfl rfl d e kk
theorem RXr0 (C : OK wX X G ad own cc nL rm) {j : Nat} (h1 : 41 ≤ j) (h2 : j < 53) {i : Int32} {z : Nat} (hz : i.toNatClampNeg = z) (hi : vp_in i 12) (d : decode cc pc = .ok (.iaload, 1)) (e : pc + 1 = q) (kk : V wX X G ad nL Q k n σ q L (.int (σ j z) :: st)) : V wX X G ad nL Q k n σ pc L (.int i :: .ref (ad j) :: st) :=
  V_iald C j (Nat.lt_of_lt_of_le h2 (by decide)) (eXr0 h1 h2) rfl hi d e (by rw [hz]; exact kk)
theorem SXr0 (C : OK wX X G ad own cc nL rm) {j : Nat} (h1 : 41 ≤ j) (h2 : j < 53) {i v : Int32} {z : Nat} (hz : i.toNatClampNeg = z) (hi : vp_in i 12) (d : decode cc pc = .ok (.iastore, 1)) (e : pc + 1 = q) (kk : V wX X G ad nL Q k n (sup σ j z v) q L st) : V wX X G ad nL Q k n σ pc L (.int v :: .int i :: .ref (ad j) :: st) :=
  V_iast C j (Nat.lt_of_lt_of_le h2 (by decide)) (eXr0 h1 h2) (hsX (g := upd (σ j) i.toNatClampNeg v) (eXr0 h1 h2)) hoX rfl hi d e (by rw [← hz] at kk; exact kk)
theorem LXr0 (C : OK wX X G ad own cc nL rm) {j : Nat} (h1 : 41 ≤ j) (h2 : j < 53) (d : decode cc pc = .ok (.arraylength, 1)) (e : pc + 1 = q) (kk : V wX X G ad nL Q k n σ q L (.int 12 :: st)) : V wX X G ad nL Q k n σ pc L (.ref (ad j) :: st) :=
  V_alen C j 0 (Nat.lt_of_lt_of_le h2 (by decide)) (eXr0 h1 h2) (ty := .int) rfl rfl d e kk
theorem hXr0 {i : Int32} (hi : vp_in i 12) : 41 ≤ 41 + i.toNatClampNeg ∧ 41 + i.toNatClampNeg < 53 := ⟨Nat.le_add_right _ _, by have := Nat.not_le.mp fun h => hi (Or.inr h); omega⟩
theorem RXr1 (C : OK wX X G ad own cc nL rm) {j : Nat} (h1 : 53 ≤ j) (h2 : j < 65) {i : Int32} {z : Nat} (hz : i.toNatClampNeg = z) (hi : vp_in i 8) (d : decode cc pc = .ok (.iaload, 1)) (e : pc + 1 = q) (kk : V wX X G ad nL Q k n σ q L (.int (σ j z) :: st)) : V wX X G ad nL Q k n σ pc L (.int i :: .ref (ad j) :: st) :=
  V_iald C j (Nat.lt_of_lt_of_le h2 (by decide)) (eXr1 h1 h2) rfl hi d e (by rw [hz]; exact kk)
theorem SXr1 (C : OK wX X G ad own cc nL rm) {j : Nat} (h1 : 53 ≤ j) (h2 : j < 65) {i v : Int32} {z : Nat} (hz : i.toNatClampNeg = z) (hi : vp_in i 8) (d : decode cc pc = .ok (.iastore, 1)) (e : pc + 1 = q) (kk : V wX X G ad nL Q k n (sup σ j z v) q L st) : V wX X G ad nL Q k n σ pc L (.int v :: .int i :: .ref (ad j) :: st) :=
  V_iast C j (Nat.lt_of_lt_of_le h2 (by decide)) (eXr1 h1 h2) (hsX (g := upd (σ j) i.toNatClampNeg v) (eXr1 h1 h2)) hoX rfl hi d e (by rw [← hz] at kk; exact kk)
theorem LXr1 (C : OK wX X G ad own cc nL rm) {j : Nat} (h1 : 53 ≤ j) (h2 : j < 65) (d : decode cc pc = .ok (.arraylength, 1)) (e : pc + 1 = q) (kk : V wX X G ad nL Q k n σ q L (.int 8 :: st)) : V wX X G ad nL Q k n σ pc L (.ref (ad j) :: st) :=
  V_alen C j 0 (Nat.lt_of_lt_of_le h2 (by decide)) (eXr1 h1 h2) (ty := .int) rfl rfl d e kk
theorem hXr1 {i : Int32} (hi : vp_in i 12) : 53 ≤ 53 + i.toNatClampNeg ∧ 53 + i.toNatClampNeg < 65 := ⟨Nat.le_add_right _ _, by have := Nat.not_le.mp fun h => hi (Or.inr h); omega⟩
theorem RXr2 (C : OK wX X G ad own cc nL rm) {j : Nat} (h1 : 65 ≤ j) (h2 : j < 77) {i : Int32} {z : Nat} (hz : i.toNatClampNeg = z) (hi : vp_in i 8) (d : decode cc pc = .ok (.iaload, 1)) (e : pc + 1 = q) (kk : V wX X G ad nL Q k n σ q L (.int (σ j z) :: st)) : V wX X G ad nL Q k n σ pc L (.int i :: .ref (ad j) :: st) :=
  V_iald C j (Nat.lt_of_lt_of_le h2 (by decide)) (eXr2 h1 h2) rfl hi d e (by rw [hz]; exact kk)
theorem SXr2 (C : OK wX X G ad own cc nL rm) {j : Nat} (h1 : 65 ≤ j) (h2 : j < 77) {i v : Int32} {z : Nat} (hz : i.toNatClampNeg = z) (hi : vp_in i 8) (d : decode cc pc = .ok (.iastore, 1)) (e : pc + 1 = q) (kk : V wX X G ad nL Q k n (sup σ j z v) q L st) : V wX X G ad nL Q k n σ pc L (.int v :: .int i :: .ref (ad j) :: st) :=
  V_iast C j (Nat.lt_of_lt_of_le h2 (by decide)) (eXr2 h1 h2) (hsX (g := upd (σ j) i.toNatClampNeg v) (eXr2 h1 h2)) hoX rfl hi d e (by rw [← hz] at kk; exact kk)
theorem LXr2 (C : OK wX X G ad own cc nL rm) {j : Nat} (h1 : 65 ≤ j) (h2 : j < 77) (d : decode cc pc = .ok (.arraylength, 1)) (e : pc + 1 = q) (kk : V wX X G ad nL Q k n σ q L (.int 8 :: st)) : V wX X G ad nL Q k n σ pc L (.ref (ad j) :: st) :=
  V_alen C j 0 (Nat.lt_of_lt_of_le h2 (by decide)) (eXr2 h1 h2) (ty := .int) rfl rfl d e kk
theorem hXr2 {i : Int32} (hi : vp_in i 12) : 65 ≤ 65 + i.toNatClampNeg ∧ 65 + i.toNatClampNeg < 77 := ⟨Nat.le_add_right _ _, by have := Nat.not_le.mp fun h => hi (Or.inr h); omega⟩
def shM (G : Gx) (ad : Nat → Nat) (f : Nat → Int32) : List va_E := [.inr (7, [.int (f 0), .ref (ad 1), .ref (ad 2), .int (f 3), .ref (ad 3), .ref (ad 4), .ref (ad 5), .int (f 7), .int (f 8), .int (f 9), .int (f 10), .ref (ad 6), .int (f 12), .ref (ad 7), .int (f 14), .ref (ad 8), .ref (ad 9)]),
  .inl (G.2.1, 2764, .inl f),
  .inl (G.2.1, 2764, .inl f),
  .inl (G.2.1, 40, .inl f),
  .inl (G.2.1, 12, .inl f),
  .inl (G.2.1, 12, .inl f),
  .inl (G.2.1, 700, .inl f),
  .inl (G.2.2.1, 13, .inr (.inr (.inr (.inr (fun i => if i < 13 then some (ad (10 + i)) else none))))),
  .inl (G.2.1, 12, .inl f),
  .inl (G.2.1, 12, .inl f)]
def shpM (G : Gx) (ad : Nat → Nat) (j : Nat) (f : Nat → Int32) : va_E := if j < 10 then (shM G ad f).getD j (.inr (0, [])) else .inl (G.2.1, 12, .inl f)
def wM : Wd Sg := (23, fun G ad j σ => shpM G ad j (σ j))
theorem hoM {j : Nat} {g : Nat → Int32} : ∀ i, i < wM.1 → i ≠ j → wM.2 G ad i (sst σ j g) = wM.2 G ad i σ := fun i _ h => by
  show shpM G ad i (sst σ j g i) = shpM G ad i (σ i)
  rw [sst_ne h]
theorem hsM {j : Nat} {g : Nat → Int32} {e : va_E} (h : shpM G ad j g = e) : wM.2 G ad j (sst σ j g) = e := by
  show shpM G ad j (sst σ j g j) = e
  rw [sst_self]
  exact h
theorem eM_0 (G : Gx) (ad : Nat → Nat) (f : Nat → Int32) : shpM G ad 0 f = .inr (7, [.int (f 0), .ref (ad 1), .ref (ad 2), .int (f 3), .ref (ad 3), .ref (ad 4), .ref (ad 5), .int (f 7), .int (f 8), .int (f 9), .int (f 10), .ref (ad 6), .int (f 12), .ref (ad 7), .int (f 14), .ref (ad 8), .ref (ad 9)]) := rfl
theorem eM_1 (G : Gx) (ad : Nat → Nat) (f : Nat → Int32) : shpM G ad 1 f = .inl (G.2.1, 2764, .inl f) := rfl
theorem eM_2 (G : Gx) (ad : Nat → Nat) (f : Nat → Int32) : shpM G ad 2 f = .inl (G.2.1, 2764, .inl f) := rfl
theorem eM_3 (G : Gx) (ad : Nat → Nat) (f : Nat → Int32) : shpM G ad 3 f = .inl (G.2.1, 40, .inl f) := rfl
theorem eM_4 (G : Gx) (ad : Nat → Nat) (f : Nat → Int32) : shpM G ad 4 f = .inl (G.2.1, 12, .inl f) := rfl
theorem eM_5 (G : Gx) (ad : Nat → Nat) (f : Nat → Int32) : shpM G ad 5 f = .inl (G.2.1, 12, .inl f) := rfl
theorem eM_6 (G : Gx) (ad : Nat → Nat) (f : Nat → Int32) : shpM G ad 6 f = .inl (G.2.1, 700, .inl f) := rfl
theorem eM_7 (G : Gx) (ad : Nat → Nat) (f : Nat → Int32) : shpM G ad 7 f = .inl (G.2.2.1, 13, .inr (.inr (.inr (.inr (fun i => if i < 13 then some (ad (10 + i)) else none))))) := rfl
theorem eM_8 (G : Gx) (ad : Nat → Nat) (f : Nat → Int32) : shpM G ad 8 f = .inl (G.2.1, 12, .inl f) := rfl
theorem eM_9 (G : Gx) (ad : Nat → Nat) (f : Nat → Int32) : shpM G ad 9 f = .inl (G.2.1, 12, .inl f) := rfl
theorem eMr0 {G : Gx} {ad : Nat → Nat} {f : Nat → Int32} {j : Nat} (h1 : 10 ≤ j) (h2 : j < 23) : shpM G ad j f = .inl (G.2.1, 12, .inl f) := by
  unfold shpM
  rw [if_neg (by omega)]
theorem GM_0_0 (C : OK wM X G ad own cc nL rm) {index : Nat} (hq : Cond.fieldLink own index "SpectrumReallocatorModel" "thrown" "I" ∈ lw_tbl) (d : decode cc pc = .ok (.getfield index, 3)) (e : pc + 3 = q) (kk : V wM X G ad nL Q k n σ q L (.int (σ 0 0) :: st)) : V wM X G ad nL Q k n σ pc L (.ref (ad 0) :: st) :=
  V_get C 0 (by decide) (eM_0 G ad (σ 0)) rfl inX7 goX7 0 (by decide) hq rfl d e kk
theorem PM_0_0 (C : OK wM X G ad own cc nL rm) {index : Nat} {v : Int32} (hq : Cond.fieldLink own index "SpectrumReallocatorModel" "thrown" "I" ∈ lw_tbl) (d : decode cc pc = .ok (.putfield index, 3)) (e : pc + 3 = q) (kk : V wM X G ad nL Q k n (sup σ 0 0 v) q L st) : V wM X G ad nL Q k n σ pc L (.int v :: .ref (ad 0) :: st) :=
  V_put C 0 0 (by decide) (eM_0 G ad (σ 0)) (hsM (g := upd (σ 0) 0 v) rfl) hoM rfl inX7 goX7 tyX7 tyX7_ok nmX7 (by decide) rfl (ty := .int) rfl rfl rfl (Nat.le_of_ble_eq_true rfl) hq d e kk
theorem GM_0_1 (C : OK wM X G ad own cc nL rm) {index : Nat} (hq : Cond.fieldLink own index "SpectrumReallocatorModel" "now" "[I" ∈ lw_tbl) (d : decode cc pc = .ok (.getfield index, 3)) (e : pc + 3 = q) (kk : V wM X G ad nL Q k n σ q L (.ref (ad 1) :: st)) : V wM X G ad nL Q k n σ pc L (.ref (ad 0) :: st) :=
  V_get C 0 (by decide) (eM_0 G ad (σ 0)) rfl inX7 goX7 1 (by decide) hq rfl d e kk
theorem GM_0_2 (C : OK wM X G ad own cc nL rm) {index : Nat} (hq : Cond.fieldLink own index "SpectrumReallocatorModel" "saved" "[I" ∈ lw_tbl) (d : decode cc pc = .ok (.getfield index, 3)) (e : pc + 3 = q) (kk : V wM X G ad nL Q k n σ q L (.ref (ad 2) :: st)) : V wM X G ad nL Q k n σ pc L (.ref (ad 0) :: st) :=
  V_get C 0 (by decide) (eM_0 G ad (σ 0)) rfl inX7 goX7 2 (by decide) hq rfl d e kk
theorem GM_0_3 (C : OK wM X G ad own cc nL rm) {index : Nat} (hq : Cond.fieldLink own index "SpectrumReallocatorModel" "isSaved" "Z" ∈ lw_tbl) (d : decode cc pc = .ok (.getfield index, 3)) (e : pc + 3 = q) (kk : V wM X G ad nL Q k n σ q L (.int (σ 0 3) :: st)) : V wM X G ad nL Q k n σ pc L (.ref (ad 0) :: st) :=
  V_get C 0 (by decide) (eM_0 G ad (σ 0)) rfl inX7 goX7 3 (by decide) hq rfl d e kk
theorem PM_0_3 (C : OK wM X G ad own cc nL rm) {index : Nat} {v : Int32} (hv : v = 0 ∨ v = 1) (hq : Cond.fieldLink own index "SpectrumReallocatorModel" "isSaved" "Z" ∈ lw_tbl) (d : decode cc pc = .ok (.putfield index, 3)) (e : pc + 3 = q) (kk : V wM X G ad nL Q k n (sup σ 0 3 v) q L st) : V wM X G ad nL Q k n σ pc L (.int v :: .ref (ad 0) :: st) :=
  V_put C 0 3 (by decide) (eM_0 G ad (σ 0)) (hsM (g := upd (σ 0) 3 v) rfl) hoM rfl inX7 goX7 tyX7 tyX7_ok nmX7 (by decide) rfl (ty := .boolean) rfl (by rcases hv with h | h <;> subst h <;> decide) (by rcases hv with h | h <;> subst h <;> decide) (Nat.le_of_ble_eq_true rfl) hq d e kk
theorem GM_0_4 (C : OK wM X G ad own cc nL rm) {index : Nat} (hq : Cond.fieldLink own index "SpectrumReallocatorModel" "buffer" "[I" ∈ lw_tbl) (d : decode cc pc = .ok (.getfield index, 3)) (e : pc + 3 = q) (kk : V wM X G ad nL Q k n σ q L (.ref (ad 3) :: st)) : V wM X G ad nL Q k n σ pc L (.ref (ad 0) :: st) :=
  V_get C 0 (by decide) (eM_0 G ad (σ 0)) rfl inX7 goX7 4 (by decide) hq rfl d e kk
theorem GM_0_5 (C : OK wM X G ad own cc nL rm) {index : Nat} (hq : Cond.fieldLink own index "SpectrumReallocatorModel" "same" "[I" ∈ lw_tbl) (d : decode cc pc = .ok (.getfield index, 3)) (e : pc + 3 = q) (kk : V wM X G ad nL Q k n σ q L (.ref (ad 4) :: st)) : V wM X G ad nL Q k n σ pc L (.ref (ad 0) :: st) :=
  V_get C 0 (by decide) (eM_0 G ad (σ 0)) rfl inX7 goX7 5 (by decide) hq rfl d e kk
theorem GM_0_6 (C : OK wM X G ad own cc nL rm) {index : Nat} (hq : Cond.fieldLink own index "SpectrumReallocatorModel" "next" "[I" ∈ lw_tbl) (d : decode cc pc = .ok (.getfield index, 3)) (e : pc + 3 = q) (kk : V wM X G ad nL Q k n σ q L (.ref (ad 5) :: st)) : V wM X G ad nL Q k n σ pc L (.ref (ad 0) :: st) :=
  V_get C 0 (by decide) (eM_0 G ad (σ 0)) rfl inX7 goX7 6 (by decide) hq rfl d e kk
theorem GM_0_7 (C : OK wM X G ad own cc nL rm) {index : Nat} (hq : Cond.fieldLink own index "SpectrumReallocatorModel" "length" "I" ∈ lw_tbl) (d : decode cc pc = .ok (.getfield index, 3)) (e : pc + 3 = q) (kk : V wM X G ad nL Q k n σ q L (.int (σ 0 7) :: st)) : V wM X G ad nL Q k n σ pc L (.ref (ad 0) :: st) :=
  V_get C 0 (by decide) (eM_0 G ad (σ 0)) rfl inX7 goX7 7 (by decide) hq rfl d e kk
theorem PM_0_7 (C : OK wM X G ad own cc nL rm) {index : Nat} {v : Int32} (hq : Cond.fieldLink own index "SpectrumReallocatorModel" "length" "I" ∈ lw_tbl) (d : decode cc pc = .ok (.putfield index, 3)) (e : pc + 3 = q) (kk : V wM X G ad nL Q k n (sup σ 0 7 v) q L st) : V wM X G ad nL Q k n σ pc L (.int v :: .ref (ad 0) :: st) :=
  V_put C 0 7 (by decide) (eM_0 G ad (σ 0)) (hsM (g := upd (σ 0) 7 v) rfl) hoM rfl inX7 goX7 tyX7 tyX7_ok nmX7 (by decide) rfl (ty := .int) rfl rfl rfl (Nat.le_of_ble_eq_true rfl) hq d e kk
theorem GM_0_8 (C : OK wM X G ad own cc nL rm) {index : Nat} (hq : Cond.fieldLink own index "SpectrumReallocatorModel" "at" "I" ∈ lw_tbl) (d : decode cc pc = .ok (.getfield index, 3)) (e : pc + 3 = q) (kk : V wM X G ad nL Q k n σ q L (.int (σ 0 8) :: st)) : V wM X G ad nL Q k n σ pc L (.ref (ad 0) :: st) :=
  V_get C 0 (by decide) (eM_0 G ad (σ 0)) rfl inX7 goX7 8 (by decide) hq rfl d e kk
theorem PM_0_8 (C : OK wM X G ad own cc nL rm) {index : Nat} {v : Int32} (hq : Cond.fieldLink own index "SpectrumReallocatorModel" "at" "I" ∈ lw_tbl) (d : decode cc pc = .ok (.putfield index, 3)) (e : pc + 3 = q) (kk : V wM X G ad nL Q k n (sup σ 0 8 v) q L st) : V wM X G ad nL Q k n σ pc L (.int v :: .ref (ad 0) :: st) :=
  V_put C 0 8 (by decide) (eM_0 G ad (σ 0)) (hsM (g := upd (σ 0) 8 v) rfl) hoM rfl inX7 goX7 tyX7 tyX7_ok nmX7 (by decide) rfl (ty := .int) rfl rfl rfl (Nat.le_of_ble_eq_true rfl) hq d e kk
theorem GM_0_9 (C : OK wM X G ad own cc nL rm) {index : Nat} (hq : Cond.fieldLink own index "SpectrumReallocatorModel" "error" "I" ∈ lw_tbl) (d : decode cc pc = .ok (.getfield index, 3)) (e : pc + 3 = q) (kk : V wM X G ad nL Q k n σ q L (.int (σ 0 9) :: st)) : V wM X G ad nL Q k n σ pc L (.ref (ad 0) :: st) :=
  V_get C 0 (by decide) (eM_0 G ad (σ 0)) rfl inX7 goX7 9 (by decide) hq rfl d e kk
theorem PM_0_9 (C : OK wM X G ad own cc nL rm) {index : Nat} {v : Int32} (hq : Cond.fieldLink own index "SpectrumReallocatorModel" "error" "I" ∈ lw_tbl) (d : decode cc pc = .ok (.putfield index, 3)) (e : pc + 3 = q) (kk : V wM X G ad nL Q k n (sup σ 0 9 v) q L st) : V wM X G ad nL Q k n σ pc L (.int v :: .ref (ad 0) :: st) :=
  V_put C 0 9 (by decide) (eM_0 G ad (σ 0)) (hsM (g := upd (σ 0) 9 v) rfl) hoM rfl inX7 goX7 tyX7 tyX7_ok nmX7 (by decide) rfl (ty := .int) rfl rfl rfl (Nat.le_of_ble_eq_true rfl) hq d e kk
theorem GM_0_10 (C : OK wM X G ad own cc nL rm) {index : Nat} (hq : Cond.fieldLink own index "SpectrumReallocatorModel" "isWrong" "Z" ∈ lw_tbl) (d : decode cc pc = .ok (.getfield index, 3)) (e : pc + 3 = q) (kk : V wM X G ad nL Q k n σ q L (.int (σ 0 10) :: st)) : V wM X G ad nL Q k n σ pc L (.ref (ad 0) :: st) :=
  V_get C 0 (by decide) (eM_0 G ad (σ 0)) rfl inX7 goX7 10 (by decide) hq rfl d e kk
theorem PM_0_10 (C : OK wM X G ad own cc nL rm) {index : Nat} {v : Int32} (hv : v = 0 ∨ v = 1) (hq : Cond.fieldLink own index "SpectrumReallocatorModel" "isWrong" "Z" ∈ lw_tbl) (d : decode cc pc = .ok (.putfield index, 3)) (e : pc + 3 = q) (kk : V wM X G ad nL Q k n (sup σ 0 10 v) q L st) : V wM X G ad nL Q k n σ pc L (.int v :: .ref (ad 0) :: st) :=
  V_put C 0 10 (by decide) (eM_0 G ad (σ 0)) (hsM (g := upd (σ 0) 10 v) rfl) hoM rfl inX7 goX7 tyX7 tyX7_ok nmX7 (by decide) rfl (ty := .boolean) rfl (by rcases hv with h | h <;> subst h <;> decide) (by rcases hv with h | h <;> subst h <;> decide) (Nat.le_of_ble_eq_true rfl) hq d e kk
theorem GM_0_11 (C : OK wM X G ad own cc nL rm) {index : Nat} (hq : Cond.fieldLink own index "SpectrumReallocatorModel" "printed" "[I" ∈ lw_tbl) (d : decode cc pc = .ok (.getfield index, 3)) (e : pc + 3 = q) (kk : V wM X G ad nL Q k n σ q L (.ref (ad 6) :: st)) : V wM X G ad nL Q k n σ pc L (.ref (ad 0) :: st) :=
  V_get C 0 (by decide) (eM_0 G ad (σ 0)) rfl inX7 goX7 11 (by decide) hq rfl d e kk
theorem GM_0_12 (C : OK wM X G ad own cc nL rm) {index : Nat} (hq : Cond.fieldLink own index "SpectrumReallocatorModel" "printedLength" "I" ∈ lw_tbl) (d : decode cc pc = .ok (.getfield index, 3)) (e : pc + 3 = q) (kk : V wM X G ad nL Q k n σ q L (.int (σ 0 12) :: st)) : V wM X G ad nL Q k n σ pc L (.ref (ad 0) :: st) :=
  V_get C 0 (by decide) (eM_0 G ad (σ 0)) rfl inX7 goX7 12 (by decide) hq rfl d e kk
theorem PM_0_12 (C : OK wM X G ad own cc nL rm) {index : Nat} {v : Int32} (hq : Cond.fieldLink own index "SpectrumReallocatorModel" "printedLength" "I" ∈ lw_tbl) (d : decode cc pc = .ok (.putfield index, 3)) (e : pc + 3 = q) (kk : V wM X G ad nL Q k n (sup σ 0 12 v) q L st) : V wM X G ad nL Q k n σ pc L (.int v :: .ref (ad 0) :: st) :=
  V_put C 0 12 (by decide) (eM_0 G ad (σ 0)) (hsM (g := upd (σ 0) 12 v) rfl) hoM rfl inX7 goX7 tyX7 tyX7_ok nmX7 (by decide) rfl (ty := .int) rfl rfl rfl (Nat.le_of_ble_eq_true rfl) hq d e kk
theorem GM_0_13 (C : OK wM X G ad own cc nL rm) {index : Nat} (hq : Cond.fieldLink own index "SpectrumReallocatorModel" "left" "[[I" ∈ lw_tbl) (d : decode cc pc = .ok (.getfield index, 3)) (e : pc + 3 = q) (kk : V wM X G ad nL Q k n σ q L (.ref (ad 7) :: st)) : V wM X G ad nL Q k n σ pc L (.ref (ad 0) :: st) :=
  V_get C 0 (by decide) (eM_0 G ad (σ 0)) rfl inX7 goX7 13 (by decide) hq rfl d e kk
theorem GM_0_14 (C : OK wM X G ad own cc nL rm) {index : Nat} (hq : Cond.fieldLink own index "SpectrumReallocatorModel" "found" "I" ∈ lw_tbl) (d : decode cc pc = .ok (.getfield index, 3)) (e : pc + 3 = q) (kk : V wM X G ad nL Q k n σ q L (.int (σ 0 14) :: st)) : V wM X G ad nL Q k n σ pc L (.ref (ad 0) :: st) :=
  V_get C 0 (by decide) (eM_0 G ad (σ 0)) rfl inX7 goX7 14 (by decide) hq rfl d e kk
theorem PM_0_14 (C : OK wM X G ad own cc nL rm) {index : Nat} {v : Int32} (hq : Cond.fieldLink own index "SpectrumReallocatorModel" "found" "I" ∈ lw_tbl) (d : decode cc pc = .ok (.putfield index, 3)) (e : pc + 3 = q) (kk : V wM X G ad nL Q k n (sup σ 0 14 v) q L st) : V wM X G ad nL Q k n σ pc L (.int v :: .ref (ad 0) :: st) :=
  V_put C 0 14 (by decide) (eM_0 G ad (σ 0)) (hsM (g := upd (σ 0) 14 v) rfl) hoM rfl inX7 goX7 tyX7 tyX7_ok nmX7 (by decide) rfl (ty := .int) rfl rfl rfl (Nat.le_of_ble_eq_true rfl) hq d e kk
theorem GM_0_15 (C : OK wM X G ad own cc nL rm) {index : Nat} (hq : Cond.fieldLink own index "SpectrumReallocatorModel" "fixed" "[I" ∈ lw_tbl) (d : decode cc pc = .ok (.getfield index, 3)) (e : pc + 3 = q) (kk : V wM X G ad nL Q k n σ q L (.ref (ad 8) :: st)) : V wM X G ad nL Q k n σ pc L (.ref (ad 0) :: st) :=
  V_get C 0 (by decide) (eM_0 G ad (σ 0)) rfl inX7 goX7 15 (by decide) hq rfl d e kk
theorem GM_0_16 (C : OK wM X G ad own cc nL rm) {index : Nat} (hq : Cond.fieldLink own index "SpectrumReallocatorModel" "before" "[I" ∈ lw_tbl) (d : decode cc pc = .ok (.getfield index, 3)) (e : pc + 3 = q) (kk : V wM X G ad nL Q k n σ q L (.ref (ad 9) :: st)) : V wM X G ad nL Q k n σ pc L (.ref (ad 0) :: st) :=
  V_get C 0 (by decide) (eM_0 G ad (σ 0)) rfl inX7 goX7 16 (by decide) hq rfl d e kk
theorem RM_1 (C : OK wM X G ad own cc nL rm) {i : Int32} {z : Nat} (hz : i.toNatClampNeg = z) (hi : vp_in i 2764) (d : decode cc pc = .ok (.iaload, 1)) (e : pc + 1 = q) (kk : V wM X G ad nL Q k n σ q L (.int (σ 1 z) :: st)) : V wM X G ad nL Q k n σ pc L (.int i :: .ref (ad 1) :: st) :=
  V_iald C 1 (by decide) (eM_1 G ad (σ 1)) rfl hi d e (by rw [hz]; exact kk)
theorem SM_1 (C : OK wM X G ad own cc nL rm) {i v : Int32} {z : Nat} (hz : i.toNatClampNeg = z) (hi : vp_in i 2764) (d : decode cc pc = .ok (.iastore, 1)) (e : pc + 1 = q) (kk : V wM X G ad nL Q k n (sup σ 1 z v) q L st) : V wM X G ad nL Q k n σ pc L (.int v :: .int i :: .ref (ad 1) :: st) :=
  V_iast C 1 (by decide) (eM_1 G ad (σ 1)) (hsM (g := upd (σ 1) i.toNatClampNeg v) rfl) hoM rfl hi d e (by rw [← hz] at kk; exact kk)
theorem LM_1 (C : OK wM X G ad own cc nL rm) (d : decode cc pc = .ok (.arraylength, 1)) (e : pc + 1 = q) (kk : V wM X G ad nL Q k n σ q L (.int 2764 :: st)) : V wM X G ad nL Q k n σ pc L (.ref (ad 1) :: st) :=
  V_alen C 1 0 (by decide) (eM_1 G ad (σ 1)) (ty := .int) rfl rfl d e kk
theorem RM_2 (C : OK wM X G ad own cc nL rm) {i : Int32} {z : Nat} (hz : i.toNatClampNeg = z) (hi : vp_in i 2764) (d : decode cc pc = .ok (.iaload, 1)) (e : pc + 1 = q) (kk : V wM X G ad nL Q k n σ q L (.int (σ 2 z) :: st)) : V wM X G ad nL Q k n σ pc L (.int i :: .ref (ad 2) :: st) :=
  V_iald C 2 (by decide) (eM_2 G ad (σ 2)) rfl hi d e (by rw [hz]; exact kk)
theorem SM_2 (C : OK wM X G ad own cc nL rm) {i v : Int32} {z : Nat} (hz : i.toNatClampNeg = z) (hi : vp_in i 2764) (d : decode cc pc = .ok (.iastore, 1)) (e : pc + 1 = q) (kk : V wM X G ad nL Q k n (sup σ 2 z v) q L st) : V wM X G ad nL Q k n σ pc L (.int v :: .int i :: .ref (ad 2) :: st) :=
  V_iast C 2 (by decide) (eM_2 G ad (σ 2)) (hsM (g := upd (σ 2) i.toNatClampNeg v) rfl) hoM rfl hi d e (by rw [← hz] at kk; exact kk)
theorem LM_2 (C : OK wM X G ad own cc nL rm) (d : decode cc pc = .ok (.arraylength, 1)) (e : pc + 1 = q) (kk : V wM X G ad nL Q k n σ q L (.int 2764 :: st)) : V wM X G ad nL Q k n σ pc L (.ref (ad 2) :: st) :=
  V_alen C 2 0 (by decide) (eM_2 G ad (σ 2)) (ty := .int) rfl rfl d e kk
theorem RM_3 (C : OK wM X G ad own cc nL rm) {i : Int32} {z : Nat} (hz : i.toNatClampNeg = z) (hi : vp_in i 40) (d : decode cc pc = .ok (.iaload, 1)) (e : pc + 1 = q) (kk : V wM X G ad nL Q k n σ q L (.int (σ 3 z) :: st)) : V wM X G ad nL Q k n σ pc L (.int i :: .ref (ad 3) :: st) :=
  V_iald C 3 (by decide) (eM_3 G ad (σ 3)) rfl hi d e (by rw [hz]; exact kk)
theorem SM_3 (C : OK wM X G ad own cc nL rm) {i v : Int32} {z : Nat} (hz : i.toNatClampNeg = z) (hi : vp_in i 40) (d : decode cc pc = .ok (.iastore, 1)) (e : pc + 1 = q) (kk : V wM X G ad nL Q k n (sup σ 3 z v) q L st) : V wM X G ad nL Q k n σ pc L (.int v :: .int i :: .ref (ad 3) :: st) :=
  V_iast C 3 (by decide) (eM_3 G ad (σ 3)) (hsM (g := upd (σ 3) i.toNatClampNeg v) rfl) hoM rfl hi d e (by rw [← hz] at kk; exact kk)
theorem LM_3 (C : OK wM X G ad own cc nL rm) (d : decode cc pc = .ok (.arraylength, 1)) (e : pc + 1 = q) (kk : V wM X G ad nL Q k n σ q L (.int 40 :: st)) : V wM X G ad nL Q k n σ pc L (.ref (ad 3) :: st) :=
  V_alen C 3 0 (by decide) (eM_3 G ad (σ 3)) (ty := .int) rfl rfl d e kk
theorem RM_4 (C : OK wM X G ad own cc nL rm) {i : Int32} {z : Nat} (hz : i.toNatClampNeg = z) (hi : vp_in i 12) (d : decode cc pc = .ok (.iaload, 1)) (e : pc + 1 = q) (kk : V wM X G ad nL Q k n σ q L (.int (σ 4 z) :: st)) : V wM X G ad nL Q k n σ pc L (.int i :: .ref (ad 4) :: st) :=
  V_iald C 4 (by decide) (eM_4 G ad (σ 4)) rfl hi d e (by rw [hz]; exact kk)
theorem SM_4 (C : OK wM X G ad own cc nL rm) {i v : Int32} {z : Nat} (hz : i.toNatClampNeg = z) (hi : vp_in i 12) (d : decode cc pc = .ok (.iastore, 1)) (e : pc + 1 = q) (kk : V wM X G ad nL Q k n (sup σ 4 z v) q L st) : V wM X G ad nL Q k n σ pc L (.int v :: .int i :: .ref (ad 4) :: st) :=
  V_iast C 4 (by decide) (eM_4 G ad (σ 4)) (hsM (g := upd (σ 4) i.toNatClampNeg v) rfl) hoM rfl hi d e (by rw [← hz] at kk; exact kk)
theorem LM_4 (C : OK wM X G ad own cc nL rm) (d : decode cc pc = .ok (.arraylength, 1)) (e : pc + 1 = q) (kk : V wM X G ad nL Q k n σ q L (.int 12 :: st)) : V wM X G ad nL Q k n σ pc L (.ref (ad 4) :: st) :=
  V_alen C 4 0 (by decide) (eM_4 G ad (σ 4)) (ty := .int) rfl rfl d e kk
theorem RM_5 (C : OK wM X G ad own cc nL rm) {i : Int32} {z : Nat} (hz : i.toNatClampNeg = z) (hi : vp_in i 12) (d : decode cc pc = .ok (.iaload, 1)) (e : pc + 1 = q) (kk : V wM X G ad nL Q k n σ q L (.int (σ 5 z) :: st)) : V wM X G ad nL Q k n σ pc L (.int i :: .ref (ad 5) :: st) :=
  V_iald C 5 (by decide) (eM_5 G ad (σ 5)) rfl hi d e (by rw [hz]; exact kk)
theorem SM_5 (C : OK wM X G ad own cc nL rm) {i v : Int32} {z : Nat} (hz : i.toNatClampNeg = z) (hi : vp_in i 12) (d : decode cc pc = .ok (.iastore, 1)) (e : pc + 1 = q) (kk : V wM X G ad nL Q k n (sup σ 5 z v) q L st) : V wM X G ad nL Q k n σ pc L (.int v :: .int i :: .ref (ad 5) :: st) :=
  V_iast C 5 (by decide) (eM_5 G ad (σ 5)) (hsM (g := upd (σ 5) i.toNatClampNeg v) rfl) hoM rfl hi d e (by rw [← hz] at kk; exact kk)
theorem LM_5 (C : OK wM X G ad own cc nL rm) (d : decode cc pc = .ok (.arraylength, 1)) (e : pc + 1 = q) (kk : V wM X G ad nL Q k n σ q L (.int 12 :: st)) : V wM X G ad nL Q k n σ pc L (.ref (ad 5) :: st) :=
  V_alen C 5 0 (by decide) (eM_5 G ad (σ 5)) (ty := .int) rfl rfl d e kk
theorem RM_6 (C : OK wM X G ad own cc nL rm) {i : Int32} {z : Nat} (hz : i.toNatClampNeg = z) (hi : vp_in i 700) (d : decode cc pc = .ok (.iaload, 1)) (e : pc + 1 = q) (kk : V wM X G ad nL Q k n σ q L (.int (σ 6 z) :: st)) : V wM X G ad nL Q k n σ pc L (.int i :: .ref (ad 6) :: st) :=
  V_iald C 6 (by decide) (eM_6 G ad (σ 6)) rfl hi d e (by rw [hz]; exact kk)
theorem SM_6 (C : OK wM X G ad own cc nL rm) {i v : Int32} {z : Nat} (hz : i.toNatClampNeg = z) (hi : vp_in i 700) (d : decode cc pc = .ok (.iastore, 1)) (e : pc + 1 = q) (kk : V wM X G ad nL Q k n (sup σ 6 z v) q L st) : V wM X G ad nL Q k n σ pc L (.int v :: .int i :: .ref (ad 6) :: st) :=
  V_iast C 6 (by decide) (eM_6 G ad (σ 6)) (hsM (g := upd (σ 6) i.toNatClampNeg v) rfl) hoM rfl hi d e (by rw [← hz] at kk; exact kk)
theorem LM_6 (C : OK wM X G ad own cc nL rm) (d : decode cc pc = .ok (.arraylength, 1)) (e : pc + 1 = q) (kk : V wM X G ad nL Q k n σ q L (.int 700 :: st)) : V wM X G ad nL Q k n σ pc L (.ref (ad 6) :: st) :=
  V_alen C 6 0 (by decide) (eM_6 G ad (σ 6)) (ty := .int) rfl rfl d e kk
theorem AM_7 (C : OK wM X G ad own cc nL rm) {i : Int32} {z : Nat} (hz : 10 + i.toNatClampNeg = z) (hi : vp_in i 13) (d : decode cc pc = .ok (.aaload, 1)) (e : pc + 1 = q) (kk : V wM X G ad nL Q k n σ q L (.ref (ad z) :: st)) : V wM X G ad nL Q k n σ pc L (.int i :: .ref (ad 7) :: st) :=
  V_aald C 7 (by decide) (eM_7 G ad (σ 7)) hi (by rw [← hz]; exact if_pos (Nat.not_le.mp fun h => hi (Or.inr h))) d e kk
theorem RM_8 (C : OK wM X G ad own cc nL rm) {i : Int32} {z : Nat} (hz : i.toNatClampNeg = z) (hi : vp_in i 12) (d : decode cc pc = .ok (.iaload, 1)) (e : pc + 1 = q) (kk : V wM X G ad nL Q k n σ q L (.int (σ 8 z) :: st)) : V wM X G ad nL Q k n σ pc L (.int i :: .ref (ad 8) :: st) :=
  V_iald C 8 (by decide) (eM_8 G ad (σ 8)) rfl hi d e (by rw [hz]; exact kk)
theorem SM_8 (C : OK wM X G ad own cc nL rm) {i v : Int32} {z : Nat} (hz : i.toNatClampNeg = z) (hi : vp_in i 12) (d : decode cc pc = .ok (.iastore, 1)) (e : pc + 1 = q) (kk : V wM X G ad nL Q k n (sup σ 8 z v) q L st) : V wM X G ad nL Q k n σ pc L (.int v :: .int i :: .ref (ad 8) :: st) :=
  V_iast C 8 (by decide) (eM_8 G ad (σ 8)) (hsM (g := upd (σ 8) i.toNatClampNeg v) rfl) hoM rfl hi d e (by rw [← hz] at kk; exact kk)
theorem LM_8 (C : OK wM X G ad own cc nL rm) (d : decode cc pc = .ok (.arraylength, 1)) (e : pc + 1 = q) (kk : V wM X G ad nL Q k n σ q L (.int 12 :: st)) : V wM X G ad nL Q k n σ pc L (.ref (ad 8) :: st) :=
  V_alen C 8 0 (by decide) (eM_8 G ad (σ 8)) (ty := .int) rfl rfl d e kk
theorem RM_9 (C : OK wM X G ad own cc nL rm) {i : Int32} {z : Nat} (hz : i.toNatClampNeg = z) (hi : vp_in i 12) (d : decode cc pc = .ok (.iaload, 1)) (e : pc + 1 = q) (kk : V wM X G ad nL Q k n σ q L (.int (σ 9 z) :: st)) : V wM X G ad nL Q k n σ pc L (.int i :: .ref (ad 9) :: st) :=
  V_iald C 9 (by decide) (eM_9 G ad (σ 9)) rfl hi d e (by rw [hz]; exact kk)
theorem SM_9 (C : OK wM X G ad own cc nL rm) {i v : Int32} {z : Nat} (hz : i.toNatClampNeg = z) (hi : vp_in i 12) (d : decode cc pc = .ok (.iastore, 1)) (e : pc + 1 = q) (kk : V wM X G ad nL Q k n (sup σ 9 z v) q L st) : V wM X G ad nL Q k n σ pc L (.int v :: .int i :: .ref (ad 9) :: st) :=
  V_iast C 9 (by decide) (eM_9 G ad (σ 9)) (hsM (g := upd (σ 9) i.toNatClampNeg v) rfl) hoM rfl hi d e (by rw [← hz] at kk; exact kk)
theorem LM_9 (C : OK wM X G ad own cc nL rm) (d : decode cc pc = .ok (.arraylength, 1)) (e : pc + 1 = q) (kk : V wM X G ad nL Q k n σ q L (.int 12 :: st)) : V wM X G ad nL Q k n σ pc L (.ref (ad 9) :: st) :=
  V_alen C 9 0 (by decide) (eM_9 G ad (σ 9)) (ty := .int) rfl rfl d e kk
theorem RMr0 (C : OK wM X G ad own cc nL rm) {j : Nat} (h1 : 10 ≤ j) (h2 : j < 23) {i : Int32} {z : Nat} (hz : i.toNatClampNeg = z) (hi : vp_in i 12) (d : decode cc pc = .ok (.iaload, 1)) (e : pc + 1 = q) (kk : V wM X G ad nL Q k n σ q L (.int (σ j z) :: st)) : V wM X G ad nL Q k n σ pc L (.int i :: .ref (ad j) :: st) :=
  V_iald C j (Nat.lt_of_lt_of_le h2 (by decide)) (eMr0 h1 h2) rfl hi d e (by rw [hz]; exact kk)
theorem SMr0 (C : OK wM X G ad own cc nL rm) {j : Nat} (h1 : 10 ≤ j) (h2 : j < 23) {i v : Int32} {z : Nat} (hz : i.toNatClampNeg = z) (hi : vp_in i 12) (d : decode cc pc = .ok (.iastore, 1)) (e : pc + 1 = q) (kk : V wM X G ad nL Q k n (sup σ j z v) q L st) : V wM X G ad nL Q k n σ pc L (.int v :: .int i :: .ref (ad j) :: st) :=
  V_iast C j (Nat.lt_of_lt_of_le h2 (by decide)) (eMr0 h1 h2) (hsM (g := upd (σ j) i.toNatClampNeg v) (eMr0 h1 h2)) hoM rfl hi d e (by rw [← hz] at kk; exact kk)
theorem LMr0 (C : OK wM X G ad own cc nL rm) {j : Nat} (h1 : 10 ≤ j) (h2 : j < 23) (d : decode cc pc = .ok (.arraylength, 1)) (e : pc + 1 = q) (kk : V wM X G ad nL Q k n σ q L (.int 12 :: st)) : V wM X G ad nL Q k n σ pc L (.ref (ad j) :: st) :=
  V_alen C j 0 (Nat.lt_of_lt_of_le h2 (by decide)) (eMr0 h1 h2) (ty := .int) rfl rfl d e kk
theorem hMr0 {i : Int32} (hi : vp_in i 13) : 10 ≤ 10 + i.toNatClampNeg ∧ 10 + i.toNatClampNeg < 23 := ⟨Nat.le_add_right _ _, by have := Nat.not_le.mp fun h => hi (Or.inr h); omega⟩
end WL
