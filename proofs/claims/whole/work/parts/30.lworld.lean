/-! The law's world: the class's cells (0..76), the reference's (77..99), the row of answers (100); calls of a method over a part of the world; exceptions caught. -/
abbrev LT : Type := Sg × Sg × (Nat → Int64)
def wL : Wd LT := (101, fun G ad j τ => if j < 77 then shpX G ad j (τ.1 j) else if j < 100 then shpM G (fun i => ad (77 + i)) (j - 77) (τ.2.1 (j - 77)) else .inl (G.2.2.2.2, 1, .inr (.inl τ.2.2)))
theorem wL_X {G : Gx} {ad : Nat → Nat} {τ : LT} {j : Nat} (h : j < 77) : wL.2 G ad j τ = shpX G ad j (τ.1 j) := if_pos h
theorem wL_M {G : Gx} {ad : Nat → Nat} {τ : LT} {j : Nat} (h : j < 23) : wL.2 G ad (77 + j) τ = shpM G (fun i => ad (77 + i)) j (τ.2.1 j) := by
  show (if 77 + j < 77 then _ else if 77 + j < 100 then _ else _) = _
  rw [if_neg (by omega), if_pos (by omega), show 77 + j - 77 = j by omega]
theorem wL_O {G : Gx} {ad : Nat → Nat} {τ : LT} : wL.2 G ad 100 τ = .inl (G.2.2.2.2, 1, .inr (.inl τ.2.2)) := rfl
/-- w1 is a part of w -/
def Sub {T1 T : Type} (w1 : Wd T1) (w : Wd T) (G : Gx) (ad1 ad : Nat → Nat) (τ : T) (t1 : T1) (put : T1 → T) : Prop :=
  (∀ H, va_P G.1 clsA (mkW w G ad τ) H → va_P G.1 clsA (mkW w1 G ad1 t1) H) ∧ (∀ sz q, Aof w1 ad1 sz q → Aof w ad sz q) ∧ (injW w ad → injW w1 ad1) ∧
  (∀ (H H1 : Heap) (t1' : T1), injW w ad → va_P G.1 clsA (mkW w G ad τ) H → va_P G.1 clsA (mkW w1 G ad1 t1') H1 → (∀ q, q < H.size → ¬ Aof w1 ad1 H.size q → H1[q]? = H[q]?) → va_P G.1 clsA (mkW w G ad (put t1')) H1)
theorem subX {G : Gx} {ad : Nat → Nat} {τ : LT} : Sub wX wL G ad ad τ τ.1 (fun σ => (σ, τ.2)) := by
  refine ⟨fun H h k q hq => ?_, fun sz q h => ?_, fun hi i j h1 h2 e => ?_, fun H H1 t1' hi h h1 hk k q hq => ?_⟩
  · obtain ⟨hk, rfl⟩ := mkW_at hq
    have h77 : k < 77 := hk
    have := h k _ (mkW_get wL G ad τ (show k < 101 by omega))
    rw [wL_X h77] at this
    exact this
  · rcases h with ⟨j, hj, e⟩ | h
    · exact Or.inl ⟨j, Nat.lt_of_lt_of_le hj (by decide), e⟩
    · exact Or.inr h
  · exact hi i j (Nat.lt_of_lt_of_le h1 (by decide)) (Nat.lt_of_lt_of_le h2 (by decide)) e
  · obtain ⟨hk2, rfl⟩ := mkW_at hq
    have h101 : k < 101 := hk2
    by_cases h77 : k < 77
    · rw [wL_X h77]
      exact h1 k _ (mkW_get wX G ad t1' h77)
    · have h0 := h k _ (mkW_get wL G ad τ h101)
      have e : wL.2 G ad k ((t1', τ.2) : LT) = wL.2 G ad k τ := by
        show (if k < 77 then _ else if k < 100 then _ else _) = (if k < 77 then _ else if k < 100 then _ else _)
        rw [if_neg h77, if_neg h77]
      rw [e]
      refine h0.kept (hk _ h0.lt (fun hA => ?_))
      rcases hA with ⟨j, hj, e2⟩ | hA
      · have := hi k j h101 (Nat.lt_of_lt_of_le hj (by decide)) e2
        have hj' : j < 77 := hj
        omega
      · exact absurd h0.lt (Nat.not_lt.mpr hA)
theorem subM {G : Gx} {ad : Nat → Nat} {τ : LT} : Sub wM wL G (fun i => ad (77 + i)) ad τ τ.2.1 (fun σ => (τ.1, σ, τ.2.2)) := by
  refine ⟨fun H h k q hq => ?_, fun sz q h => ?_, fun hi i j h1 h2 e => ?_, fun H H1 t1' hi h h1 hk k q hq => ?_⟩
  · obtain ⟨hk, rfl⟩ := mkW_at hq
    have h23 : k < 23 := hk
    have := h (77 + k) _ (mkW_get wL G ad τ (show 77 + k < 101 by omega))
    rw [wL_M h23] at this
    exact this
  · rcases h with ⟨j, hj, e⟩ | h
    · have h23 : j < 23 := hj
      exact Or.inl ⟨77 + j, show 77 + j < 101 by omega, e⟩
    · exact Or.inr h
  · have h23 : i < 23 := h1
    have h24 : j < 23 := h2
    have := hi (77 + i) (77 + j) (show 77 + i < 101 by omega) (show 77 + j < 101 by omega) e
    omega
  · obtain ⟨hk2, rfl⟩ := mkW_at hq
    have h101 : k < 101 := hk2
    by_cases hm : 77 ≤ k ∧ k < 100
    · obtain ⟨i, rfl⟩ : ∃ i, k = 77 + i := ⟨k - 77, by omega⟩
      have h23 : i < 23 := by omega
      rw [wL_M h23]
      exact h1 i _ (mkW_get wM G (fun i => ad (77 + i)) t1' h23)
    · have h0 := h k _ (mkW_get wL G ad τ h101)
      have e : wL.2 G ad k ((τ.1, t1', τ.2.2) : LT) = wL.2 G ad k τ := by
        show (if k < 77 then _ else if k < 100 then _ else _) = (if k < 77 then _ else if k < 100 then _ else _)
        by_cases h7 : k < 77
        · rw [if_pos h7, if_pos h7]
        · rw [if_neg h7, if_neg h7, if_neg (by omega), if_neg (by omega)]
      rw [e]
      refine h0.kept (hk _ h0.lt (fun hA => ?_))
      rcases hA with ⟨j, hj, e2⟩ | hA
      · have hj' : j < 23 := hj
        have := hi k (77 + j) h101 (show 77 + j < 101 by omega) e2
        omega
      · exact absurd h0.lt (Nat.not_lt.mpr hA)
section VL
variable {T T1 : Type} {w1 : Wd T1} {w : Wd T} {X : Cx} {G : Gx} {ad1 ad : Nat → Nat} {own : String} {cc : ByteArray} {nL k n pc q : Nat} {rm : Room} {Q : State → Prop} {τ : T} {t1 t1' : T1} {put : T1 → T} {L : List (Nat × Value)} {st st0 : List Value} {mc ms : Nat}
variable {y : MethodName} {bytes : ByteArray} {maxL : Nat} {ret : Option FieldType} {rm2 : Room} {av : List Value} {v : Option Value} {r : String ⊕ Option Value} {index c2 s2 N2 : Nat}
/-- an exception of the class E has come to this place of the method -/
def VX {T : Type} (w : Wd T) (X : Cx) (G : Gx) (ad : Nat → Nat) (nL : Nat) (Q : State → Prop) (k n : Nat) (τ : T) (pc : Nat) (L : List (Nat × Value)) (st : List Value) (E : String) : Prop :=
  ∀ (H : Heap) (locs : List Loc) (ls : Array Slot) (qe : Addr) (ce : Cell), va_P G.1 clsA (mkW w G ad τ) H → va_S (Aof w ad (x_s X).heap.size) (x_s X).heap H locs → lv_has ls nL L → H[qe]? = some ce → ce.vm = .none → (x_s X).vm.findClass E = some ce.cls →
    vx_W (x_p X) (x_l X) (x_e X) (x_R X) (x_s X) (x_m X) (x_a X) (x_b X) (x_h X) (x_c X) H locs k n Q (F0 (x_m X) pc ls st) qe
theorem Bef_sub (hs : Sub w1 w G ad1 ad τ t1 put) (C : OK w X G ad own cc nL rm) {H : Heap} {locs : List Loc} (hP : va_P G.1 clsA (mkW w G ad τ) H) (hS : va_S (Aof w ad (x_s X).heap.size) (x_s X).heap H locs) :
    ∀ U : State, U.heap = H → (x_s X).WarmedH U.vm → va_Pc av (Bef w1 (x_l X) G ad1 H.size t1) av.toArray U := by
  intro U hU hW
  refine ⟨rfl, by rw [hU], by rw [hU]; exact hs.1 H hP, ?_, hs.2.2.1 C.2.2.2.2.2.2.1⟩
  exact C.2.2.2.2.2.1.warm hW (fun q hq => Aof_sub hS.1 q (hs.2.1 _ q hq)) (fun a ha hn => by rw [hU]; exact hS.2.1 a ha hn)
theorem sub_S (hs : Sub w1 w G ad1 ad τ t1 put) {H H1 : Heap} {locs L' : List Loc} {s₀ t : State} (hS : va_S (Aof w ad (x_s X).heap.size) (x_s X).heap H locs) (h0 : s₀.heap = H) (e1 : H1 = t.heap) (hL : ∀ z ∈ L', Aof w1 ad1 H.size z.base) (hF : va_F (Aof w1 ad1 H.size) s₀ t) :
    va_S (Aof w ad (x_s X).heap.size) (x_s X).heap H1 (locs ++ L') := by
  subst e1
  refine ⟨Nat.le_trans hS.1 (by rw [← h0]; exact hF.1), fun q hq hn => ?_, fun z hz => ?_⟩
  · rw [hF.2 q (by rw [h0]; exact Nat.lt_of_lt_of_le hq hS.1) (fun z => hn (Aof_sub hS.1 q (hs.2.1 _ q z))), h0]
    exact hS.2.1 q hq hn
  · rcases List.mem_append.mp hz with h | h
    · exact hS.2.2 z h
    · exact Aof_sub hS.1 _ (hs.2.1 _ _ (hL z h))
theorem V_ofRunS (hs : Sub w1 w G ad1 ad τ t1 put) (C : OK w X G ad own cc nL rm) {H : Heap} {locs : List Loc} {ls : Array Slot} {a : Array Value} (hP : va_P G.1 clsA (mkW w G ad τ) H) (hS : va_S (Aof w ad (x_s X).heap.size) (x_s X).heap H locs) (hl : lv_has ls nL L)
    (hr : va_Run (x_p X) (x_l X) (x_e X) (x_R X) (x_s X) (x_m X) (x_a X) (x_b X) (x_h X) (x_c X) H locs k n c2 s2 (F0 (x_m X) pc ls st0) st (QcV w1 G ad1 v t1' H.size a) (Aof w1 ad1 H.size))
    (kk : V w X G ad nL Q (k + c2) (n + s2) (put t1') (pc + 3) L (v.toList ++ st)) : Wx X H locs k n Q (F0 (x_m X) pc ls st0) := by
  intro T hT Xs
  obtain ⟨v', st₀, t, T', L', h0, X', hL, e1, e2, ⟨hv, hp, hF⟩, go⟩ := hr T hT Xs
  cases hv
  have hP' : va_P G.1 clsA (mkW w G ad (put t1')) T'.heap := hs.2.2.2 H T'.heap t1' C.2.2.2.2.2.2.1 hP (by rw [e1]; exact hp) (fun q h1 h2 => by rw [e1, hF.2 q (by rw [h0]; exact h1) h2, h0])
  obtain ⟨t2, a1, b1⟩ := kk T'.heap (locs ++ L') ls hP' (sub_S hs hS h0 e1 hL hF) hl T' rfl X'
  exact ⟨t2, go t2 a1, b1⟩
theorem V_ofRunSX (hs : Sub w1 w G ad1 ad τ t1 put) (C : OK w X G ad own cc nL rm) {H : Heap} {locs : List Loc} {ls : Array Slot} {a : Array Value} (hP : va_P G.1 clsA (mkW w G ad τ) H) (hS : va_S (Aof w ad (x_s X).heap.size) (x_s X).heap H locs) (hl : lv_has ls nL L)
    (hr : vx_Run (x_p X) (x_l X) (x_e X) (x_R X) (x_s X) (x_m X) (x_a X) (x_b X) (x_h X) (x_c X) H locs k n c2 s2 (F0 (x_m X) pc ls st0) st (QcX w1 G ad1 r t1' H.size a) (XcX w1 G ad1 r t1' H.size) (Aof w1 ad1 H.size))
    (kx : ∀ E, r = .inl E → VX w X G ad nL Q (k + c2) (n + s2) (put t1') pc L st E)
    (kk : ∀ v, r = .inr v → V w X G ad nL Q (k + c2) (n + s2) (put t1') (pc + 3) L (v.toList ++ st)) : Wx X H locs k n Q (F0 (x_m X) pc ls st0) := by
  intro T hT Xs
  rcases hr T hT Xs with ⟨v', st₀, t, T', L', h0, X', hL, e1, e2, ⟨⟨v, hv, hv2⟩, hp, hF⟩, go⟩ | ⟨qe, st₀, t, T', L', E, ce, h0, X', hL, e1, e2, ⟨hE, hp, hF⟩, hce, hcv, hcl, go⟩
  · cases hv2
    have hP' : va_P G.1 clsA (mkW w G ad (put t1')) T'.heap := hs.2.2.2 H T'.heap t1' C.2.2.2.2.2.2.1 hP (by rw [e1]; exact hp) (fun q h1 h2 => by rw [e1, hF.2 q (by rw [h0]; exact h1) h2, h0])
    obtain ⟨t2, a1, b1⟩ := kk _ hv T'.heap (locs ++ L') ls hP' (sub_S hs hS h0 e1 hL hF) hl T' rfl X'
    exact ⟨t2, go t2 a1, b1⟩
  · have hP' : va_P G.1 clsA (mkW w G ad (put t1')) T'.heap := hs.2.2.2 H T'.heap t1' C.2.2.2.2.2.2.1 hP (by rw [e1]; exact hp) (fun q h1 h2 => by rw [e1, hF.2 q (by rw [h0]; exact h1) h2, h0])
    obtain ⟨t2, a1, b1⟩ := kx E hE T'.heap (locs ++ L') ls qe ce hP' (sub_S hs hS h0 e1 hL hF) hl (by rw [e1]; exact hce) hcv hcl T' rfl X'
    exact ⟨t2, go.trans a1, b1⟩
/-- a call of a method that returns, over a part of the world -/
theorem V_callVs (hs : Sub w1 w G ad1 ad τ t1 put) (C : OK w X G ad own cc nL rm) (j : Nat) {ci : Nat} {qc : vw_C} {fs : List Value} (hj : j < w1.1) (hen : w1.2 G ad1 j t1 = .inr (ci, fs)) (hc : clsA[ci]? = some qc) (hqc : qc.1 = y.cls) (hM : Con w1 (x_l X) G ad1 y (Cond.code y bytes maxL ret) rm2 c2 s2 (.ref (ad1 j) :: av) t1 v t1')
    (hcode : Cond.code y bytes maxL ret ∈ lw_tbl) (hini : Cond.initialized y.cls ∈ lw_tbl) (hlk : Cond.methodLink own index y ∈ lw_tbl) (hin : Cond.instanceMethod y ∈ lw_tbl) (hse : Cond.selects y.cls y y ∈ lw_tbl) (hN : NmOK y N2) (hR : RmOK rm rm2 c2 s2 maxL k n) (hnn : av.length = N2) (hs0 : st0 = av.reverse ++ .ref (ad1 j) :: st) (hcat : (st.map fun v => v.category).sum ≤ 8) (d : decode cc pc = .ok (.invokevirtual index, 3)) (e : pc + 3 = q)
    {st1 : List Value} (hs1 : v.toList ++ st = st1) (kk : V w X G ad nL Q (k + c2) (n + s2) (put t1') q L st1) : V w X G ad nL Q k n τ pc L st0 := by
  subst e
  subst hs1
  intro H locs ls hP hS hl
  exact V_ofRunS hs C hP hS hl (va_runV (b := ad1 j) (C := y.cls) (As := av) (rest := st) (cl_S C) (hM H.size) ⟨cl_B C hcode hini hlk hN hR, C.word hin rfl, C.word hse rfl⟩ ⟨Bef_blind (x_l X) H.size, (by rw [← hqc]; exact va_recv C.K (hs.1 H hP) hc ((mkW_get w1 G ad1 t1 hj).trans (by rw [hen]))), Bef_sub hs C hP hS⟩ rfl hnn hl.1 hs0 (lv_room hcat) d (cl_room C hR)) kk
theorem V_callVXs (hs : Sub w1 w G ad1 ad τ t1 put) (C : OK w X G ad own cc nL rm) (j : Nat) {ci : Nat} {qc : vw_C} {fs : List Value} (hj : j < w1.1) (hen : w1.2 G ad1 j t1 = .inr (ci, fs)) (hc : clsA[ci]? = some qc) (hqc : qc.1 = y.cls) (hM : ConX w1 (x_l X) G ad1 y (Cond.code y bytes maxL ret) rm2 c2 s2 (.ref (ad1 j) :: av) t1 r t1')
    (hcode : Cond.code y bytes maxL ret ∈ lw_tbl) (hini : Cond.initialized y.cls ∈ lw_tbl) (hlk : Cond.methodLink own index y ∈ lw_tbl) (hin : Cond.instanceMethod y ∈ lw_tbl) (hse : Cond.selects y.cls y y ∈ lw_tbl) (hN : NmOK y N2) (hR : RmOK rm rm2 c2 s2 maxL k n) (hnn : av.length = N2) (hs0 : st0 = av.reverse ++ .ref (ad1 j) :: st) (hcat : (st.map fun v => v.category).sum ≤ 8) (d : decode cc pc = .ok (.invokevirtual index, 3)) (e : pc + 3 = q)
    (kx : ∀ E, r = .inl E → VX w X G ad nL Q (k + c2) (n + s2) (put t1') pc L st E) (kk : ∀ v, r = .inr v → V w X G ad nL Q (k + c2) (n + s2) (put t1') q L (v.toList ++ st)) : V w X G ad nL Q k n τ pc L st0 := by
  subst e
  intro H locs ls hP hS hl
  exact V_ofRunSX hs C hP hS hl (vx_runV (b := ad1 j) (C := y.cls) (As := av) (rest := st) (cl_S C) (hM H.size) ⟨cl_B C hcode hini hlk hN hR, C.word hin rfl, C.word hse rfl⟩ ⟨Bef_blind (x_l X) H.size, (by rw [← hqc]; exact va_recv C.K (hs.1 H hP) hc ((mkW_get w1 G ad1 t1 hj).trans (by rw [hen]))), Bef_sub hs C hP hS⟩ rfl hnn hl.1 hs0 (lv_room hcat) d (cl_room C hR)) kx kk
/-- a static method with a table of its own -/
theorem V_callSW {τ' : T} {hh : List (Nat × Nat × Nat × Nat)} (C : OK w X G ad own cc nL rm) (hM : Con w (x_l X) G ad y (Cond.codeWith y bytes maxL ret hh) rm2 c2 s2 av τ v τ') (hcode : Cond.codeWith y bytes maxL ret hh ∈ lw_tbl) (hini : Cond.initialized y.cls ∈ lw_tbl) (hlk : Cond.methodLink own index y ∈ lw_tbl) (hst : Cond.static y ∈ lw_tbl) (hN : NmOK y N2) (hR : RmOK rm rm2 c2 s2 maxL k n) (hnn : av.length = N2) (hs0 : st0 = av.reverse ++ st) (hcat : (st.map fun v => v.category).sum ≤ 8) (d : decode cc pc = .ok (.invokestatic index, 3)) (e : pc + 3 = q) {st1 : List Value} (hs1 : v.toList ++ st = st1) (kk : V w X G ad nL Q (k + c2) (n + s2) τ' q L st1) : V w X G ad nL Q k n τ pc L st0 := by
  subst e
  subst hs1
  intro H locs ls hP hS hl
  have hG := ALLG_good (ALLG_in hcode rfl)
  have hcs : vx_CSW (x_R X) (x_s X) (x_a X) own index y bytes maxL ret hh (Cond.codeWith y bytes maxL ret hh :: ALLG) rm2 c2 s2 N2 := by
    rw [C.2.2.2.2.2.2.2.2]
    refine ⟨⟨hR.1, hR.2.1, hR.2.2.1, hR.2.2.2.1, pay_in C.2.2.2.2.1 hG, List.mem_cons_self⟩, C.word hcode rfl, C.word hini rfl, ⟨hN.1, hN.2.1⟩, fun sig h => ?_, C.word hlk rfl, C.word hst rfl⟩
    have h2 := hN.2.2
    rw [h] at h2
    exact (Option.some.inj h2).symm
  exact V_ofRun hS hl (vx_runSW (As := av) (rest := st) (cl_S C) (hM H.size) hcs ⟨Bef_blind (x_l X) H.size, Bef_hold C hP hS⟩ rfl hnn hl.1 hs0 (lv_room hcat) d (cl_room C hR)) kk
/-- an exception is caught by the row x of the table; the rows ahead are of other classes -/
theorem VX_catch {E : String} {hh : List (Nat × Nat × Nat × Nat)} (C : OK w X G ad own cc nL rm) (hT : (x_c X).exceptionTable.toList = tableOf hh) (pre : List ExceptionTableEntry) (x : ExceptionTableEntry) (suf : List ExceptionTableEntry) (hsp : tableOf hh = pre ++ x :: suf)
    (hpass : ∀ z ∈ pre, z.catchType ≠ 0 ∧ ∃ nm : String, Cond.classLink own z.catchType nm ∈ lw_tbl ∧ nm ∈ excL ∧ E ≠ nm) (hE : E ∈ excL) (hx : covers x pc = true) (h0 : x.catchType ≠ 0) (hlk : Cond.classLink own x.catchType E ∈ lw_tbl) (hcs : Cond.castable E E ∈ lw_tbl)
    (kk : ∀ qe : Nat, V w X G ad nL Q k n τ x.handlerPc L [.ref qe]) : VX w X G ad nL Q k n τ pc L st E := by
  intro H locs ls qe ce hP hS hl hce hcv hcl
  refine vx_catch C.2.2.2.1 pre x suf (hT.trans hsp) (fun z hz => Or.inr ?_) hx h0 (C.word hlk rfl) (va_Nw.use rfl (C.nest hcs rfl)) hce hcv hcl (kk qe H locs ls hP hS hl)
  obtain ⟨h1, nm, h2, h3, h4⟩ := hpass z hz
  exact ⟨h1, nm, C.word h2 rfl, C.2.2.2.2.2.1.2.2.2.2.2.1 E hE nm h3 h4⟩
/-- the script -/
theorem V_sld (C : OK w X G ad own cc nL rm) {b Ln : Nat} {xs : Nat → Int32} (hX : va_X b Ln xs (x_s X) (x_s X).heap) (hbl : b < (x_s X).heap.size) (hbA : ¬ Aof w ad (x_s X).heap.size b) {i : Int32} (hi : vp_in i Ln) (d : decode cc pc = .ok (.iaload, 1)) (e : pc + 1 = q) (kk : V w X G ad nL Q k n τ q L (.int (xs i.toNatClampNeg) :: st)) : V w X G ad nL Q k n τ pc L (.int i :: .ref b :: st) := by
  subst e
  intro H locs ls hP hS hl
  exact va_sld C.1 C.2.1 hX hbl hbA hS hi d (kk H locs ls hP hS hl)
theorem V_slen (C : OK w X G ad own cc nL rm) {b Ln : Nat} {xs : Nat → Int32} (hX : va_X b Ln xs (x_s X) (x_s X).heap) (hbl : b < (x_s X).heap.size) (hbA : ¬ Aof w ad (x_s X).heap.size b) (d : decode cc pc = .ok (.arraylength, 1)) (e : pc + 1 = q) (kk : V w X G ad nL Q k n τ q L (.int (Int32.ofNat Ln) :: st)) : V w X G ad nL Q k n τ pc L (.ref b :: st) := by
  subst e
  intro H locs ls hP hS hl
  exact va_slen C.1 C.2.1 hX hbl hbA hS d (kk H locs ls hP hS hl)
end VL
section VO
variable {X : Cx} {G : Gx} {ad : Nat → Nat} {own : String} {cc : ByteArray} {nL k n pc q : Nat} {rm : Room} {Q : State → Prop} {τ : LT} {L : List (Nat × Value)} {st : List Value}
theorem V_outR (C : OK wL X G ad own cc nL rm) (d : decode cc pc = .ok (.laload, 1)) (e : pc + 1 = q) (kk : V wL X G ad nL Q k n τ q L (.long (τ.2.2 0) :: st)) : V wL X G ad nL Q k n τ pc L (.int 0 :: .ref (ad 100) :: st) :=
  V_lald C 100 (by decide) (wL_O (G := G) (ad := ad) (τ := τ)) rfl (inb_in (by decide)) d e (by rw [show (0 : Int32).toNatClampNeg = 0 by decide]; exact kk)
theorem V_outW (C : OK wL X G ad own cc nL rm) {x : Int64} (d : decode cc pc = .ok (.lastore, 1)) (e : pc + 1 = q) (kk : V wL X G ad nL Q k n (τ.1, τ.2.1, vp_updL τ.2.2 0 x) q L st) : V wL X G ad nL Q k n τ pc L (.long x :: .int 0 :: .ref (ad 100) :: st) := by
  refine V_last (τ' := (τ.1, τ.2.1, vp_updL τ.2.2 0 x)) C 100 (by decide) (wL_O (G := G) (ad := ad) (τ := τ)) ?_ (fun i hi h => ?_) rfl (inb_in (by decide)) d e kk
  · rw [show (0 : Int32).toNatClampNeg = 0 by decide]
    rfl
  · have hi' : i < 101 := hi
    show (if i < 77 then _ else if i < 100 then _ else _) = (if i < 77 then _ else if i < 100 then _ else _)
    by_cases h7 : i < 77
    · rw [if_pos h7, if_pos h7]
    · rw [if_neg h7, if_neg h7, if_pos (by omega), if_pos (by omega)]
theorem Con.startH {l : Launch} {y : MethodName} {mc ms : Nat} {ret : Option FieldType} {av : List Value} {τ' : LT} {v : Option Value} {hh : List (Nat × Nat × Nat × Nat)} (hy : plainName y.cls = true) (hn : (lg_sl av).length ≤ nL)
    (body : ∀ (X : Cx) (Q : State → Prop), x_l X = l → (x_c X).exceptionTable.toList = tableOf hh → OK wL X G ad y.cls cc nL rm → FinR wL X G ad Q mc ms ret v τ' → V wL X G ad nL Q 0 0 τ 0 (lv_args 0 av) []) :
    Con wL l G ad y (Cond.codeWith y cc nL ret hh) rm mc ms av τ v τ' := by
  intro sz
  refine va_MetW (cc := cc) (maxL := nL) (ret := ret) (hh := hh) (ws' := ALLG) hy rfl ?_
  intro p e s m args below meth c s₁ B hml hv
  obtain ⟨rfl, hsz, hP, hA, hi⟩ := hv
  subst hsz
  have hts := atoms_spec (ws := Cond.codeWith y cc nL ret hh :: ALLG) B.pre
  have hC : OK wL (p, l, e, rm, s, m, av.toArray, below, meth, c) G ad y.cls cc nL rm :=
    ⟨B.exec, B.bytes, hml, findClass_of_methodNamed B.named, fun w h => hts w (List.mem_cons_of_mem _ h), hA, hi, B.notSynchronized, rfl⟩
  have h := body (p, l, e, rm, s, m, av.toArray, below, meth, c) (MQ below (QcV wL G ad v τ' s.heap.size) av.toArray s mc ms (Aof wL ad s.heap.size)) rfl (vx_table (x := y) B (hts _ List.mem_cons_self)) hC ⟨B.returns, fun t h => h⟩
  rw [lg_entry_eq]
  exact h s.heap [] _ hP va_S.rf (lv_entry av hn)
end VO
