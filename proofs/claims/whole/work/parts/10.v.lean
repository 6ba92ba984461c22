/-! The judgement V: a walk at which the heap holds the world of a value τ (cell j at the address ad j, its entry w.2 G ad j τ), whatever else it holds. -/
abbrev clsA : List vw_C := [(RX0, TX0, 10), (RX1, TX1, 4), (RX2, TX2, 7), (RX3, TX3, 9), (RX4, TX4, 9), (RX5, TX5, 2), (RX6, TX6, 12), (RX7, TX7, 17)]
def ALLG : List Cond := lw_tbl.filter goodWord
def warmW : Cond → Bool
  | .fieldLinkNest _ _ _ _ _ _ => true
  | .methodLinkNest _ _ _ _ => true
  | .castable _ _ => true
  | .declares _ => true
  | _ => false
theorem warm_of {w : Cond} (h : warmW w = true) {s U : State} (hW : s.WarmedH U.vm) (hZ : va_Nw w s) : va_Nw w U := by
  cases w <;> first | exact va_Nw.warmF hW hZ | exact va_Nw.warmM hW hZ | exact va_Nw.warmC hW hZ | exact va_Nw.warmD hW hZ | exact absurd h (by simp [warmW])
theorem same_of {w : Cond} (h : warmW w = true) {u U : State} (e : u.vm = U.vm) (hZ : va_Nw w u) : va_Nw w U := by
  refine va_Nw.same ?_ e hZ
  cases w <;> first | rfl | exact absurd h (by simp [warmW])
theorem ALLG_in {w : Cond} (h : w ∈ lw_tbl) (g : goodWord w = true) : w ∈ ALLG := List.mem_filter.mpr ⟨h, g⟩
theorem ALLG_good {hd : Cond} (h : hd ∈ ALLG) : GoodIn ALLG (hd :: ALLG) := by
  intro w hw
  have hm : w ∈ ALLG := by
    rcases List.mem_cons.mp hw with e | e
    · rw [e]; exact h
    · exact e
  exact ⟨hm, good_of_word (List.mem_filter.mp hm).2⟩
abbrev Gx : Type := va_G × ClassId × ClassId × ClassId × ClassId
def tysG (G : Gx) : List (ClassId × FieldType) := [(G.2.1, .int), (G.2.2.1, .array .int), (G.2.2.2.1, .char), (G.2.2.2.2, .long)]
abbrev Wd (T : Type) : Type := Nat × (Gx → (Nat → Nat) → Nat → T → va_E)
def mkW {T : Type} (w : Wd T) (G : Gx) (ad : Nat → Nat) (τ : T) : va_W := (List.range w.1).map (fun j => (ad j, w.2 G ad j τ))
def Aof {T : Type} (w : Wd T) (ad : Nat → Nat) (sz : Nat) : Nat → Prop := fun q => (∃ j, j < w.1 ∧ q = ad j) ∨ sz ≤ q
def injW {T : Type} (w : Wd T) (ad : Nat → Nat) : Prop := ∀ i j, i < w.1 → j < w.1 → ad i = ad j → i = j
theorem mkW_get {T : Type} (w : Wd T) (G : Gx) (ad : Nat → Nat) (τ : T) {j : Nat} (h : j < w.1) : (mkW w G ad τ)[j]? = some (ad j, w.2 G ad j τ) := by
  simp [mkW, h]
theorem mkW_at {T : Type} {w : Wd T} {G : Gx} {ad : Nat → Nat} {τ : T} {k : Nat} {q : Nat × va_E} (h : (mkW w G ad τ)[k]? = some q) : k < w.1 ∧ q = (ad k, w.2 G ad k τ) := by
  have hk : k < w.1 := by
    have := (List.getElem?_eq_some_iff.mp h).1
    simpa [mkW] using this
  rw [mkW_get w G ad τ hk] at h
  exact ⟨hk, (Option.some.inj h).symm⟩
theorem mkW_set {T : Type} (w : Wd T) (G : Gx) (ad : Nat → Nat) (τ τ' : T) {j : Nat} (h : j < w.1) {e : va_E} (he : w.2 G ad j τ' = e) (ho : ∀ i, i < w.1 → i ≠ j → w.2 G ad i τ' = w.2 G ad i τ) : (mkW w G ad τ).set j (ad j, e) = mkW w G ad τ' := by
  apply List.ext_getElem?
  intro i
  by_cases hi : i < w.1
  · rw [mkW_get w G ad τ' hi]
    by_cases hj : i = j
    · subst hj
      rw [List.getElem?_set_self (by simpa [mkW] using hi), he]
    · rw [List.getElem?_set_ne (Ne.symm hj), mkW_get w G ad τ hi, ho i hi hj]
  · rw [List.getElem?_eq_none (by simp [mkW]; omega), List.getElem?_eq_none (by simp [mkW]; omega)]
theorem mkW_D {T : Type} {w : Wd T} {G : Gx} {ad : Nat → Nat} {τ : T} {sz : Nat} (hi : injW w ad) : va_D (Aof w ad sz) (mkW w G ad τ) := by
  refine ⟨fun i j p q hp hq e => ?_, fun k q hq => ?_⟩
  · obtain ⟨h1, rfl⟩ := mkW_at hp
    obtain ⟨h2, rfl⟩ := mkW_at hq
    exact hi i j h1 h2 e
  · obtain ⟨h1, rfl⟩ := mkW_at hq
    exact Or.inl ⟨k, h1, rfl⟩
/-- the texts of the exceptions -/
def strsX : List (Nat × String) := [(365, "a bit is set for no channel"), (367, "value out of range"), (85, "weight out of range"), (375, "an auction is known"), (98, "too many stations"), (108, "no station"), (358, "no such station"), (129, "character not allowed"), (134, "buffer too long"), (144, "error in the text"), (153, "no such kind"), (166, "no such index"), (186, "no such property"), (196, "base price out of range"), (363, "a bit is set for no station"), (371, "the set is not feasible"), (239, "the station can be added"), (369, "decrement out of range"), (378, "no auction is known"), (268, "the auction is over"), (276, "no such round"), (380, "no auction is known or it is not over"), (294, "the station does not take part"), (302, "no set froze the station"), (304, "no such number"), (316, "no such event"), (324, "no such rank"), (334, "no station is frozen"), (348, "no such count"), (356, "nothing was saved")]
/-- pairs of exception classes of which the first is no case of the second -/
def excL : List String := ["java/lang/IllegalArgumentException", "java/lang/UnsupportedOperationException", "java/lang/IllegalStateException", "java/lang/IndexOutOfBoundsException", "java/util/NoSuchElementException", "java/lang/ArithmeticException"]
/-- what holds of a state beside its world: the classes, the words that are no good words, the texts, two statics, no stack traces -/
def AMB (l : Launch) (G : Gx) (A : Nat → Prop) (U : State) : Prop :=
  va_K G.1 clsA (tysG G) U ∧ (∀ w ∈ lw_tbl, warmW w = true → va_Nw w U) ∧ (∀ q ∈ strsX, ∃ a, vk_R RX6 q.1 q.2 a U) ∧
  vx_Zq Bundle.tN "UNASSIGNED_STACK" Bundle.steD A U U.heap ∧ vx_Zq Bundle.tN "SUPPRESSED_SENTINEL" Bundle.listD A U U.heap ∧
  (∀ a ∈ excL, ∀ b ∈ excL, a ≠ b → va_Nc a b U) ∧ l.stackTraces = false
theorem AMB.same {l : Launch} {G : Gx} {A : Nat → Prop} {u U : State} (h : AMB l G A u) (hv : U.vm = u.vm) (hh : U.heap = u.heap) : AMB l G A U := by
  obtain ⟨h1, h2, h3, h4, h5, h6, h7⟩ := h
  have hal : u.vm.Alike U.vm := by rw [hv]; exact Vm.Alike.refl u.vm
  refine ⟨va_K.moved hal h1, fun w hw g => same_of g hv.symm (h2 w hw g), fun q hq => ?_, ?_, ?_, fun a ha b hb hab => (h6 a ha b hb hab).moved hal, h7⟩
  · obtain ⟨a, ha⟩ := h3 q hq
    exact ⟨a, vk_R.same hv ha⟩
  · rw [hh]; exact vx_Zq.moved hal h4
  · rw [hh]; exact vx_Zq.moved hal h5
theorem AMB.warm {l : Launch} {G : Gx} {A B : Nat → Prop} {s U : State} (h : AMB l G A s) (hW : s.WarmedH U.vm) (hAB : ∀ q, B q → A q) (hk : ∀ a : Nat, a < s.heap.size → ¬ A a → U.heap[a]? = s.heap[a]?) : AMB l G B U := by
  obtain ⟨h1, h2, h3, h4, h5, h6, h7⟩ := h
  have hal : s.vm.Alike U.vm := hW.alike
  refine ⟨va_K.moved hal h1, fun w hw g => warm_of g hW (h2 w hw g), fun q hq => ?_, ?_, ?_, fun a ha b hb hab => (h6 a ha b hb hab).moved hal, h7⟩
  · obtain ⟨a, ha⟩ := h3 q hq
    exact ⟨a, vk_R.warm hW ha⟩
  · exact ((h4.moved hal).kept hk).narrow hAB
  · exact ((h5.moved hal).kept hk).narrow hAB
def Bef {T : Type} (w : Wd T) (l : Launch) (G : Gx) (ad : Nat → Nat) (sz : Nat) (τ : T) (U : State) : Prop :=
  U.heap.size = sz ∧ va_P G.1 clsA (mkW w G ad τ) U.heap ∧ AMB l G (Aof w ad sz) U ∧ injW w ad
def QcV {T : Type} (w : Wd T) (G : Gx) (ad : Nat → Nat) (v : Option Value) (τ' : T) (sz : Nat) : Array Value → State → Outcome → State → Prop :=
  fun _ st oc t => oc = .returned v ∧ va_P G.1 clsA (mkW w G ad τ') t.heap ∧ va_F (Aof w ad sz) st t
def QcX {T : Type} (w : Wd T) (G : Gx) (ad : Nat → Nat) (r : String ⊕ Option Value) (τ' : T) (sz : Nat) : Array Value → State → Outcome → State → Prop :=
  fun _ st oc t => (∃ v, r = .inr v ∧ oc = .returned v) ∧ va_P G.1 clsA (mkW w G ad τ') t.heap ∧ va_F (Aof w ad sz) st t
def XcX {T : Type} (w : Wd T) (G : Gx) (ad : Nat → Nat) (r : String ⊕ Option Value) (τ' : T) (sz : Nat) : String → State → State → Prop :=
  fun E st t => r = .inl E ∧ va_P G.1 clsA (mkW w G ad τ') t.heap ∧ va_F (Aof w ad sz) st t
/-- a contract: over the world of τ the method returns v, and leaves the world of τ' -/
def Con {T : Type} (w : Wd T) (l : Launch) (G : Gx) (ad : Nat → Nat) (y : MethodName) (hd : Cond) (rm : Room) (mc ms : Nat) (av : List Value) (τ : T) (v : Option Value) (τ' : T) : Prop :=
  ∀ sz : Nat, Met l y (hd :: ALLG) rm (va_Pc av (Bef w l G ad sz τ)) (QcV w G ad v τ' sz) mc ms (Aof w ad sz)
/-- the same of a method that returns or throws -/
def ConX {T : Type} (w : Wd T) (l : Launch) (G : Gx) (ad : Nat → Nat) (y : MethodName) (hd : Cond) (rm : Room) (mc ms : Nat) (av : List Value) (τ : T) (r : String ⊕ Option Value) (τ' : T) : Prop :=
  ∀ sz : Nat, vx_Met l y (hd :: ALLG) rm (va_Pc av (Bef w l G ad sz τ)) (QcX w G ad r τ' sz) (XcX w G ad r τ' sz) mc ms (Aof w ad sz)
abbrev Cx : Type := Program × Launch × Env × Room × State × MethodId × Array Value × List Frame × Method × Code
abbrev x_p (X : Cx) : Program := X.1
abbrev x_l (X : Cx) : Launch := X.2.1
abbrev x_e (X : Cx) : Env := X.2.2.1
abbrev x_R (X : Cx) : Room := X.2.2.2.1
abbrev x_s (X : Cx) : State := X.2.2.2.2.1
abbrev x_m (X : Cx) : MethodId := X.2.2.2.2.2.1
abbrev x_a (X : Cx) : Array Value := X.2.2.2.2.2.2.1
abbrev x_b (X : Cx) : List Frame := X.2.2.2.2.2.2.2.1
abbrev x_h (X : Cx) : Method := X.2.2.2.2.2.2.2.2.1
abbrev x_c (X : Cx) : Code := X.2.2.2.2.2.2.2.2.2
abbrev Wx (X : Cx) (H : Heap) (locs : List Loc) (k n : Nat) (Q : State → Prop) (g : JFrame) : Prop :=
  W (x_p X) (x_l X) (x_e X) (x_R X) (x_s X) (x_m X) (x_a X) (x_b X) (x_h X) (x_c X) H locs k n Q g
def V {T : Type} (w : Wd T) (X : Cx) (G : Gx) (ad : Nat → Nat) (nL : Nat) (Q : State → Prop) (k n : Nat) (τ : T) (pc : Nat) (L : List (Nat × Value)) (st : List Value) : Prop :=
  ∀ (H : Heap) (locs : List Loc) (ls : Array Slot), va_P G.1 clsA (mkW w G ad τ) H → va_S (Aof w ad (x_s X).heap.size) (x_s X).heap H locs → lv_has ls nL L → Wx X H locs k n Q (F0 (x_m X) pc ls st)
def OK {T : Type} (w : Wd T) (X : Cx) (G : Gx) (ad : Nat → Nat) (own : String) (cc : ByteArray) (nL : Nat) (rm : Room) : Prop :=
  (x_p X).tables.exec = Jvm.exec ∧ (x_c X).code = cc ∧ (x_c X).maxLocals = nL ∧ (x_s X).vm.findClass own = some (x_m X).cls ∧ (∀ w ∈ ALLG, w.before (x_a X) (x_s X) = true) ∧
  AMB (x_l X) G (Aof w ad (x_s X).heap.size) (x_s X) ∧ injW w ad ∧ (x_h X).locks = false ∧ x_R X = rm
/-- what the walk must show at its end -/
def FinR {T : Type} (w : Wd T) (X : Cx) (G : Gx) (ad : Nat → Nat) (Q : State → Prop) (mc ms : Nat) (ret : Option FieldType) (v : Option Value) (τ' : T) : Prop :=
  (x_h X).sig.returnType = ret ∧ ∀ t, MQ (x_b X) (QcV w G ad v τ' (x_s X).heap.size) (x_a X) (x_s X) mc ms (Aof w ad (x_s X).heap.size) t → Q t
def FinX {T : Type} (w : Wd T) (X : Cx) (G : Gx) (ad : Nat → Nat) (Q : State → Prop) (mc ms : Nat) (E : String) (τ' : T) : Prop :=
  (∀ x ∈ (x_c X).exceptionTable.toList, False) ∧ ∃ r : String ⊕ Option Value, r = .inl E ∧ Q = vx_MQ (x_b X) (QcX w G ad r τ' (x_s X).heap.size) (XcX w G ad r τ' (x_s X).heap.size) (x_a X) (x_s X) mc ms (Aof w ad (x_s X).heap.size)
theorem W_to {p : Program} {l : Launch} {e : Env} {R : Room} {s : State} {m : MethodId} {args : Array Value} {below : List Frame} {meth : Method} {c : Code} {H : Heap} {locs : List Loc} {cells slots : Nat} {Q Q1 : State → Prop} {g : JFrame}
    (h : W p l e R s m args below meth c H locs cells slots Q1 g) (k : ∀ t, Q1 t → Q t) : W p l e R s m args below meth c H locs cells slots Q g := by
  intro T hT X
  obtain ⟨t, a, b⟩ := h T hT X
  exact ⟨t, a, k t b⟩
section VS
variable {T : Type} {w : Wd T} {l : Launch} {G : Gx} {ad : Nat → Nat} {y : MethodName} {cc : ByteArray} {nL mc ms : Nat} {ret : Option FieldType} {rm : Room} {av : List Value} {τ τ' : T} {v : Option Value} {r : String ⊕ Option Value}
theorem Con.start (hy : plainName y.cls = true) (hn : (lg_sl av).length ≤ nL)
    (body : ∀ (X : Cx) (Q : State → Prop), x_l X = l → OK w X G ad y.cls cc nL rm → FinR w X G ad Q mc ms ret v τ' → V w X G ad nL Q 0 0 τ 0 (lv_args 0 av) []) :
    Con w l G ad y (Cond.code y cc nL ret) rm mc ms av τ v τ' := by
  intro sz
  refine Met.ofW (cc := cc) (maxL := nL) (ret := ret) (ws' := ALLG) hy rfl ?_
  intro p e s m args below meth c s₁ B hml hv
  obtain ⟨rfl, hsz, hP, hA, hi⟩ := hv
  subst hsz
  have hts := atoms_spec (ws := Cond.code y cc nL ret :: ALLG) B.pre
  have hC : OK w (p, l, e, rm, s, m, av.toArray, below, meth, c) G ad y.cls cc nL rm :=
    ⟨B.exec, B.bytes, hml, findClass_of_methodNamed B.named, fun w h => hts w (List.mem_cons_of_mem _ h), hA, hi, B.notSynchronized, rfl⟩
  have h := body (p, l, e, rm, s, m, av.toArray, below, meth, c) (MQ below (QcV w G ad v τ' s.heap.size) av.toArray s mc ms (Aof w ad s.heap.size)) rfl hC ⟨B.returns, fun t h => h⟩
  rw [lg_entry_eq]
  exact h s.heap [] _ hP va_S.rf (lv_entry av hn)
theorem Con.startF (hy : plainFor y = true) (hn : (lg_sl av).length ≤ nL)
    (body : ∀ (X : Cx) (Q : State → Prop), x_l X = l → OK w X G ad y.cls cc nL rm → FinR w X G ad Q mc ms ret v τ' → V w X G ad nL Q 0 0 τ 0 (lv_args 0 av) []) :
    Con w l G ad y (Cond.code y cc nL ret) rm mc ms av τ v τ' := by
  intro sz
  refine va_MetF (cc := cc) (maxL := nL) (ret := ret) (ws' := ALLG) hy rfl ?_
  intro p e s m args below meth c s₁ B hml hv
  obtain ⟨rfl, hsz, hP, hA, hi⟩ := hv
  subst hsz
  have hts := atoms_spec (ws := Cond.code y cc nL ret :: ALLG) B.pre
  have hC : OK w (p, l, e, rm, s, m, av.toArray, below, meth, c) G ad y.cls cc nL rm :=
    ⟨B.exec, B.bytes, hml, findClass_of_methodNamed B.named, fun w h => hts w (List.mem_cons_of_mem _ h), hA, hi, B.notSynchronized, rfl⟩
  have h := body (p, l, e, rm, s, m, av.toArray, below, meth, c) (MQ below (QcV w G ad v τ' s.heap.size) av.toArray s mc ms (Aof w ad s.heap.size)) rfl hC ⟨B.returns, fun t h => h⟩
  rw [lg_entry_eq]
  exact h s.heap [] _ hP va_S.rf (lv_entry av hn)
theorem ConX.start (hy : plainName y.cls = true) (hn : (lg_sl av).length ≤ nL)
    (body : ∀ (X : Cx) (Q : State → Prop), x_l X = l → OK w X G ad y.cls cc nL rm → (∀ v, r = .inr v → FinR w X G ad Q mc ms ret v τ') → (∀ E, r = .inl E → FinX w X G ad Q mc ms E τ') → V w X G ad nL Q 0 0 τ 0 (lv_args 0 av) []) :
    ConX w l G ad y (Cond.code y cc nL ret) rm mc ms av τ r τ' := by
  intro sz
  refine vx_ofW (cc := cc) (maxL := nL) (ret := ret) (ws' := ALLG) hy rfl ?_
  intro p e s m args below meth c s₁ B hml htab hv
  obtain ⟨rfl, hsz, hP, hA, hi⟩ := hv
  subst hsz
  have hts := atoms_spec (ws := Cond.code y cc nL ret :: ALLG) B.pre
  have hC : OK w (p, l, e, rm, s, m, av.toArray, below, meth, c) G ad y.cls cc nL rm :=
    ⟨B.exec, B.bytes, hml, findClass_of_methodNamed B.named, fun w h => hts w (List.mem_cons_of_mem _ h), hA, hi, B.notSynchronized, rfl⟩
  have h := body (p, l, e, rm, s, m, av.toArray, below, meth, c) (vx_MQ below (QcX w G ad r τ' s.heap.size) (XcX w G ad r τ' s.heap.size) av.toArray s mc ms (Aof w ad s.heap.size)) rfl hC
    (fun v e => ⟨B.returns, fun t h => by
      obtain ⟨o, b1, b2, ⟨q1, q2, q3⟩, b4⟩ := h
      exact ⟨o, b1, b2, Or.inl ⟨⟨⟨v, e, q1⟩, q2, q3⟩, b4⟩⟩⟩)
    (fun E e => ⟨htab, r, e, rfl⟩)
  rw [lg_entry_eq]
  exact h s.heap [] _ hP va_S.rf (lv_entry av hn)
end VS
section VR
variable {T : Type} {w : Wd T} {X : Cx} {G : Gx} {ad : Nat → Nat} {own : String} {cc : ByteArray} {nL k n pc q : Nat} {rm : Room} {Q : State → Prop} {τ τ' : T} {L : List (Nat × Value)} {st : List Value} {mc ms : Nat} {rt : Option FieldType}
theorem V_iconst (C : OK w X G ad own cc nL rm) {c : Int} {v : Int32} (d : decode cc pc = .ok (.iconst c, 1)) (e : pc + 1 = q) (h : Int32.ofInt c = v) (kk : V w X G ad nL Q k n τ q L (.int v :: st)) : V w X G ad nL Q k n τ pc L (st) := by
  subst e
  intro H locs ls hP hS hl
  exact lv_iconst C.1 C.2.1 d h (kk H locs ls hP hS hl)
theorem V_lconst (C : OK w X G ad own cc nL rm) {c : Fin 2} {v : Int64} (d : decode cc pc = .ok (.lconst c, 1)) (e : pc + 1 = q) (h : Int64.ofNat (c : Nat) = v) (kk : V w X G ad nL Q k n τ q L (.long v :: st)) : V w X G ad nL Q k n τ pc L (st) := by
  subst e
  intro H locs ls hP hS hl
  exact lv_lconst C.1 C.2.1 d h (kk H locs ls hP hS hl)
theorem V_bipush (C : OK w X G ad own cc nL rm) {c : Int} {v : Int32} (d : decode cc pc = .ok (.bipush c, 2)) (e : pc + 2 = q) (h : (Int8.ofInt c).toInt32 = v) (kk : V w X G ad nL Q k n τ q L (.int v :: st)) : V w X G ad nL Q k n τ pc L (st) := by
  subst e
  intro H locs ls hP hS hl
  exact lv_bipush C.1 C.2.1 d h (kk H locs ls hP hS hl)
theorem V_sipush (C : OK w X G ad own cc nL rm) {c : Int} {v : Int32} (d : decode cc pc = .ok (.sipush c, 3)) (e : pc + 3 = q) (h : (Int16.ofInt c).toInt32 = v) (kk : V w X G ad nL Q k n τ q L (.int v :: st)) : V w X G ad nL Q k n τ pc L (st) := by
  subst e
  intro H locs ls hP hS hl
  exact lv_sipush C.1 C.2.1 d h (kk H locs ls hP hS hl)
theorem V_fconst0 (C : OK w X G ad own cc nL rm)  (d : decode cc pc = .ok (.fconst 0, 1)) (e : pc + 1 = q)  (kk : V w X G ad nL Q k n τ q L (.float FP.fconst0 :: st)) : V w X G ad nL Q k n τ pc L (st) := by
  subst e
  intro H locs ls hP hS hl
  exact lv_fconst0 C.1 C.2.1 d  (kk H locs ls hP hS hl)
theorem V_fconst1 (C : OK w X G ad own cc nL rm)  (d : decode cc pc = .ok (.fconst 1, 1)) (e : pc + 1 = q)  (kk : V w X G ad nL Q k n τ q L (.float FP.fconst1 :: st)) : V w X G ad nL Q k n τ pc L (st) := by
  subst e
  intro H locs ls hP hS hl
  exact lv_fconst1 C.1 C.2.1 d  (kk H locs ls hP hS hl)
theorem V_dconst0 (C : OK w X G ad own cc nL rm)  (d : decode cc pc = .ok (.dconst 0, 1)) (e : pc + 1 = q)  (kk : V w X G ad nL Q k n τ q L (.double FP.dconst0 :: st)) : V w X G ad nL Q k n τ pc L (st) := by
  subst e
  intro H locs ls hP hS hl
  exact lv_dconst0 C.1 C.2.1 d  (kk H locs ls hP hS hl)
theorem V_dconst1 (C : OK w X G ad own cc nL rm)  (d : decode cc pc = .ok (.dconst 1, 1)) (e : pc + 1 = q)  (kk : V w X G ad nL Q k n τ q L (.double FP.dconst1 :: st)) : V w X G ad nL Q k n τ pc L (st) := by
  subst e
  intro H locs ls hP hS hl
  exact lv_dconst1 C.1 C.2.1 d  (kk H locs ls hP hS hl)
theorem V_lcmp (C : OK w X G ad own cc nL rm) {x y : Int64} (d : decode cc pc = .ok (.lcmp, 1)) (e : pc + 1 = q)  (kk : V w X G ad nL Q k n τ q L (.int (lg_cmp x y) :: st)) : V w X G ad nL Q k n τ pc L (.long y :: .long x :: st) := by
  subst e
  intro H locs ls hP hS hl
  exact W.lcmp C.1 C.2.1 d  (kk H locs ls hP hS hl)
theorem V_iload_n (C : OK w X G ad own cc nL rm) {j : Fin 4} {x : Int32} {z : Nat} (d : decode cc pc = .ok (.iload_n j, 1)) (e : pc + 1 = q) (hz : (j : Nat) = z) (i : Nat) (h : L[i]? = some (z, .int x)) (kk : V w X G ad nL Q k n τ q L (.int x :: st)) : V w X G ad nL Q k n τ pc L (st) := by
  subst e
  intro H locs ls hP hS hl
  exact lv_iload_n C.1 C.2.1 d hz (lv_at hl i h) (kk H locs ls hP hS hl)
theorem V_aload_n (C : OK w X G ad own cc nL rm) {j : Fin 4} {x : Nat} {z : Nat} (d : decode cc pc = .ok (.aload_n j, 1)) (e : pc + 1 = q) (hz : (j : Nat) = z) (i : Nat) (h : L[i]? = some (z, .ref x)) (kk : V w X G ad nL Q k n τ q L (.ref x :: st)) : V w X G ad nL Q k n τ pc L (st) := by
  subst e
  intro H locs ls hP hS hl
  exact lv_aload_n C.1 C.2.1 d hz (lv_at hl i h) (kk H locs ls hP hS hl)
theorem V_fload_n (C : OK w X G ad own cc nL rm) {j : Fin 4} {x : UInt32} {z : Nat} (d : decode cc pc = .ok (.fload_n j, 1)) (e : pc + 1 = q) (hz : (j : Nat) = z) (i : Nat) (h : L[i]? = some (z, .float x)) (kk : V w X G ad nL Q k n τ q L (.float x :: st)) : V w X G ad nL Q k n τ pc L (st) := by
  subst e
  intro H locs ls hP hS hl
  exact lv_fload_n C.1 C.2.1 d hz (lv_at hl i h) (kk H locs ls hP hS hl)
theorem V_dload_n (C : OK w X G ad own cc nL rm) {j : Fin 4} {x : UInt64} {z : Nat} (d : decode cc pc = .ok (.dload_n j, 1)) (e : pc + 1 = q) (hz : (j : Nat) = z) (i : Nat) (h : L[i]? = some (z, .double x)) (kk : V w X G ad nL Q k n τ q L (.double x :: st)) : V w X G ad nL Q k n τ pc L (st) := by
  subst e
  intro H locs ls hP hS hl
  exact lv_dload_n C.1 C.2.1 d hz (lv_at hl i h) (kk H locs ls hP hS hl)
theorem V_iload (C : OK w X G ad own cc nL rm) {z : Nat} {x : Int32} (d : decode cc pc = .ok (.iload z, 2)) (e : pc + 2 = q) (i : Nat) (h : L[i]? = some (z, .int x)) (kk : V w X G ad nL Q k n τ q L (.int x :: st)) : V w X G ad nL Q k n τ pc L (st) := by
  subst e
  intro H locs ls hP hS hl
  exact lv_iload C.1 C.2.1 d (lv_at hl i h) (kk H locs ls hP hS hl)
theorem V_aload (C : OK w X G ad own cc nL rm) {z : Nat} {x : Nat} (d : decode cc pc = .ok (.aload z, 2)) (e : pc + 2 = q) (i : Nat) (h : L[i]? = some (z, .ref x)) (kk : V w X G ad nL Q k n τ q L (.ref x :: st)) : V w X G ad nL Q k n τ pc L (st) := by
  subst e
  intro H locs ls hP hS hl
  exact lv_aload C.1 C.2.1 d (lv_at hl i h) (kk H locs ls hP hS hl)
theorem V_dload (C : OK w X G ad own cc nL rm) {z : Nat} {x : UInt64} (d : decode cc pc = .ok (.dload z, 2)) (e : pc + 2 = q) (i : Nat) (h : L[i]? = some (z, .double x)) (kk : V w X G ad nL Q k n τ q L (.double x :: st)) : V w X G ad nL Q k n τ pc L (st) := by
  subst e
  intro H locs ls hP hS hl
  exact lv_dload C.1 C.2.1 d (lv_at hl i h) (kk H locs ls hP hS hl)
theorem V_lload (C : OK w X G ad own cc nL rm) {z : Nat} {x : Int64} (d : decode cc pc = .ok (.lload z, 2)) (e : pc + 2 = q) (i : Nat) (h : L[i]? = some (z, .long x)) (kk : V w X G ad nL Q k n τ q L (.long x :: st)) : V w X G ad nL Q k n τ pc L (st) := by
  subst e
  intro H locs ls hP hS hl
  exact lv_lload C.1 C.2.1 d (lv_at hl i h) (kk H locs ls hP hS hl)
theorem V_istore_n (C : OK w X G ad own cc nL rm) {j : Fin 4} {z : Nat} {x : Int32} {L' : List (Nat × Value)} (d : decode cc pc = .ok (.istore_n j, 1)) (e : pc + 1 = q) (hz : (j : Nat) = z) (hn : z < nL) (hL : (z, Value.int x) :: L.filter (fun q => !(q.1 == z) && !(q.1 + 1 == z && q.2.category == 2)) = L') (kk : V w X G ad nL Q k n τ q L' st) : V w X G ad nL Q k n τ pc L (.int x :: st) := by
  subst e
  intro H locs ls hP hS hl
  exact lv_istore_n C.1 C.2.1 d hz hl hn hL (fun ls h => kk H locs ls hP hS h)
theorem V_astore_n (C : OK w X G ad own cc nL rm) {j : Fin 4} {z : Nat} {x : Nat} {L' : List (Nat × Value)} (d : decode cc pc = .ok (.astore_n j, 1)) (e : pc + 1 = q) (hz : (j : Nat) = z) (hn : z < nL) (hL : (z, Value.ref x) :: L.filter (fun q => !(q.1 == z) && !(q.1 + 1 == z && q.2.category == 2)) = L') (kk : V w X G ad nL Q k n τ q L' st) : V w X G ad nL Q k n τ pc L (.ref x :: st) := by
  subst e
  intro H locs ls hP hS hl
  exact lv_astore_n C.1 C.2.1 d hz hl hn hL (fun ls h => kk H locs ls hP hS h)
theorem V_fstore_n (C : OK w X G ad own cc nL rm) {j : Fin 4} {z : Nat} {x : UInt32} {L' : List (Nat × Value)} (d : decode cc pc = .ok (.fstore_n j, 1)) (e : pc + 1 = q) (hz : (j : Nat) = z) (hn : z < nL) (hL : (z, Value.float x) :: L.filter (fun q => !(q.1 == z) && !(q.1 + 1 == z && q.2.category == 2)) = L') (kk : V w X G ad nL Q k n τ q L' st) : V w X G ad nL Q k n τ pc L (.float x :: st) := by
  subst e
  intro H locs ls hP hS hl
  exact lv_fstore_n C.1 C.2.1 d hz hl hn hL (fun ls h => kk H locs ls hP hS h)
theorem V_dstore_n (C : OK w X G ad own cc nL rm) {j : Fin 4} {z : Nat} {x : UInt64} {L' : List (Nat × Value)} (d : decode cc pc = .ok (.dstore_n j, 1)) (e : pc + 1 = q) (hz : (j : Nat) = z) (hn : z + 1 < nL) (hL : (z, Value.double x) :: L.filter (fun q => !(q.1 == z) && (!(q.1 == z + 1) && !(q.1 + 1 == z && q.2.category == 2))) = L') (kk : V w X G ad nL Q k n τ q L' st) : V w X G ad nL Q k n τ pc L (.double x :: st) := by
  subst e
  intro H locs ls hP hS hl
  exact lv_dstore_n C.1 C.2.1 d hz hl hn hL (fun ls h => kk H locs ls hP hS h)
theorem V_istore (C : OK w X G ad own cc nL rm) {z : Nat} {x : Int32} {L' : List (Nat × Value)} (d : decode cc pc = .ok (.istore z, 2)) (e : pc + 2 = q) (hn : z < nL) (hL : (z, Value.int x) :: L.filter (fun q => !(q.1 == z) && !(q.1 + 1 == z && q.2.category == 2)) = L') (kk : V w X G ad nL Q k n τ q L' st) : V w X G ad nL Q k n τ pc L (.int x :: st) := by
  subst e
  intro H locs ls hP hS hl
  exact lv_istore C.1 C.2.1 d  hl hn hL (fun ls h => kk H locs ls hP hS h)
theorem V_astore (C : OK w X G ad own cc nL rm) {z : Nat} {x : Nat} {L' : List (Nat × Value)} (d : decode cc pc = .ok (.astore z, 2)) (e : pc + 2 = q) (hn : z < nL) (hL : (z, Value.ref x) :: L.filter (fun q => !(q.1 == z) && !(q.1 + 1 == z && q.2.category == 2)) = L') (kk : V w X G ad nL Q k n τ q L' st) : V w X G ad nL Q k n τ pc L (.ref x :: st) := by
  subst e
  intro H locs ls hP hS hl
  exact lv_astore C.1 C.2.1 d  hl hn hL (fun ls h => kk H locs ls hP hS h)
theorem V_dstore (C : OK w X G ad own cc nL rm) {z : Nat} {x : UInt64} {L' : List (Nat × Value)} (d : decode cc pc = .ok (.dstore z, 2)) (e : pc + 2 = q) (hn : z + 1 < nL) (hL : (z, Value.double x) :: L.filter (fun q => !(q.1 == z) && (!(q.1 == z + 1) && !(q.1 + 1 == z && q.2.category == 2))) = L') (kk : V w X G ad nL Q k n τ q L' st) : V w X G ad nL Q k n τ pc L (.double x :: st) := by
  subst e
  intro H locs ls hP hS hl
  exact lv_dstore C.1 C.2.1 d  hl hn hL (fun ls h => kk H locs ls hP hS h)
theorem V_lstore (C : OK w X G ad own cc nL rm) {z : Nat} {x : Int64} {L' : List (Nat × Value)} (d : decode cc pc = .ok (.lstore z, 2)) (e : pc + 2 = q) (hn : z + 1 < nL) (hL : (z, Value.long x) :: L.filter (fun q => !(q.1 == z) && (!(q.1 == z + 1) && !(q.1 + 1 == z && q.2.category == 2))) = L') (kk : V w X G ad nL Q k n τ q L' st) : V w X G ad nL Q k n τ pc L (.long x :: st) := by
  subst e
  intro H locs ls hP hS hl
  exact lv_lstore C.1 C.2.1 d  hl hn hL (fun ls h => kk H locs ls hP hS h)
theorem V_iinc (C : OK w X G ad own cc nL rm) {z : Nat} {c : Int} {x v : Int32} {L' : List (Nat × Value)} (d : decode cc pc = .ok (.iinc z c, 3)) (e : pc + 3 = q) (i : Nat) (h : L[i]? = some (z, .int x)) (hv : x + Int32.ofInt c = v) (hn : z < nL) (hL : (z, Value.int v) :: L.filter (fun q => !(q.1 == z) && !(q.1 + 1 == z && q.2.category == 2)) = L') (kk : V w X G ad nL Q k n τ q L' st) : V w X G ad nL Q k n τ pc L st := by
  subst e
  intro H locs ls hP hS hl
  exact lv_iinc C.1 C.2.1 d hl (k := i) h hv hn hL (fun ls h => kk H locs ls hP hS h)
theorem V_iincW (C : OK w X G ad own cc nL rm) {z : Nat} {c : Int} {x v : Int32} {L' : List (Nat × Value)} (d : decode cc pc = .ok (.iinc z c, 6)) (e : pc + 6 = q) (i : Nat) (h : L[i]? = some (z, .int x)) (hv : x + Int32.ofInt c = v) (hn : z < nL) (hL : (z, Value.int v) :: L.filter (fun q => !(q.1 == z) && !(q.1 + 1 == z && q.2.category == 2)) = L') (kk : V w X G ad nL Q k n τ q L' st) : V w X G ad nL Q k n τ pc L st := by
  subst e
  intro H locs ls hP hS hl
  exact lv_iincW C.1 C.2.1 d hl (k := i) h hv hn hL (fun ls h => kk H locs ls hP hS h)
theorem V_iadd (C : OK w X G ad own cc nL rm) {x y : Int32} (d : decode cc pc = .ok (.iadd, 1)) (e : pc + 1 = q)  (kk : V w X G ad nL Q k n τ q L (.int (x + y) :: st)) : V w X G ad nL Q k n τ pc L (.int y :: .int x :: st) := by
  subst e
  intro H locs ls hP hS hl
  exact lv_iadd C.1 C.2.1 d  (kk H locs ls hP hS hl)
theorem V_isub (C : OK w X G ad own cc nL rm) {x y : Int32} (d : decode cc pc = .ok (.isub, 1)) (e : pc + 1 = q)  (kk : V w X G ad nL Q k n τ q L (.int (x - y) :: st)) : V w X G ad nL Q k n τ pc L (.int y :: .int x :: st) := by
  subst e
  intro H locs ls hP hS hl
  exact lv_isub C.1 C.2.1 d  (kk H locs ls hP hS hl)
theorem V_imul (C : OK w X G ad own cc nL rm) {x y : Int32} (d : decode cc pc = .ok (.imul, 1)) (e : pc + 1 = q)  (kk : V w X G ad nL Q k n τ q L (.int (x * y) :: st)) : V w X G ad nL Q k n τ pc L (.int y :: .int x :: st) := by
  subst e
  intro H locs ls hP hS hl
  exact lv_imul C.1 C.2.1 d  (kk H locs ls hP hS hl)
theorem V_iand (C : OK w X G ad own cc nL rm) {x y : Int32} (d : decode cc pc = .ok (.iand, 1)) (e : pc + 1 = q)  (kk : V w X G ad nL Q k n τ q L (.int (x &&& y) :: st)) : V w X G ad nL Q k n τ pc L (.int y :: .int x :: st) := by
  subst e
  intro H locs ls hP hS hl
  exact lv_iand C.1 C.2.1 d  (kk H locs ls hP hS hl)
theorem V_ior (C : OK w X G ad own cc nL rm) {x y : Int32} (d : decode cc pc = .ok (.ior, 1)) (e : pc + 1 = q)  (kk : V w X G ad nL Q k n τ q L (.int (x ||| y) :: st)) : V w X G ad nL Q k n τ pc L (.int y :: .int x :: st) := by
  subst e
  intro H locs ls hP hS hl
  exact lv_ior C.1 C.2.1 d  (kk H locs ls hP hS hl)
theorem V_ixor (C : OK w X G ad own cc nL rm) {x y : Int32} (d : decode cc pc = .ok (.ixor, 1)) (e : pc + 1 = q)  (kk : V w X G ad nL Q k n τ q L (.int (x ^^^ y) :: st)) : V w X G ad nL Q k n τ pc L (.int y :: .int x :: st) := by
  subst e
  intro H locs ls hP hS hl
  exact lv_ixor C.1 C.2.1 d  (kk H locs ls hP hS hl)
theorem V_ishl (C : OK w X G ad own cc nL rm) {x y : Int32} (d : decode cc pc = .ok (.ishl, 1)) (e : pc + 1 = q)  (kk : V w X G ad nL Q k n τ q L (.int (x <<< (y &&& 31)) :: st)) : V w X G ad nL Q k n τ pc L (.int y :: .int x :: st) := by
  subst e
  intro H locs ls hP hS hl
  exact lv_ishl C.1 C.2.1 d  (kk H locs ls hP hS hl)
theorem V_ishr (C : OK w X G ad own cc nL rm) {x y : Int32} (d : decode cc pc = .ok (.ishr, 1)) (e : pc + 1 = q)  (kk : V w X G ad nL Q k n τ q L (.int (x >>> (y &&& 31)) :: st)) : V w X G ad nL Q k n τ pc L (.int y :: .int x :: st) := by
  subst e
  intro H locs ls hP hS hl
  exact lv_ishr C.1 C.2.1 d  (kk H locs ls hP hS hl)
theorem V_idiv (C : OK w X G ad own cc nL rm) {x y : Int32} (d : decode cc pc = .ok (.idiv, 1)) (e : pc + 1 = q) (h : ¬ y = 0) (kk : V w X G ad nL Q k n τ q L (.int (x / y) :: st)) : V w X G ad nL Q k n τ pc L (.int y :: .int x :: st) := by
  subst e
  intro H locs ls hP hS hl
  exact lv_idiv C.1 C.2.1 d h (kk H locs ls hP hS hl)
theorem V_irem (C : OK w X G ad own cc nL rm) {x y : Int32} (d : decode cc pc = .ok (.irem, 1)) (e : pc + 1 = q) (h : ¬ y = 0) (kk : V w X G ad nL Q k n τ q L (.int (x - x / y * y) :: st)) : V w X G ad nL Q k n τ pc L (.int y :: .int x :: st) := by
  subst e
  intro H locs ls hP hS hl
  exact lv_irem C.1 C.2.1 d h (kk H locs ls hP hS hl)
theorem V_iushr (C : OK w X G ad own cc nL rm) {x y : Int32} (d : decode cc pc = .ok (.iushr, 1)) (e : pc + 1 = q)  (kk : V w X G ad nL Q k n τ q L (.int ((x.toUInt32 >>> (y.toUInt32 &&& Int32.toUInt32 31)).toInt32) :: st)) : V w X G ad nL Q k n τ pc L (.int y :: .int x :: st) := by
  subst e
  intro H locs ls hP hS hl
  exact lv_iushr C.1 C.2.1 d rfl (kk H locs ls hP hS hl)
theorem V_ladd (C : OK w X G ad own cc nL rm) {x y : Int64} (d : decode cc pc = .ok (.ladd, 1)) (e : pc + 1 = q)  (kk : V w X G ad nL Q k n τ q L (.long (x + y) :: st)) : V w X G ad nL Q k n τ pc L (.long y :: .long x :: st) := by
  subst e
  intro H locs ls hP hS hl
  exact lv_ladd C.1 C.2.1 d  (kk H locs ls hP hS hl)
theorem V_lshl (C : OK w X G ad own cc nL rm) {x : Int64} {y : Int32} (d : decode cc pc = .ok (.lshl, 1)) (e : pc + 1 = q)  (kk : V w X G ad nL Q k n τ q L (.long (x <<< (y.toInt64 &&& 63)) :: st)) : V w X G ad nL Q k n τ pc L (.int y :: .long x :: st) := by
  subst e
  intro H locs ls hP hS hl
  exact lv_lshl C.1 C.2.1 d rfl (kk H locs ls hP hS hl)
theorem V_i2l (C : OK w X G ad own cc nL rm) {x : Int32} (d : decode cc pc = .ok (.i2l, 1)) (e : pc + 1 = q)  (kk : V w X G ad nL Q k n τ q L (.long x.toInt64 :: st)) : V w X G ad nL Q k n τ pc L (.int x :: st) := by
  subst e
  intro H locs ls hP hS hl
  exact lv_i2l C.1 C.2.1 d rfl (kk H locs ls hP hS hl)
theorem V_l2i (C : OK w X G ad own cc nL rm) {x : Int64} (d : decode cc pc = .ok (.l2i, 1)) (e : pc + 1 = q)  (kk : V w X G ad nL Q k n τ q L (.int x.toInt32 :: st)) : V w X G ad nL Q k n τ pc L (.long x :: st) := by
  subst e
  intro H locs ls hP hS hl
  exact lv_l2i C.1 C.2.1 d rfl (kk H locs ls hP hS hl)
theorem V_i2c (C : OK w X G ad own cc nL rm) {x : Int32} (d : decode cc pc = .ok (.i2c, 1)) (e : pc + 1 = q)  (kk : V w X G ad nL Q k n τ q L (.int (x.toUInt32 % 65536).toInt32 :: st)) : V w X G ad nL Q k n τ pc L (.int x :: st) := by
  subst e
  intro H locs ls hP hS hl
  exact lv_i2c C.1 C.2.1 d rfl (kk H locs ls hP hS hl)
theorem V_dup (C : OK w X G ad own cc nL rm) {a : Value} (d : decode cc pc = .ok (.dup, 1)) (e : pc + 1 = q) (h : a.category = 1) (kk : V w X G ad nL Q k n τ q L (a :: a :: st)) : V w X G ad nL Q k n τ pc L (a :: st) := by
  subst e
  intro H locs ls hP hS hl
  exact lv_dup C.1 C.2.1 d h (kk H locs ls hP hS hl)
theorem V_pop (C : OK w X G ad own cc nL rm) {a : Value} (d : decode cc pc = .ok (.pop, 1)) (e : pc + 1 = q) (h : a.category = 1) (kk : V w X G ad nL Q k n τ q L (st)) : V w X G ad nL Q k n τ pc L (a :: st) := by
  subst e
  intro H locs ls hP hS hl
  exact lv_pop C.1 C.2.1 d h (kk H locs ls hP hS hl)
theorem V_dup2 (C : OK w X G ad own cc nL rm) {a b : Value} (d : decode cc pc = .ok (.dup2, 1)) (e : pc + 1 = q) (h : a.category = 1) (h2 : b.category = 1) (kk : V w X G ad nL Q k n τ q L (a :: b :: a :: b :: st)) : V w X G ad nL Q k n τ pc L (a :: b :: st) := by
  subst e
  intro H locs ls hP hS hl
  exact lv_dup2_11 C.1 C.2.1 d h h2 (kk H locs ls hP hS hl)
theorem V_i2f (C : OK w X G ad own cc nL rm) {x : Int32} (d : decode cc pc = .ok (.i2f, 1)) (e : pc + 1 = q)  (kk : V w X G ad nL Q k n τ q L (.float (FP.i2f x) :: st)) : V w X G ad nL Q k n τ pc L (.int x :: st) := by
  subst e
  intro H locs ls hP hS hl
  exact lv_i2f C.1 C.2.1 d  (kk H locs ls hP hS hl)
theorem V_f2i (C : OK w X G ad own cc nL rm) {x : UInt32} (d : decode cc pc = .ok (.f2i, 1)) (e : pc + 1 = q)  (kk : V w X G ad nL Q k n τ q L (.int (FP.f2i x) :: st)) : V w X G ad nL Q k n τ pc L (.float x :: st) := by
  subst e
  intro H locs ls hP hS hl
  exact lv_f2i C.1 C.2.1 d  (kk H locs ls hP hS hl)
theorem V_i2d (C : OK w X G ad own cc nL rm) {x : Int32} (d : decode cc pc = .ok (.i2d, 1)) (e : pc + 1 = q)  (kk : V w X G ad nL Q k n τ q L (.double (FP.i2d x) :: st)) : V w X G ad nL Q k n τ pc L (.int x :: st) := by
  subst e
  intro H locs ls hP hS hl
  exact lv_i2d C.1 C.2.1 d  (kk H locs ls hP hS hl)
theorem V_l2d (C : OK w X G ad own cc nL rm) {x : Int64} (d : decode cc pc = .ok (.l2d, 1)) (e : pc + 1 = q)  (kk : V w X G ad nL Q k n τ q L (.double (FP.l2d x) :: st)) : V w X G ad nL Q k n τ pc L (.long x :: st) := by
  subst e
  intro H locs ls hP hS hl
  exact lv_l2d C.1 C.2.1 d  (kk H locs ls hP hS hl)
theorem V_d2l (C : OK w X G ad own cc nL rm) {x : UInt64} (d : decode cc pc = .ok (.d2l, 1)) (e : pc + 1 = q)  (kk : V w X G ad nL Q k n τ q L (.long (FP.d2l x) :: st)) : V w X G ad nL Q k n τ pc L (.double x :: st) := by
  subst e
  intro H locs ls hP hS hl
  exact lv_d2l C.1 C.2.1 d  (kk H locs ls hP hS hl)
theorem V_f2d (C : OK w X G ad own cc nL rm) {x : UInt32} (d : decode cc pc = .ok (.f2d, 1)) (e : pc + 1 = q) (h : vf_n64 (FP.f2d x)) (kk : V w X G ad nL Q k n τ q L (.double (FP.f2d x) :: st)) : V w X G ad nL Q k n τ pc L (.float x :: st) := by
  subst e
  intro H locs ls hP hS hl
  exact lv_f2d C.1 C.2.1 d h (kk H locs ls hP hS hl)
theorem V_fmul (C : OK w X G ad own cc nL rm) {x y : UInt32} (d : decode cc pc = .ok (.fmul, 1)) (e : pc + 1 = q) (h : vf_n32 (FP.fmul x y)) (kk : V w X G ad nL Q k n τ q L (.float (FP.fmul x y) :: st)) : V w X G ad nL Q k n τ pc L (.float y :: .float x :: st) := by
  subst e
  intro H locs ls hP hS hl
  exact lv_fmul C.1 C.2.1 d h (kk H locs ls hP hS hl)
theorem V_fdiv (C : OK w X G ad own cc nL rm) {x y : UInt32} (d : decode cc pc = .ok (.fdiv, 1)) (e : pc + 1 = q) (h : vf_n32 (FP.fdiv x y)) (kk : V w X G ad nL Q k n τ q L (.float (FP.fdiv x y) :: st)) : V w X G ad nL Q k n τ pc L (.float y :: .float x :: st) := by
  subst e
  intro H locs ls hP hS hl
  exact lv_fdiv C.1 C.2.1 d h (kk H locs ls hP hS hl)
theorem V_dmul (C : OK w X G ad own cc nL rm) {x y : UInt64} (d : decode cc pc = .ok (.dmul, 1)) (e : pc + 1 = q) (h : vf_n64 (FP.dmul x y)) (kk : V w X G ad nL Q k n τ q L (.double (FP.dmul x y) :: st)) : V w X G ad nL Q k n τ pc L (.double y :: .double x :: st) := by
  subst e
  intro H locs ls hP hS hl
  exact lv_dmul C.1 C.2.1 d h (kk H locs ls hP hS hl)
theorem V_ddiv (C : OK w X G ad own cc nL rm) {x y : UInt64} (d : decode cc pc = .ok (.ddiv, 1)) (e : pc + 1 = q) (h : vf_n64 (FP.ddiv x y)) (kk : V w X G ad nL Q k n τ q L (.double (FP.ddiv x y) :: st)) : V w X G ad nL Q k n τ pc L (.double y :: .double x :: st) := by
  subst e
  intro H locs ls hP hS hl
  exact lv_ddiv C.1 C.2.1 d h (kk H locs ls hP hS hl)
theorem V_dsub (C : OK w X G ad own cc nL rm) {x y : UInt64} (d : decode cc pc = .ok (.dsub, 1)) (e : pc + 1 = q) (h : vf_n64 (FP.dsub x y)) (kk : V w X G ad nL Q k n τ q L (.double (FP.dsub x y) :: st)) : V w X G ad nL Q k n τ pc L (.double y :: .double x :: st) := by
  subst e
  intro H locs ls hP hS hl
  exact lv_dsub C.1 C.2.1 d h (kk H locs ls hP hS hl)
theorem V_fcmp (C : OK w X G ad own cc nL rm) {x y : UInt32} {op : CmpOp} (d : decode cc pc = .ok (.fcmp op, 1)) (e : pc + 1 = q)  (kk : V w X G ad nL Q k n τ q L (.int (Op.cmpValue (FP.fcmp x y) op) :: st)) : V w X G ad nL Q k n τ pc L (.float y :: .float x :: st) := by
  subst e
  intro H locs ls hP hS hl
  exact lv_fcmp C.1 C.2.1 d  (kk H locs ls hP hS hl)
theorem V_dcmp (C : OK w X G ad own cc nL rm) {x y : UInt64} {op : CmpOp} (d : decode cc pc = .ok (.dcmp op, 1)) (e : pc + 1 = q)  (kk : V w X G ad nL Q k n τ q L (.int (Op.cmpValue (FP.dcmp x y) op) :: st)) : V w X G ad nL Q k n τ pc L (.double y :: .double x :: st) := by
  subst e
  intro H locs ls hP hS hl
  exact lv_dcmp C.1 C.2.1 d  (kk H locs ls hP hS hl)
theorem V_if_eq (C : OK w X G ad own cc nL rm) {x : Int32} {off : Int} {t : Nat} (d : decode cc pc = .ok (.ifCond .eq off, 3)) (ht : (pc : Int) + off = (t : Int)) (e : pc + 3 = q) (kt : x = 0 → V w X G ad nL Q k n τ t L st) (kf : ¬ x = 0 → V w X G ad nL Q k n τ q L st) : V w X G ad nL Q k n τ pc L (.int x :: st) := by
  subst e
  intro H locs ls hP hS hl
  exact lv_if_eq C.1 C.2.1 d ht (fun h => kt h H locs ls hP hS hl) (fun h => kf h H locs ls hP hS hl)
theorem V_if_ne (C : OK w X G ad own cc nL rm) {x : Int32} {off : Int} {t : Nat} (d : decode cc pc = .ok (.ifCond .ne off, 3)) (ht : (pc : Int) + off = (t : Int)) (e : pc + 3 = q) (kt : ¬ x = 0 → V w X G ad nL Q k n τ t L st) (kf : x = 0 → V w X G ad nL Q k n τ q L st) : V w X G ad nL Q k n τ pc L (.int x :: st) := by
  subst e
  intro H locs ls hP hS hl
  exact lv_if_ne C.1 C.2.1 d ht (fun h => kt h H locs ls hP hS hl) (fun h => kf h H locs ls hP hS hl)
theorem V_if_lt (C : OK w X G ad own cc nL rm) {x : Int32} {off : Int} {t : Nat} (d : decode cc pc = .ok (.ifCond .lt off, 3)) (ht : (pc : Int) + off = (t : Int)) (e : pc + 3 = q) (kt : x < 0 → V w X G ad nL Q k n τ t L st) (kf : ¬ x < 0 → V w X G ad nL Q k n τ q L st) : V w X G ad nL Q k n τ pc L (.int x :: st) := by
  subst e
  intro H locs ls hP hS hl
  exact lv_if_lt C.1 C.2.1 d ht (fun h => kt h H locs ls hP hS hl) (fun h => kf h H locs ls hP hS hl)
theorem V_if_ge (C : OK w X G ad own cc nL rm) {x : Int32} {off : Int} {t : Nat} (d : decode cc pc = .ok (.ifCond .ge off, 3)) (ht : (pc : Int) + off = (t : Int)) (e : pc + 3 = q) (kt : 0 ≤ x → V w X G ad nL Q k n τ t L st) (kf : ¬ 0 ≤ x → V w X G ad nL Q k n τ q L st) : V w X G ad nL Q k n τ pc L (.int x :: st) := by
  subst e
  intro H locs ls hP hS hl
  exact lv_if_ge C.1 C.2.1 d ht (fun h => kt h H locs ls hP hS hl) (fun h => kf h H locs ls hP hS hl)
theorem V_if_gt (C : OK w X G ad own cc nL rm) {x : Int32} {off : Int} {t : Nat} (d : decode cc pc = .ok (.ifCond .gt off, 3)) (ht : (pc : Int) + off = (t : Int)) (e : pc + 3 = q) (kt : 0 < x → V w X G ad nL Q k n τ t L st) (kf : ¬ 0 < x → V w X G ad nL Q k n τ q L st) : V w X G ad nL Q k n τ pc L (.int x :: st) := by
  subst e
  intro H locs ls hP hS hl
  exact lv_if_gt C.1 C.2.1 d ht (fun h => kt h H locs ls hP hS hl) (fun h => kf h H locs ls hP hS hl)
theorem V_if_le (C : OK w X G ad own cc nL rm) {x : Int32} {off : Int} {t : Nat} (d : decode cc pc = .ok (.ifCond .le off, 3)) (ht : (pc : Int) + off = (t : Int)) (e : pc + 3 = q) (kt : x ≤ 0 → V w X G ad nL Q k n τ t L st) (kf : ¬ x ≤ 0 → V w X G ad nL Q k n τ q L st) : V w X G ad nL Q k n τ pc L (.int x :: st) := by
  subst e
  intro H locs ls hP hS hl
  exact lv_if_le C.1 C.2.1 d ht (fun h => kt h H locs ls hP hS hl) (fun h => kf h H locs ls hP hS hl)
theorem V_icmp_eq (C : OK w X G ad own cc nL rm) {x y : Int32} {off : Int} {t : Nat} (d : decode cc pc = .ok (.if_icmp .eq off, 3)) (ht : (pc : Int) + off = (t : Int)) (e : pc + 3 = q) (kt : x = y → V w X G ad nL Q k n τ t L st) (kf : ¬ x = y → V w X G ad nL Q k n τ q L st) : V w X G ad nL Q k n τ pc L (.int y :: .int x :: st) := by
  subst e
  intro H locs ls hP hS hl
  exact lv_icmp_eq C.1 C.2.1 d ht (fun h => kt h H locs ls hP hS hl) (fun h => kf h H locs ls hP hS hl)
theorem V_icmp_ne (C : OK w X G ad own cc nL rm) {x y : Int32} {off : Int} {t : Nat} (d : decode cc pc = .ok (.if_icmp .ne off, 3)) (ht : (pc : Int) + off = (t : Int)) (e : pc + 3 = q) (kt : ¬ x = y → V w X G ad nL Q k n τ t L st) (kf : x = y → V w X G ad nL Q k n τ q L st) : V w X G ad nL Q k n τ pc L (.int y :: .int x :: st) := by
  subst e
  intro H locs ls hP hS hl
  exact lv_icmp_ne C.1 C.2.1 d ht (fun h => kt h H locs ls hP hS hl) (fun h => kf h H locs ls hP hS hl)
theorem V_icmp_lt (C : OK w X G ad own cc nL rm) {x y : Int32} {off : Int} {t : Nat} (d : decode cc pc = .ok (.if_icmp .lt off, 3)) (ht : (pc : Int) + off = (t : Int)) (e : pc + 3 = q) (kt : x < y → V w X G ad nL Q k n τ t L st) (kf : ¬ x < y → V w X G ad nL Q k n τ q L st) : V w X G ad nL Q k n τ pc L (.int y :: .int x :: st) := by
  subst e
  intro H locs ls hP hS hl
  exact lv_icmp_lt C.1 C.2.1 d ht (fun h => kt h H locs ls hP hS hl) (fun h => kf h H locs ls hP hS hl)
theorem V_icmp_ge (C : OK w X G ad own cc nL rm) {x y : Int32} {off : Int} {t : Nat} (d : decode cc pc = .ok (.if_icmp .ge off, 3)) (ht : (pc : Int) + off = (t : Int)) (e : pc + 3 = q) (kt : y ≤ x → V w X G ad nL Q k n τ t L st) (kf : ¬ y ≤ x → V w X G ad nL Q k n τ q L st) : V w X G ad nL Q k n τ pc L (.int y :: .int x :: st) := by
  subst e
  intro H locs ls hP hS hl
  exact lv_icmp_ge C.1 C.2.1 d ht (fun h => kt h H locs ls hP hS hl) (fun h => kf h H locs ls hP hS hl)
theorem V_icmp_gt (C : OK w X G ad own cc nL rm) {x y : Int32} {off : Int} {t : Nat} (d : decode cc pc = .ok (.if_icmp .gt off, 3)) (ht : (pc : Int) + off = (t : Int)) (e : pc + 3 = q) (kt : y < x → V w X G ad nL Q k n τ t L st) (kf : ¬ y < x → V w X G ad nL Q k n τ q L st) : V w X G ad nL Q k n τ pc L (.int y :: .int x :: st) := by
  subst e
  intro H locs ls hP hS hl
  exact lv_icmp_gt C.1 C.2.1 d ht (fun h => kt h H locs ls hP hS hl) (fun h => kf h H locs ls hP hS hl)
theorem V_icmp_le (C : OK w X G ad own cc nL rm) {x y : Int32} {off : Int} {t : Nat} (d : decode cc pc = .ok (.if_icmp .le off, 3)) (ht : (pc : Int) + off = (t : Int)) (e : pc + 3 = q) (kt : x ≤ y → V w X G ad nL Q k n τ t L st) (kf : ¬ x ≤ y → V w X G ad nL Q k n τ q L st) : V w X G ad nL Q k n τ pc L (.int y :: .int x :: st) := by
  subst e
  intro H locs ls hP hS hl
  exact lv_icmp_le C.1 C.2.1 d ht (fun h => kt h H locs ls hP hS hl) (fun h => kf h H locs ls hP hS hl)
theorem V_goto (C : OK w X G ad own cc nL rm) {off : Int} {t : Nat} (d : decode cc pc = .ok (.goto off, 3)) (ht : (pc : Int) + off = (t : Int)) (kk : V w X G ad nL Q k n τ t L st) : V w X G ad nL Q k n τ pc L st := by
  intro H locs ls hP hS hl
  exact lv_goto C.1 C.2.1 d ht (kk H locs ls hP hS hl)
theorem V_tabOut (C : OK w X G ad own cc nL rm) {df lo hi : Int} {offs : Array Int} {len : Nat} {x : Int32} {t : Nat} (d : decode cc pc = .ok (.tableswitch df lo hi offs, len)) (h : x.toInt < lo ∨ hi < x.toInt) (ht : (pc : Int) + df = (t : Int)) (kk : V w X G ad nL Q k n τ t L st) : V w X G ad nL Q k n τ pc L (.int x :: st) := by
  intro H locs ls hP hS hl
  exact lv_tableOut C.1 C.2.1 d h ht (kk H locs ls hP hS hl)
theorem V_tabIn (C : OK w X G ad own cc nL rm) {df lo hi : Int} {offs : Array Int} {len : Nat} {x : Int32} {off : Int} {t : Nat} (d : decode cc pc = .ok (.tableswitch df lo hi offs, len)) (h1 : ¬ x.toInt < lo) (h2 : ¬ hi < x.toInt) (ho : offs[(x.toInt - lo).toNat]? = some off) (ht : (pc : Int) + off = (t : Int)) (kk : V w X G ad nL Q k n τ t L st) : V w X G ad nL Q k n τ pc L (.int x :: st) := by
  intro H locs ls hP hS hl
  exact lv_tableIn C.1 C.2.1 d h1 h2 ho ht (kk H locs ls hP hS hl)
theorem OK.word (C : OK w X G ad own cc nL rm) {z : Cond} (h : z ∈ lw_tbl) (g : goodWord z = true) : z.before (x_a X) (x_s X) = true := C.2.2.2.2.1 z (ALLG_in h g)
theorem OK.nest (C : OK w X G ad own cc nL rm) {z : Cond} (h : z ∈ lw_tbl) (g : warmW z = true) : va_Nw z (x_s X) := C.2.2.2.2.2.1.2.1 z h g
theorem OK.K (C : OK w X G ad own cc nL rm) : va_K G.1 clsA (tysG G) (x_s X) := C.2.2.2.2.2.1.1
theorem OK.D (C : OK w X G ad own cc nL rm) : va_D (Aof w ad (x_s X).heap.size) (mkW w G ad τ) := mkW_D C.2.2.2.2.2.2.1
theorem V_ldc (C : OK w X G ad own cc nL rm) {i : Nat} {v : Int32} (hq : Cond.constant own i v ∈ lw_tbl) (d : decode cc pc = .ok (.ldc i, 2)) (e : pc + 2 = q) (kk : V w X G ad nL Q k n τ q L (.int v :: st)) : V w X G ad nL Q k n τ pc L st := by
  subst e
  intro H locs ls hP hS hl
  exact lv_ldc C.1 C.2.1 C.2.2.2.1 (C.word hq rfl) d (kk H locs ls hP hS hl)
theorem V_ldcw (C : OK w X G ad own cc nL rm) {i : Nat} {v : Int32} (hq : Cond.constant own i v ∈ lw_tbl) (d : decode cc pc = .ok (.ldc_w i, 3)) (e : pc + 3 = q) (kk : V w X G ad nL Q k n τ q L (.int v :: st)) : V w X G ad nL Q k n τ pc L st := by
  subst e
  intro H locs ls hP hS hl
  exact lv_ldcw C.1 C.2.1 C.2.2.2.1 (C.word hq rfl) d (kk H locs ls hP hS hl)
theorem V_ldcf (C : OK w X G ad own cc nL rm) {i : Nat} {v : UInt32} (hq : Cond.constantFloat own i v ∈ lw_tbl) (d : decode cc pc = .ok (.ldc i, 2)) (e : pc + 2 = q) (kk : V w X G ad nL Q k n τ q L (.float v :: st)) : V w X G ad nL Q k n τ pc L st := by
  subst e
  intro H locs ls hP hS hl
  exact lv_ldcf C.1 C.2.1 C.2.2.2.1 (C.word hq rfl) d (kk H locs ls hP hS hl)
theorem V_ldc2 (C : OK w X G ad own cc nL rm) {i : Nat} {v : Int64} (hq : Cond.constantLong own i v ∈ lw_tbl) (d : decode cc pc = .ok (.ldc2_w i, 3)) (e : pc + 3 = q) (kk : V w X G ad nL Q k n τ q L (.long v :: st)) : V w X G ad nL Q k n τ pc L st := by
  subst e
  intro H locs ls hP hS hl
  exact lv_ldc2 C.1 C.2.1 C.2.2.2.1 (C.word hq rfl) d (kk H locs ls hP hS hl)
theorem V_ldc2d (C : OK w X G ad own cc nL rm) {i : Nat} {v : UInt64} (hq : Cond.constantDouble own i v ∈ lw_tbl) (d : decode cc pc = .ok (.ldc2_w i, 3)) (e : pc + 3 = q) (kk : V w X G ad nL Q k n τ q L (.double v :: st)) : V w X G ad nL Q k n τ pc L st := by
  subst e
  intro H locs ls hP hS hl
  exact lv_ldc2d C.1 C.2.1 C.2.2.2.1 (C.word hq rfl) d (kk H locs ls hP hS hl)
/-- more cells than were made -/
theorem V_wide {k2 n2 : Nat} (h1 : k ≤ k2) (h2 : n ≤ n2) (kk : V w X G ad nL Q k2 n2 τ pc L st) : V w X G ad nL Q k n τ pc L st :=
  fun H locs ls hP hS hl => W.widen h1 h2 (kk H locs ls hP hS hl)
/-- fewer locals, in any order -/
theorem V_sub (ks : List Nat) {L' : List (Nat × Value)} (h : lv_pick L ks = L') (kk : V w X G ad nL Q k n τ pc L' st) : V w X G ad nL Q k n τ pc L st :=
  fun H locs ls hP hS hl => kk H locs ls hP hS (lv_sub hl ks h)
/-- the lists of locals and of the stack, written otherwise -/
theorem V_eq {L' : List (Nat × Value)} {st' : List Value} {τ2 : T} (h : L = L') (h2 : st = st') (h3 : τ = τ2) (kk : V w X G ad nL Q k n τ2 pc L' st') : V w X G ad nL Q k n τ pc L st := by
  subst h; subst h2; subst h3; exact kk

theorem V_get (C : OK w X G ad own cc nL rm) (j : Nat) {Cn : String} {Tc : u_T} {N ci index : Nat} {fs : List Value} {v : Value} (hj : j < w.1) (hen : w.2 G ad j τ = .inr (ci, fs)) (hc : clsA[ci]? = some (Cn, Tc, N)) (hin : ∀ z ∈ u_ws Cn Tc N, z ∈ lw_tbl) (hg : (u_ws Cn Tc N).all goodWord = true) (f : Nat) (hf : f < N) (hq : Cond.fieldLink own index (Tc f).1 (Tc f).2.1 (Tc f).2.2.1 ∈ lw_tbl) (hv : fs[f]? = some v) (d : decode cc pc = .ok (.getfield index, 3)) (e : pc + 3 = q) (kk : V w X G ad nL Q k n τ q L (v :: st)) : V w X G ad nL Q k n τ pc L (.ref (ad j) :: st) := by
  subst e
  intro H locs ls hP hS hl
  exact va_get C.1 C.2.1 C.2.2.2.2.1 (fun z hz => ALLG_in (hin z hz) (List.all_eq_true.mp hg z hz)) C.2.2.2.1 C.K hP j ((mkW_get w G ad τ hj).trans (by rw [hen])) hc f hf (C.word hq rfl) (fun _ h => h) hv d (kk H locs ls hP hS hl)
theorem V_getN (C : OK w X G ad own cc nL rm) (j : Nat) {Cn host : String} {Tc : u_T} {N ci index : Nat} {fs : List Value} {v : Value} (hj : j < w.1) (hen : w.2 G ad j τ = .inr (ci, fs)) (hc : clsA[ci]? = some (Cn, Tc, N)) (hin : ∀ z ∈ u_ws Cn Tc N, z ∈ lw_tbl) (hg : (u_ws Cn Tc N).all goodWord = true) (f : Nat) (hf : f < N) (hq : Cond.fieldLinkNest own index (Tc f).1 (Tc f).2.1 (Tc f).2.2.1 host ∈ lw_tbl) (hv : fs[f]? = some v) (d : decode cc pc = .ok (.getfield index, 3)) (e : pc + 3 = q) (kk : V w X G ad nL Q k n τ q L (v :: st)) : V w X G ad nL Q k n τ pc L (.ref (ad j) :: st) := by
  subst e
  intro H locs ls hP hS hl
  exact va_getN C.1 C.2.1 C.2.2.2.2.1 (fun z hz => ALLG_in (hin z hz) (List.all_eq_true.mp hg z hz)) C.2.2.2.1 C.K hP j ((mkW_get w G ad τ hj).trans (by rw [hen])) hc f hf (va_Nw.use rfl (C.nest hq rfl)) (fun _ h => h) hv d (kk H locs ls hP hS hl)

theorem V_put (C : OK w X G ad own cc nL rm) (j f : Nat) {Cn : String} {Tc : u_T} {N ci index : Nat} {fs : List Value} {v : Value} {ty : FieldType} (hj : j < w.1) (hen : w.2 G ad j τ = .inr (ci, fs)) (hen2 : w.2 G ad j τ' = .inr (ci, fs.set f v)) (ho : ∀ i, i < w.1 → i ≠ j → w.2 G ad i τ' = w.2 G ad i τ) (hc : clsA[ci]? = some (Cn, Tc, N)) (hin : ∀ z ∈ u_ws Cn Tc N, z ∈ lw_tbl) (hg : (u_ws Cn Tc N).all goodWord = true) (ty0 : Nat → FieldType) (hty : ∀ k, k < N → parseFieldDescriptor (Tc k).2.2.1 = some (ty0 k)) (hnm : ∀ a, a < N → ∀ b, b < N → a ≠ b → (Tc a).2.1 ≠ (Tc b).2.1) (hf : f < N) (hfin : (Tc f).2.2.2 = false) (hd : parseFieldDescriptor (Tc f).2.2.1 = some ty) (hn : narrow ty v = v) (hfit : fits ty v = true) (hlen : f < fs.length) (hq : Cond.fieldLink own index (Tc f).1 (Tc f).2.1 (Tc f).2.2.1 ∈ lw_tbl) (d : decode cc pc = .ok (.putfield index, 3)) (e : pc + 3 = q) (kk : V w X G ad nL Q k n τ' q L st) : V w X G ad nL Q k n τ pc L (v :: .ref (ad j) :: st) := by
  subst e
  intro H locs ls hP hS hl
  refine va_put C.1 C.2.1 C.2.2.2.2.1 (fun z hz => ALLG_in (hin z hz) (List.all_eq_true.mp hg z hz)) ty0 hty hnm C.2.2.2.1 C.K hP C.D hS j ((mkW_get w G ad τ hj).trans (by rw [hen])) hc f hf (C.word hq rfl) (fun _ h => h) hfin hd hn hfit hlen d (fun H1 locs1 hP1 hD1 hS1 => ?_)
  rw [mkW_set w G ad τ τ' hj hen2 ho] at hP1
  exact kk H1 locs1 ls hP1 hS1 hl
theorem V_putN (C : OK w X G ad own cc nL rm) (j f : Nat) {Cn host : String} {Tc : u_T} {N ci index : Nat} {fs : List Value} {v : Value} {ty : FieldType} (hj : j < w.1) (hen : w.2 G ad j τ = .inr (ci, fs)) (hen2 : w.2 G ad j τ' = .inr (ci, fs.set f v)) (ho : ∀ i, i < w.1 → i ≠ j → w.2 G ad i τ' = w.2 G ad i τ) (hc : clsA[ci]? = some (Cn, Tc, N)) (hin : ∀ z ∈ u_ws Cn Tc N, z ∈ lw_tbl) (hg : (u_ws Cn Tc N).all goodWord = true) (ty0 : Nat → FieldType) (hty : ∀ k, k < N → parseFieldDescriptor (Tc k).2.2.1 = some (ty0 k)) (hnm : ∀ a, a < N → ∀ b, b < N → a ≠ b → (Tc a).2.1 ≠ (Tc b).2.1) (hf : f < N) (hfin : (Tc f).2.2.2 = false) (hd : parseFieldDescriptor (Tc f).2.2.1 = some ty) (hn : narrow ty v = v) (hfit : fits ty v = true) (hlen : f < fs.length) (hq : Cond.fieldLinkNest own index (Tc f).1 (Tc f).2.1 (Tc f).2.2.1 host ∈ lw_tbl) (d : decode cc pc = .ok (.putfield index, 3)) (e : pc + 3 = q) (kk : V w X G ad nL Q k n τ' q L st) : V w X G ad nL Q k n τ pc L (v :: .ref (ad j) :: st) := by
  subst e
  intro H locs ls hP hS hl
  refine va_putN C.1 C.2.1 C.2.2.2.2.1 (fun z hz => ALLG_in (hin z hz) (List.all_eq_true.mp hg z hz)) ty0 hty hnm C.2.2.2.1 C.K hP C.D hS j ((mkW_get w G ad τ hj).trans (by rw [hen])) hc f hf (va_Nw.use rfl (C.nest hq rfl)) (fun _ h => h) hfin hd hn hfit hlen d (fun H1 locs1 hP1 hD1 hS1 => ?_)
  rw [mkW_set w G ad τ τ' hj hen2 ho] at hP1
  exact kk H1 locs1 ls hP1 hS1 hl
theorem V_iald (C : OK w X G ad own cc nL rm) (j : Nat) {cA : ClassId} {m : Nat} {f : Nat → Int32} {i : Int32} (hj : j < w.1) (hen : w.2 G ad j τ = .inl (cA, m, .inl f)) (ht : (tysG G)[0]? = some (cA, .int)) (hi : vp_in i m) (d : decode cc pc = .ok (.iaload, 1)) (e : pc + 1 = q) (kk : V w X G ad nL Q k n τ q L (.int (f i.toNatClampNeg) :: st)) : V w X G ad nL Q k n τ pc L (.int i :: .ref (ad j) :: st) := by
  subst e
  intro H locs ls hP hS hl
  exact va_iald C.1 C.2.1 C.K hP j 0 ((mkW_get w G ad τ hj).trans (by rw [hen])) ht hi d (kk H locs ls hP hS hl)
theorem V_cald (C : OK w X G ad own cc nL rm) (j : Nat) {cA : ClassId} {m : Nat} {f : Nat → Int32} {i : Int32} (hj : j < w.1) (hen : w.2 G ad j τ = .inl (cA, m, .inl f)) (ht : (tysG G)[2]? = some (cA, .char)) (hi : vp_in i m) (d : decode cc pc = .ok (.caload, 1)) (e : pc + 1 = q) (kk : V w X G ad nL Q k n τ q L (.int (f i.toNatClampNeg) :: st)) : V w X G ad nL Q k n τ pc L (.int i :: .ref (ad j) :: st) := by
  subst e
  intro H locs ls hP hS hl
  exact va_cald C.1 C.2.1 C.K hP j 2 ((mkW_get w G ad τ hj).trans (by rw [hen])) ht hi d (kk H locs ls hP hS hl)
theorem V_lald (C : OK w X G ad own cc nL rm) (j : Nat) {cA : ClassId} {m : Nat} {f : Nat → Int64} {i : Int32} (hj : j < w.1) (hen : w.2 G ad j τ = .inl (cA, m, .inr (.inl f))) (ht : (tysG G)[3]? = some (cA, .long)) (hi : vp_in i m) (d : decode cc pc = .ok (.laload, 1)) (e : pc + 1 = q) (kk : V w X G ad nL Q k n τ q L (.long (f i.toNatClampNeg) :: st)) : V w X G ad nL Q k n τ pc L (.int i :: .ref (ad j) :: st) := by
  subst e
  intro H locs ls hP hS hl
  exact va_lald C.1 C.2.1 C.K hP j 3 ((mkW_get w G ad τ hj).trans (by rw [hen])) ht hi d (kk H locs ls hP hS hl)
theorem V_iast (C : OK w X G ad own cc nL rm) (j : Nat) {cA : ClassId} {m : Nat} {f : Nat → Int32} {i : Int32} {x : Int32} (hj : j < w.1) (hen : w.2 G ad j τ = .inl (cA, m, .inl f)) (hen2 : w.2 G ad j τ' = .inl (cA, m, .inl (upd f i.toNatClampNeg x))) (ho : ∀ i, i < w.1 → i ≠ j → w.2 G ad i τ' = w.2 G ad i τ) (ht : (tysG G)[0]? = some (cA, .int)) (hi : vp_in i m) (d : decode cc pc = .ok (.iastore, 1)) (e : pc + 1 = q) (kk : V w X G ad nL Q k n τ' q L st) : V w X G ad nL Q k n τ pc L (.int x :: .int i :: .ref (ad j) :: st) := by
  subst e
  intro H locs ls hP hS hl
  refine va_iast C.1 C.2.1 C.K hP C.D hS j 0 ((mkW_get w G ad τ hj).trans (by rw [hen])) ht hi d (fun H1 locs1 hP1 hD1 hS1 => ?_)
  rw [mkW_set w G ad τ τ' hj hen2 ho] at hP1
  exact kk H1 locs1 ls hP1 hS1 hl
theorem V_last (C : OK w X G ad own cc nL rm) (j : Nat) {cA : ClassId} {m : Nat} {f : Nat → Int64} {i : Int32} {x : Int64} (hj : j < w.1) (hen : w.2 G ad j τ = .inl (cA, m, .inr (.inl f))) (hen2 : w.2 G ad j τ' = .inl (cA, m, .inr (.inl (vp_updL f i.toNatClampNeg x)))) (ho : ∀ i, i < w.1 → i ≠ j → w.2 G ad i τ' = w.2 G ad i τ) (ht : (tysG G)[3]? = some (cA, .long)) (hi : vp_in i m) (d : decode cc pc = .ok (.lastore, 1)) (e : pc + 1 = q) (kk : V w X G ad nL Q k n τ' q L st) : V w X G ad nL Q k n τ pc L (.long x :: .int i :: .ref (ad j) :: st) := by
  subst e
  intro H locs ls hP hS hl
  refine va_last C.1 C.2.1 C.K hP C.D hS j 3 ((mkW_get w G ad τ hj).trans (by rw [hen])) ht hi d (fun H1 locs1 hP1 hD1 hS1 => ?_)
  rw [mkW_set w G ad τ τ' hj hen2 ho] at hP1
  exact kk H1 locs1 ls hP1 hS1 hl
theorem V_cast (C : OK w X G ad own cc nL rm) (j : Nat) {cA : ClassId} {m : Nat} {f : Nat → Int32} {i : Int32} {x : Int32} (hj : j < w.1) (hen : w.2 G ad j τ = .inl (cA, m, .inl f)) (hen2 : w.2 G ad j τ' = .inl (cA, m, .inl (upd f i.toNatClampNeg (vp_nar .char x)))) (ho : ∀ i, i < w.1 → i ≠ j → w.2 G ad i τ' = w.2 G ad i τ) (ht : (tysG G)[2]? = some (cA, .char)) (hi : vp_in i m) (d : decode cc pc = .ok (.castore, 1)) (e : pc + 1 = q) (kk : V w X G ad nL Q k n τ' q L st) : V w X G ad nL Q k n τ pc L (.int x :: .int i :: .ref (ad j) :: st) := by
  subst e
  intro H locs ls hP hS hl
  refine va_cast C.1 C.2.1 C.K hP C.D hS j 2 ((mkW_get w G ad τ hj).trans (by rw [hen])) ht hi d (fun H1 locs1 hP1 hD1 hS1 => ?_)
  rw [mkW_set w G ad τ τ' hj hen2 ho] at hP1
  exact kk H1 locs1 ls hP1 hS1 hl
theorem V_alen (C : OK w X G ad own cc nL rm) (j t0 : Nat) {cA : ClassId} {x : vp_A} {ty : FieldType} {v : Int32} (hj : j < w.1) (hen : w.2 G ad j τ = .inl (cA, x)) (ht : (tysG G)[t0]? = some (cA, ty)) (hv : Int32.ofNat x.1 = v) (d : decode cc pc = .ok (.arraylength, 1)) (e : pc + 1 = q) (kk : V w X G ad nL Q k n τ q L (.int v :: st)) : V w X G ad nL Q k n τ pc L (.ref (ad j) :: st) := by
  subst e
  intro H locs ls hP hS hl
  exact va_alen C.1 C.2.1 C.K hP j t0 ((mkW_get w G ad τ hj).trans (by rw [hen])) ht hv d (kk H locs ls hP hS hl)
/-- a row of an array of arrays -/
theorem V_aald (C : OK w X G ad own cc nL rm) (j : Nat) {m a : Nat} {f : Nat → Option Nat} {i : Int32} (hj : j < w.1) (hen : w.2 G ad j τ = .inl (G.2.2.1, m, .inr (.inr (.inr (.inr f))))) (hi : vp_in i m) (ha : f i.toNatClampNeg = some a) (d : decode cc pc = .ok (.aaload, 1)) (e : pc + 1 = q) (kk : V w X G ad nL Q k n τ q L (.ref a :: st)) : V w X G ad nL Q k n τ pc L (.int i :: .ref (ad j) :: st) := by
  subst e
  intro H locs ls hP hS hl
  have h0 := hP j _ ((mkW_get w G ad τ hj).trans (by rw [hen]))
  have hlt : i.toNatClampNeg < m := Nat.not_le.mp fun q => hi (Or.inr q)
  have hv : va_rf (f i.toNatClampNeg) = .ref a := by rw [ha]; rfl
  exact W.aald (v := .ref a) (ty := .array .int) C.1 C.2.1 h0 ((C.K.2 1 _ rfl).1 m (fun j => va_rf (f j))) rfl (fun q => by cases q) (by show ¬ (i < 0 ∨ (arrV _ _ _).slots.size ≤ _); rw [arrV_size]; exact hi) (by show (arrV _ _ _).slots[_]? = _; rw [arrV_read _ _ hlt, hv]) rfl rfl d (kk H locs ls hP hS hl)

theorem V_iret (C : OK w X G ad own cc nL rm) {x : Int32} (F : FinR w X G ad Q mc ms (some .int) (some (.int x)) τ) (hk : k ≤ mc) (hn : n ≤ ms) (d : decode cc pc = .ok (.ireturn, 1)) : V w X G ad nL Q k n τ pc L [.int x] := by
  intro H locs ls hP hS hl
  refine W.widen hk hn (W_to (W.iret (free := Aof w ad (x_s X).heap.size) (Qc := QcV w G ad (some (.int x)) τ (x_s X).heap.size) C.1 C.2.1 F.1 (fun t ht hW => ⟨rfl, by rw [ht]; exact hP, hS.F ht⟩) hS.2.2 d (hlocks := C.2.2.2.2.2.2.2.1)) F.2)
theorem V_fret (C : OK w X G ad own cc nL rm) {x : UInt32} (F : FinR w X G ad Q mc ms (some .float) (some (.float x)) τ) (hk : k ≤ mc) (hn : n ≤ ms) (d : decode cc pc = .ok (.freturn, 1)) : V w X G ad nL Q k n τ pc L [.float x] := by
  intro H locs ls hP hS hl
  refine W.widen hk hn (W_to (W.fret (free := Aof w ad (x_s X).heap.size) (Qc := QcV w G ad (some (.float x)) τ (x_s X).heap.size) C.1 C.2.1 F.1 (fun t ht hW => ⟨rfl, by rw [ht]; exact hP, hS.F ht⟩) hS.2.2 d (hlocks := C.2.2.2.2.2.2.2.1)) F.2)
theorem V_lret (C : OK w X G ad own cc nL rm) {x : Int64} (F : FinR w X G ad Q mc ms (some .long) (some (.long x)) τ) (hk : k ≤ mc) (hn : n ≤ ms) (d : decode cc pc = .ok (.lreturn, 1)) : V w X G ad nL Q k n τ pc L [.long x] := by
  intro H locs ls hP hS hl
  refine W.widen hk hn (W_to (W.lret (free := Aof w ad (x_s X).heap.size) (Qc := QcV w G ad (some (.long x)) τ (x_s X).heap.size) C.1 C.2.1 F.1 (fun t ht hW => ⟨rfl, by rw [ht]; exact hP, hS.F ht⟩) hS.2.2 d (hlocks := C.2.2.2.2.2.2.2.1)) F.2)
theorem V_zret (C : OK w X G ad own cc nL rm) {x : Int32} (F : FinR w X G ad Q mc ms (some .boolean) (some (.int x)) τ) (hx : x = 0 ∨ x = 1) (hk : k ≤ mc) (hn : n ≤ ms) (d : decode cc pc = .ok (.ireturn, 1)) : V w X G ad nL Q k n τ pc L [.int x] := by
  intro H locs ls hP hS hl
  refine W.widen hk hn (W_to (W.zret (free := Aof w ad (x_s X).heap.size) (Qc := QcV w G ad (some (.int x)) τ (x_s X).heap.size) C.1 C.2.1 F.1 (by rcases hx with e | e <;> subst e <;> decide) (fun t ht hW => ⟨rfl, by rw [ht]; exact hP, hS.F ht⟩) hS.2.2 d (hlocks := C.2.2.2.2.2.2.2.1)) F.2)
theorem V_vret (C : OK w X G ad own cc nL rm) (F : FinR w X G ad Q mc ms none none τ) (hk : k ≤ mc) (hn : n ≤ ms) (d : decode cc pc = .ok (.return_, 1)) : V w X G ad nL Q k n τ pc L [] := by
  intro H locs ls hP hS hl
  refine W.widen hk hn (W_to (W.vret (free := Aof w ad (x_s X).heap.size) (Qc := QcV w G ad none τ (x_s X).heap.size) C.1 C.2.1 F.1 (fun t ht hW => ⟨rfl, by rw [ht]; exact hP, hS.F ht⟩) hS.2.2 d (hlocks := C.2.2.2.2.2.2.2.1)) F.2)
theorem V_cret (C : OK w X G ad own cc nL rm) {x : Int32} (F : FinR w X G ad Q mc ms (some .char) (some (.int x)) τ) (hx : narrow .char (.int x) = .int x) (hk : k ≤ mc) (hn : n ≤ ms) (d : decode cc pc = .ok (.ireturn, 1)) : V w X G ad nL Q k n τ pc L [.int x] := by
  intro H locs ls hP hS hl
  refine W.widen hk hn (W_to (W.zret (free := Aof w ad (x_s X).heap.size) (Qc := QcV w G ad (some (.int x)) τ (x_s X).heap.size) C.1 C.2.1 F.1 hx (fun t ht hW => ⟨rfl, by rw [ht]; exact hP, hS.F ht⟩) hS.2.2 d (hlocks := C.2.2.2.2.2.2.2.1)) F.2)
end VR

section VC
variable {T : Type} {w : Wd T} {X : Cx} {G : Gx} {ad : Nat → Nat} {own : String} {cc : ByteArray} {nL k n pc q : Nat} {rm : Room} {Q : State → Prop} {τ τ' τ2 : T} {L : List (Nat × Value)} {st : List Value} {mc ms : Nat}
variable {y : MethodName} {bytes : ByteArray} {maxL : Nat} {ret : Option FieldType} {rm2 : Room} {av : List Value} {v : Option Value} {r : String ⊕ Option Value} {index c2 s2 N2 : Nat}
theorem Aof_sub {sz sz2 : Nat} (h : sz ≤ sz2) : ∀ q, Aof w ad sz2 q → Aof w ad sz q := fun q hq => by
  rcases hq with h1 | h1
  · exact Or.inl h1
  · exact Or.inr (Nat.le_trans h h1)
theorem Bef_blind (l : Launch) (sz : Nat) : FrameBlind (va_Pc av (Bef w l G ad sz τ)) := by
  intro a U g mk h
  obtain ⟨h0, h1, h2, h3, h4⟩ := h
  exact ⟨h0, h1, h2, h3.same rfl rfl, h4⟩
theorem Bef_hold (C : OK w X G ad own cc nL rm) {H : Heap} {locs : List Loc} (hP : va_P G.1 clsA (mkW w G ad τ) H) (hS : va_S (Aof w ad (x_s X).heap.size) (x_s X).heap H locs) :
    ∀ U : State, U.heap = H → (x_s X).WarmedH U.vm → va_Pc av (Bef w (x_l X) G ad H.size τ) av.toArray U := by
  intro U hU hW
  refine ⟨rfl, by rw [hU], by rw [hU]; exact hP, ?_, C.2.2.2.2.2.2.1⟩
  exact C.2.2.2.2.2.1.warm hW (Aof_sub hS.1) (fun a ha hn => by rw [hU]; exact hS.2.1 a ha hn)
/-- what comes back of a call of a method that returns -/
theorem V_ofRun {H : Heap} {locs : List Loc} {ls : Array Slot} {st0 : List Value} {a : Array Value} (hS : va_S (Aof w ad (x_s X).heap.size) (x_s X).heap H locs) (hl : lv_has ls nL L)
    (hr : va_Run (x_p X) (x_l X) (x_e X) (x_R X) (x_s X) (x_m X) (x_a X) (x_b X) (x_h X) (x_c X) H locs k n c2 s2 (F0 (x_m X) pc ls st0) st (QcV w G ad v τ' H.size a) (Aof w ad H.size))
    (kk : V w X G ad nL Q (k + c2) (n + s2) τ' (pc + 3) L (v.toList ++ st)) : Wx X H locs k n Q (F0 (x_m X) pc ls st0) := by
  intro T hT Xs
  obtain ⟨v', st₀, t, T', L', h0, X', hL, e1, e2, ⟨hv, hp, hF⟩, go⟩ := hr T hT Xs
  cases hv
  have h1 : H.size ≤ T'.heap.size := by rw [e1, ← h0]; exact hF.1
  have hS' : va_S (Aof w ad (x_s X).heap.size) (x_s X).heap T'.heap (locs ++ L') := by
    refine ⟨Nat.le_trans hS.1 h1, fun q hq hn => ?_, fun z hz => ?_⟩
    · rw [e1, hF.2 q (by rw [h0]; exact Nat.lt_of_lt_of_le hq hS.1) (fun z => hn (Aof_sub hS.1 q z)), h0]
      exact hS.2.1 q hq hn
    · rcases List.mem_append.mp hz with h | h
      · exact hS.2.2 z h
      · exact Aof_sub hS.1 _ (hL z h)
  obtain ⟨t2, a1, b1⟩ := kk T'.heap (locs ++ L') ls (by rw [e1]; exact hp) hS' hl T' rfl X'
  exact ⟨t2, go t2 a1, b1⟩
theorem V_ofRunX {H : Heap} {locs : List Loc} {ls : Array Slot} {st0 : List Value} {a : Array Value} (C : OK w X G ad own cc nL rm) (hS : va_S (Aof w ad (x_s X).heap.size) (x_s X).heap H locs) (hl : lv_has ls nL L)
    (hr : vx_Run (x_p X) (x_l X) (x_e X) (x_R X) (x_s X) (x_m X) (x_a X) (x_b X) (x_h X) (x_c X) H locs k n c2 s2 (F0 (x_m X) pc ls st0) st (QcX w G ad r τ' H.size a) (XcX w G ad r τ' H.size) (Aof w ad H.size))
    (hk : k + c2 ≤ mc) (hn : n + s2 ≤ ms)
    (kx : ∀ E, r = .inl E → FinX w X G ad Q mc ms E τ')
    (kk : ∀ v, r = .inr v → V w X G ad nL Q (k + c2) (n + s2) τ' (pc + 3) L (v.toList ++ st)) : Wx X H locs k n Q (F0 (x_m X) pc ls st0) := by
  intro T hT Xs
  rcases hr T hT Xs with ⟨v', st₀, t, T', L', h0, X', hL, e1, e2, ⟨⟨v, hv, hv2⟩, hp, hF⟩, go⟩ | ⟨qe, st₀, t, T', L', E, ce, h0, X', hL, e1, e2, ⟨hE, hp, hF⟩, hce, hcv, hcl, go⟩
  · cases hv2
    have h1 : H.size ≤ T'.heap.size := by rw [e1, ← h0]; exact hF.1
    have hS' : va_S (Aof w ad (x_s X).heap.size) (x_s X).heap T'.heap (locs ++ L') := by
      refine ⟨Nat.le_trans hS.1 h1, fun q hq hn => ?_, fun z hz => ?_⟩
      · rw [e1, hF.2 q (by rw [h0]; exact Nat.lt_of_lt_of_le hq hS.1) (fun z => hn (Aof_sub hS.1 q z)), h0]
        exact hS.2.1 q hq hn
      · rcases List.mem_append.mp hz with h | h
        · exact hS.2.2 z h
        · exact Aof_sub hS.1 _ (hL z h)
    obtain ⟨t2, a1, b1⟩ := kk _ hv T'.heap (locs ++ L') ls (by rw [e1]; exact hp) hS' hl T' rfl X'
    exact ⟨t2, go t2 a1, b1⟩
  · have h1 : H.size ≤ T'.heap.size := by rw [e1, ← h0]; exact hF.1
    have hS' : va_S (Aof w ad (x_s X).heap.size) (x_s X).heap T'.heap (locs ++ L') := by
      refine ⟨Nat.le_trans hS.1 h1, fun q hq hn => ?_, fun z hz => ?_⟩
      · rw [e1, hF.2 q (by rw [h0]; exact Nat.lt_of_lt_of_le hq hS.1) (fun z => hn (Aof_sub hS.1 q z)), h0]
        exact hS.2.1 q hq hn
      · rcases List.mem_append.mp hz with h | h
        · exact hS.2.2 z h
        · exact Aof_sub hS.1 _ (hL z h)
    obtain ⟨hno, r', hr', hQ⟩ := kx E hE
    have hw : vx_W (x_p X) (x_l X) (x_e X) (x_R X) (x_s X) (x_m X) (x_a X) (x_b X) (x_h X) (x_c X) T'.heap (locs ++ L') (k + c2) (n + s2) Q (F0 (x_m X) pc ls st) qe := by
      rw [hQ]
      exact vx_out (E := E) (ce := ce) (fun x hx => (hno x hx).elim) C.2.2.2.2.2.2.2.1 (by rw [e1]; exact hce) hcv hcl (fun t' ht' _ => ⟨hr', by rw [ht', e1]; exact hp, hS'.F ht'⟩) hS'.2.2 hk hn
    obtain ⟨t2, a1, b1⟩ := hw T' rfl X'
    exact ⟨t2, go.trans a1, b1⟩
/-- the room of a call -/
abbrev RmOK (rm rm2 : Room) (c2 s2 maxL k n : Nat) : Prop := rm2.cells = c2 ∧ rm2.slots = s2 ∧ rm2.frames + 1 ≤ rm.frames ∧ 8 + (maxL + 11) + rm2.locals ≤ rm.locals ∧ k + c2 ≤ rm.cells ∧ n + s2 ≤ rm.slots
/-- what is known of a name that is called, decided once -/
abbrev NmOK (y : MethodName) (N2 : Nat) : Prop := y.cls ≠ "java/lang/invoke/MethodHandle" ∧ y.cls ≠ "java/lang/invoke/VarHandle" ∧ (parseMethodDescriptor y.desc).map (fun d => d.parameters.length) = some N2
theorem cl_B (C : OK w X G ad own cc nL rm) (hcode : Cond.code y bytes maxL ret ∈ lw_tbl) (hini : Cond.initialized y.cls ∈ lw_tbl) (hlk : Cond.methodLink own index y ∈ lw_tbl) (hN : NmOK y N2) (hR : RmOK rm rm2 c2 s2 maxL k n) :
    CallB (x_R X) (x_s X) (x_a X) own index y bytes maxL ret (Cond.code y bytes maxL ret :: ALLG) rm2 c2 s2 N2 := by
  rw [C.2.2.2.2.2.2.2.2]
  exact callB_of N2 C.2.2.2.2.1 (ALLG_good (ALLG_in hcode rfl)) rfl hR.1 hR.2.1 (C.word hini rfl) (C.word hlk rfl) hN ⟨hR.2.2.1, hR.2.2.2.1⟩
theorem cl_N {host : String} (C : OK w X G ad own cc nL rm) (hcode : Cond.code y bytes maxL ret ∈ lw_tbl) (hini : Cond.initialized y.cls ∈ lw_tbl) (hlk : Cond.methodLinkNest own index y host ∈ lw_tbl) (hN : NmOK y N2) (hR : RmOK rm rm2 c2 s2 maxL k n) :
    va_CN (x_R X) (x_s X) (x_a X) own index y host bytes maxL ret (Cond.code y bytes maxL ret :: ALLG) rm2 c2 s2 N2 := by
  rw [C.2.2.2.2.2.2.2.2]
  exact va_cnB N2 C.2.2.2.2.1 (ALLG_good (ALLG_in hcode rfl)) rfl hR.1 hR.2.1 (C.nest hlk rfl) (C.word hini rfl) hN ⟨hR.2.2.1, hR.2.2.2.1⟩
theorem cl_room (C : OK w X G ad own cc nL rm) (hR : RmOK rm rm2 c2 s2 maxL k n) : k + c2 ≤ (x_R X).cells ∧ n + s2 ≤ (x_R X).slots := by
  rw [C.2.2.2.2.2.2.2.2]; exact ⟨hR.2.2.2.2.1, hR.2.2.2.2.2⟩
theorem cl_S (C : OK w X G ad own cc nL rm) : CallFix (x_p X) (x_m X) (x_c X) cc nL (x_s X) (x_a X) ALLG own := ⟨C.1, C.2.1, C.2.2.1, C.2.2.2.1, C.2.2.2.2.1⟩
theorem cl_recv (C : OK w X G ad own cc nL rm) {H : Heap} (hP : va_P G.1 clsA (mkW w G ad τ) H) (j : Nat) {ci : Nat} {qc : vw_C} {fs : List Value} (hj : j < w.1) (hen : w.2 G ad j τ = .inr (ci, fs)) (hc : clsA[ci]? = some qc) : ∃ cell : Cell, H[ad j]? = some cell ∧ cell.vm.isStatics = false ∧ (x_s X).vm.findClass qc.1 = some cell.cls :=
  va_recv C.K hP hc ((mkW_get w G ad τ hj).trans (by rw [hen]))

theorem V_callS {st0 : List Value} (C : OK w X G ad own cc nL rm) (hM : Con w (x_l X) G ad y (Cond.code y bytes maxL ret) rm2 c2 s2 av τ v τ') (hcode : Cond.code y bytes maxL ret ∈ lw_tbl) (hini : Cond.initialized y.cls ∈ lw_tbl) (hlk : Cond.methodLink own index y ∈ lw_tbl) (hst : Cond.static y ∈ lw_tbl) (hN : NmOK y N2) (hR : RmOK rm rm2 c2 s2 maxL k n) (hnn : av.length = N2) (hs0 : st0 = av.reverse ++ st) (hcat : (st.map fun v => v.category).sum ≤ 8) (d : decode cc pc = .ok (.invokestatic index, 3)) (e : pc + 3 = q) {st1 : List Value} (hs1 : v.toList ++ st = st1) (kk : V w X G ad nL Q (k + c2) (n + s2) τ' q L st1) : V w X G ad nL Q k n τ pc L st0 := by
  subst e
  subst hs1
  intro H locs ls hP hS hl
  exact V_ofRun hS hl (va_runS (As := av) (rest := st) (cl_S C) (hM H.size) ⟨cl_B C hcode hini hlk hN hR, C.word hst rfl⟩ ⟨Bef_blind (x_l X) H.size, Bef_hold C hP hS⟩ rfl hnn hl.1 hs0 (lv_room hcat) d (cl_room C hR)) kk
theorem V_callSN {st0 : List Value} (C : OK w X G ad own cc nL rm) {host : String} (hM : Con w (x_l X) G ad y (Cond.code y bytes maxL ret) rm2 c2 s2 av τ v τ') (hcode : Cond.code y bytes maxL ret ∈ lw_tbl) (hini : Cond.initialized y.cls ∈ lw_tbl) (hlk : Cond.methodLinkNest own index y host ∈ lw_tbl) (hst : Cond.static y ∈ lw_tbl) (hN : NmOK y N2) (hR : RmOK rm rm2 c2 s2 maxL k n) (hnn : av.length = N2) (hs0 : st0 = av.reverse ++ st) (hcat : (st.map fun v => v.category).sum ≤ 8) (d : decode cc pc = .ok (.invokestatic index, 3)) (e : pc + 3 = q) {st1 : List Value} (hs1 : v.toList ++ st = st1) (kk : V w X G ad nL Q (k + c2) (n + s2) τ' q L st1) : V w X G ad nL Q k n τ pc L st0 := by
  subst e
  subst hs1
  intro H locs ls hP hS hl
  exact V_ofRun hS hl (va_runSN (As := av) (rest := st) (cl_S C) (hM H.size) ⟨cl_N C hcode hini hlk hN hR, C.word hst rfl, trivial⟩ ⟨Bef_blind (x_l X) H.size, Bef_hold C hP hS⟩ rfl hnn hl.1 hs0 (lv_room hcat) d (cl_room C hR)) kk
theorem V_callV {st0 : List Value} (C : OK w X G ad own cc nL rm) (j : Nat) {ci : Nat} {qc : vw_C} {fs : List Value} (hj : j < w.1) (hen : w.2 G ad j τ = .inr (ci, fs)) (hc : clsA[ci]? = some qc) (hqc : qc.1 = y.cls) (hM : Con w (x_l X) G ad y (Cond.code y bytes maxL ret) rm2 c2 s2 (.ref (ad j) :: av) τ v τ') (hcode : Cond.code y bytes maxL ret ∈ lw_tbl) (hini : Cond.initialized y.cls ∈ lw_tbl) (hlk : Cond.methodLink own index y ∈ lw_tbl) (hin : Cond.instanceMethod y ∈ lw_tbl) (hse : Cond.selects y.cls y y ∈ lw_tbl) (hN : NmOK y N2) (hR : RmOK rm rm2 c2 s2 maxL k n) (hnn : av.length = N2) (hs0 : st0 = av.reverse ++ .ref (ad j) :: st) (hcat : (st.map fun v => v.category).sum ≤ 8) (d : decode cc pc = .ok (.invokevirtual index, 3)) (e : pc + 3 = q) {st1 : List Value} (hs1 : v.toList ++ st = st1) (kk : V w X G ad nL Q (k + c2) (n + s2) τ' q L st1) : V w X G ad nL Q k n τ pc L st0 := by
  subst e
  subst hs1
  intro H locs ls hP hS hl
  exact V_ofRun hS hl (va_runV (b := ad j) (C := y.cls) (As := av) (rest := st) (cl_S C) (hM H.size) ⟨cl_B C hcode hini hlk hN hR, C.word hin rfl, C.word hse rfl⟩ ⟨Bef_blind (x_l X) H.size, (by rw [← hqc]; exact cl_recv C hP j hj hen hc), Bef_hold C hP hS⟩ rfl hnn hl.1 hs0 (lv_room hcat) d (cl_room C hR)) kk
theorem V_callVN {st0 : List Value} (C : OK w X G ad own cc nL rm) {host : String} (j : Nat) {ci : Nat} {qc : vw_C} {fs : List Value} (hj : j < w.1) (hen : w.2 G ad j τ = .inr (ci, fs)) (hc : clsA[ci]? = some qc) (hqc : qc.1 = y.cls) (hM : Con w (x_l X) G ad y (Cond.code y bytes maxL ret) rm2 c2 s2 (.ref (ad j) :: av) τ v τ') (hcode : Cond.code y bytes maxL ret ∈ lw_tbl) (hini : Cond.initialized y.cls ∈ lw_tbl) (hlk : Cond.methodLinkNest own index y host ∈ lw_tbl) (hin : Cond.instanceMethod y ∈ lw_tbl) (hse : Cond.selects y.cls y y ∈ lw_tbl) (hN : NmOK y N2) (hR : RmOK rm rm2 c2 s2 maxL k n) (hnn : av.length = N2) (hs0 : st0 = av.reverse ++ .ref (ad j) :: st) (hcat : (st.map fun v => v.category).sum ≤ 8) (d : decode cc pc = .ok (.invokevirtual index, 3)) (e : pc + 3 = q) {st1 : List Value} (hs1 : v.toList ++ st = st1) (kk : V w X G ad nL Q (k + c2) (n + s2) τ' q L st1) : V w X G ad nL Q k n τ pc L st0 := by
  subst e
  subst hs1
  intro H locs ls hP hS hl
  exact V_ofRun hS hl (va_runVN (b := ad j) (C := y.cls) (As := av) (rest := st) (cl_S C) (hM H.size) ⟨cl_N C hcode hini hlk hN hR, C.word hin rfl, C.word hse rfl⟩ ⟨Bef_blind (x_l X) H.size, (by rw [← hqc]; exact cl_recv C hP j hj hen hc), Bef_hold C hP hS⟩ rfl hnn hl.1 hs0 (lv_room hcat) d (cl_room C hR)) kk
theorem V_callVX {st0 : List Value} (C : OK w X G ad own cc nL rm) (j : Nat) {ci : Nat} {qc : vw_C} {fs : List Value} (hj : j < w.1) (hen : w.2 G ad j τ = .inr (ci, fs)) (hc : clsA[ci]? = some qc) (hqc : qc.1 = y.cls) (hM : ConX w (x_l X) G ad y (Cond.code y bytes maxL ret) rm2 c2 s2 (.ref (ad j) :: av) τ r τ') (hcode : Cond.code y bytes maxL ret ∈ lw_tbl) (hini : Cond.initialized y.cls ∈ lw_tbl) (hlk : Cond.methodLink own index y ∈ lw_tbl) (hin : Cond.instanceMethod y ∈ lw_tbl) (hse : Cond.selects y.cls y y ∈ lw_tbl) (hN : NmOK y N2) (hR : RmOK rm rm2 c2 s2 maxL k n) (hnn : av.length = N2) (hs0 : st0 = av.reverse ++ .ref (ad j) :: st) (hcat : (st.map fun v => v.category).sum ≤ 8) (d : decode cc pc = .ok (.invokevirtual index, 3)) (e : pc + 3 = q) (hk : k + c2 ≤ mc) (hn : n + s2 ≤ ms) (kx : ∀ E, r = .inl E → FinX w X G ad Q mc ms E τ') (kk : ∀ v, r = .inr v → V w X G ad nL Q (k + c2) (n + s2) τ' q L (v.toList ++ st)) : V w X G ad nL Q k n τ pc L st0 := by
  subst e
  intro H locs ls hP hS hl
  exact V_ofRunX C hS hl (vx_runV (b := ad j) (C := y.cls) (As := av) (rest := st) (cl_S C) (hM H.size) ⟨cl_B C hcode hini hlk hN hR, C.word hin rfl, C.word hse rfl⟩ ⟨Bef_blind (x_l X) H.size, (by rw [← hqc]; exact cl_recv C hP j hj hen hc), Bef_hold C hP hS⟩ rfl hnn hl.1 hs0 (lv_room hcat) d (cl_room C hR)) hk hn kx kk
/-- an exception thrown on by a call, or made here -/
theorem V_throwS (C : OK w X G ad own cc nL rm) {E text : String} {ik is ic : Nat} (hown : own = RX6) (F : FinX w X G ad Q mc ms E τ) (hcls : Bundle.fit E = true)
    (hk : Cond.classLink own ik E ∈ lw_tbl) (hini : Cond.initialized E ∈ lw_tbl) (hstr : (is, text) ∈ strsX) (hat : ∀ z ∈ vx_atS own ic E ["java/lang/RuntimeException", "java/lang/Exception"], z ∈ lw_tbl ∧ (goodWord z || warmW z) = true)
    (hgood : ∀ z ∈ Cond.classLink own ik E :: Cond.initialized E :: vx_atS own ic E ["java/lang/RuntimeException", "java/lang/Exception"], vx_ot z = true)
    (d0 : decode cc pc = .ok (.new ik, 3)) (d3 : decode cc (pc + 3) = .ok (.dup, 1)) (d4 : decode cc (pc + 4) = .ok (.ldc is, 2)) (d6 : decode cc (pc + 6) = .ok (.invokespecial ic, 3)) (d9 : decode cc (pc + 9) = .ok (.athrow, 1))
    (hRf : 5 < rm.frames) (hRl : (st.map fun v => v.category).sum + 82 ≤ rm.locals) (hRc : k + 1 ≤ rm.cells) (hRs : n + 6 ≤ rm.slots) (hc : k + 1 ≤ mc) (hs : n + 6 ≤ ms) : V w X G ad nL Q k n τ pc L st := by
  intro H locs ls hP hS hl
  obtain ⟨hno, r, hr, hQ⟩ := F
  rw [hQ]
  obtain ⟨sa, hsa⟩ := C.2.2.2.2.2.1.2.2.1 _ hstr
  have hR := C.2.2.2.2.2.2.2.2
  refine vx_throwS C.1 C.2.1 C.2.2.2.2.2.1.2.2.2.2.2.2 C.2.2.2.1 (names := ["java/lang/RuntimeException", "java/lang/Exception"]) (sa := sa) hcls (by decide) (C.word hk rfl) (C.word hini rfl) (by rw [hown]; exact hsa) (fun z hz => ?_) hgood C.2.2.2.2.2.1.2.2.2.1 C.2.2.2.2.2.1.2.2.2.2.1 hS (hl.1.trans C.2.2.1.symm) d0 d3 d4 d6 d9 (fun x hx => (hno x hx).elim) (by rw [hR]; exact hRf) (by rw [hR]; exact hRl) (by rw [hR]; exact hRc) (by rw [hR]; exact hRs) C.2.2.2.2.2.2.2.1 (fun t hal hsz hsame => ⟨hr, ?_, ?_⟩) hS.2.2 hc hs
  · obtain ⟨hm, hg⟩ := hat z hz
    rcases Bool.or_eq_true_iff.mp hg with g | g
    · exact C.word hm g
    · exact va_Nw.use (by cases z <;> first | rfl | exact absurd g (by simp [warmW])) (C.nest hm g)
  · exact hP.kept (fun i q hq => hsame q.1 (hP i q hq).lt)
  · exact ⟨Nat.le_trans hS.1 hsz, fun q hq hn => (hsame q (Nat.lt_of_lt_of_le hq hS.1)).trans (hS.2.1 q hq hn)⟩
theorem V_throwSW (C : OK w X G ad own cc nL rm) {E text : String} {ik is ic : Nat} (hown : own = RX6) (F : FinX w X G ad Q mc ms E τ) (hcls : Bundle.fit E = true)
    (hk : Cond.classLink own ik E ∈ lw_tbl) (hini : Cond.initialized E ∈ lw_tbl) (hstr : (is, text) ∈ strsX) (hat : ∀ z ∈ vx_atS own ic E ["java/lang/RuntimeException", "java/lang/Exception"], z ∈ lw_tbl ∧ (goodWord z || warmW z) = true)
    (hgood : ∀ z ∈ Cond.classLink own ik E :: Cond.initialized E :: vx_atS own ic E ["java/lang/RuntimeException", "java/lang/Exception"], vx_ot z = true)
    (d0 : decode cc pc = .ok (.new ik, 3)) (d3 : decode cc (pc + 3) = .ok (.dup, 1)) (d4 : decode cc (pc + 4) = .ok (.ldc_w is, 3)) (d6 : decode cc (pc + 7) = .ok (.invokespecial ic, 3)) (d9 : decode cc (pc + 10) = .ok (.athrow, 1))
    (hRf : 5 < rm.frames) (hRl : (st.map fun v => v.category).sum + 82 ≤ rm.locals) (hRc : k + 1 ≤ rm.cells) (hRs : n + 6 ≤ rm.slots) (hc : k + 1 ≤ mc) (hs : n + 6 ≤ ms) : V w X G ad nL Q k n τ pc L st := by
  intro H locs ls hP hS hl
  obtain ⟨hno, r, hr, hQ⟩ := F
  rw [hQ]
  obtain ⟨sa, hsa⟩ := C.2.2.2.2.2.1.2.2.1 _ hstr
  have hR := C.2.2.2.2.2.2.2.2
  refine vx_throwSW C.1 C.2.1 C.2.2.2.2.2.1.2.2.2.2.2.2 C.2.2.2.1 (names := ["java/lang/RuntimeException", "java/lang/Exception"]) (sa := sa) hcls (by decide) (C.word hk rfl) (C.word hini rfl) (by rw [hown]; exact hsa) (fun z hz => ?_) hgood C.2.2.2.2.2.1.2.2.2.1 C.2.2.2.2.2.1.2.2.2.2.1 hS (hl.1.trans C.2.2.1.symm) d0 d3 d4 d6 d9 (fun x hx => (hno x hx).elim) (by rw [hR]; exact hRf) (by rw [hR]; exact hRl) (by rw [hR]; exact hRc) (by rw [hR]; exact hRs) C.2.2.2.2.2.2.2.1 (fun t hal hsz hsame => ⟨hr, ?_, ?_⟩) hS.2.2 hc hs
  · obtain ⟨hm, hg⟩ := hat z hz
    rcases Bool.or_eq_true_iff.mp hg with g | g
    · exact C.word hm g
    · exact va_Nw.use (by cases z <;> first | rfl | exact absurd g (by simp [warmW])) (C.nest hm g)
  · exact hP.kept (fun i q hq => hsame q.1 (hP i q hq).lt)
  · exact ⟨Nat.le_trans hS.1 hsz, fun q hq hn => (hsame q (Nat.lt_of_lt_of_le hq hS.1)).trans (hS.2.1 q hq hn)⟩

theorem V_mmax (C : OK w X G ad own cc nL rm) {x y : Int32} (hlk : Cond.methodLink own index Lib.Math.max.name ∈ lw_tbl) (hst : Cond.static Lib.Math.max.name ∈ lw_tbl) (hini : Cond.initialized "java/lang/Math" ∈ lw_tbl) (hcode : Cond.code Lib.Math.max.name Lib.Math.max.code 2 (some .int) ∈ lw_tbl) (hRf : 1 ≤ rm.frames) (hRl : (st.map fun v => v.category).sum + 13 ≤ rm.locals) (hRc : k ≤ rm.cells) (hRs : n ≤ rm.slots) (d : decode cc pc = .ok (.invokestatic index, 3)) (e : pc + 3 = q) (kk : V w X G ad nL Q k n τ q L (.int (if x < y then y else x) :: st)) : V w X G ad nL Q k n τ pc L (.int y :: .int x :: st) := by
  subst e
  intro H locs ls hP hS hl
  have hR := C.2.2.2.2.2.2.2.2
  exact va_mmax C.1 C.2.1 (C.2.2.1.trans hl.1.symm) C.2.2.2.1 (C.word hlk rfl) (C.word hst rfl) (C.word hini rfl) (C.word hcode rfl) (by rw [hR]; exact hRf) (by rw [hR]; exact hRl) (by rw [hR]; exact hRc) (by rw [hR]; exact hRs) d (kk H locs ls hP hS hl)
theorem V_mmin (C : OK w X G ad own cc nL rm) {x y : Int32} (hlk : Cond.methodLink own index Lib.Math.min.name ∈ lw_tbl) (hst : Cond.static Lib.Math.min.name ∈ lw_tbl) (hini : Cond.initialized "java/lang/Math" ∈ lw_tbl) (hcode : Cond.code Lib.Math.min.name Lib.Math.min.code 2 (some .int) ∈ lw_tbl) (hRf : 1 ≤ rm.frames) (hRl : (st.map fun v => v.category).sum + 13 ≤ rm.locals) (hRc : k ≤ rm.cells) (hRs : n ≤ rm.slots) (d : decode cc pc = .ok (.invokestatic index, 3)) (e : pc + 3 = q) (kk : V w X G ad nL Q k n τ q L (.int (if y < x then y else x) :: st)) : V w X G ad nL Q k n τ pc L (.int y :: .int x :: st) := by
  subst e
  intro H locs ls hP hS hl
  have hR := C.2.2.2.2.2.2.2.2
  exact va_mmin C.1 C.2.1 (C.2.2.1.trans hl.1.symm) C.2.2.2.1 (C.word hlk rfl) (C.word hst rfl) (C.word hini rfl) (C.word hcode rfl) (by rw [hR]; exact hRf) (by rw [hR]; exact hRl) (by rw [hR]; exact hRc) (by rw [hR]; exact hRs) d (kk H locs ls hP hS hl)
theorem V_f2b (C : OK w X G ad own cc nL rm) {b : UInt32} (hlk : Cond.methodLink own index ⟨"java/lang/Float", "floatToRawIntBits", "(F)I"⟩ ∈ lw_tbl) (hnat : Cond.native ⟨"java/lang/Float", "floatToRawIntBits", "(F)I"⟩ ∈ lw_tbl) (hst : Cond.static ⟨"java/lang/Float", "floatToRawIntBits", "(F)I"⟩ ∈ lw_tbl) (hini : Cond.initialized "java/lang/Float" ∈ lw_tbl) (hRf : 1 ≤ rm.frames) (hRl : (st.map fun v => v.category).sum + 15 ≤ rm.locals) (d : decode cc pc = .ok (.invokestatic index, 3)) (e : pc + 3 = q) (kk : V w X G ad nL Q k n τ q L (.int b.toInt32 :: st)) : V w X G ad nL Q k n τ pc L (.float b :: st) := by
  subst e
  intro H locs ls hP hS hl
  have hR := C.2.2.2.2.2.2.2.2
  exact vn_f2i C.1 C.2.1 (C.2.2.1.trans hl.1.symm) C.2.2.2.1 (C.word hlk rfl) (C.word hnat rfl) (C.word hst rfl) (C.word hini rfl) (by rw [hR]; exact hRf) (by rw [hR]; exact hRl) d (kk H locs ls hP hS hl)
theorem V_d2b (C : OK w X G ad own cc nL rm) {b : UInt64} (hlk : Cond.methodLink own index ⟨"java/lang/Double", "doubleToRawLongBits", "(D)J"⟩ ∈ lw_tbl) (hnat : Cond.native ⟨"java/lang/Double", "doubleToRawLongBits", "(D)J"⟩ ∈ lw_tbl) (hst : Cond.static ⟨"java/lang/Double", "doubleToRawLongBits", "(D)J"⟩ ∈ lw_tbl) (hini : Cond.initialized "java/lang/Double" ∈ lw_tbl) (hRf : 1 ≤ rm.frames) (hRl : (st.map fun v => v.category).sum + 15 ≤ rm.locals) (d : decode cc pc = .ok (.invokestatic index, 3)) (e : pc + 3 = q) (kk : V w X G ad nL Q k n τ q L (.long b.toInt64 :: st)) : V w X G ad nL Q k n τ pc L (.double b :: st) := by
  subst e
  intro H locs ls hP hS hl
  have hR := C.2.2.2.2.2.2.2.2
  exact vn_d2l C.1 C.2.1 (C.2.2.1.trans hl.1.symm) C.2.2.2.1 (C.word hlk rfl) (C.word hnat rfl) (C.word hst rfl) (C.word hini rfl) (by rw [hR]; exact hRf) (by rw [hR]; exact hRl) d (kk H locs ls hP hS hl)
/-- System.arraycopy between two rows of ints -/
theorem V_copy (C : OK w X G ad own cc nL rm) (i j : Nat) {m0 m1 : Nat} {f g : Nat → Int32} {sp dp m : Int32} (hi : i < w.1) (hj : j < w.1) (hen0 : w.2 G ad i τ = .inl (G.2.1, m0, .inl f)) (hen : w.2 G ad j τ = .inl (G.2.1, m1, .inl g)) (h1 : ¬ sp < 0) (h2 : ¬ dp < 0) (h3 : ¬ m < 0) (h4 : sp.toNatClampNeg + m.toNatClampNeg ≤ m0) (h5 : dp.toNatClampNeg + m.toNatClampNeg ≤ m1)
    (hen2 : w.2 G ad j τ' = .inl (G.2.1, m1, .inl (va_cpy f g sp.toNatClampNeg dp.toNatClampNeg m.toNatClampNeg))) (ho : ∀ i, i < w.1 → i ≠ j → w.2 G ad i τ' = w.2 G ad i τ)
    (hlk : Cond.methodLink own index arraycopyName ∈ lw_tbl) (hnat : Cond.native arraycopyName ∈ lw_tbl) (hst : Cond.static arraycopyName ∈ lw_tbl) (hini : Cond.initialized "java/lang/System" ∈ lw_tbl) (hRf : 1 ≤ rm.frames) (hRl : (st.map fun v => v.category).sum + 40 ≤ rm.locals) (d : decode cc pc = .ok (.invokestatic index, 3)) (e : pc + 3 = q) (kk : V w X G ad nL Q k n τ' q L st) : V w X G ad nL Q k n τ pc L (.int m :: .int dp :: .ref (ad j) :: .int sp :: .ref (ad i) :: st) := by
  subst e
  intro H locs ls hP hS hl
  have hR := C.2.2.2.2.2.2.2.2
  have r1 : 1 ≤ (x_R X).frames := by rw [hR]; exact hRf
  have r2 : (st.map fun v => v.category).sum + (nativeFrameWords "java/lang/System" "arraycopy" 5 + 11) ≤ (x_R X).locals := by
    have hw : nativeFrameWords "java/lang/System" "arraycopy" 5 ≤ 29 := by decide
    rw [hR]
    omega
  refine va_copyi C.1 C.2.1 (C.2.2.1.trans hl.1.symm) C.2.2.2.1 (C.word hlk rfl) (C.word hnat rfl) (C.word hst rfl) (C.word hini rfl) C.K hP C.D hS i j 0 0 (ty := .int) ((mkW_get w G ad τ hi).trans (by rw [hen0])) ((mkW_get w G ad τ hj).trans (by rw [hen])) rfl rfl rfl h1 h2 h3 h4 h5 (fun _ _ => rfl) r1 r2 d (fun H1 locs1 hP1 hD1 hS1 => ?_)
  rw [mkW_set w G ad τ τ' hj hen2 ho] at hP1
  exact kk H1 locs1 ls hP1 hS1 hl
end VC

