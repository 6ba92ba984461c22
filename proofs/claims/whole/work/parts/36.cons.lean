/-! Constructors: a walk over a list of cells that grows. -/
def Bi (l : Launch) (G : Gx) (e0 : va_E) (h0 sz : Nat) (U : State) : Prop :=
  U.heap.size = sz ∧ va_P G.1 clsA [(h0, e0)] U.heap ∧ AMB l G (va_A [(h0, e0)] sz) U ∧ va_AOA .int U
def ConI (l : Launch) (G : Gx) (y : MethodName) (hd : Cond) (rm : Room) (mc ms : Nat) (e0 : va_E) (Bp : Nat → Nat → Heap → Prop) : Prop :=
  ∀ h0 sz : Nat, Met l y (hd :: ALLG) rm (va_Pc [.ref h0] (Bi l G e0 h0 sz)) (fun _ st oc t => oc = .returned none ∧ Bp h0 sz t.heap ∧ va_F (va_A [(h0, e0)] sz) st t) mc ms (va_A [(h0, e0)] sz)
def U (X : Cx) (G : Gx) (nL : Nat) (Q : State → Prop) (A : Nat → Prop) (k n : Nat) (ws : va_W) (pc : Nat) (L : List (Nat × Value)) (st : List Value) : Prop :=
  ∀ (H : Heap) (locs : List Loc) (ls : Array Slot), va_P G.1 clsA ws H → va_D A ws → va_S A (x_s X).heap H locs → lv_has ls nL L → Wx X H locs k n Q (F0 (x_m X) pc ls st)
def OKU (X : Cx) (G : Gx) (A : Nat → Prop) (own : String) (cc : ByteArray) (nL : Nat) (rm : Room) : Prop :=
  (x_p X).tables.exec = Jvm.exec ∧ (x_c X).code = cc ∧ (x_c X).maxLocals = nL ∧ (x_s X).vm.findClass own = some (x_m X).cls ∧ (∀ w ∈ ALLG, w.before (x_a X) (x_s X) = true) ∧
  AMB (x_l X) G A (x_s X) ∧ (x_h X).locks = false ∧ x_R X = rm ∧ (∀ q : Nat, (x_s X).heap.size ≤ q → A q) ∧ va_AOA .int (x_s X)
theorem aoa_vm {u v : State} (h : u.vm.Alike v.vm) (hZ : va_AOA .int u) : va_AOA .int v := by
  have h1 : (Cond.arrayOver (.array .int)).before #[] (u.setVm v.vm) = true := by
    rw [Cond.arrayOver_setVmC h]
    exact hZ
  exact h1
theorem ConI.start {l : Launch} {G : Gx} {y : MethodName} {cc : ByteArray} {nL mc ms : Nat} {rm : Room} {e0 : va_E} {Bp : Nat → Nat → Heap → Prop} (hy : plainName y.cls = true) (hn1 : y.name = "<init>") (hn : 1 ≤ nL)
    (body : ∀ (X : Cx) (Q : State → Prop) (A : Nat → Prop) (h0 : Nat), x_l X = l → OKU X G A y.cls cc nL rm → (x_h X).name = "<init>" → (∀ q, va_A [(h0, e0)] (x_s X).heap.size q → A q) → (∀ q, A q → va_A [(h0, e0)] (x_s X).heap.size q) →
      ((x_h X).sig.returnType = none ∧ ∀ t, MQ (x_b X) (fun _ st oc t => oc = .returned none ∧ Bp h0 (x_s X).heap.size t.heap ∧ va_F (va_A [(h0, e0)] (x_s X).heap.size) st t) (x_a X) (x_s X) mc ms (va_A [(h0, e0)] (x_s X).heap.size) t → Q t) → U X G nL Q A 0 0 [(h0, e0)] 0 [(0, .ref h0)] []) :
    ConI l G y (Cond.code y cc nL none) rm mc ms e0 Bp := by
  intro h0 sz
  refine Met.ofW (cc := cc) (maxL := nL) (ret := none) (ws' := ALLG) hy rfl ?_
  intro p e s m args below meth c s₁ B hml hv
  obtain ⟨rfl, hsz, hP, hA, hZ⟩ := hv
  subst hsz
  have hts := atoms_spec (ws := Cond.code y cc nL none :: ALLG) B.pre
  have hC : OKU (p, l, e, rm, s, m, ([Value.ref h0] : List Value).toArray, below, meth, c) G (va_A [(h0, e0)] s.heap.size) y.cls cc nL rm :=
    ⟨B.exec, B.bytes, hml, findClass_of_methodNamed B.named, fun w h => hts w (List.mem_cons_of_mem _ h), hA, B.notSynchronized, rfl, fun q h => Or.inr h, hZ⟩
  have h := body (p, l, e, rm, s, m, ([Value.ref h0] : List Value).toArray, below, meth, c) (MQ below (fun _ st oc t => oc = .returned none ∧ Bp h0 s.heap.size t.heap ∧ va_F (va_A [(h0, e0)] s.heap.size) st t) ([Value.ref h0] : List Value).toArray s mc ms (va_A [(h0, e0)] s.heap.size)) (va_A [(h0, e0)] s.heap.size) h0 rfl hC (by rw [← hn1]; exact (name_of_methodNamed B.named B.method).1) (fun q h => h) (fun q h => h) ⟨B.returns, fun t h => h⟩
  rw [lg_entry_eq]
  refine h s.heap [] _ hP ⟨fun i j p q hp hq _ => ?_, fun k q hq => va_A.in hq⟩ va_S.rf (lv_entry [.ref h0] (by simpa [lg_sl, Value.category] using hn))
  have h1 := (List.getElem?_eq_some_iff.mp hp).1
  have h2 := (List.getElem?_eq_some_iff.mp hq).1
  simp at h1 h2
  omega
section UR
variable {X : Cx} {G : Gx} {A : Nat → Prop} {own : String} {cc : ByteArray} {nL k n pc q : Nat} {rm : Room} {Q : State → Prop} {ws : va_W} {L : List (Nat × Value)} {st : List Value} {mc ms : Nat}
theorem OKU.word (C : OKU X G A own cc nL rm) {z : Cond} (h : z ∈ lw_tbl) (g : goodWord z = true) : z.before (x_a X) (x_s X) = true := C.2.2.2.2.1 z (ALLG_in h g)
theorem OKU.nest (C : OKU X G A own cc nL rm) {z : Cond} (h : z ∈ lw_tbl) (g : warmW z = true) : va_Nw z (x_s X) := C.2.2.2.2.2.1.2.1 z h g
theorem OKU.K (C : OKU X G A own cc nL rm) : va_K G.1 clsA (tysG G) (x_s X) := C.2.2.2.2.2.1.1
theorem U_aload_n (C : OKU X G A own cc nL rm) {j : Fin 4} {x z : Nat} (d : decode cc pc = .ok (.aload_n j, 1)) (e : pc + 1 = q) (hz : (j : Nat) = z) (i : Nat) (h : L[i]? = some (z, .ref x)) (kk : U X G nL Q A k n ws q L (.ref x :: st)) : U X G nL Q A k n ws pc L st := by
  subst e
  intro H locs ls hP hD hS hl
  exact lv_aload_n C.1 C.2.1 d hz (lv_at hl i h) (kk H locs ls hP hD hS hl)
theorem U_iconst (C : OKU X G A own cc nL rm) {c : Int} {v : Int32} (d : decode cc pc = .ok (.iconst c, 1)) (e : pc + 1 = q) (h : Int32.ofInt c = v) (kk : U X G nL Q A k n ws q L (.int v :: st)) : U X G nL Q A k n ws pc L st := by
  subst e
  intro H locs ls hP hD hS hl
  exact lv_iconst C.1 C.2.1 d h (kk H locs ls hP hD hS hl)
theorem U_bipush (C : OKU X G A own cc nL rm) {c : Int} {v : Int32} (d : decode cc pc = .ok (.bipush c, 2)) (e : pc + 2 = q) (h : (Int8.ofInt c).toInt32 = v) (kk : U X G nL Q A k n ws q L (.int v :: st)) : U X G nL Q A k n ws pc L st := by
  subst e
  intro H locs ls hP hD hS hl
  exact lv_bipush C.1 C.2.1 d h (kk H locs ls hP hD hS hl)
theorem U_sipush (C : OKU X G A own cc nL rm) {c : Int} {v : Int32} (d : decode cc pc = .ok (.sipush c, 3)) (e : pc + 3 = q) (h : (Int16.ofInt c).toInt32 = v) (kk : U X G nL Q A k n ws q L (.int v :: st)) : U X G nL Q A k n ws pc L st := by
  subst e
  intro H locs ls hP hD hS hl
  exact lv_sipush C.1 C.2.1 d h (kk H locs ls hP hD hS hl)
theorem U_dup (C : OKU X G A own cc nL rm) {a : Value} (d : decode cc pc = .ok (.dup, 1)) (e : pc + 1 = q) (h : a.category = 1) (kk : U X G nL Q A k n ws q L (a :: a :: st)) : U X G nL Q A k n ws pc L (a :: st) := by
  subst e
  intro H locs ls hP hD hS hl
  exact lv_dup C.1 C.2.1 d h (kk H locs ls hP hD hS hl)
theorem U_astore_n (C : OKU X G A own cc nL rm) {j : Fin 4} {x z : Nat} {L' : List (Nat × Value)} (d : decode cc pc = .ok (.astore_n j, 1)) (e : pc + 1 = q) (hz : (j : Nat) = z) (hn : z < nL) (hL : (z, Value.ref x) :: L.filter (fun q => !(q.1 == z) && !(q.1 + 1 == z && q.2.category == 2)) = L') (kk : U X G nL Q A k n ws q L' st) : U X G nL Q A k n ws pc L (.ref x :: st) := by
  subst e
  intro H locs ls hP hD hS hl
  exact lv_astore_n C.1 C.2.1 d hz hl hn hL (fun ls h => kk H locs ls hP hD hS h)
theorem U_istore (C : OKU X G A own cc nL rm) {z : Nat} {x : Int32} {L' : List (Nat × Value)} (d : decode cc pc = .ok (.istore z, 2)) (e : pc + 2 = q) (hn : z < nL) (hL : (z, Value.int x) :: L.filter (fun q => !(q.1 == z) && !(q.1 + 1 == z && q.2.category == 2)) = L') (kk : U X G nL Q A k n ws q L' st) : U X G nL Q A k n ws pc L (.int x :: st) := by
  subst e
  intro H locs ls hP hD hS hl
  exact lv_istore C.1 C.2.1 d hl hn hL (fun ls h => kk H locs ls hP hD hS h)
theorem U_objInit (C : OKU X G A own cc nL rm) {i a : Nat} (hlk : Cond.methodLink own i Lib.objectInit ∈ lw_tbl) (hin : Cond.instanceMethod Lib.objectInit ∈ lw_tbl) (hcode : Cond.code Lib.objectInit ⟨#[0xb1]⟩ 1 none ∈ lw_tbl) (d : decode cc pc = .ok (.invokespecial i, 3)) (e : pc + 3 = q) (hRf : 1 ≤ rm.frames) (hRl : (st.map fun v => v.category).sum + 12 ≤ rm.locals) (kk : U X G nL Q A k n ws q L st) : U X G nL Q A k n ws pc L (.ref a :: st) := by
  subst e
  intro H locs ls hP hD hS hl
  have hR := C.2.2.2.2.2.2.2.1
  exact W.objInit C.1 C.2.1 C.2.2.2.1 (C.word hlk rfl) (C.word hin rfl) (C.word hcode rfl) rfl (hl.1.trans C.2.2.1.symm) rfl d (by rw [hR]; exact hRf) (by rw [hR]; show 2 * 0 + _ + 12 ≤ _; omega) (kk H locs ls hP hD hS hl)
theorem U_get (C : OKU X G A own cc nL rm) (p f : Nat) {a ci index N : Nat} {Cn : String} {Tc : u_T} {fs : List Value} {v : Value} (he : ws[p]? = some (a, .inr (ci, fs))) (hc : clsA[ci]? = some (Cn, Tc, N)) (hin : ∀ z ∈ u_ws Cn Tc N, z ∈ lw_tbl) (hg : (u_ws Cn Tc N).all goodWord = true) (hf : f < N) (hv : fs[f]? = some v) (hq : Cond.fieldLink own index (Tc f).1 (Tc f).2.1 (Tc f).2.2.1 ∈ lw_tbl) (d : decode cc pc = .ok (.getfield index, 3)) (e : pc + 3 = q) (kk : U X G nL Q A k n ws q L (v :: st)) : U X G nL Q A k n ws pc L (.ref a :: st) := by
  subst e
  intro H locs ls hP hD hS hl
  exact va_get C.1 C.2.1 C.2.2.2.2.1 (fun z hz => ALLG_in (hin z hz) (List.all_eq_true.mp hg z hz)) C.2.2.2.1 C.K hP p he hc f hf (C.word hq rfl) (fun _ h => h) hv d (kk H locs ls hP hD hS hl)
theorem U_getN (C : OKU X G A own cc nL rm) (p f : Nat) {a ci index N : Nat} {Cn host : String} {Tc : u_T} {fs : List Value} {v : Value} (he : ws[p]? = some (a, .inr (ci, fs))) (hc : clsA[ci]? = some (Cn, Tc, N)) (hin : ∀ z ∈ u_ws Cn Tc N, z ∈ lw_tbl) (hg : (u_ws Cn Tc N).all goodWord = true) (hf : f < N) (hv : fs[f]? = some v) (hq : Cond.fieldLinkNest own index (Tc f).1 (Tc f).2.1 (Tc f).2.2.1 host ∈ lw_tbl) (d : decode cc pc = .ok (.getfield index, 3)) (e : pc + 3 = q) (kk : U X G nL Q A k n ws q L (v :: st)) : U X G nL Q A k n ws pc L (.ref a :: st) := by
  subst e
  intro H locs ls hP hD hS hl
  exact va_getN C.1 C.2.1 C.2.2.2.2.1 (fun z hz => ALLG_in (hin z hz) (List.all_eq_true.mp hg z hz)) C.2.2.2.1 C.K hP p he hc f hf (va_Nw.use rfl (C.nest hq rfl)) (fun _ h => h) hv d (kk H locs ls hP hD hS hl)
theorem U_put (C : OKU X G A own cc nL rm) (p f : Nat) {a ci index N : Nat} {Cn : String} {Tc : u_T} {fs : List Value} {v : Value} {ty : FieldType} {ws' : va_W} (he : ws[p]? = some (a, .inr (ci, fs))) (hw : ws.set p (a, .inr (ci, fs.set f v)) = ws') (hc : clsA[ci]? = some (Cn, Tc, N)) (hin : ∀ z ∈ u_ws Cn Tc N, z ∈ lw_tbl) (hg : (u_ws Cn Tc N).all goodWord = true) (ty0 : Nat → FieldType) (hty : ∀ k, k < N → parseFieldDescriptor (Tc k).2.2.1 = some (ty0 k)) (hnm : ∀ a, a < N → ∀ b, b < N → a ≠ b → (Tc a).2.1 ≠ (Tc b).2.1) (hf : f < N) (hfin : (Tc f).2.2.2 = false) (hd : parseFieldDescriptor (Tc f).2.2.1 = some ty) (hn : narrow ty v = v) (hfit : fits ty v = true) (hlen : f < fs.length) (hq : Cond.fieldLink own index (Tc f).1 (Tc f).2.1 (Tc f).2.2.1 ∈ lw_tbl) (d : decode cc pc = .ok (.putfield index, 3)) (e : pc + 3 = q) (kk : U X G nL Q A k n ws' q L st) : U X G nL Q A k n ws pc L (v :: .ref a :: st) := by
  subst e
  subst hw
  intro H locs ls hP hD hS hl
  exact va_put C.1 C.2.1 C.2.2.2.2.1 (fun z hz => ALLG_in (hin z hz) (List.all_eq_true.mp hg z hz)) ty0 hty hnm C.2.2.2.1 C.K hP hD hS p he hc f hf (C.word hq rfl) (fun _ h => h) hfin hd hn hfit hlen d (fun H1 locs1 hP1 hD1 hS1 => kk H1 locs1 ls hP1 hD1 hS1 hl)
theorem U_putF (C : OKU X G A own cc nL rm) (hi : (x_h X).name = "<init>") (p f : Nat) {a ci index N : Nat} {Cn : String} {Tc : u_T} {fs : List Value} {v : Value} {ty : FieldType} {ws' : va_W} (he : ws[p]? = some (a, .inr (ci, fs))) (hw : ws.set p (a, .inr (ci, fs.set f v)) = ws') (hc : clsA[ci]? = some (Cn, Tc, N)) (hin : ∀ z ∈ u_ws Cn Tc N, z ∈ lw_tbl) (hg : (u_ws Cn Tc N).all goodWord = true) (ty0 : Nat → FieldType) (hty : ∀ k, k < N → parseFieldDescriptor (Tc k).2.2.1 = some (ty0 k)) (hnm : ∀ a, a < N → ∀ b, b < N → a ≠ b → (Tc a).2.1 ≠ (Tc b).2.1) (hf : f < N) (hfin : (Tc f).2.2.2 = true) (hdecl : (Tc f).1 = own) (hd : parseFieldDescriptor (Tc f).2.2.1 = some ty) (hn : narrow ty v = v) (hfit : fits ty v = true) (hlen : f < fs.length) (hq : Cond.fieldLink own index (Tc f).1 (Tc f).2.1 (Tc f).2.2.1 ∈ lw_tbl) (d : decode cc pc = .ok (.putfield index, 3)) (e : pc + 3 = q) (kk : U X G nL Q A k n ws' q L st) : U X G nL Q A k n ws pc L (v :: .ref a :: st) := by
  subst e
  subst hw
  intro H locs ls hP hD hS hl
  exact va_putF C.1 C.2.1 C.2.2.2.2.1 (fun z hz => ALLG_in (hin z hz) (List.all_eq_true.mp hg z hz)) ty0 hty hnm C.2.2.2.1 C.K hP hD hS p he hc f hf (C.word hq rfl) (fun _ h => h) hfin hi hdecl hd hn hfit hlen d (fun H1 locs1 hP1 hD1 hS1 => kk H1 locs1 ls hP1 hD1 hS1 hl)
theorem U_new (C : OKU X G A own cc nL rm) {ci index N : Nat} {Cn : String} {Tc : u_T} (ty : Nat → FieldType) (fs : List Value) (hty : ∀ k, k < N → parseFieldDescriptor (Tc k).2.2.1 = some (ty k)) (hc : clsA[ci]? = some (Cn, Tc, N)) (hin : ∀ z ∈ u_ws Cn Tc N, z ∈ lw_tbl) (hg : (u_ws Cn Tc N).all goodWord = true) (hcl : Cond.classLink own index Cn ∈ lw_tbl) (hinst : Cond.instantiable Cn N ∈ lw_tbl) (hini : Cond.initialized Cn ∈ lw_tbl) (hfs : ∀ j, j < N → defaultValue (ty j) = vp_V fs j) (hRc : k + 1 ≤ rm.cells) (hRs : n + N ≤ rm.slots) (d : decode cc pc = .ok (.new index, 3)) (e : pc + 3 = q) (kk : ∀ h : Nat, U X G nL Q A (k + 1) (n + N) (ws ++ [(h, .inr (ci, fs))]) q L (.ref h :: st)) : U X G nL Q A k n ws pc L st := by
  subst e
  intro H locs ls hP hD hS hl
  have hR := C.2.2.2.2.2.2.2.1
  exact va_new C.1 C.2.1 C.2.2.2.2.1 (fun z hz => ALLG_in (hin z hz) (List.all_eq_true.mp hg z hz)) ty hty C.2.2.2.1 (C.word hcl rfl) (C.word hinst rfl) (C.word hini rfl) C.K hP hD hS C.2.2.2.2.2.2.2.2.1 hc hfs (by rw [hR]; exact hRc) (by rw [hR]; exact hRs) d (fun h H1 hP1 hD1 hS1 => kk h H1 locs ls hP1 hD1 hS1 hl)
theorem ra_eq {ty : FieldType} {c1 c2 : ClassId} {U : State} (ho : ∀ C, ty ≠ .object C) (h1 : va_RA U c1 ty) (h2 : va_RA U c2 ty) : c1 = c2 := by
  cases ty <;> first | exact absurd rfl (ho _) | exact Option.some.inj (h1.symm.trans h2)
theorem U_newa (C : OKU X G A own cc nL rm) (t0 : Nat) {atype : ArrayType} {ty : FieldType} {cA0 : ClassId} (hty : newarray.typeOf atype = ty) (ho : ∀ C, ty ≠ .object C) (ht : (tysG G)[t0]? = some (cA0, ty)) (harr : Cond.arrayClass (newarray.typeOf atype) ∈ lw_tbl) {m : Int32} {N' : Nat} (a0 : vp_A) (ha : ∀ cA : ClassId, vp_cell cA a0 = arrV cA N' (fun _ => defaultValue ty)) (hn : ¬ m < 0) (hN : m.toNatClampNeg = N') (hby : N' * componentBytes ty ≤ 536870912) (hRc : k + 1 ≤ rm.cells) (hRs : n + N' ≤ rm.slots) (d : decode cc pc = .ok (.newarray atype, 2)) (e : pc + 2 = q) (kk : ∀ h : Nat, U X G nL Q A (k + 1) (n + N') (ws ++ [(h, .inl (cA0, a0))]) q L (.ref h :: st)) : U X G nL Q A k n ws pc L (.int m :: st) := by
  subst e
  intro H locs ls hP hD hS hl
  have hR := C.2.2.2.2.2.2.2.1
  refine va_newa C.1 C.2.1 (C.word harr rfl) hty C.K hP hD hS C.2.2.2.2.2.2.2.2.1 ha hn hN hby (by rw [hR]; exact hRc) (by rw [hR]; exact hRs) d (fun h cA H1 hK1 hP1 hD1 hS1 => ?_)
  have e1 : (tysG G ++ [(cA, ty)])[(tysG G).length]? = some (cA, ty) := by simp
  have hc : cA = cA0 := ra_eq ho (hK1.2 _ _ e1).2 (C.K.2 t0 _ ht).2
  subst hc
  exact kk h H1 locs ls hP1 hD1 hS1 hl
theorem U_mna (C : OKU X G A own cc nL rm) {index : Nat} (hcl : Cond.classLink own index "[[I" ∈ lw_tbl) (harr : Cond.arrayClass .int ∈ lw_tbl) {a b : Int32} {N' K' : Nat} (ha : ¬ a < 0) (hb : ¬ b < 0) (hN : a.toNatClampNeg = N') (hK' : b.toNatClampNeg = K') (hN2 : N' ≤ 1000) (hK2 : K' ≤ 1000) (hRc : k + (1 + N') ≤ rm.cells) (hRs : n + (N' + N' * K') ≤ rm.slots) (d : decode cc pc = .ok (.multianewarray index 2, 4)) (e : pc + 4 = q)
    (kk : ∀ (h : Nat) (r : Nat → Nat), U X G nL Q A (k + 1 + N') (n + N' + N' * K') (ws ++ ((h, .inl (G.2.2.1, N', .inr (.inr (.inr (.inr (fun i => if i < N' then some (r i) else none)))))) :: (List.range N').map (fun i => (r i, (.inl (G.2.1, K', .inl (fun _ => 0)) : va_E))))) q L (.ref h :: st)) : U X G nL Q A k n ws pc L (.int b :: .int a :: st) := by
  subst e
  intro H locs ls hP hD hS hl
  have hR := C.2.2.2.2.2.2.2.1
  have hP0 : va_P G.1 clsA (ws ++ va_pl [] (fun _ => .inr (0, []))) H := by rw [show va_pl [] (fun _ => (.inr (0, []) : va_E)) = [] from rfl, List.append_nil]; exact hP
  have hD0 : va_D A (ws ++ va_pl [] (fun _ => .inr (0, []))) := by rw [show va_pl [] (fun _ => (.inr (0, []) : va_E)) = [] from rfl, List.append_nil]; exact hD
  have hfI : (x_s X).vm.findClass (FieldType.array .int).toString = some G.2.1 := (C.K.2 0 (G.2.1, .int) rfl).2
  refine va_mna C.1 C.2.1 C.2.2.2.1 (C.word hcl rfl) C.2.2.2.2.2.2.2.2.2 (C.word harr rfl) hfI C.K hP0 hD0 hS C.2.2.2.2.2.2.2.2.1 ha hb hN hK' (by omega) (by show K' * 4 ≤ _; omega) (by omega) rfl rfl (by rw [hR]; exact hRc) (by rw [hR]; exact hRs) (z := (K', .inl (fun _ => 0))) (fun c => ?_) d (fun h r cA H1 hr hL hK1 hP1 hD1 hS1 => ?_)
  · exact arrV_new c K' (.int 0)
  · have e1 : (tysG G ++ [(cA, .array .int)])[(tysG G).length]? = some (cA, .array .int) := by simp
    have hc : cA = G.2.2.1 := ra_eq (fun _ h => by cases h) (hK1.2 _ _ e1).2 (C.K.2 1 (G.2.2.1, .array .int) rfl).2
    subst hc
    have e2 : va_pl ([] ++ (List.range N').map r) (vr_up (fun _ => (.inr (0, []) : va_E)) ((List.range N').map r) (.inl (G.2.1, K', .inl (fun _ => 0)))) = (List.range N').map (fun i => (r i, (.inl (G.2.1, K', .inl (fun _ => 0)) : va_E))) := by
      rw [← vr_rows (L := []) (fun _ _ h => by cases h)]
      simp [va_pl]
    have e3 : ∀ (a b c : va_W), (a ++ b) ++ c = a ++ (b ++ c) := fun a b c => List.append_assoc a b c
    rw [e2, e3] at hP1 hD1
    exact kk h r H1 locs ls hP1 hD1 hS1 hl
theorem U_iast (C : OKU X G A own cc nL rm) (p : Nat) {a m : Nat} {f : Nat → Int32} {i x : Int32} {ws' : va_W} {z : Nat} (hz : i.toNatClampNeg = z) (he : ws[p]? = some (a, .inl (G.2.1, m, .inl f))) (hw : ws.set p (a, .inl (G.2.1, m, .inl (upd f z x))) = ws') (hi : vp_in i m) (d : decode cc pc = .ok (.iastore, 1)) (e : pc + 1 = q) (kk : U X G nL Q A k n ws' q L st) : U X G nL Q A k n ws pc L (.int x :: .int i :: .ref a :: st) := by
  subst e
  subst hw
  subst hz
  intro H locs ls hP hD hS hl
  exact va_iast C.1 C.2.1 C.K hP hD hS p 0 he rfl hi d (fun H1 locs1 hP1 hD1 hS1 => kk H1 locs1 ls hP1 hD1 hS1 hl)
/-- a constructor's call -/
theorem U_ofRun {H : Heap} {locs : List Loc} {ls : Array Slot} {st0 : List Value} {a : Array Value} {h0 c2 s2 : Nat} {e0 : va_E} {Bp : Nat → Nat → Heap → Prop} (C : OKU X G A own cc nL rm) (hP : va_P G.1 clsA ws H) (hD : va_D A ws) (hS : va_S A (x_s X).heap H locs) (hl : lv_has ls nL L) (p0 : Nat) (hp : ws[p0]? = some (h0, e0))
    (hr : va_Run (x_p X) (x_l X) (x_e X) (x_R X) (x_s X) (x_m X) (x_a X) (x_b X) (x_h X) (x_c X) H locs k n c2 s2 (F0 (x_m X) pc ls st0) st ((fun _ st oc t => oc = .returned none ∧ Bp h0 H.size t.heap ∧ va_F (va_A [(h0, e0)] H.size) st t) a) (va_A [(h0, e0)] H.size))
    (kk : ∀ H H1 : Heap, va_P G.1 clsA ws H → va_D A ws → Bp h0 H.size H1 → (∀ q : Nat, q < H.size → ¬ va_A [(h0, e0)] H.size q → H1[q]? = H[q]?) → (∀ q, va_A [(h0, e0)] H.size q → A q) → ∃ ws', va_P G.1 clsA ws' H1 ∧ va_D A ws' ∧ U X G nL Q A (k + c2) (n + s2) ws' (pc + 3) L st) : Wx X H locs k n Q (F0 (x_m X) pc ls st0) := by
  intro T hT Xs
  obtain ⟨v', st₀, t, T', L', h0', X', hL, e1, e2, ⟨hv, hB, hF⟩, go⟩ := hr T hT Xs
  cases hv
  have hFA : ∀ q, va_A [(h0, e0)] H.size q → A q := by
    intro q hq
    rcases hq with ⟨i, e, hi⟩ | hq
    · match i, hi with
      | 0, hi =>
        cases hi
        exact hD.2 p0 _ hp
      | i + 1, hi => simp at hi
    · exact C.2.2.2.2.2.2.2.2.1 q (Nat.le_trans hS.1 hq)
  have hsz : H.size ≤ T'.heap.size := by rw [e1, ← h0']; exact hF.1
  obtain ⟨ws', hP', hD', hU⟩ := kk H T'.heap hP hD (by rw [e1]; exact hB) (fun q h1 h2 => by rw [e1, hF.2 q (by rw [h0']; exact h1) h2, h0']) hFA
  have hS' : va_S A (x_s X).heap T'.heap (locs ++ L') := by
    refine ⟨Nat.le_trans hS.1 hsz, fun q hq hn => ?_, fun z hz => ?_⟩
    · rw [e1, hF.2 q (by rw [h0']; exact Nat.lt_of_lt_of_le hq hS.1) (fun z => hn (hFA q z)), h0']
      exact hS.2.1 q hq hn
    · rcases List.mem_append.mp hz with h | h
      · exact hS.2.2 z h
      · exact hFA _ (hL z h)
  obtain ⟨t2, a1, b1⟩ := hU T'.heap (locs ++ L') ls hP' hD' hS' hl T' rfl X'
  exact ⟨t2, go t2 a1, b1⟩
theorem Bi_pre {h0 : Nat} {e0 : va_E} {H : Heap} {locs : List Loc} (C : OKU X G A own cc nL rm) (hP : va_P G.1 clsA ws H) (hD : va_D A ws) (hS : va_S A (x_s X).heap H locs) (p0 : Nat) (hp : ws[p0]? = some (h0, e0)) :
    PreS (x_s X) H (va_Pc [.ref h0] (Bi (x_l X) G e0 h0 H.size)) [.ref h0] := by
  refine ⟨fun a U g mk h => ?_, fun U hU hW => ⟨rfl, by rw [hU], ?_, ?_, aoa_vm hW.alike C.2.2.2.2.2.2.2.2.2⟩⟩
  · obtain ⟨h1, h2, h3, h4, h5⟩ := h
    exact ⟨h1, h2, h3, h4.same rfl rfl, h5⟩
  · rw [hU]
    intro i q hq
    match i, hq with
    | 0, hq =>
      cases hq
      exact hP p0 _ hp
    | i + 1, hq => simp at hq
  · refine C.2.2.2.2.2.1.warm hW (fun q hq => ?_) (fun a ha hn => by rw [hU]; exact hS.2.1 a ha hn)
    rcases hq with ⟨i, e, hi⟩ | hq
    · match i, hi with
      | 0, hi =>
        cases hi
        exact hD.2 p0 _ hp
      | i + 1, hi => simp at hi
    · exact C.2.2.2.2.2.2.2.2.1 q (Nat.le_trans hS.1 hq)
theorem U_callI {y : MethodName} {bytes : ByteArray} {maxL index c2 s2 h0 : Nat} {rm2 : Room} {e0 : va_E} {Bp : Nat → Nat → Heap → Prop} (C : OKU X G A own cc nL rm) (p0 : Nat) (hp : ws[p0]? = some (h0, e0)) (hM : ConI (x_l X) G y (Cond.code y bytes maxL none) rm2 c2 s2 e0 Bp) (hy : y.name = "<init>") (hcode : Cond.code y bytes maxL none ∈ lw_tbl) (hini : Cond.initialized y.cls ∈ lw_tbl) (hlk : Cond.methodLink own index y ∈ lw_tbl) (hin : Cond.instanceMethod y ∈ lw_tbl) (hN : NmOK y 0) (hR : RmOK rm rm2 c2 s2 maxL k n) (hcat : (st.map fun v => v.category).sum ≤ 8) (d : decode cc pc = .ok (.invokespecial index, 3)) (e : pc + 3 = q)
    (kk : ∀ H H1 : Heap, va_P G.1 clsA ws H → va_D A ws → Bp h0 H.size H1 → (∀ q : Nat, q < H.size → ¬ va_A [(h0, e0)] H.size q → H1[q]? = H[q]?) → (∀ q, va_A [(h0, e0)] H.size q → A q) → ∃ ws', va_P G.1 clsA ws' H1 ∧ va_D A ws' ∧ U X G nL Q A (k + c2) (n + s2) ws' q L st) : U X G nL Q A k n ws pc L (.ref h0 :: st) := by
  subst e
  intro H locs ls hP hD hS hl
  have hRR := C.2.2.2.2.2.2.2.1
  have hcb : CallB (x_R X) (x_s X) (x_a X) own index y bytes maxL none (Cond.code y bytes maxL none :: ALLG) rm2 c2 s2 0 := by
    rw [hRR]
    exact callB_of 0 C.2.2.2.2.1 (ALLG_good (ALLG_in hcode rfl)) rfl hR.1 hR.2.1 (C.word hini rfl) (C.word hlk rfl) hN ⟨hR.2.2.1, hR.2.2.2.1⟩
  exact U_ofRun (a := ([Value.ref h0] : List Value).toArray) C hP hD hS hl p0 hp (va_runI (b := h0) (As := []) (rest := st) ⟨C.1, C.2.1, C.2.2.1, C.2.2.2.1, C.2.2.2.2.1⟩ (hM h0 H.size) ⟨hcb, hy, C.word hin rfl⟩ (Bi_pre C hP hD hS p0 hp) rfl rfl hl.1 rfl (lv_room hcat) d (by rw [hRR]; exact ⟨hR.2.2.2.2.1, hR.2.2.2.2.2⟩)) kk
theorem U_callIN {y : MethodName} {host : String} {bytes : ByteArray} {maxL index c2 s2 h0 : Nat} {rm2 : Room} {e0 : va_E} {Bp : Nat → Nat → Heap → Prop} (C : OKU X G A own cc nL rm) (p0 : Nat) (hp : ws[p0]? = some (h0, e0)) (hM : ConI (x_l X) G y (Cond.code y bytes maxL none) rm2 c2 s2 e0 Bp) (hy : y.name = "<init>") (hcode : Cond.code y bytes maxL none ∈ lw_tbl) (hini : Cond.initialized y.cls ∈ lw_tbl) (hlk : Cond.methodLinkNest own index y host ∈ lw_tbl) (hin : Cond.instanceMethod y ∈ lw_tbl) (hN : NmOK y 0) (hR : RmOK rm rm2 c2 s2 maxL k n) (hcat : (st.map fun v => v.category).sum ≤ 8) (d : decode cc pc = .ok (.invokespecial index, 3)) (e : pc + 3 = q)
    (kk : ∀ H H1 : Heap, va_P G.1 clsA ws H → va_D A ws → Bp h0 H.size H1 → (∀ q : Nat, q < H.size → ¬ va_A [(h0, e0)] H.size q → H1[q]? = H[q]?) → (∀ q, va_A [(h0, e0)] H.size q → A q) → ∃ ws', va_P G.1 clsA ws' H1 ∧ va_D A ws' ∧ U X G nL Q A (k + c2) (n + s2) ws' q L st) : U X G nL Q A k n ws pc L (.ref h0 :: st) := by
  subst e
  intro H locs ls hP hD hS hl
  have hRR := C.2.2.2.2.2.2.2.1
  have hcb : va_CN (x_R X) (x_s X) (x_a X) own index y host bytes maxL none (Cond.code y bytes maxL none :: ALLG) rm2 c2 s2 0 := by
    rw [hRR]
    exact va_cnB 0 C.2.2.2.2.1 (ALLG_good (ALLG_in hcode rfl)) rfl hR.1 hR.2.1 (C.nest hlk rfl) (C.word hini rfl) hN ⟨hR.2.2.1, hR.2.2.2.1⟩
  exact U_ofRun (a := ([Value.ref h0] : List Value).toArray) C hP hD hS hl p0 hp (va_runIN (b := h0) (As := []) (rest := st) (host := host) ⟨C.1, C.2.1, C.2.2.1, C.2.2.2.1, C.2.2.2.2.1⟩ (hM h0 H.size) ⟨hcb, hy, C.word hin rfl⟩ (Bi_pre C hP hD hS p0 hp) rfl rfl hl.1 rfl (lv_room hcat) d (by rw [hRR]; exact ⟨hR.2.2.2.2.1, hR.2.2.2.2.2⟩)) kk
theorem U_vret {h0 : Nat} {e0 : va_E} {Bp : Nat → Nat → Heap → Prop} (C : OKU X G A own cc nL rm) (hA1 : ∀ q, A q → va_A [(h0, e0)] (x_s X).heap.size q)
    (F : (x_h X).sig.returnType = none ∧ ∀ t, MQ (x_b X) (fun _ st oc t => oc = .returned none ∧ Bp h0 (x_s X).heap.size t.heap ∧ va_F (va_A [(h0, e0)] (x_s X).heap.size) st t) (x_a X) (x_s X) mc ms (va_A [(h0, e0)] (x_s X).heap.size) t → Q t)
    (hk : k ≤ mc) (hn : n ≤ ms) (hB : ∀ H, va_P G.1 clsA ws H → va_D A ws → Bp h0 (x_s X).heap.size H) (d : decode cc pc = .ok (.return_, 1)) : U X G nL Q A k n ws pc L [] := by
  intro H locs ls hP hD hS hl
  have hS2 : va_S (va_A [(h0, e0)] (x_s X).heap.size) (x_s X).heap H locs := ⟨hS.1, fun q hq hn => hS.2.1 q hq (fun z => hn (hA1 q z)), fun z hz => hA1 _ (hS.2.2 z hz)⟩
  refine W.widen hk hn (W_to (W.vret (free := va_A [(h0, e0)] (x_s X).heap.size) (Qc := fun _ st oc t => oc = .returned none ∧ Bp h0 (x_s X).heap.size t.heap ∧ va_F (va_A [(h0, e0)] (x_s X).heap.size) st t) C.1 C.2.1 F.1 (fun t ht hW => ⟨rfl, by rw [ht]; exact hB H hP hD, hS2.F ht⟩) hS2.2.2 d (hlocks := C.2.2.2.2.2.2.1)) F.2)
end UR
