/-! THE CLAIM OUT OF ONE WALK OF THE LAW'S BODY. Your part is whole_start (and what it stands on); all else here is the same for every law, but numbers. -/
def R_law : String := "SpectrumReallocatorLaw"
def lw_P (b : Addr) (xs : List Int32) (args : Array Value) (s : State) : Prop := args = #[.ref b] ∧ s.IntsAt b xs ∧ xs.length ≤ 2048 ∧ (Jvm.Cond.and given_1 narrow_1).before args s = true
/-- what a walk over the start with the record d0 says of its end, said of the start itself -/
theorem lw_closed {s t : State} {o : Outcome} {d0 : Drawn} {L : List Loc} {k n : Nat} (hd0 : s.drawn.sameBut d0 lw_cs) (hv : ∃ v, o = .returned v) (hW : (s.setDrawn d0).WarmedH t.vm) (hs : (s.setDrawn d0).sameButNew ({ t with vm := s.vm } : State) L k n) : State.butDraws s t lw_cs (fun t1 => Framed s o t1 L k n) := by
  have h2 : t.drawn = d0 := congrArg State.drawn hs.1
  refine ⟨⟨hv, hW, State.sameButNew.setDrawn hs s.drawn⟩, ?_, by decide⟩
  rw [h2]
  exact hd0
def lw_Q (_ : Array Value) (s : State) (o : Outcome) (t : State) : Prop := o = .returned (some (.int 1)) ∧ State.butDraws s t lw_cs (fun t1 => Framed s o t1 [] 603072 7149674)
def lw_Z (below : List Frame) (a : Array Value) (s : State) : State → Prop := fun t => ∃ o, t.status = .running ∧ Ended t below o ∧ lw_Q a s o t
/-- the law's own end, with 1 on the stack, nothing written that was there before, its room as the claim has it; d0: the record of draws at this point (at the entry s.drawn: begin with 'refine W.base ?_' and 'have hd0 := Drawn.sameBut.refl s.drawn lw_cs') -/
theorem lw_ret {p : Program} {l : Launch} {e : Env} {s : State} {m : MethodId} {below : List Frame} {meth : Method} {c : Code} {b : Nat} {d0 : Drawn} (hd0 : s.drawn.sameBut d0 lw_cs) (hx : p.tables.exec = Jvm.exec) (hb : c.code = code) (hr : meth.sig.returnType = ret) (hlocks : meth.locks = false) {pc : Nat} {H : Heap} {ls : Array Slot} (hdg : decode code pc = .ok (.ireturn, 1)) : W p l e room_1 (s.setDrawn d0) m #[Value.ref b] below meth c H [] 603072 7149674 (lw_Z below #[Value.ref b] s) (F0 m pc ls [.int 1]) := by
  intro T hT X
  obtain ⟨fs, hret, hrun, hended, hW, hframe⟩ := X.leave (v := some (.int 1)) (hlocks := hlocks) (fun h => by rw [hr] at h; cases h)
  have hmeth' : T.vm.method? m = some meth := X.method'
  refine ⟨T.setFrames fs, ?_, .returned (some (.int 1)), hrun, hended, rfl, lw_closed hd0 ⟨_, rfl⟩ hW hframe⟩
  jvm_step X.here [X.here.top, hx, hb, hdg, hmeth', hr, ret, narrow_b1]
  (try refine ⟨rfl, ?_⟩); (try refine ⟨rfl, ?_⟩)
  first | (intro acts; rw [hret _ acts rfl rfl rfl]) | rw [hret _ _ rfl rfl rfl]
  exact Steps.refl _
/-- what holds at the law's entry: the machine, the code, the tables' words (any of lw_tbl by 'hts w (by decide +kernel)'), the script of L ints xs at the cell b, what the Statement gives of the start (any of its parts by flat_of_before) -/
def lw_At (p : Program) (s : State) (m : MethodId) (meth : Method) (c : Code) (b L : Nat) (xs : Nat → Int32) : Prop :=
  p.tables.exec = Jvm.exec ∧ c.code = code ∧ meth.sig.returnType = ret ∧ c.maxLocals = 8 ∧ s.vm.findClass R_law = some m.cls ∧ (∀ w ∈ lw_tbl, w.before #[Value.ref b] s = true) ∧ va_X b L xs s s.heap ∧ b < s.heap.size ∧ meth.locks = false ∧ (Jvm.Cond.and given_1 narrow_1).before #[Value.ref b] s = true
theorem rc_of {args : Array Value} {s : State} {t : FieldType} (h : (Cond.arrayClass t).before args s = true) (ho : ∀ C, t ≠ .object C) : ∃ c : ClassId, ArrOfT s c t ∧ va_RA s c t := by
  obtain ⟨c, k, comp, h1, h2, h3⟩ := Cond.arrayClass_spec h
  refine ⟨c, fun N z => ⟨(fun q hq => by cases hq), k, h2, comp, h3⟩, ?_⟩
  cases t <;> first | exact h1 | exact absurd rfl (ho _)
theorem nc_all {args : Array Value} {s : State} (h : (Jvm.Cond.and given_1 narrow_1).before args s = true) : ∀ a ∈ excL, ∀ b ∈ excL, a ≠ b → va_Nc a b s := by
  have hs := flat_of_before _ h
  intro a ha b hb hab
  simp only [excL, List.mem_cons, List.not_mem_nil, or_false] at ha hb
  rcases ha with rfl | rfl | rfl | rfl | rfl | rfl <;> rcases hb with rfl | rfl | rfl | rfl | rfl | rfl <;> first | exact absurd rfl hab | exact va_Nc.of (hs _ (by decide +kernel))
theorem str_all {args : Array Value} {s : State} {cc : ClassId} (hc : s.vm.findClass RX6 = some cc) (hts : ∀ w ∈ lw_tbl, w.before args s = true) : ∀ q ∈ strsX, ∃ a, vk_R RX6 q.1 q.2 a s := by
  have key : ∀ (k : Nat) (tx : String), Cond.stringRef RX6 k tx ∈ lw_tbl → ∃ a, vk_R RX6 k tx a s := fun k tx hq => by
    obtain ⟨_, _, _, a, _, _, _, _, _, hev⟩ := Cond.stringRef_spec hc (hts _ hq)
    exact ⟨a, vk_R.of (hts _ hq) hev⟩
  intro q hq
  simp only [strsX, List.mem_cons, List.not_mem_nil, or_false] at hq
  rcases hq with rfl | rfl | rfl | rfl | rfl | rfl | rfl | rfl | rfl | rfl | rfl | rfl | rfl | rfl | rfl | rfl | rfl | rfl | rfl | rfl | rfl | rfl | rfl | rfl | rfl | rfl | rfl | rfl | rfl | rfl
  · exact key 365 "a bit is set for no channel" q_469
  · exact key 367 "value out of range" q_500
  · exact key 85 "weight out of range" q_501
  · exact key 375 "an auction is known" q_515
  · exact key 98 "too many stations" q_531
  · exact key 108 "no station" q_553
  · exact key 358 "no such station" q_606
  · exact key 129 "character not allowed" q_634
  · exact key 134 "buffer too long" q_635
  · exact key 144 "error in the text" q_679
  · exact key 153 "no such kind" q_691
  · exact key 166 "no such index" q_712
  · exact key 186 "no such property" q_731
  · exact key 196 "base price out of range" q_759
  · exact key 363 "a bit is set for no station" q_777
  · exact key 371 "the set is not feasible" q_849
  · exact key 239 "the station can be added" q_911
  · exact key 369 "decrement out of range" q_985
  · exact key 378 "no auction is known" q_990
  · exact key 268 "the auction is over" q_995
  · exact key 276 "no such round" q_1015
  · exact key 380 "no auction is known or it is not over" q_1031
  · exact key 294 "the station does not take part" q_1053
  · exact key 302 "no set froze the station" q_1061
  · exact key 304 "no such number" q_1069
  · exact key 316 "no such event" q_1080
  · exact key 324 "no such rank" q_1088
  · exact key 334 "no station is frozen" q_1147
  · exact key 348 "no such count" q_1166
  · exact key 356 "nothing was saved" q_1174
theorem amb_start {args : Array Value} {s : State} (l : Launch) (hflags : l.flags = flags0) (hts : ∀ w ∈ lw_tbl, w.before args s = true) (hgv : (Jvm.Cond.and given_1 narrow_1).before args s = true) : ∃ G : Gx, AMB l G (fun q => s.heap.size ≤ q) s ∧ va_AOA .int s := by
  have hs := flat_of_before _ hgv
  obtain ⟨c0, i0, hK0⟩ := u_known (C := RX0) (T := TX0) (N := 10) (n := 10) hts inX0 (hts _ q_305)
  obtain ⟨c1, i1, hK1⟩ := u_known (C := RX1) (T := TX1) (N := 4) (n := 4) hts inX1 (hts _ q_142)
  obtain ⟨c2, i2, hK2⟩ := u_known (C := RX2) (T := TX2) (N := 7) (n := 7) hts inX2 (hts _ q_257)
  obtain ⟨c3, i3, hK3⟩ := u_known (C := RX3) (T := TX3) (N := 9) (n := 9) hts inX3 (hts _ q_154)
  obtain ⟨c4, i4, hK4⟩ := u_known (C := RX4) (T := TX4) (N := 9) (n := 9) hts inX4 (hts _ q_148)
  obtain ⟨c5, i5, hK5⟩ := u_known (C := RX5) (T := TX5) (N := 2) (n := 2) hts inX5 (hts _ q_263)
  obtain ⟨c6, i6, hK6⟩ := u_known (C := RX6) (T := TX6) (N := 12) (n := 12) hts inX6 (hts _ q_134)
  obtain ⟨c7, i7, hK7⟩ := u_known (C := RX7) (T := TX7) (N := 17) (n := 17) hts inX7 (hts _ q_1176)
  obtain ⟨aI, hI⟩ := rc_of (t := .int) (hts _ q_209) (fun _ h => by cases h)
  obtain ⟨aC, hC⟩ := rc_of (t := .char) (hts _ q_277) (fun _ h => by cases h)
  obtain ⟨aJ, hJ⟩ := rc_of (t := .long) (hts _ q_1597) (fun _ h => by cases h)
  obtain ⟨comp, aG, kG, g1, g2, g3, g4, g5⟩ := arrayOverA_spec (hts _ q_211)
  refine ⟨((fun k => match k with | 0 => c0 | 1 => c1 | 2 => c2 | 3 => c3 | 4 => c4 | 5 => c5 | 6 => c6 | _ => c7, fun k => match k with | 0 => i0 | 1 => i1 | 2 => i2 | 3 => i3 | 4 => i4 | 5 => i5 | 6 => i6 | _ => i7), aI, aG, aC, aJ), ⟨⟨?_, ?_⟩, ?_, ?_, ?_, ?_, nc_all hgv, ?_⟩, va_AOA.of (hts _ q_211)⟩
  · intro k q hq
    match k, hq with
    | 0, hq => cases hq; exact hK0
    | 1, hq => cases hq; exact hK1
    | 2, hq => cases hq; exact hK2
    | 3, hq => cases hq; exact hK3
    | 4, hq => cases hq; exact hK4
    | 5, hq => cases hq; exact hK5
    | 6, hq => cases hq; exact hK6
    | 7, hq => cases hq; exact hK7
    | k + 8, hq => simp at hq
  · intro k q hq
    match k, hq with
    | 0, hq => cases hq; exact hI
    | 1, hq => cases hq; exact ⟨fun N z => ⟨(fun q hq => by cases hq), kG, g3, comp, g4⟩, g5⟩
    | 2, hq => cases hq; exact hC
    | 3, hq => cases hq; exact hJ
    | k + 4, hq => simp [tysG] at hq
  · intro w hw g
    exact va_Nw.of (by cases w <;> first | rfl | exact absurd g (by simp [warmW])) (hts w hw)
  · exact str_all hK6.2.1 hts
  · exact vx_Zqof (hts _ q_451) (hts _ q_115) (hs _ (by decide +kernel)) (fun a ha h => absurd ha (Nat.not_lt.mpr h))
  · exact vx_Zqof (hts _ q_453) (hts _ q_115) (hs _ (by decide +kernel)) (fun a ha h => absurd ha (Nat.not_lt.mpr h))
  · unfold Launch.stackTraces
    rw [hflags]
    decide
theorem nmX6_init : NmOK yX6_init 0 := by decide +kernel
theorem nmX7_init : NmOK yX7_init 0 := by decide +kernel
theorem grid_eq {c : ClassId} {N : Nat} {f g : Nat → Nat} (h : ∀ i, i < N → f i = g i) : ((.inl (c, N, .inr (.inr (.inr (.inr (fun i => if i < N then some (f i) else none)))))) : va_E) = .inl (c, N, .inr (.inr (.inr (.inr (fun i => if i < N then some (g i) else none))))) := by
  have e : (fun i => if i < N then some (f i) else none) = (fun i => if i < N then some (g i) else none) := funext fun i => by
    by_cases hi : i < N
    · rw [if_pos hi, if_pos hi, h i hi]
    · rw [if_neg hi, if_neg hi]
  rw [e]
def lw_pos (j : Nat) : Nat := ([0, 1, 2, 3, 52, 53, 57, 59, 64, 71, 76, 4, 5, 6, 7, 8, 9, 65, 66, 67, 68, 69, 70, 55, 56, 54, 58, 60, 61, 62, 63, 72, 73, 74, 75, 10, 11, 24, 37, 50, 51, 12, 13, 14, 15, 16, 17, 18, 19, 20, 21, 22, 23, 25, 26, 27, 28, 29, 30, 31, 32, 33, 34, 35, 36, 38, 39, 40, 41, 42, 43, 44, 45, 46, 47, 48, 49, 77, 78, 79, 80, 81, 82, 83, 84, 98, 99, 85, 86, 87, 88, 89, 90, 91, 92, 93, 94, 95, 96, 97, 100] : List Nat).getD j 0
theorem lw_pos_inj : ∀ j, j < 101 → ∀ i, i < 101 → lw_pos j = lw_pos i → j = i := by decide +kernel
set_option maxHeartbeats 8000000 in
set_option maxRecDepth 20000 in
theorem whole_start {p : Program} {e : Env} {s : State} {m : MethodId} {below : List Frame} {meth : Method} {c : Code} (l : Launch) (hflags : l.flags = flags0) {b L : Nat} {xs : Nat → Int32} (hL : L ≤ 2048) (C0 : lw_At p s m meth c b L xs) : W p l e room_1 s m #[Value.ref b] below meth c s.heap [] 0 0 (lw_Z below #[Value.ref b] s) (entryFrame m ([Value.ref b] : List Value).toArray 8) := by
  obtain ⟨hx, hb, hr, hml, hown, hts, hX, hbl, hlocks, hgv⟩ := id C0
  obtain ⟨G, hAMB, hAOA⟩ := amb_start l hflags hts hgv
  rw [lg_entry_eq]
  have hCw : ∀ w ∈ ALLG, w.before #[Value.ref b] s = true := fun w h => hts w (List.mem_filter.mp h).1
  suffices K : U (p, l, e, room_1, s, m, #[Value.ref b], below, meth, c) G 8 (lw_Z below #[Value.ref b] s) (fun q => s.heap.size ≤ q) 0 0 [] 0 [(0, .ref b)] [] from
    K s.heap [] _ (fun k q h => by simp at h) ⟨fun i j p q h => by simp at h, fun k q h => by simp at h⟩ va_S.rf (lv_entry [.ref b] (Nat.le_of_ble_eq_true rfl))
  have C : OKU (p, l, e, room_1, s, m, #[Value.ref b], below, meth, c) G (fun q => s.heap.size ≤ q) RL cL_law 8 room_1 := ⟨hx, hb, hml, hown, hCw, hAMB, hlocks, rfl, fun q h => h, hAOA⟩
  refine U_new (ci := 6) (q := 3) C tyX6 [.null, .null, .null, .null, .null, .null, .null, .null, .null, .null, .int 0, .int 0] tyX6_ok rfl inX6 goX6 q_133 q_134 q_107 (fun j hj => ?_) (by decide) (by decide) dL_law_0 rfl (fun q1 => ?_)
  · match j, hj with
    | 0, _ => rfl
    | 1, _ => rfl
    | 2, _ => rfl
    | 3, _ => rfl
    | 4, _ => rfl
    | 5, _ => rfl
    | 6, _ => rfl
    | 7, _ => rfl
    | 8, _ => rfl
    | 9, _ => rfl
    | 10, _ => rfl
    | 11, _ => rfl
    | j + 12, h => exact absurd h (by omega)
  refine U_dup (q := 4) C dL_law_3 rfl rfl ?_
  refine U_callI (q := 7) C 0 rfl (conI_X6 _ _) rfl q_137 q_107 q_135 q_136 nmX6_init (by decide) (Nat.le_of_ble_eq_true rfl) dL_law_4 rfl (fun H H1 hP hD hB hk hF => ?_)
  obtain ⟨q2, q3, q4, q5, q6, q7, q8, q9, q10, q11, q12, r13, q14, r15, q16, r17, q18, q19, q20, q21, q22, q23, q24, q25, q26, q27, q28, q29, q30, q31, q32, q33, q34, q35, q36, q37, q38, q39, q40, q41, q42, q43, q44, hP1, hD1⟩ := hB
  obtain ⟨hP, hD⟩ := va_join (wr := (([] : va_W))) (w1 := ((q1, .inr (6, [.ref q2, .ref q3, .ref q4, .ref q20, .ref q21, .ref q25, .ref q27, .ref q32, .ref q39, .ref q44, .int 0, .int (-1)])) :: (q2, .inr (1, [.ref q3, .ref q4, .int 0, .int 0])) :: (q3, .inr (4, [.ref q4, .ref q11, .ref q12, .ref q14, .ref q16, .ref q18, .int 0, .ref q19, .int 1])) :: (q4, .inr (3, [.ref q5, .ref q6, .ref q7, .ref q8, .ref q9, .ref q10, .int 0, .int 0, .int 255])) :: (q5, .inl (G.2.1, 12, .inl (fun _ => 0))) :: (q6, .inl (G.2.1, 12, .inl (fun _ => 0))) :: (q7, .inl (G.2.1, 12, .inl (fun _ => 0))) :: (q8, .inl (G.2.1, 12, .inl (fun _ => 0))) :: (q9, .inl (G.2.1, 12, .inl (fun _ => 0))) :: (q10, .inl (G.2.1, 12, .inl (fun _ => 0))) :: (q11, .inl (G.2.1, 12, .inl (fun _ => 0))) :: (q12, .inl (G.2.2.1, 12, .inr (.inr (.inr (.inr (fun i => if i < 12 then some (r13 i) else none)))))) :: ((r13 0), .inl (G.2.1, 12, .inl (fun _ => 0))) :: ((r13 1), .inl (G.2.1, 12, .inl (fun _ => 0))) :: ((r13 2), .inl (G.2.1, 12, .inl (fun _ => 0))) :: ((r13 3), .inl (G.2.1, 12, .inl (fun _ => 0))) :: ((r13 4), .inl (G.2.1, 12, .inl (fun _ => 0))) :: ((r13 5), .inl (G.2.1, 12, .inl (fun _ => 0))) :: ((r13 6), .inl (G.2.1, 12, .inl (fun _ => 0))) :: ((r13 7), .inl (G.2.1, 12, .inl (fun _ => 0))) :: ((r13 8), .inl (G.2.1, 12, .inl (fun _ => 0))) :: ((r13 9), .inl (G.2.1, 12, .inl (fun _ => 0))) :: ((r13 10), .inl (G.2.1, 12, .inl (fun _ => 0))) :: ((r13 11), .inl (G.2.1, 12, .inl (fun _ => 0))) :: (q14, .inl (G.2.2.1, 12, .inr (.inr (.inr (.inr (fun i => if i < 12 then some (r15 i) else none)))))) :: ((r15 0), .inl (G.2.1, 8, .inl (fun _ => 0))) :: ((r15 1), .inl (G.2.1, 8, .inl (fun _ => 0))) :: ((r15 2), .inl (G.2.1, 8, .inl (fun _ => 0))) :: ((r15 3), .inl (G.2.1, 8, .inl (fun _ => 0))) :: ((r15 4), .inl (G.2.1, 8, .inl (fun _ => 0))) :: ((r15 5), .inl (G.2.1, 8, .inl (fun _ => 0))) :: ((r15 6), .inl (G.2.1, 8, .inl (fun _ => 0))) :: ((r15 7), .inl (G.2.1, 8, .inl (fun _ => 0))) :: ((r15 8), .inl (G.2.1, 8, .inl (fun _ => 0))) :: ((r15 9), .inl (G.2.1, 8, .inl (fun _ => 0))) :: ((r15 10), .inl (G.2.1, 8, .inl (fun _ => 0))) :: ((r15 11), .inl (G.2.1, 8, .inl (fun _ => 0))) :: (q16, .inl (G.2.2.1, 12, .inr (.inr (.inr (.inr (fun i => if i < 12 then some (r17 i) else none)))))) :: ((r17 0), .inl (G.2.1, 8, .inl (fun _ => 0))) :: ((r17 1), .inl (G.2.1, 8, .inl (fun _ => 0))) :: ((r17 2), .inl (G.2.1, 8, .inl (fun _ => 0))) :: ((r17 3), .inl (G.2.1, 8, .inl (fun _ => 0))) :: ((r17 4), .inl (G.2.1, 8, .inl (fun _ => 0))) :: ((r17 5), .inl (G.2.1, 8, .inl (fun _ => 0))) :: ((r17 6), .inl (G.2.1, 8, .inl (fun _ => 0))) :: ((r17 7), .inl (G.2.1, 8, .inl (fun _ => 0))) :: ((r17 8), .inl (G.2.1, 8, .inl (fun _ => 0))) :: ((r17 9), .inl (G.2.1, 8, .inl (fun _ => 0))) :: ((r17 10), .inl (G.2.1, 8, .inl (fun _ => 0))) :: ((r17 11), .inl (G.2.1, 8, .inl (fun _ => 0))) :: (q18, .inl (G.2.1, 4096, .inl (fun _ => 0))) :: (q19, .inl (G.2.1, 4096, .inl (fun _ => 0))) :: (q20, .inr (2, [.ref q21, .ref q23, .ref q24, .int 0, .int 0, .int 0, .int (-1)])) :: (q21, .inr (5, [.ref q22, .int 0])) :: (q22, .inl (G.2.2.2.1, 420, .inl (fun _ => 0))) :: (q23, .inl (G.2.1, 12, .inl (fun _ => 0))) :: (q24, .inl (G.2.1, 12, .inl (fun _ => 0))) :: (q25, .inr (5, [.ref q26, .int 0])) :: (q26, .inl (G.2.2.2.1, 420, .inl (fun _ => 0))) :: (q27, .inr (0, [.ref q28, .ref q29, .ref q30, .ref q31, .int 0, .int 0, .int 0, .int 0, .int 0, .int 0])) :: (q28, .inl (G.2.1, 101, .inl (fun _ => 0))) :: (q29, .inl (G.2.1, 12, .inl (fun _ => 0))) :: (q30, .inl (G.2.1, 12, .inl (fun _ => 0))) :: (q31, .inl (G.2.1, 12, .inl (fun _ => 0))) :: (q32, .inr (3, [.ref q33, .ref q34, .ref q35, .ref q36, .ref q37, .ref q38, .int 0, .int 0, .int 255])) :: (q33, .inl (G.2.1, 12, .inl (fun _ => 0))) :: (q34, .inl (G.2.1, 12, .inl (fun _ => 0))) :: (q35, .inl (G.2.1, 12, .inl (fun _ => 0))) :: (q36, .inl (G.2.1, 12, .inl (fun _ => 0))) :: (q37, .inl (G.2.1, 12, .inl (fun _ => 0))) :: (q38, .inl (G.2.1, 12, .inl (fun _ => 0))) :: (q39, .inr (0, [.ref q40, .ref q41, .ref q42, .ref q43, .int 0, .int 0, .int 0, .int 0, .int 0, .int 0])) :: (q40, .inl (G.2.1, 101, .inl (fun _ => 0))) :: (q41, .inl (G.2.1, 12, .inl (fun _ => 0))) :: (q42, .inl (G.2.1, 12, .inl (fun _ => 0))) :: (q43, .inl (G.2.1, 12, .inl (fun _ => 0))) :: (q44, .inl (G.2.1, 12, .inl (fun _ => 0))) :: ([] : va_W))) hP hD [0] [] rfl rfl (by decide) (by decide) hk hF hP1 hD1
  refine ⟨((q1, .inr (6, [.ref q2, .ref q3, .ref q4, .ref q20, .ref q21, .ref q25, .ref q27, .ref q32, .ref q39, .ref q44, .int 0, .int (-1)])) :: (q2, .inr (1, [.ref q3, .ref q4, .int 0, .int 0])) :: (q3, .inr (4, [.ref q4, .ref q11, .ref q12, .ref q14, .ref q16, .ref q18, .int 0, .ref q19, .int 1])) :: (q4, .inr (3, [.ref q5, .ref q6, .ref q7, .ref q8, .ref q9, .ref q10, .int 0, .int 0, .int 255])) :: (q5, .inl (G.2.1, 12, .inl (fun _ => 0))) :: (q6, .inl (G.2.1, 12, .inl (fun _ => 0))) :: (q7, .inl (G.2.1, 12, .inl (fun _ => 0))) :: (q8, .inl (G.2.1, 12, .inl (fun _ => 0))) :: (q9, .inl (G.2.1, 12, .inl (fun _ => 0))) :: (q10, .inl (G.2.1, 12, .inl (fun _ => 0))) :: (q11, .inl (G.2.1, 12, .inl (fun _ => 0))) :: (q12, .inl (G.2.2.1, 12, .inr (.inr (.inr (.inr (fun i => if i < 12 then some (r13 i) else none)))))) :: ((r13 0), .inl (G.2.1, 12, .inl (fun _ => 0))) :: ((r13 1), .inl (G.2.1, 12, .inl (fun _ => 0))) :: ((r13 2), .inl (G.2.1, 12, .inl (fun _ => 0))) :: ((r13 3), .inl (G.2.1, 12, .inl (fun _ => 0))) :: ((r13 4), .inl (G.2.1, 12, .inl (fun _ => 0))) :: ((r13 5), .inl (G.2.1, 12, .inl (fun _ => 0))) :: ((r13 6), .inl (G.2.1, 12, .inl (fun _ => 0))) :: ((r13 7), .inl (G.2.1, 12, .inl (fun _ => 0))) :: ((r13 8), .inl (G.2.1, 12, .inl (fun _ => 0))) :: ((r13 9), .inl (G.2.1, 12, .inl (fun _ => 0))) :: ((r13 10), .inl (G.2.1, 12, .inl (fun _ => 0))) :: ((r13 11), .inl (G.2.1, 12, .inl (fun _ => 0))) :: (q14, .inl (G.2.2.1, 12, .inr (.inr (.inr (.inr (fun i => if i < 12 then some (r15 i) else none)))))) :: ((r15 0), .inl (G.2.1, 8, .inl (fun _ => 0))) :: ((r15 1), .inl (G.2.1, 8, .inl (fun _ => 0))) :: ((r15 2), .inl (G.2.1, 8, .inl (fun _ => 0))) :: ((r15 3), .inl (G.2.1, 8, .inl (fun _ => 0))) :: ((r15 4), .inl (G.2.1, 8, .inl (fun _ => 0))) :: ((r15 5), .inl (G.2.1, 8, .inl (fun _ => 0))) :: ((r15 6), .inl (G.2.1, 8, .inl (fun _ => 0))) :: ((r15 7), .inl (G.2.1, 8, .inl (fun _ => 0))) :: ((r15 8), .inl (G.2.1, 8, .inl (fun _ => 0))) :: ((r15 9), .inl (G.2.1, 8, .inl (fun _ => 0))) :: ((r15 10), .inl (G.2.1, 8, .inl (fun _ => 0))) :: ((r15 11), .inl (G.2.1, 8, .inl (fun _ => 0))) :: (q16, .inl (G.2.2.1, 12, .inr (.inr (.inr (.inr (fun i => if i < 12 then some (r17 i) else none)))))) :: ((r17 0), .inl (G.2.1, 8, .inl (fun _ => 0))) :: ((r17 1), .inl (G.2.1, 8, .inl (fun _ => 0))) :: ((r17 2), .inl (G.2.1, 8, .inl (fun _ => 0))) :: ((r17 3), .inl (G.2.1, 8, .inl (fun _ => 0))) :: ((r17 4), .inl (G.2.1, 8, .inl (fun _ => 0))) :: ((r17 5), .inl (G.2.1, 8, .inl (fun _ => 0))) :: ((r17 6), .inl (G.2.1, 8, .inl (fun _ => 0))) :: ((r17 7), .inl (G.2.1, 8, .inl (fun _ => 0))) :: ((r17 8), .inl (G.2.1, 8, .inl (fun _ => 0))) :: ((r17 9), .inl (G.2.1, 8, .inl (fun _ => 0))) :: ((r17 10), .inl (G.2.1, 8, .inl (fun _ => 0))) :: ((r17 11), .inl (G.2.1, 8, .inl (fun _ => 0))) :: (q18, .inl (G.2.1, 4096, .inl (fun _ => 0))) :: (q19, .inl (G.2.1, 4096, .inl (fun _ => 0))) :: (q20, .inr (2, [.ref q21, .ref q23, .ref q24, .int 0, .int 0, .int 0, .int (-1)])) :: (q21, .inr (5, [.ref q22, .int 0])) :: (q22, .inl (G.2.2.2.1, 420, .inl (fun _ => 0))) :: (q23, .inl (G.2.1, 12, .inl (fun _ => 0))) :: (q24, .inl (G.2.1, 12, .inl (fun _ => 0))) :: (q25, .inr (5, [.ref q26, .int 0])) :: (q26, .inl (G.2.2.2.1, 420, .inl (fun _ => 0))) :: (q27, .inr (0, [.ref q28, .ref q29, .ref q30, .ref q31, .int 0, .int 0, .int 0, .int 0, .int 0, .int 0])) :: (q28, .inl (G.2.1, 101, .inl (fun _ => 0))) :: (q29, .inl (G.2.1, 12, .inl (fun _ => 0))) :: (q30, .inl (G.2.1, 12, .inl (fun _ => 0))) :: (q31, .inl (G.2.1, 12, .inl (fun _ => 0))) :: (q32, .inr (3, [.ref q33, .ref q34, .ref q35, .ref q36, .ref q37, .ref q38, .int 0, .int 0, .int 255])) :: (q33, .inl (G.2.1, 12, .inl (fun _ => 0))) :: (q34, .inl (G.2.1, 12, .inl (fun _ => 0))) :: (q35, .inl (G.2.1, 12, .inl (fun _ => 0))) :: (q36, .inl (G.2.1, 12, .inl (fun _ => 0))) :: (q37, .inl (G.2.1, 12, .inl (fun _ => 0))) :: (q38, .inl (G.2.1, 12, .inl (fun _ => 0))) :: (q39, .inr (0, [.ref q40, .ref q41, .ref q42, .ref q43, .int 0, .int 0, .int 0, .int 0, .int 0, .int 0])) :: (q40, .inl (G.2.1, 101, .inl (fun _ => 0))) :: (q41, .inl (G.2.1, 12, .inl (fun _ => 0))) :: (q42, .inl (G.2.1, 12, .inl (fun _ => 0))) :: (q43, .inl (G.2.1, 12, .inl (fun _ => 0))) :: (q44, .inl (G.2.1, 12, .inl (fun _ => 0))) :: ([] : va_W)), hP, hD, ?_⟩
  refine U_astore_n (L' := [(1, .ref q1), (0, .ref b)]) (q := 8) C dL_law_7 rfl rfl (by decide) rfl ?_
  refine U_new (ci := 7) (q := 11) C tyX7 [.int 0, .null, .null, .int 0, .null, .null, .null, .int 0, .int 0, .int 0, .int 0, .null, .int 0, .null, .int 0, .null, .null] tyX7_ok rfl inX7 goX7 q_1175 q_1176 q_114 (fun j hj => ?_) (by decide) (by decide) dL_law_8 rfl (fun q45 => ?_)
  · match j, hj with
    | 0, _ => rfl
    | 1, _ => rfl
    | 2, _ => rfl
    | 3, _ => rfl
    | 4, _ => rfl
    | 5, _ => rfl
    | 6, _ => rfl
    | 7, _ => rfl
    | 8, _ => rfl
    | 9, _ => rfl
    | 10, _ => rfl
    | 11, _ => rfl
    | 12, _ => rfl
    | 13, _ => rfl
    | 14, _ => rfl
    | 15, _ => rfl
    | 16, _ => rfl
    | j + 17, h => exact absurd h (by omega)
  refine U_dup (q := 12) C dL_law_11 rfl rfl ?_
  refine U_callI (q := 15) C 77 rfl (conI_X7 _ _) rfl q_1179 q_114 q_1177 q_1178 nmX7_init (by decide) (Nat.le_of_ble_eq_true rfl) dL_law_12 rfl (fun H H1 hP hD hB hk hF => ?_)
  obtain ⟨q46, q47, q48, q49, q50, q51, q52, r53, q54, q55, hP1, hD1⟩ := hB
  obtain ⟨hP, hD⟩ := va_join (wr := ((q1, .inr (6, [.ref q2, .ref q3, .ref q4, .ref q20, .ref q21, .ref q25, .ref q27, .ref q32, .ref q39, .ref q44, .int 0, .int (-1)])) :: (q2, .inr (1, [.ref q3, .ref q4, .int 0, .int 0])) :: (q3, .inr (4, [.ref q4, .ref q11, .ref q12, .ref q14, .ref q16, .ref q18, .int 0, .ref q19, .int 1])) :: (q4, .inr (3, [.ref q5, .ref q6, .ref q7, .ref q8, .ref q9, .ref q10, .int 0, .int 0, .int 255])) :: (q5, .inl (G.2.1, 12, .inl (fun _ => 0))) :: (q6, .inl (G.2.1, 12, .inl (fun _ => 0))) :: (q7, .inl (G.2.1, 12, .inl (fun _ => 0))) :: (q8, .inl (G.2.1, 12, .inl (fun _ => 0))) :: (q9, .inl (G.2.1, 12, .inl (fun _ => 0))) :: (q10, .inl (G.2.1, 12, .inl (fun _ => 0))) :: (q11, .inl (G.2.1, 12, .inl (fun _ => 0))) :: (q12, .inl (G.2.2.1, 12, .inr (.inr (.inr (.inr (fun i => if i < 12 then some (r13 i) else none)))))) :: ((r13 0), .inl (G.2.1, 12, .inl (fun _ => 0))) :: ((r13 1), .inl (G.2.1, 12, .inl (fun _ => 0))) :: ((r13 2), .inl (G.2.1, 12, .inl (fun _ => 0))) :: ((r13 3), .inl (G.2.1, 12, .inl (fun _ => 0))) :: ((r13 4), .inl (G.2.1, 12, .inl (fun _ => 0))) :: ((r13 5), .inl (G.2.1, 12, .inl (fun _ => 0))) :: ((r13 6), .inl (G.2.1, 12, .inl (fun _ => 0))) :: ((r13 7), .inl (G.2.1, 12, .inl (fun _ => 0))) :: ((r13 8), .inl (G.2.1, 12, .inl (fun _ => 0))) :: ((r13 9), .inl (G.2.1, 12, .inl (fun _ => 0))) :: ((r13 10), .inl (G.2.1, 12, .inl (fun _ => 0))) :: ((r13 11), .inl (G.2.1, 12, .inl (fun _ => 0))) :: (q14, .inl (G.2.2.1, 12, .inr (.inr (.inr (.inr (fun i => if i < 12 then some (r15 i) else none)))))) :: ((r15 0), .inl (G.2.1, 8, .inl (fun _ => 0))) :: ((r15 1), .inl (G.2.1, 8, .inl (fun _ => 0))) :: ((r15 2), .inl (G.2.1, 8, .inl (fun _ => 0))) :: ((r15 3), .inl (G.2.1, 8, .inl (fun _ => 0))) :: ((r15 4), .inl (G.2.1, 8, .inl (fun _ => 0))) :: ((r15 5), .inl (G.2.1, 8, .inl (fun _ => 0))) :: ((r15 6), .inl (G.2.1, 8, .inl (fun _ => 0))) :: ((r15 7), .inl (G.2.1, 8, .inl (fun _ => 0))) :: ((r15 8), .inl (G.2.1, 8, .inl (fun _ => 0))) :: ((r15 9), .inl (G.2.1, 8, .inl (fun _ => 0))) :: ((r15 10), .inl (G.2.1, 8, .inl (fun _ => 0))) :: ((r15 11), .inl (G.2.1, 8, .inl (fun _ => 0))) :: (q16, .inl (G.2.2.1, 12, .inr (.inr (.inr (.inr (fun i => if i < 12 then some (r17 i) else none)))))) :: ((r17 0), .inl (G.2.1, 8, .inl (fun _ => 0))) :: ((r17 1), .inl (G.2.1, 8, .inl (fun _ => 0))) :: ((r17 2), .inl (G.2.1, 8, .inl (fun _ => 0))) :: ((r17 3), .inl (G.2.1, 8, .inl (fun _ => 0))) :: ((r17 4), .inl (G.2.1, 8, .inl (fun _ => 0))) :: ((r17 5), .inl (G.2.1, 8, .inl (fun _ => 0))) :: ((r17 6), .inl (G.2.1, 8, .inl (fun _ => 0))) :: ((r17 7), .inl (G.2.1, 8, .inl (fun _ => 0))) :: ((r17 8), .inl (G.2.1, 8, .inl (fun _ => 0))) :: ((r17 9), .inl (G.2.1, 8, .inl (fun _ => 0))) :: ((r17 10), .inl (G.2.1, 8, .inl (fun _ => 0))) :: ((r17 11), .inl (G.2.1, 8, .inl (fun _ => 0))) :: (q18, .inl (G.2.1, 4096, .inl (fun _ => 0))) :: (q19, .inl (G.2.1, 4096, .inl (fun _ => 0))) :: (q20, .inr (2, [.ref q21, .ref q23, .ref q24, .int 0, .int 0, .int 0, .int (-1)])) :: (q21, .inr (5, [.ref q22, .int 0])) :: (q22, .inl (G.2.2.2.1, 420, .inl (fun _ => 0))) :: (q23, .inl (G.2.1, 12, .inl (fun _ => 0))) :: (q24, .inl (G.2.1, 12, .inl (fun _ => 0))) :: (q25, .inr (5, [.ref q26, .int 0])) :: (q26, .inl (G.2.2.2.1, 420, .inl (fun _ => 0))) :: (q27, .inr (0, [.ref q28, .ref q29, .ref q30, .ref q31, .int 0, .int 0, .int 0, .int 0, .int 0, .int 0])) :: (q28, .inl (G.2.1, 101, .inl (fun _ => 0))) :: (q29, .inl (G.2.1, 12, .inl (fun _ => 0))) :: (q30, .inl (G.2.1, 12, .inl (fun _ => 0))) :: (q31, .inl (G.2.1, 12, .inl (fun _ => 0))) :: (q32, .inr (3, [.ref q33, .ref q34, .ref q35, .ref q36, .ref q37, .ref q38, .int 0, .int 0, .int 255])) :: (q33, .inl (G.2.1, 12, .inl (fun _ => 0))) :: (q34, .inl (G.2.1, 12, .inl (fun _ => 0))) :: (q35, .inl (G.2.1, 12, .inl (fun _ => 0))) :: (q36, .inl (G.2.1, 12, .inl (fun _ => 0))) :: (q37, .inl (G.2.1, 12, .inl (fun _ => 0))) :: (q38, .inl (G.2.1, 12, .inl (fun _ => 0))) :: (q39, .inr (0, [.ref q40, .ref q41, .ref q42, .ref q43, .int 0, .int 0, .int 0, .int 0, .int 0, .int 0])) :: (q40, .inl (G.2.1, 101, .inl (fun _ => 0))) :: (q41, .inl (G.2.1, 12, .inl (fun _ => 0))) :: (q42, .inl (G.2.1, 12, .inl (fun _ => 0))) :: (q43, .inl (G.2.1, 12, .inl (fun _ => 0))) :: (q44, .inl (G.2.1, 12, .inl (fun _ => 0))) :: ([] : va_W))) (w1 := ((q45, .inr (7, [.int 0, .ref q46, .ref q47, .int 0, .ref q48, .ref q49, .ref q50, .int 0, .int 0, .int (-1), .int 0, .ref q51, .int 0, .ref q52, .int 0, .ref q54, .ref q55])) :: (q46, .inl (G.2.1, 2764, .inl (upd (fun _ => 0) 1 255))) :: (q47, .inl (G.2.1, 2764, .inl (fun _ => 0))) :: (q48, .inl (G.2.1, 40, .inl (fun _ => 0))) :: (q49, .inl (G.2.1, 12, .inl (fun _ => 0))) :: (q50, .inl (G.2.1, 12, .inl (fun _ => 0))) :: (q51, .inl (G.2.1, 700, .inl (fun _ => 0))) :: (q52, .inl (G.2.2.1, 13, .inr (.inr (.inr (.inr (fun i => if i < 13 then some (r53 i) else none)))))) :: ((r53 0), .inl (G.2.1, 12, .inl (fun _ => 0))) :: ((r53 1), .inl (G.2.1, 12, .inl (fun _ => 0))) :: ((r53 2), .inl (G.2.1, 12, .inl (fun _ => 0))) :: ((r53 3), .inl (G.2.1, 12, .inl (fun _ => 0))) :: ((r53 4), .inl (G.2.1, 12, .inl (fun _ => 0))) :: ((r53 5), .inl (G.2.1, 12, .inl (fun _ => 0))) :: ((r53 6), .inl (G.2.1, 12, .inl (fun _ => 0))) :: ((r53 7), .inl (G.2.1, 12, .inl (fun _ => 0))) :: ((r53 8), .inl (G.2.1, 12, .inl (fun _ => 0))) :: ((r53 9), .inl (G.2.1, 12, .inl (fun _ => 0))) :: ((r53 10), .inl (G.2.1, 12, .inl (fun _ => 0))) :: ((r53 11), .inl (G.2.1, 12, .inl (fun _ => 0))) :: ((r53 12), .inl (G.2.1, 12, .inl (fun _ => 0))) :: (q54, .inl (G.2.1, 12, .inl (fun _ => 0))) :: (q55, .inl (G.2.1, 12, .inl (fun _ => 0))) :: ([] : va_W))) hP hD [77] [0, 1, 2, 3, 4, 5, 6, 7, 8, 9, 10, 11, 12, 13, 14, 15, 16, 17, 18, 19, 20, 21, 22, 23, 24, 25, 26, 27, 28, 29, 30, 31, 32, 33, 34, 35, 36, 37, 38, 39, 40, 41, 42, 43, 44, 45, 46, 47, 48, 49, 50, 51, 52, 53, 54, 55, 56, 57, 58, 59, 60, 61, 62, 63, 64, 65, 66, 67, 68, 69, 70, 71, 72, 73, 74, 75, 76] rfl rfl (by decide) (by decide) hk hF hP1 hD1
  refine ⟨((q1, .inr (6, [.ref q2, .ref q3, .ref q4, .ref q20, .ref q21, .ref q25, .ref q27, .ref q32, .ref q39, .ref q44, .int 0, .int (-1)])) :: (q2, .inr (1, [.ref q3, .ref q4, .int 0, .int 0])) :: (q3, .inr (4, [.ref q4, .ref q11, .ref q12, .ref q14, .ref q16, .ref q18, .int 0, .ref q19, .int 1])) :: (q4, .inr (3, [.ref q5, .ref q6, .ref q7, .ref q8, .ref q9, .ref q10, .int 0, .int 0, .int 255])) :: (q5, .inl (G.2.1, 12, .inl (fun _ => 0))) :: (q6, .inl (G.2.1, 12, .inl (fun _ => 0))) :: (q7, .inl (G.2.1, 12, .inl (fun _ => 0))) :: (q8, .inl (G.2.1, 12, .inl (fun _ => 0))) :: (q9, .inl (G.2.1, 12, .inl (fun _ => 0))) :: (q10, .inl (G.2.1, 12, .inl (fun _ => 0))) :: (q11, .inl (G.2.1, 12, .inl (fun _ => 0))) :: (q12, .inl (G.2.2.1, 12, .inr (.inr (.inr (.inr (fun i => if i < 12 then some (r13 i) else none)))))) :: ((r13 0), .inl (G.2.1, 12, .inl (fun _ => 0))) :: ((r13 1), .inl (G.2.1, 12, .inl (fun _ => 0))) :: ((r13 2), .inl (G.2.1, 12, .inl (fun _ => 0))) :: ((r13 3), .inl (G.2.1, 12, .inl (fun _ => 0))) :: ((r13 4), .inl (G.2.1, 12, .inl (fun _ => 0))) :: ((r13 5), .inl (G.2.1, 12, .inl (fun _ => 0))) :: ((r13 6), .inl (G.2.1, 12, .inl (fun _ => 0))) :: ((r13 7), .inl (G.2.1, 12, .inl (fun _ => 0))) :: ((r13 8), .inl (G.2.1, 12, .inl (fun _ => 0))) :: ((r13 9), .inl (G.2.1, 12, .inl (fun _ => 0))) :: ((r13 10), .inl (G.2.1, 12, .inl (fun _ => 0))) :: ((r13 11), .inl (G.2.1, 12, .inl (fun _ => 0))) :: (q14, .inl (G.2.2.1, 12, .inr (.inr (.inr (.inr (fun i => if i < 12 then some (r15 i) else none)))))) :: ((r15 0), .inl (G.2.1, 8, .inl (fun _ => 0))) :: ((r15 1), .inl (G.2.1, 8, .inl (fun _ => 0))) :: ((r15 2), .inl (G.2.1, 8, .inl (fun _ => 0))) :: ((r15 3), .inl (G.2.1, 8, .inl (fun _ => 0))) :: ((r15 4), .inl (G.2.1, 8, .inl (fun _ => 0))) :: ((r15 5), .inl (G.2.1, 8, .inl (fun _ => 0))) :: ((r15 6), .inl (G.2.1, 8, .inl (fun _ => 0))) :: ((r15 7), .inl (G.2.1, 8, .inl (fun _ => 0))) :: ((r15 8), .inl (G.2.1, 8, .inl (fun _ => 0))) :: ((r15 9), .inl (G.2.1, 8, .inl (fun _ => 0))) :: ((r15 10), .inl (G.2.1, 8, .inl (fun _ => 0))) :: ((r15 11), .inl (G.2.1, 8, .inl (fun _ => 0))) :: (q16, .inl (G.2.2.1, 12, .inr (.inr (.inr (.inr (fun i => if i < 12 then some (r17 i) else none)))))) :: ((r17 0), .inl (G.2.1, 8, .inl (fun _ => 0))) :: ((r17 1), .inl (G.2.1, 8, .inl (fun _ => 0))) :: ((r17 2), .inl (G.2.1, 8, .inl (fun _ => 0))) :: ((r17 3), .inl (G.2.1, 8, .inl (fun _ => 0))) :: ((r17 4), .inl (G.2.1, 8, .inl (fun _ => 0))) :: ((r17 5), .inl (G.2.1, 8, .inl (fun _ => 0))) :: ((r17 6), .inl (G.2.1, 8, .inl (fun _ => 0))) :: ((r17 7), .inl (G.2.1, 8, .inl (fun _ => 0))) :: ((r17 8), .inl (G.2.1, 8, .inl (fun _ => 0))) :: ((r17 9), .inl (G.2.1, 8, .inl (fun _ => 0))) :: ((r17 10), .inl (G.2.1, 8, .inl (fun _ => 0))) :: ((r17 11), .inl (G.2.1, 8, .inl (fun _ => 0))) :: (q18, .inl (G.2.1, 4096, .inl (fun _ => 0))) :: (q19, .inl (G.2.1, 4096, .inl (fun _ => 0))) :: (q20, .inr (2, [.ref q21, .ref q23, .ref q24, .int 0, .int 0, .int 0, .int (-1)])) :: (q21, .inr (5, [.ref q22, .int 0])) :: (q22, .inl (G.2.2.2.1, 420, .inl (fun _ => 0))) :: (q23, .inl (G.2.1, 12, .inl (fun _ => 0))) :: (q24, .inl (G.2.1, 12, .inl (fun _ => 0))) :: (q25, .inr (5, [.ref q26, .int 0])) :: (q26, .inl (G.2.2.2.1, 420, .inl (fun _ => 0))) :: (q27, .inr (0, [.ref q28, .ref q29, .ref q30, .ref q31, .int 0, .int 0, .int 0, .int 0, .int 0, .int 0])) :: (q28, .inl (G.2.1, 101, .inl (fun _ => 0))) :: (q29, .inl (G.2.1, 12, .inl (fun _ => 0))) :: (q30, .inl (G.2.1, 12, .inl (fun _ => 0))) :: (q31, .inl (G.2.1, 12, .inl (fun _ => 0))) :: (q32, .inr (3, [.ref q33, .ref q34, .ref q35, .ref q36, .ref q37, .ref q38, .int 0, .int 0, .int 255])) :: (q33, .inl (G.2.1, 12, .inl (fun _ => 0))) :: (q34, .inl (G.2.1, 12, .inl (fun _ => 0))) :: (q35, .inl (G.2.1, 12, .inl (fun _ => 0))) :: (q36, .inl (G.2.1, 12, .inl (fun _ => 0))) :: (q37, .inl (G.2.1, 12, .inl (fun _ => 0))) :: (q38, .inl (G.2.1, 12, .inl (fun _ => 0))) :: (q39, .inr (0, [.ref q40, .ref q41, .ref q42, .ref q43, .int 0, .int 0, .int 0, .int 0, .int 0, .int 0])) :: (q40, .inl (G.2.1, 101, .inl (fun _ => 0))) :: (q41, .inl (G.2.1, 12, .inl (fun _ => 0))) :: (q42, .inl (G.2.1, 12, .inl (fun _ => 0))) :: (q43, .inl (G.2.1, 12, .inl (fun _ => 0))) :: (q44, .inl (G.2.1, 12, .inl (fun _ => 0))) :: (q45, .inr (7, [.int 0, .ref q46, .ref q47, .int 0, .ref q48, .ref q49, .ref q50, .int 0, .int 0, .int (-1), .int 0, .ref q51, .int 0, .ref q52, .int 0, .ref q54, .ref q55])) :: (q46, .inl (G.2.1, 2764, .inl (upd (fun _ => 0) 1 255))) :: (q47, .inl (G.2.1, 2764, .inl (fun _ => 0))) :: (q48, .inl (G.2.1, 40, .inl (fun _ => 0))) :: (q49, .inl (G.2.1, 12, .inl (fun _ => 0))) :: (q50, .inl (G.2.1, 12, .inl (fun _ => 0))) :: (q51, .inl (G.2.1, 700, .inl (fun _ => 0))) :: (q52, .inl (G.2.2.1, 13, .inr (.inr (.inr (.inr (fun i => if i < 13 then some (r53 i) else none)))))) :: ((r53 0), .inl (G.2.1, 12, .inl (fun _ => 0))) :: ((r53 1), .inl (G.2.1, 12, .inl (fun _ => 0))) :: ((r53 2), .inl (G.2.1, 12, .inl (fun _ => 0))) :: ((r53 3), .inl (G.2.1, 12, .inl (fun _ => 0))) :: ((r53 4), .inl (G.2.1, 12, .inl (fun _ => 0))) :: ((r53 5), .inl (G.2.1, 12, .inl (fun _ => 0))) :: ((r53 6), .inl (G.2.1, 12, .inl (fun _ => 0))) :: ((r53 7), .inl (G.2.1, 12, .inl (fun _ => 0))) :: ((r53 8), .inl (G.2.1, 12, .inl (fun _ => 0))) :: ((r53 9), .inl (G.2.1, 12, .inl (fun _ => 0))) :: ((r53 10), .inl (G.2.1, 12, .inl (fun _ => 0))) :: ((r53 11), .inl (G.2.1, 12, .inl (fun _ => 0))) :: ((r53 12), .inl (G.2.1, 12, .inl (fun _ => 0))) :: (q54, .inl (G.2.1, 12, .inl (fun _ => 0))) :: (q55, .inl (G.2.1, 12, .inl (fun _ => 0))) :: ([] : va_W)), hP, hD, ?_⟩
  refine U_astore_n (L' := [(2, .ref q45), (1, .ref q1), (0, .ref b)]) (q := 16) C dL_law_15 rfl rfl (by decide) rfl ?_
  refine U_iconst (v := 1) (q := 17) C dL_law_16 rfl ic_1 ?_
  refine U_newa (atype := .long) (ty := .long) (q := 19) C 3 rfl (fun _ h => by cases h) rfl q_1597 (1, .inr (.inl (fun _ => 0))) (fun _ => rfl) (by decide) tn_1 (by decide) (by decide) (by decide) dL_law_17 rfl (fun q56 => ?_)
  refine U_astore_n (L' := [(3, .ref q56), (2, .ref q45), (1, .ref q1), (0, .ref b)]) (q := 20) C dL_law_19 rfl rfl (by decide) rfl ?_
  refine U_iconst (v := 0) (q := 21) C dL_law_20 rfl ic_0 ?_
  refine U_istore (L' := [(4, .int 0), (3, .ref q56), (2, .ref q45), (1, .ref q1), (0, .ref b)]) (q := 23) C dL_law_21 rfl (by decide) rfl ?_
  intro H locs ls hP hD hS hl
  obtain ⟨al, hal⟩ : ∃ al : List Nat, al = (q1 :: q2 :: q3 :: q4 :: q20 :: q21 :: q25 :: q27 :: q32 :: q39 :: q44 :: q5 :: q6 :: q7 :: q8 :: q9 :: q10 :: q33 :: q34 :: q35 :: q36 :: q37 :: q38 :: q23 :: q24 :: q22 :: q26 :: q28 :: q29 :: q30 :: q31 :: q40 :: q41 :: q42 :: q43 :: q11 :: q12 :: q14 :: q16 :: q18 :: q19 :: (r13 0) :: (r13 1) :: (r13 2) :: (r13 3) :: (r13 4) :: (r13 5) :: (r13 6) :: (r13 7) :: (r13 8) :: (r13 9) :: (r13 10) :: (r13 11) :: (r15 0) :: (r15 1) :: (r15 2) :: (r15 3) :: (r15 4) :: (r15 5) :: (r15 6) :: (r15 7) :: (r15 8) :: (r15 9) :: (r15 10) :: (r15 11) :: (r17 0) :: (r17 1) :: (r17 2) :: (r17 3) :: (r17 4) :: (r17 5) :: (r17 6) :: (r17 7) :: (r17 8) :: (r17 9) :: (r17 10) :: (r17 11) :: q45 :: q46 :: q47 :: q48 :: q49 :: q50 :: q51 :: q52 :: q54 :: q55 :: (r53 0) :: (r53 1) :: (r53 2) :: (r53 3) :: (r53 4) :: (r53 5) :: (r53 6) :: (r53 7) :: (r53 8) :: (r53 9) :: (r53 10) :: (r53 11) :: (r53 12) :: q56 :: ([] : List Nat)) := ⟨_, rfl⟩
  have hAd : ∀ j, j < 101 → (((q1, .inr (6, [.ref q2, .ref q3, .ref q4, .ref q20, .ref q21, .ref q25, .ref q27, .ref q32, .ref q39, .ref q44, .int 0, .int (-1)])) :: (q2, .inr (1, [.ref q3, .ref q4, .int 0, .int 0])) :: (q3, .inr (4, [.ref q4, .ref q11, .ref q12, .ref q14, .ref q16, .ref q18, .int 0, .ref q19, .int 1])) :: (q4, .inr (3, [.ref q5, .ref q6, .ref q7, .ref q8, .ref q9, .ref q10, .int 0, .int 0, .int 255])) :: (q5, .inl (G.2.1, 12, .inl (fun _ => 0))) :: (q6, .inl (G.2.1, 12, .inl (fun _ => 0))) :: (q7, .inl (G.2.1, 12, .inl (fun _ => 0))) :: (q8, .inl (G.2.1, 12, .inl (fun _ => 0))) :: (q9, .inl (G.2.1, 12, .inl (fun _ => 0))) :: (q10, .inl (G.2.1, 12, .inl (fun _ => 0))) :: (q11, .inl (G.2.1, 12, .inl (fun _ => 0))) :: (q12, .inl (G.2.2.1, 12, .inr (.inr (.inr (.inr (fun i => if i < 12 then some (r13 i) else none)))))) :: ((r13 0), .inl (G.2.1, 12, .inl (fun _ => 0))) :: ((r13 1), .inl (G.2.1, 12, .inl (fun _ => 0))) :: ((r13 2), .inl (G.2.1, 12, .inl (fun _ => 0))) :: ((r13 3), .inl (G.2.1, 12, .inl (fun _ => 0))) :: ((r13 4), .inl (G.2.1, 12, .inl (fun _ => 0))) :: ((r13 5), .inl (G.2.1, 12, .inl (fun _ => 0))) :: ((r13 6), .inl (G.2.1, 12, .inl (fun _ => 0))) :: ((r13 7), .inl (G.2.1, 12, .inl (fun _ => 0))) :: ((r13 8), .inl (G.2.1, 12, .inl (fun _ => 0))) :: ((r13 9), .inl (G.2.1, 12, .inl (fun _ => 0))) :: ((r13 10), .inl (G.2.1, 12, .inl (fun _ => 0))) :: ((r13 11), .inl (G.2.1, 12, .inl (fun _ => 0))) :: (q14, .inl (G.2.2.1, 12, .inr (.inr (.inr (.inr (fun i => if i < 12 then some (r15 i) else none)))))) :: ((r15 0), .inl (G.2.1, 8, .inl (fun _ => 0))) :: ((r15 1), .inl (G.2.1, 8, .inl (fun _ => 0))) :: ((r15 2), .inl (G.2.1, 8, .inl (fun _ => 0))) :: ((r15 3), .inl (G.2.1, 8, .inl (fun _ => 0))) :: ((r15 4), .inl (G.2.1, 8, .inl (fun _ => 0))) :: ((r15 5), .inl (G.2.1, 8, .inl (fun _ => 0))) :: ((r15 6), .inl (G.2.1, 8, .inl (fun _ => 0))) :: ((r15 7), .inl (G.2.1, 8, .inl (fun _ => 0))) :: ((r15 8), .inl (G.2.1, 8, .inl (fun _ => 0))) :: ((r15 9), .inl (G.2.1, 8, .inl (fun _ => 0))) :: ((r15 10), .inl (G.2.1, 8, .inl (fun _ => 0))) :: ((r15 11), .inl (G.2.1, 8, .inl (fun _ => 0))) :: (q16, .inl (G.2.2.1, 12, .inr (.inr (.inr (.inr (fun i => if i < 12 then some (r17 i) else none)))))) :: ((r17 0), .inl (G.2.1, 8, .inl (fun _ => 0))) :: ((r17 1), .inl (G.2.1, 8, .inl (fun _ => 0))) :: ((r17 2), .inl (G.2.1, 8, .inl (fun _ => 0))) :: ((r17 3), .inl (G.2.1, 8, .inl (fun _ => 0))) :: ((r17 4), .inl (G.2.1, 8, .inl (fun _ => 0))) :: ((r17 5), .inl (G.2.1, 8, .inl (fun _ => 0))) :: ((r17 6), .inl (G.2.1, 8, .inl (fun _ => 0))) :: ((r17 7), .inl (G.2.1, 8, .inl (fun _ => 0))) :: ((r17 8), .inl (G.2.1, 8, .inl (fun _ => 0))) :: ((r17 9), .inl (G.2.1, 8, .inl (fun _ => 0))) :: ((r17 10), .inl (G.2.1, 8, .inl (fun _ => 0))) :: ((r17 11), .inl (G.2.1, 8, .inl (fun _ => 0))) :: (q18, .inl (G.2.1, 4096, .inl (fun _ => 0))) :: (q19, .inl (G.2.1, 4096, .inl (fun _ => 0))) :: (q20, .inr (2, [.ref q21, .ref q23, .ref q24, .int 0, .int 0, .int 0, .int (-1)])) :: (q21, .inr (5, [.ref q22, .int 0])) :: (q22, .inl (G.2.2.2.1, 420, .inl (fun _ => 0))) :: (q23, .inl (G.2.1, 12, .inl (fun _ => 0))) :: (q24, .inl (G.2.1, 12, .inl (fun _ => 0))) :: (q25, .inr (5, [.ref q26, .int 0])) :: (q26, .inl (G.2.2.2.1, 420, .inl (fun _ => 0))) :: (q27, .inr (0, [.ref q28, .ref q29, .ref q30, .ref q31, .int 0, .int 0, .int 0, .int 0, .int 0, .int 0])) :: (q28, .inl (G.2.1, 101, .inl (fun _ => 0))) :: (q29, .inl (G.2.1, 12, .inl (fun _ => 0))) :: (q30, .inl (G.2.1, 12, .inl (fun _ => 0))) :: (q31, .inl (G.2.1, 12, .inl (fun _ => 0))) :: (q32, .inr (3, [.ref q33, .ref q34, .ref q35, .ref q36, .ref q37, .ref q38, .int 0, .int 0, .int 255])) :: (q33, .inl (G.2.1, 12, .inl (fun _ => 0))) :: (q34, .inl (G.2.1, 12, .inl (fun _ => 0))) :: (q35, .inl (G.2.1, 12, .inl (fun _ => 0))) :: (q36, .inl (G.2.1, 12, .inl (fun _ => 0))) :: (q37, .inl (G.2.1, 12, .inl (fun _ => 0))) :: (q38, .inl (G.2.1, 12, .inl (fun _ => 0))) :: (q39, .inr (0, [.ref q40, .ref q41, .ref q42, .ref q43, .int 0, .int 0, .int 0, .int 0, .int 0, .int 0])) :: (q40, .inl (G.2.1, 101, .inl (fun _ => 0))) :: (q41, .inl (G.2.1, 12, .inl (fun _ => 0))) :: (q42, .inl (G.2.1, 12, .inl (fun _ => 0))) :: (q43, .inl (G.2.1, 12, .inl (fun _ => 0))) :: (q44, .inl (G.2.1, 12, .inl (fun _ => 0))) :: (q45, .inr (7, [.int 0, .ref q46, .ref q47, .int 0, .ref q48, .ref q49, .ref q50, .int 0, .int 0, .int (-1), .int 0, .ref q51, .int 0, .ref q52, .int 0, .ref q54, .ref q55])) :: (q46, .inl (G.2.1, 2764, .inl (upd (fun _ => 0) 1 255))) :: (q47, .inl (G.2.1, 2764, .inl (fun _ => 0))) :: (q48, .inl (G.2.1, 40, .inl (fun _ => 0))) :: (q49, .inl (G.2.1, 12, .inl (fun _ => 0))) :: (q50, .inl (G.2.1, 12, .inl (fun _ => 0))) :: (q51, .inl (G.2.1, 700, .inl (fun _ => 0))) :: (q52, .inl (G.2.2.1, 13, .inr (.inr (.inr (.inr (fun i => if i < 13 then some (r53 i) else none)))))) :: ((r53 0), .inl (G.2.1, 12, .inl (fun _ => 0))) :: ((r53 1), .inl (G.2.1, 12, .inl (fun _ => 0))) :: ((r53 2), .inl (G.2.1, 12, .inl (fun _ => 0))) :: ((r53 3), .inl (G.2.1, 12, .inl (fun _ => 0))) :: ((r53 4), .inl (G.2.1, 12, .inl (fun _ => 0))) :: ((r53 5), .inl (G.2.1, 12, .inl (fun _ => 0))) :: ((r53 6), .inl (G.2.1, 12, .inl (fun _ => 0))) :: ((r53 7), .inl (G.2.1, 12, .inl (fun _ => 0))) :: ((r53 8), .inl (G.2.1, 12, .inl (fun _ => 0))) :: ((r53 9), .inl (G.2.1, 12, .inl (fun _ => 0))) :: ((r53 10), .inl (G.2.1, 12, .inl (fun _ => 0))) :: ((r53 11), .inl (G.2.1, 12, .inl (fun _ => 0))) :: ((r53 12), .inl (G.2.1, 12, .inl (fun _ => 0))) :: (q54, .inl (G.2.1, 12, .inl (fun _ => 0))) :: (q55, .inl (G.2.1, 12, .inl (fun _ => 0))) :: (q56, .inl (G.2.2.2.2, 1, .inr (.inl (fun _ => 0)))) :: ([] : va_W)))[lw_pos j]? = some (al.getD j 0, wL.2 G (fun j => al.getD j 0) j sL0) := by
    intro j hj
    subst hal
    match j, hj with
    | 0, _ => rfl
    | 1, _ => rfl
    | 2, _ => rfl
    | 3, _ => rfl
    | 4, _ => rfl
    | 5, _ => rfl
    | 6, _ => rfl
    | 7, _ => rfl
    | 8, _ => rfl
    | 9, _ => rfl
    | 10, _ => rfl
    | 11, _ => rfl
    | 12, _ => rfl
    | 13, _ => rfl
    | 14, _ => rfl
    | 15, _ => rfl
    | 16, _ => rfl
    | 17, _ => rfl
    | 18, _ => rfl
    | 19, _ => rfl
    | 20, _ => rfl
    | 21, _ => rfl
    | 22, _ => rfl
    | 23, _ => rfl
    | 24, _ => rfl
    | 25, _ => rfl
    | 26, _ => rfl
    | 27, _ => rfl
    | 28, _ => rfl
    | 29, _ => rfl
    | 30, _ => rfl
    | 31, _ => rfl
    | 32, _ => rfl
    | 33, _ => rfl
    | 34, _ => rfl
    | 35, _ => rfl
    | 36, _ => exact (show _ = some ((q12, .inl (G.2.2.1, 12, .inr (.inr (.inr (.inr (fun i => if i < 12 then some (r13 i) else none)))))) : Nat × va_E) from rfl).trans (congrArg (fun e => some (q12, e)) (grid_eq (g := fun i => (q1 :: q2 :: q3 :: q4 :: q20 :: q21 :: q25 :: q27 :: q32 :: q39 :: q44 :: q5 :: q6 :: q7 :: q8 :: q9 :: q10 :: q33 :: q34 :: q35 :: q36 :: q37 :: q38 :: q23 :: q24 :: q22 :: q26 :: q28 :: q29 :: q30 :: q31 :: q40 :: q41 :: q42 :: q43 :: q11 :: q12 :: q14 :: q16 :: q18 :: q19 :: (r13 0) :: (r13 1) :: (r13 2) :: (r13 3) :: (r13 4) :: (r13 5) :: (r13 6) :: (r13 7) :: (r13 8) :: (r13 9) :: (r13 10) :: (r13 11) :: (r15 0) :: (r15 1) :: (r15 2) :: (r15 3) :: (r15 4) :: (r15 5) :: (r15 6) :: (r15 7) :: (r15 8) :: (r15 9) :: (r15 10) :: (r15 11) :: (r17 0) :: (r17 1) :: (r17 2) :: (r17 3) :: (r17 4) :: (r17 5) :: (r17 6) :: (r17 7) :: (r17 8) :: (r17 9) :: (r17 10) :: (r17 11) :: q45 :: q46 :: q47 :: q48 :: q49 :: q50 :: q51 :: q52 :: q54 :: q55 :: (r53 0) :: (r53 1) :: (r53 2) :: (r53 3) :: (r53 4) :: (r53 5) :: (r53 6) :: (r53 7) :: (r53 8) :: (r53 9) :: (r53 10) :: (r53 11) :: (r53 12) :: q56 :: ([] : List Nat)).getD (41 + i) 0) (fun i hi => by
        match i, hi with
        | 0, _ => rfl
        | 1, _ => rfl
        | 2, _ => rfl
        | 3, _ => rfl
        | 4, _ => rfl
        | 5, _ => rfl
        | 6, _ => rfl
        | 7, _ => rfl
        | 8, _ => rfl
        | 9, _ => rfl
        | 10, _ => rfl
        | 11, _ => rfl
        | i + 12, h => exact absurd h (by omega))))
    | 37, _ => exact (show _ = some ((q14, .inl (G.2.2.1, 12, .inr (.inr (.inr (.inr (fun i => if i < 12 then some (r15 i) else none)))))) : Nat × va_E) from rfl).trans (congrArg (fun e => some (q14, e)) (grid_eq (g := fun i => (q1 :: q2 :: q3 :: q4 :: q20 :: q21 :: q25 :: q27 :: q32 :: q39 :: q44 :: q5 :: q6 :: q7 :: q8 :: q9 :: q10 :: q33 :: q34 :: q35 :: q36 :: q37 :: q38 :: q23 :: q24 :: q22 :: q26 :: q28 :: q29 :: q30 :: q31 :: q40 :: q41 :: q42 :: q43 :: q11 :: q12 :: q14 :: q16 :: q18 :: q19 :: (r13 0) :: (r13 1) :: (r13 2) :: (r13 3) :: (r13 4) :: (r13 5) :: (r13 6) :: (r13 7) :: (r13 8) :: (r13 9) :: (r13 10) :: (r13 11) :: (r15 0) :: (r15 1) :: (r15 2) :: (r15 3) :: (r15 4) :: (r15 5) :: (r15 6) :: (r15 7) :: (r15 8) :: (r15 9) :: (r15 10) :: (r15 11) :: (r17 0) :: (r17 1) :: (r17 2) :: (r17 3) :: (r17 4) :: (r17 5) :: (r17 6) :: (r17 7) :: (r17 8) :: (r17 9) :: (r17 10) :: (r17 11) :: q45 :: q46 :: q47 :: q48 :: q49 :: q50 :: q51 :: q52 :: q54 :: q55 :: (r53 0) :: (r53 1) :: (r53 2) :: (r53 3) :: (r53 4) :: (r53 5) :: (r53 6) :: (r53 7) :: (r53 8) :: (r53 9) :: (r53 10) :: (r53 11) :: (r53 12) :: q56 :: ([] : List Nat)).getD (53 + i) 0) (fun i hi => by
        match i, hi with
        | 0, _ => rfl
        | 1, _ => rfl
        | 2, _ => rfl
        | 3, _ => rfl
        | 4, _ => rfl
        | 5, _ => rfl
        | 6, _ => rfl
        | 7, _ => rfl
        | 8, _ => rfl
        | 9, _ => rfl
        | 10, _ => rfl
        | 11, _ => rfl
        | i + 12, h => exact absurd h (by omega))))
    | 38, _ => exact (show _ = some ((q16, .inl (G.2.2.1, 12, .inr (.inr (.inr (.inr (fun i => if i < 12 then some (r17 i) else none)))))) : Nat × va_E) from rfl).trans (congrArg (fun e => some (q16, e)) (grid_eq (g := fun i => (q1 :: q2 :: q3 :: q4 :: q20 :: q21 :: q25 :: q27 :: q32 :: q39 :: q44 :: q5 :: q6 :: q7 :: q8 :: q9 :: q10 :: q33 :: q34 :: q35 :: q36 :: q37 :: q38 :: q23 :: q24 :: q22 :: q26 :: q28 :: q29 :: q30 :: q31 :: q40 :: q41 :: q42 :: q43 :: q11 :: q12 :: q14 :: q16 :: q18 :: q19 :: (r13 0) :: (r13 1) :: (r13 2) :: (r13 3) :: (r13 4) :: (r13 5) :: (r13 6) :: (r13 7) :: (r13 8) :: (r13 9) :: (r13 10) :: (r13 11) :: (r15 0) :: (r15 1) :: (r15 2) :: (r15 3) :: (r15 4) :: (r15 5) :: (r15 6) :: (r15 7) :: (r15 8) :: (r15 9) :: (r15 10) :: (r15 11) :: (r17 0) :: (r17 1) :: (r17 2) :: (r17 3) :: (r17 4) :: (r17 5) :: (r17 6) :: (r17 7) :: (r17 8) :: (r17 9) :: (r17 10) :: (r17 11) :: q45 :: q46 :: q47 :: q48 :: q49 :: q50 :: q51 :: q52 :: q54 :: q55 :: (r53 0) :: (r53 1) :: (r53 2) :: (r53 3) :: (r53 4) :: (r53 5) :: (r53 6) :: (r53 7) :: (r53 8) :: (r53 9) :: (r53 10) :: (r53 11) :: (r53 12) :: q56 :: ([] : List Nat)).getD (65 + i) 0) (fun i hi => by
        match i, hi with
        | 0, _ => rfl
        | 1, _ => rfl
        | 2, _ => rfl
        | 3, _ => rfl
        | 4, _ => rfl
        | 5, _ => rfl
        | 6, _ => rfl
        | 7, _ => rfl
        | 8, _ => rfl
        | 9, _ => rfl
        | 10, _ => rfl
        | 11, _ => rfl
        | i + 12, h => exact absurd h (by omega))))
    | 39, _ => rfl
    | 40, _ => rfl
    | 41, _ => rfl
    | 42, _ => rfl
    | 43, _ => rfl
    | 44, _ => rfl
    | 45, _ => rfl
    | 46, _ => rfl
    | 47, _ => rfl
    | 48, _ => rfl
    | 49, _ => rfl
    | 50, _ => rfl
    | 51, _ => rfl
    | 52, _ => rfl
    | 53, _ => rfl
    | 54, _ => rfl
    | 55, _ => rfl
    | 56, _ => rfl
    | 57, _ => rfl
    | 58, _ => rfl
    | 59, _ => rfl
    | 60, _ => rfl
    | 61, _ => rfl
    | 62, _ => rfl
    | 63, _ => rfl
    | 64, _ => rfl
    | 65, _ => rfl
    | 66, _ => rfl
    | 67, _ => rfl
    | 68, _ => rfl
    | 69, _ => rfl
    | 70, _ => rfl
    | 71, _ => rfl
    | 72, _ => rfl
    | 73, _ => rfl
    | 74, _ => rfl
    | 75, _ => rfl
    | 76, _ => rfl
    | 77, _ => rfl
    | 78, _ => rfl
    | 79, _ => rfl
    | 80, _ => rfl
    | 81, _ => rfl
    | 82, _ => rfl
    | 83, _ => rfl
    | 84, _ => exact (show _ = some ((q52, .inl (G.2.2.1, 13, .inr (.inr (.inr (.inr (fun i => if i < 13 then some (r53 i) else none)))))) : Nat × va_E) from rfl).trans (congrArg (fun e => some (q52, e)) (grid_eq (g := fun i => (q1 :: q2 :: q3 :: q4 :: q20 :: q21 :: q25 :: q27 :: q32 :: q39 :: q44 :: q5 :: q6 :: q7 :: q8 :: q9 :: q10 :: q33 :: q34 :: q35 :: q36 :: q37 :: q38 :: q23 :: q24 :: q22 :: q26 :: q28 :: q29 :: q30 :: q31 :: q40 :: q41 :: q42 :: q43 :: q11 :: q12 :: q14 :: q16 :: q18 :: q19 :: (r13 0) :: (r13 1) :: (r13 2) :: (r13 3) :: (r13 4) :: (r13 5) :: (r13 6) :: (r13 7) :: (r13 8) :: (r13 9) :: (r13 10) :: (r13 11) :: (r15 0) :: (r15 1) :: (r15 2) :: (r15 3) :: (r15 4) :: (r15 5) :: (r15 6) :: (r15 7) :: (r15 8) :: (r15 9) :: (r15 10) :: (r15 11) :: (r17 0) :: (r17 1) :: (r17 2) :: (r17 3) :: (r17 4) :: (r17 5) :: (r17 6) :: (r17 7) :: (r17 8) :: (r17 9) :: (r17 10) :: (r17 11) :: q45 :: q46 :: q47 :: q48 :: q49 :: q50 :: q51 :: q52 :: q54 :: q55 :: (r53 0) :: (r53 1) :: (r53 2) :: (r53 3) :: (r53 4) :: (r53 5) :: (r53 6) :: (r53 7) :: (r53 8) :: (r53 9) :: (r53 10) :: (r53 11) :: (r53 12) :: q56 :: ([] : List Nat)).getD (77 + (10 + i)) 0) (fun i hi => by
        match i, hi with
        | 0, _ => rfl
        | 1, _ => rfl
        | 2, _ => rfl
        | 3, _ => rfl
        | 4, _ => rfl
        | 5, _ => rfl
        | 6, _ => rfl
        | 7, _ => rfl
        | 8, _ => rfl
        | 9, _ => rfl
        | 10, _ => rfl
        | 11, _ => rfl
        | 12, _ => rfl
        | i + 13, h => exact absurd h (by omega))))
    | 85, _ => rfl
    | 86, _ => rfl
    | 87, _ => rfl
    | 88, _ => rfl
    | 89, _ => rfl
    | 90, _ => rfl
    | 91, _ => rfl
    | 92, _ => rfl
    | 93, _ => rfl
    | 94, _ => rfl
    | 95, _ => rfl
    | 96, _ => rfl
    | 97, _ => rfl
    | 98, _ => rfl
    | 99, _ => rfl
    | 100, _ => rfl
    | j + 101, h => exact absurd h (by omega)
  have hpos : ∀ j, j < 101 → ∀ i, i < 101 → al.getD j 0 = al.getD i 0 → j = i := fun j hj i hi hji =>
    lw_pos_inj j hj i hi (hD.1 _ _ _ _ (hAd j hj) (hAd i hi) hji)
  have hPL : va_P G.1 clsA (mkW wL G (fun j => al.getD j 0) sL0) H := by
    intro k q hq
    obtain ⟨hk, rfl⟩ := mkW_at hq
    exact hP _ _ (hAd k hk)
  have hAof : ∀ q, Aof wL (fun j => al.getD j 0) s.heap.size q → s.heap.size ≤ q := by
    intro q hq
    rcases hq with ⟨j, hj, rfl⟩ | hq
    · exact hD.2 _ _ (hAd j hj)
    · exact hq
  have hSL : va_S (Aof wL (fun j => al.getD j 0) s.heap.size) s.heap H locs := ⟨hS.1, fun q h1 h2 => hS.2.1 q h1 (fun h => h2 (Or.inr h)), fun z hz => Or.inr (hS.2.2 z hz)⟩
  have hOK : OK wL (p, l, e, room_1, s, m, #[Value.ref b], below, meth, c) G (fun j => al.getD j 0) RL cL_law 8 room_1 :=
    ⟨hx, hb, hml, hown, hCw, hAMB.warm (State.WarmedH.refl s) hAof (fun _ _ _ => rfl), fun i j hi hj e => hpos i hi j hj e, hlocks, rfl⟩
  obtain ⟨σf, hf⟩ := pure_main xs L hL
  have hfin : ∀ {k n pc : Nat} {Lc : List (Nat × Value)} {σ : LT}, k ≤ 603072 → n ≤ 7149674 → decode cL_law pc = .ok (.ireturn, 1) → V wL (p, l, e, room_1, s, m, #[Value.ref b], below, meth, c) G (fun j => al.getD j 0) 8 (lw_Z below #[Value.ref b] s) k n σ pc Lc [.int 1] := by
    intro k n pc Lc σ hk hn hd H2 locs2 ls2 hP2 hS2 hl2
    refine W.widen hk hn ?_
    refine va_forget (fun q hq => hAof _ (hS2.2.2 q hq)) ?_
    exact lw_ret (Drawn.sameBut.refl s.drawn lw_cs) hx hb hr hlocks hd
  subst hal
  exact V_wide (by decide) (by decide) (wlL_law (xs := xs) (b := b) (Ln := L) (σf := σf) hOK hX hbl (fun h => absurd hbl (Nat.not_lt.mpr (hAof _ h))) hfin 600 200 20000 (by decide) (by decide) 0 sL0 hf) H locs ls hPL hSL (lv_sub hl [4, 3, 2, 1, 0] rfl)
set_option maxHeartbeats 4000000 in
theorem lw_walk (l : Launch) (hflags : l.flags = flags0) (b : Addr) (xs : List Int32) : MetFree l x (headSpec (Jvm.Cond.code x code maxLocals ret :: tables_1) room_1) (lw_P b xs) (fun _ _ _ _ _ => True) lw_Q := by
  refine MetFree.of_bodyS (code := code) (maxLocals := maxLocals) (ret := ret) (by decide) ?_ ?_
  · intro args s m h hn
    obtain ⟨meth, c, h1, h2, h3, h4, h5, h6, -, -⟩ := Cond.code_spec hn (atoms_spec (ws := Jvm.Cond.code x code maxLocals ret :: tables_1) h _ List.mem_cons_self)
    exact ⟨meth, c, h1, h2, h3, h4, h5, h6⟩
  · intro p e s m args below meth c s₁ B hml0 hP _
    obtain ⟨rfl, hx, hbd, hgv⟩ := hP
    obtain ⟨scr, harrAt, hlist, hof, hsmall⟩ := hx
    obtain ⟨hcb, hkn, -, -⟩ := State.arrayAt?_spec harrAt
    have hown : s.vm.findClass R_law = some m.cls := findClass_of_methodNamed B.named
    have hts0 : ∀ c ∈ (Jvm.Cond.code x code maxLocals ret :: tables_1), c.before #[Value.ref b] s = true := atoms_spec (ws := Jvm.Cond.code x code maxLocals ret :: tables_1) B.pre
    have hts : ∀ w ∈ lw_tbl, w.before #[Value.ref b] s = true := k2_hts_sels lw_privs (fun w hw => hts0 w (List.mem_cons_of_mem _ hw)) lw_privs_ok
    have hml : c.maxLocals = 8 := B.maxLocals_eq (hts0 _ List.mem_cons_self)
    have X₀ : Stand p l e room_1 s m #[Value.ref b] below meth c s₁ [] 0 0 := Stand.of_body B
    have hh0 : s₁.heap = s.heap := by rw [B.state]; rfl
    have hsz : scr.slots.size = xs.length := by rw [← Array.length_toList, hlist, List.length_map]
    have hval : ∀ j : Nat, j < xs.length → scr.slots[j]? = some (.int (xs.getD j 0)) := fun j hj => by
      rw [← Array.getElem?_toList, hlist]
      simp [hj]
    have hbl : b < s.heap.size := (Array.getElem?_eq_some_iff.mp hcb).1
    have hX : va_X b xs.length (fun j => xs.getD j 0) s s.heap := ⟨scr, hcb, hof, hkn, hsz, hval⟩
    have K : W p l e room_1 s m #[Value.ref b] below meth c s₁.heap [] 0 0 (lw_Z below #[Value.ref b] s) (entryFrame m ([Value.ref b] : List Value).toArray 8) := by
      rw [hh0]
      exact whole_start l hflags hbd ⟨B.exec, B.bytes, B.returns, hml, hown, hts, hX, hbl, B.notSynchronized, hgv⟩
    obtain ⟨t, a1, o, b1, b2, b3⟩ := K s₁ rfl X₀
    exact ⟨t, o, a1, b1, b2, b3⟩
theorem lw_pre_spec {args : Array Value} {s : State} (h : (Jvm.Cond.and given_1 narrow_1).before args s = true) (hr : rest_1_c.before args s = true) : ∃ (b : Addr) (xs : List Int32), lw_P b xs args s := by
  have hs := flat_of_before _ h
  have hq := flat_of_before _ hr
  have hc : (Cond.count 1).before args s = true := hs _ (by decide +kernel)
  have harr : (Cond.arrayOf (.arg 0) .int).before args s = true := hs _ (by decide +kernel)
  have hle : (Cond.le (.length (.arg 0)) (.int 2048)).before args s = true := hs _ (by decide +kernel)
  have hlen : (Cond.isInt (.length (.arg 0))).before args s = true := hq _ (by decide +kernel)
  have hall : (Cond.all (.arg 0) (.isInt (.elem (.arg 0) (.index 0)))).before args s = true := hq _ (by decide +kernel)
  obtain ⟨b, xs, hb, hx⟩ := State.ints_of_pre rfl harr hlen hall
  have hsm : xs.length < 2 ^ 31 := hx.choose_spec.2.2.2
  have hev : (Term.length (.arg 0)).eval args s none [] s = some (.int xs.length.toInt32) := hx.length_eval hb
  have hv := Cond.le_ints hev (show (Term.int 2048).eval args s none [] s = some (.int 2048) from rfl)
  have hd : xs.length.toInt32 ≤ 2048 := by
    simpa [Cond.before, Cond.holds, hv] using hle
  have hN : xs.length ≤ 2048 := (Int32.ofNat_le_ofNat hsm (by decide)).mp (show Int32.ofNat xs.length ≤ Int32.ofNat 2048 from hd)
  exact ⟨b, xs, Cond.one_arg hc (show args[0]? = some (.ref b) from hb), hx, hN, h⟩
theorem lw_comes (l : Launch) (hflags : l.flags = flags0) : Comes l x (Jvm.Cond.code x code maxLocals ret :: tables_1) room_1 (fun tb e args s => Calls_1 tb e args s ∧ rest_1 tb e args s ∧ Pre_1 tb e args s)
    (fun _ _ args s o t => lw_Q args s o t) := by
  intro p e ha hc hk s m args below hf hfit hheap happ hpre
  obtain ⟨b, xs, hP⟩ := lw_pre_spec hpre.2.2 hpre.2.1
  obtain ⟨k, o, h1, h2, h3, hQ⟩ := lw_walk l hflags b xs p e ha hc hk s m args below hf ((Spec.applies_iff_loose hf).mp happ).1 hP trivial
  exact ⟨k, o, h1, h2, h3, hQ⟩
theorem lw_frame {s t : State} {o : Outcome} {args : Array Value} (h : State.butDraws s t lw_cs (fun t1 => Framed s o t1 [] 603072 7149674)) :
    State.butDraws s t [Jvm.Choice.named "NaN.bits"] (fun t1 => Framed s o t1 (fieldLocs frame_1_writes args s ++ arrayLocs frame_1_arrays args s ++ staticLocs frame_1_statics s) 603072 7149674) := h
theorem lw_limb (L : Cond) (hL : ∀ (args : Array Value) (s t : State), L.after args s (.returned (some (.int 1))) t = true) :
    ArmFor flags0 classFile x code maxLocals ret World_1 tables_1 room_1 Calls_1 rest_1 Pre_1
      (fun tb e a s o t => postC L tb e a s o t ∧ State.butDraws s t [Jvm.Choice.named "NaN.bits"] (fun t1 => Framed s o t1 (fieldLocs frame_1_writes a s ++ arrayLocs frame_1_arrays a s ++ staticLocs frame_1_statics s) 603072 7149674)) := by
  intro l hflags _ _ p e ha hc hk s m args below hf hfit hheap happ hpre
  obtain ⟨k, o, h1, h2, h3, rfl, hF⟩ := lw_comes l hflags p e ha hc hk s m args below hf hfit hheap happ hpre
  exact ⟨k, _, h1, h2, h3, hL args s _, lw_frame hF⟩
theorem i_vc : Claimed_1_1 ∧ Claimed_1_2 := ⟨lw_limb limb_1_1 (fun args s t => by simp [limb_1_1, Cond.after, Cond.holds, Cond.value]), lw_limb limb_1_2 (fun args s t => Cond.after_iff.mpr (by
  first | (rw [show limb_1_2 = Cond.eq .result (.int 1) from rfl, Cond.eq_ints (x := 1) (y := 1) rfl rfl]; simp; done) | (simp [limb_1_2, Cond.value, Term.eval]; done)))⟩

