/-! Layer 2, 6: the parts of the class's search -/
theorem fill_loop (c0 : Nat) (a : Int32) : ∀ k i fuel (σ : Sg), i + k = 8 → k < fuel → fJ7_fill_53178_r1_5 a c0 fuel (nI i) σ = some ((), sst σ c0 (fun j => if i ≤ j ∧ j < 8 then a else σ c0 j)) := by
  intro k
  induction k with
  | zero =>
    intro i fuel σ hi hf
    obtain ⟨f, rfl, -⟩ := fuel_succ hf
    rw [fJ7_fill_53178_r1_5, show (8 : Int32) = nI 8 from rfl, if_le (by decide) (by omega), if_pos (by omega)]
    have : (fun j => if i ≤ j ∧ j < 8 then a else σ c0 j) = σ c0 := by
      funext j
      rw [if_neg (by omega)]
    rw [this, sst_id]
  | succ k ih =>
    intro i fuel σ hi hf
    obtain ⟨f, rfl, hf⟩ := fuel_succ hf
    rw [fJ7_fill_53178_r1_5, show (8 : Int32) = nI 8 from rfl, if_le (by decide) (by omega), if_neg (by omega), gd_of (inb_ok (by omega) (by omega)), lt'_eq, zI_clamp (by omega), show nI i + 1 = nI (i + 1) from zI_add i 1,
      ih (i + 1) f _ (by omega) (by omega)]
    congr 2
    rw [sst_sup]
    congr 1
    funext j
    rw [sup_self, upd_app]
    by_cases q : j = i
    · subst q
      rw [if_neg (by omega), if_pos rfl, if_pos (by omega)]
    · rw [if_neg q]
      by_cases q2 : i ≤ j ∧ j < 8
      · rw [if_pos q2, if_pos (by omega)]
      · rw [if_neg q2, if_neg (by omega)]
theorem fill_eq (c0 : Nat) (a : Int32) (σ : Sg) : fJ7_fill_53178_r1 c0 a σ = some ((), sst σ c0 (fun j => if j < 8 then a else σ c0 j)) := by
  rw [fJ7_fill_53178_r1, show (0 : Int32) = nI 0 from rfl, fill_loop c0 a 8 0 FU σ (by omega) (by unfold FU; omega)]
  simp
/-- the stations below i of a set that have a channel left -/
def usm (left : Nat → Nat) (S c : Nat) : Nat → Nat
  | 0 => 0
  | i + 1 => if S.testBit i then usm left S c i ||| (if (left i).testBit c then 2 ^ i else 0) else usm left S c i
theorem usm_tb (left : Nat → Nat) (S c : Nat) (n s : Nat) : (usm left S c n).testBit s = (decide (s < n) && (S.testBit s && (left s).testBit c)) := by
  induction n with
  | zero => rw [usm, tb_zero]; simp
  | succ n ih =>
    rw [usm]
    rcases Nat.lt_trichotomy s n with q | q | q
    · split
      · rw [Nat.testBit_or, ih]
        split
        · simp [tb_pow, q, Nat.lt_succ_of_lt q, Nat.ne_of_lt q]
        · simp [q, Nat.lt_succ_of_lt q]
      · simp [ih, q, Nat.lt_succ_of_lt q]
    · subst q
      cases q1 : S.testBit s with
      | true =>
        rw [if_pos rfl, Nat.testBit_or, ih]
        split
        · next q3 => simp [tb_pow, q3]
        · next q3 => simp [q3]
      | false => rw [if_neg (by decide), ih]; simp
    · have h1 : ¬ s < n := by omega
      have h2 : ¬ s < n + 1 := by omega
      have h3 : s ≠ n := by omega
      split
      · rw [Nat.testBit_or, ih]
        split
        · simp [tb_pow, h1, h2, h3]
        · simp [h1, h2]
      · simp [ih, h1, h2]
theorem usm_lt (left : Nat → Nat) (S c n : Nat) : usm left S c n < 2 ^ n := lt_of_tb fun i hi => by
  rw [usm_tb] at hi
  simp only [Bool.and_eq_true, decide_eq_true_eq] at hi
  exact hi.1
theorem users_in {d i : Nat} (hd : d < 12) (hi : i < 12) (b : Int32) (K : Sg → Option (Unit × Sg)) {x : Nat} (hx : x < 2 ^ 8) : ∀ k c fuel (σ : Sg) (u : Nat → Nat), c + k = 8 → k < fuel → σ (41 + d) i = nI x → (∀ j, j < 8 → σ (53 + d) j = nI (u j)) →
    fX4_listUsers_34 (nI d) b (nI i) K fuel (nI c) σ = K (sst σ (53 + d) (fun j => if c ≤ j ∧ j < 8 then nI (u j ||| (if x.testBit j then 2 ^ i else 0)) else σ (53 + d) j)) := by
  intro k
  induction k with
  | zero =>
    intro c fuel σ u hc hf h1 h2
    obtain ⟨f, rfl, -⟩ := fuel_succ hf
    rw [fX4_listUsers_34, show (8 : Int32) = nI 8 from rfl, if_le (by decide) (by omega), if_pos (by omega)]
    have : (fun j => if c ≤ j ∧ j < 8 then nI (u j ||| (if x.testBit j then 2 ^ i else 0)) else σ (53 + d) j) = σ (53 + d) := by
      funext j
      rw [if_neg (by omega)]
    rw [this, sst_id]
  | succ k ih =>
    intro c fuel σ u hc hf h1 h2
    obtain ⟨f, rfl, hf⟩ := fuel_succ hf
    have hc31 : c < 2 ^ 31 := by omega
    have hd31 : d < 2 ^ 31 := by omega
    have hi31 : i < 2 ^ 31 := by omega
    rw [fX4_listUsers_34, show (8 : Int32) = nI 8 from rfl, if_le (by decide) hc31, if_neg (by omega), gd_of (inb_ok hd hd31), gd_of (inb_ok (by omega) hc31), gd_of (inb_ok hd hd31), gd_of (inb_ok hi hi31), gd_of (inb_ok (by omega) hc31), lt'_eq,
      zI_clamp hd31, zI_clamp hc31, zI_clamp hi31, h1, h2 c (by omega), bit_nI (lt8_31 hx) (by omega), show nI c + 1 = nI (c + 1) from zI_add c 1]
    have e : (if x.testBit c = true then (1 : Int32) else 0) <<< (nI i &&& 31) = nI (if x.testBit c then 2 ^ i else 0) := by
      split
      · exact zI_one_shl (by omega)
      · rw [zI_sh31 (by omega)]
        exact Int32.zero_shiftLeft
    rw [e, zI_or, ih (c + 1) f _ (fun j => if j = c then u c ||| (if x.testBit c then 2 ^ i else 0) else u j) (by omega) (by omega) (by rw [sup_ne (by omega)]; exact h1) (fun j hj => by
      rw [sup_self, upd_app]
      split
      · rfl
      · exact h2 j hj)]
    congr 1
    rw [sst_sup]
    congr 1
    funext j
    rw [sup_self, upd_app]
    by_cases q : j = c
    · subst q
      rw [if_neg (show ¬(j + 1 ≤ j ∧ j < 8) by omega), if_pos (show j = j from rfl), if_pos (show j ≤ j ∧ j < 8 by omega)]
    · rw [if_neg q, if_neg q]
      by_cases q2 : c ≤ j ∧ j < 8
      · rw [if_pos q2, if_pos (by omega)]
      · rw [if_neg q2, if_neg (by omega)]
theorem users_loop {n d S : Nat} (hn : n ≤ 12) (hd : d < 12) (hS : S < 2 ^ n) {left : Nat → Nat} (hl : ∀ s, s < n → left s < 2 ^ 8) : ∀ k i fuel (σ : Sg), i + k = n → k < fuel → σ 3 6 = nI n → (∀ s, s < n → σ (41 + d) s = nI (left s)) → (∀ c, c < 8 → σ (53 + d) c = nI (usm left S c i)) →
    fX4_listUsers_12 (nI d) (nI S) fuel (nI i) σ = some ((), sst σ (53 + d) (fun c => if c < 8 then nI (usm left S c n) else σ (53 + d) c)) := by
  have hS31 : S < 2 ^ 31 := lt12_31 (Nat.lt_of_lt_of_le hS (Nat.pow_le_pow_right (by decide) hn))
  intro k
  induction k with
  | zero =>
    intro i fuel σ hi hf h6 h1 h2
    obtain ⟨f, rfl, -⟩ := fuel_succ hf
    rw [fX4_listUsers_12, h6, if_le (by omega) (by omega), if_pos (by omega)]
    have : (fun c => if c < 8 then nI (usm left S c n) else σ (53 + d) c) = σ (53 + d) := by
      funext c
      split
      · rw [h2 c (by assumption), show i = n by omega]
      · rfl
    rw [this, sst_id]
  | succ k ih =>
    intro i fuel σ hi hf h6 h1 h2
    obtain ⟨f, rfl, hf⟩ := fuel_succ hf
    rw [fX4_listUsers_12, h6, if_le (by omega) (by omega), if_neg (by omega)]
    simp only [jp_eq]
    rw [if_c hS31 (by omega), show nI i + 1 = nI (i + 1) from zI_add i 1]
    cases hb : S.testBit i with
    | false =>
      rw [if_neg (by decide)]
      exact ih (i + 1) f σ (by omega) (by omega) h6 h1 fun c hc => by rw [h2 c hc, usm, hb, if_neg (by decide)]
    | true =>
      rw [if_pos rfl, show (0 : Int32) = nI 0 from rfl, users_in hd (by omega) (nI S) _ (hl i (by omega)) 8 0 FU σ (fun c => usm left S c i) (by omega) (by unfold FU; omega) (h1 i (by omega)) h2]
      rw [ih (i + 1) f _ (by omega) (by omega) (by rw [sst_ne (by omega)]; exact h6) (fun s hs => by rw [sst_ne (by omega)]; exact h1 s hs) (fun c hc => by rw [sst_self, if_pos (by omega), usm, hb, if_pos rfl])]
      congr 2
      rw [sst_sst]
      congr 1
      funext c
      rw [sst_self]
      by_cases q : c < 8
      · rw [if_pos q, if_pos q]
      · rw [if_neg q, if_neg q, if_neg (by omega)]
theorem users_eq {n d S : Nat} (hn : n ≤ 12) (hd : d < 12) (hS : S < 2 ^ n) {left : Nat → Nat} (hl : ∀ s, s < n → left s < 2 ^ 8) {σ : Sg} (h6 : σ 3 6 = nI n) (h1 : ∀ s, s < n → σ (41 + d) s = nI (left s)) :
    fX4_listUsers (nI d) (nI S) σ = some ((), sst σ (53 + d) (fun c => if c < 8 then nI (usm left S c n) else σ (53 + d) c)) := by
  rw [fX4_listUsers, gd_of (inb_ok hd (by omega)), zI_clamp (by omega), fill_eq, bd_some, show (0 : Int32) = nI 0 from rfl,
    users_loop hn hd hS hl n 0 FU _ (by omega) (by unfold FU; omega) (by rw [sst_ne (by omega)]; exact h6) (fun s hs => by rw [sst_ne (by omega)]; exact h1 s hs) (fun c hc => by rw [sst_self, if_pos hc, usm])]
  congr 2
  rw [sst_sst]
  congr 1
  funext c
  rw [sst_self]
  by_cases q : c < 8
  · rw [if_pos q, if_pos q]
  · rw [if_neg q, if_neg q, if_neg q]
theorem room_loop {d : Nat} (hd : d < 12) (b : Int32) (K : Int32 → Sg → Option (Int32 × Sg)) {σ : Sg} {u f : Nat → Nat} (hu : ∀ c, c < 8 → σ (53 + d) c = nI (u c) ∧ u c < 2 ^ 12 ∧ σ 39 (u c) = nI (f c)) : ∀ k c fuel, c + k = 8 → k < fuel →
    fX4_lacksRoom_5 (nI d) b K fuel (nI (sumTo f c)) (nI c) σ = K (nI (sumTo f 8)) σ := by
  intro k
  induction k with
  | zero =>
    intro c fuel hc hf
    obtain ⟨f', rfl, -⟩ := fuel_succ hf
    rw [fX4_lacksRoom_5, show (8 : Int32) = nI 8 from rfl, if_le (by decide) (by omega), if_pos (by omega), show c = 8 by omega]
  | succ k ih =>
    intro c fuel hc hf
    obtain ⟨f', rfl, hf⟩ := fuel_succ hf
    obtain ⟨e1, e2, e3⟩ := hu c (by omega)
    rw [fX4_lacksRoom_5, show (8 : Int32) = nI 8 from rfl, if_le (by decide) (by omega), if_neg (by omega), gd_of (inb_ok hd (by omega)), gd_of (inb_ok (by omega) (by omega)), zI_clamp (by omega), zI_clamp (by omega), e1, gd_of (inb_ok e2 (lt12_31 e2)), lt'_eq, zI_clamp (lt12_31 e2), e3, zI_add,
      show nI c + 1 = nI (c + 1) from zI_add c 1]
    exact ih (c + 1) f' (by omega) (by omega)
theorem room_eq {n d S : Nat} (hn : n ≤ 12) (hd : d < 12) (hS : S < 2 ^ n) {σ : Sg} {u f : Nat → Nat} (hu : ∀ c, c < 8 → σ (53 + d) c = nI (u c) ∧ u c < 2 ^ 12 ∧ σ 39 (u c) = nI (f c)) (hf : ∀ c, c < 8 → f c ≤ 12) :
    fX4_lacksRoom (nI d) (nI S) σ = some (if pc S ≤ sumTo f 8 then 0 else 1, σ) := by
  have hS12 : S < 2 ^ 12 := Nat.lt_of_lt_of_le hS (Nat.pow_le_pow_right (by decide) hn)
  have hle : sumTo f 8 ≤ sumTo (fun _ => 12) 8 := sumTo_le hf
  have h12 : sumTo (fun _ => 12) 8 = 96 := by decide
  have hpc := pc_le12 S
  have := room_loop hd (nI S) (fun (y4 : Int32) (σ10 : Sg) => if (pJ6_bitCount_0f7a4 (nI S)) ≤ y4 then (some ((0 : Int32), σ10)) else (some ((1 : Int32), σ10))) hu 8 0 FU (by omega) (by unfold FU; omega)
  rw [fX4_lacksRoom, show (0 : Int32) = nI 0 from rfl, show nI 0 = nI (sumTo f 0) from rfl]
  refine this.trans ?_
  rw [bitCount_nI hS12, if_le (by omega) (by omega)]
  split <;> rfl
theorem next_loop {n : Nat} {sm nx : Nat → Nat} (hg : Gr n sm nx) {S : Nat} (hS : S < 2 ^ n) {σ : Sg} (h6 : σ 3 6 = nI n) (h16 : ∀ s, s < 12 → σ 16 s = nI (nx s)) : ∀ k i fuel, i + k = n → k < fuel → (∀ s, s < i → S.testBit s = true → nx s &&& S = 0) →
    ∃ b : Bool, fX3_hasNextIn_2 (nI S) fuel (nI i) σ = some (if b then 1 else 0, σ) ∧ (b = false → ∀ s, s < n → S.testBit s = true → nx s &&& S = 0) := by
  have hn := hg.1
  have hS31 := hg.lt31 hS
  intro k
  induction k with
  | zero =>
    intro i fuel hi hf h
    obtain ⟨f', rfl, -⟩ := fuel_succ hf
    refine ⟨false, ?_, fun _ s hs => h s (by omega)⟩
    rw [fX3_hasNextIn_2, h6, if_le (by omega) (by omega), if_pos (by omega)]; rfl
  | succ k ih =>
    intro i fuel hi hf h
    obtain ⟨f', rfl, hf⟩ := fuel_succ hf
    rw [fX3_hasNextIn_2, h6, if_le (by omega) (by omega), if_neg (by omega)]
    simp only [jp_eq]
    rw [if_c hS31 (by omega), show nI i + 1 = nI (i + 1) from zI_add i 1]
    have go : (S.testBit i = true → nx i &&& S = 0) → ∃ b : Bool, fX3_hasNextIn_2 (nI S) f' (nI (i + 1)) σ = some (if b then 1 else 0, σ) ∧ (b = false → ∀ s, s < n → S.testBit s = true → nx s &&& S = 0) := fun h0 =>
      ih (i + 1) f' (by omega) (by omega) fun s hs hb => by
        rcases Nat.lt_or_ge s i with q | q
        · exact h s q hb
        · have q2 : s = i := by omega
          subst q2; exact h0 hb
    cases hb : S.testBit i with
    | false =>
      rw [if_neg (by decide)]
      exact go fun q => by rw [hb] at q; cases q
    | true =>
      rw [if_pos rfl, gd_of (inb_ok (by omega) (by omega)), zI_clamp (by omega), h16 i (by omega), zI_and, if_eq0 (lt12_31 (and_lt (hg.lt12 (hg.2.2.1 i))))]
      by_cases q : nx i &&& S = 0
      · rw [if_pos q]
        exact go fun _ => q
      · rw [if_neg q]
        exact ⟨true, rfl, fun q => by cases q⟩
theorem next_eq {n : Nat} {sm nx : Nat → Nat} (hg : Gr n sm nx) {S : Nat} (hS : S < 2 ^ n) {σ : Sg} (h6 : σ 3 6 = nI n) (h16 : ∀ s, s < 12 → σ 16 s = nI (nx s)) :
    ∃ b : Bool, fX3_hasNextIn (nI S) σ = some (if b then 1 else 0, σ) ∧ (b = false → ∀ s, s < n → S.testBit s = true → nx s &&& S = 0) :=
  next_loop hg hS h6 h16 n 0 FU (by omega) (by unfold FU; have := hg.1; omega) fun s hs => absurd hs (Nat.not_lt_zero s)
theorem give_loop {n : Nat} {sm nx : Nat → Nat} (hg : Gr n sm nx) {s c d : Nat} (hs : s < n) (hc : c < 8) (hd : d + 1 < 12) {left : Nat → Nat} : ∀ k i fuel (σ : Sg), i + k = n → k < fuel → σ 3 6 = nI n → (∀ s, s < 12 → σ 15 s = nI (sm s) ∧ σ 16 s = nI (nx s)) → (∀ s, s < n → σ (41 + d) s = nI (left s)) →
    fX4_give_17 (nI s) (nI d) (nI (2 ^ c)) fuel (nI i) σ = some ((), sst σ (41 + (d + 1)) (fun j => if i ≤ j ∧ j < n then nI (giv sm nx s c left j) else σ (41 + (d + 1)) j)) := by
  have hn := hg.1
  have hsh : ∀ c : Nat, c < 8 → nI (2 ^ c) <<< ((1 : Int32) &&& 31) = nI (2 ^ (c + 1)) ∧ nI (2 ^ c) >>> ((1 : Int32) &&& 31) = nI (2 ^ c >>> 1) := by decide +kernel
  intro k
  induction k with
  | zero =>
    intro i fuel σ hi hf h6 h1 h2
    obtain ⟨f', rfl, -⟩ := fuel_succ hf
    rw [fX4_give_17, h6, if_le (by omega) (by omega), if_pos (by omega)]
    have : (fun j => if i ≤ j ∧ j < n then nI (giv sm nx s c left j) else σ (41 + (d + 1)) j) = σ (41 + (d + 1)) := by
      funext j
      rw [if_neg (by omega)]
    rw [this, sst_id]
  | succ k ih =>
    intro i fuel σ hi hf h6 h1 h2
    obtain ⟨f', rfl, hf⟩ := fuel_succ hf
    rw [fX4_give_17, h6, if_le (by omega) (by omega), if_neg (by omega), gd_of (inb_ok (show s < 12 by omega) (by omega))]
    simp only [jp_eq, lt'_eq]
    rw [zI_clamp (show s < 2 ^ 31 by omega), (h1 s (by omega)).1, (h1 s (by omega)).2, if_c (hg.lt31 (hg.2.1 s)) (by omega), show nI i + 1 = nI (i + 1) from zI_add i 1, show nI d + 1 = nI (d + 1) from zI_add d 1]
    have tail : ∀ y : Nat, y = (if (sm s).testBit i then 2 ^ c else 0) ||| (if (nx s).testBit i then (2 ^ (c + 1) ||| (2 ^ c >>> 1)) else 0) →
        (gd (inb (nI (d + 1)) 12) (gd (inb (nI d) 12) (gd (inb (nI i) 12) (gd (inb (nI i) 12) (fX4_give_17 (nI s) (nI d) (nI (2 ^ c)) f' (nI (i + 1)) (sup σ (41 + (nI (d + 1)).toNatClampNeg) (nI i).toNatClampNeg ((σ (41 + (nI d).toNatClampNeg) (nI i).toNatClampNeg) &&& (nI y ^^^ (-1 : Int32)))))))))
        = some ((), sst σ (41 + (d + 1)) (fun j => if i ≤ j ∧ j < n then nI (giv sm nx s c left j) else σ (41 + (d + 1)) j)) := by
      intro y hy
      rw [gd_of (inb_ok hd (by omega)), gd_of (inb_ok (by omega) (by omega)), gd_of (inb_ok (by omega) (by omega)), gd_of (inb_ok (by omega) (by omega)), zI_clamp (by omega), zI_clamp (by omega), zI_clamp (by omega), h2 i (by omega), zI_ndf, hy]
      rw [ih (i + 1) f' _ (by omega) (by omega) (by rw [sup_ne (by omega)]; exact h6) (fun s hs => by rw [sup_ne (by omega), sup_ne (by omega)]; exact h1 s hs) (fun s hs => by rw [sup_ne (by omega)]; exact h2 s hs)]
      congr 2
      rw [sst_sup]
      congr 1
      funext j
      rw [sup_self, upd_app]
      by_cases q : j = i
      · subst q
        rw [if_neg (show ¬(j + 1 ≤ j ∧ j < n) by omega), if_pos (show j = j from rfl), if_pos (show j ≤ j ∧ j < n by omega)]; rfl
      · rw [if_neg q]
        by_cases q2 : i ≤ j ∧ j < n
        · rw [if_pos q2, if_pos (by omega)]
        · rw [if_neg q2, if_neg (by omega)]
    simp only [gd_of (inb_ok (show s < 12 by omega) (show s < 2 ^ 31 by omega))]
    rw [(hsh c hc).1, (hsh c hc).2, if_c (hg.lt31 (hg.2.2.1 s)) (by omega), if_c (hg.lt31 (hg.2.2.1 s)) (by omega), zI_or]
    cases q1 : (sm s).testBit i <;> cases q2 : (nx s).testBit i
    · rw [if_neg (by decide), if_neg (by decide)]
      exact tail 0 (by rw [q1, q2]; simp)
    · rw [if_neg (by decide), if_pos rfl, show (0 : Int32) = nI 0 from rfl, zI_or]
      exact tail _ (by rw [q1, q2, if_neg (by decide), if_pos rfl])
    · rw [if_pos rfl, if_neg (by decide)]
      exact tail _ (by rw [q1, q2, if_pos rfl, if_neg (by decide), Nat.or_zero])
    · rw [if_pos rfl, if_pos rfl, zI_or]
      exact tail _ (by rw [q1, q2, if_pos rfl, if_pos rfl])
theorem give_eq {n : Nat} {sm nx : Nat → Nat} (hg : Gr n sm nx) {s c d : Nat} (hs : s < n) (hc : c < 8) (hd : d + 1 < 12) {left : Nat → Nat} {σ : Sg} (h6 : σ 3 6 = nI n) (h1 : ∀ s, s < 12 → σ 15 s = nI (sm s) ∧ σ 16 s = nI (nx s)) (h2 : ∀ s, s < n → σ (41 + d) s = nI (left s)) :
    fX4_give (nI c) (nI s) (nI d) σ = some ((), sst σ (41 + (d + 1)) (fun j => if j < n then nI (giv sm nx s c left j) else σ (41 + (d + 1)) j)) := by
  have hn := hg.1
  rw [fX4_give, show nI d + 1 = nI (d + 1) from zI_add d 1, show (12 : Int32) = nI 12 from rfl, if_lt (by omega) (by decide), if_pos hd, lt'_eq, zI_one_shl (by omega), show (0 : Int32) = nI 0 from rfl, give_loop hg hs hc hd n 0 FU σ (by omega) (by unfold FU; omega) h6 h1 h2]
  simp
theorem give_12 {c s d : Nat} (hd : d = 11) (σ : Sg) : fX4_give (nI c) (nI s) (nI d) σ = some ((), σ) := by
  rw [fX4_give, show nI d + 1 = nI (d + 1) from zI_add d 1, show (12 : Int32) = nI 12 from rfl, if_lt (by omega) (by decide), if_neg (by omega)]
theorem twin_loop {d c x : Nat} (hd : d < 12) (hc : c < 8) (hx : x < 2 ^ 8) {σ : Sg} {u : Nat → Nat} (hu : ∀ c, c < 8 → σ (53 + d) c = nI (u c) ∧ u c < 2 ^ 12) : ∀ k i fuel, i + k = c → k < fuel →
    ∃ r, fX4_twinOf_3 (nI c) (nI x) (nI d) fuel (nI i) σ = some (r, σ) ∧ (r = -1 ∨ ∃ o, o < c ∧ r = nI o ∧ x.testBit o = true ∧ u o = u c) := by
  intro k
  induction k with
  | zero =>
    intro i fuel hi hf
    obtain ⟨f', rfl, -⟩ := fuel_succ hf
    refine ⟨-1, ?_, Or.inl rfl⟩
    rw [fX4_twinOf_3, if_le (by omega) (by omega), if_pos (by omega)]
  | succ k ih =>
    intro i fuel hi hf
    obtain ⟨f', rfl, hf⟩ := fuel_succ hf
    rw [fX4_twinOf_3, if_le (by omega) (by omega), if_neg (by omega)]
    simp only [jp_eq]
    rw [if_c (lt8_31 hx) (by omega), show nI i + 1 = nI (i + 1) from zI_add i 1]
    cases hb : x.testBit i with
    | false =>
      rw [if_neg (by decide)]
      exact ih (i + 1) f' (by omega) (by omega)
    | true =>
      rw [if_pos rfl, gd_of (inb_ok hd (by omega)), gd_of (inb_ok (by omega) (by omega)), gd_of (inb_ok hd (by omega)), gd_of (inb_ok hc (by omega)), zI_clamp (by omega), zI_clamp (by omega), zI_clamp (by omega), (hu i (by omega)).1, (hu c hc).1, if_eq (lt12_31 (hu i (by omega)).2) (lt12_31 (hu c hc).2)]
      by_cases q : u i = u c
      · rw [if_pos q]
        exact ⟨nI i, rfl, Or.inr ⟨i, by omega, rfl, hb, q⟩⟩
      · rw [if_neg q]
        exact ih (i + 1) f' (by omega) (by omega)
theorem twin_eq {d c x : Nat} (hd : d < 12) (hc : c < 8) (hx : x < 2 ^ 8) {σ : Sg} {u : Nat → Nat} (hu : ∀ c, c < 8 → σ (53 + d) c = nI (u c) ∧ u c < 2 ^ 12) :
    ∃ r, fX4_twinOf (nI c) (nI x) (nI d) σ = some (r, σ) ∧ (r = -1 ∨ ∃ o, o < c ∧ r = nI o ∧ x.testBit o = true ∧ u o = u c) :=
  twin_loop hd hc hx hu c 0 FU (by omega) (by unfold FU; omega)
