/-! Layer 2, 25: the fewest channels -/
/-- a set of channels that is enough -/
def enough (M : Mk) (S c : Nat) : Bool := decide (ndf c M.av = 0) && decide (0 < M.cnt c S)
def enk (M : Mk) (S k : Nat) : Bool := (List.range 256).any fun c => enough M S c && decide (pc c = k)
def rnn (M : Mk) (S : Nat) : Nat → Nat
  | 0 => 8
  | i + 1 => if enough M S i && decide (pc i < rnn M S i) then pc i else rnn M S i
theorem rnn_spec (M : Mk) (S : Nat) : ∀ i, rnn M S i ≤ 8 ∧ (rnn M S i < 8 → ∃ c, c < i ∧ enough M S c = true ∧ pc c = rnn M S i) ∧ ∀ c, c < i → enough M S c = true → rnn M S i ≤ pc c := by
  intro i
  induction i with
  | zero => exact ⟨Nat.le_refl 8, fun h => absurd h (by unfold rnn; omega), fun c h => absurd h (Nat.not_lt_zero c)⟩
  | succ i ih =>
    obtain ⟨a, b, c⟩ := ih
    rw [rnn]
    by_cases q : (enough M S i && decide (pc i < rnn M S i)) = true
    · rw [if_pos q]
      rw [Bool.and_eq_true, decide_eq_true_eq] at q
      refine ⟨by omega, fun _ => ⟨i, by omega, q.1, rfl⟩, fun d hd he => ?_⟩
      rcases Nat.lt_or_ge d i with z | z
      · have := c d z he
        omega
      · rw [show d = i by omega]
        exact Nat.le_refl _
    · rw [if_neg q]
      refine ⟨a, fun h => ?_, fun d hd he => ?_⟩
      · obtain ⟨d, h1, h2, h3⟩ := b h
        exact ⟨d, by omega, h2, h3⟩
      · rcases Nat.lt_or_ge d i with z | z
        · exact c d z he
        · have e : d = i := by omega
          rw [e] at he ⊢
          rw [Bool.and_eq_true, decide_eq_true_eq, he] at q
          have : ¬ pc i < rnn M S i := fun z => q ⟨rfl, z⟩
          omega
theorem lst_none {p : Nat → Bool} : ∀ k c, (∀ d, c ≤ d → d < c + k → p d = false) → lst p k c = c + k := by
  intro k
  induction k with
  | zero => intro c _; rfl
  | succ k ih =>
    intro c h
    rw [lst, h c (Nat.le_refl c) (by omega), if_neg (by decide), ih (c + 1) (fun d h1 h2 => h d (by omega) (by omega))]
    omega
theorem rnn_lst (M : Mk) (S : Nat) : rnn M S 256 = lst (enk M S) 8 0 := by
  obtain ⟨a, b, c⟩ := rnn_spec M S 256
  have hge : ∀ k, enk M S k = true → rnn M S 256 ≤ k := by
    intro k hk
    obtain ⟨d, h1, h2⟩ := List.any_eq_true.mp hk
    rw [Bool.and_eq_true, decide_eq_true_eq] at h2
    rw [← h2.2]
    exact c d (List.mem_range.mp h1) h2.1
  rcases Nat.lt_or_ge (rnn M S 256) 8 with q | q
  · obtain ⟨d, h1, h2, h3⟩ := b q
    have hk : enk M S (rnn M S 256) = true := List.any_eq_true.mpr ⟨d, List.mem_range.mpr h1, by rw [h2, h3, decide_eq_true rfl]; rfl⟩
    obtain ⟨-, h5, h6, h7⟩ := lst_spec (p := enk M S) 8 0 ⟨_, Nat.zero_le _, by omega, hk⟩
    have := hge _ h6
    rcases Nat.lt_or_ge (rnn M S 256) (lst (enk M S) 8 0) with z | z
    · rw [h7 _ (Nat.zero_le _) z] at hk
      exact absurd hk (by decide)
    · omega
  · rw [lst_none 8 0]
    · omega
    · intro d _ hd
      cases hk : enk M S d with
      | false => rfl
      | true =>
        have := hge d hk
        omega
/-! the reference -/
theorem rnd_loop {M : Mk} (hM : M.WF) {S : Nat} (hS : S < 2 ^ M.n) : ∀ k i fuel (σ : Sg), i + k = 256 → k < fuel → RefM (σ 1) M →
    ∃ τ, fX7_channelsNeeded_49 (nI S) fuel (nI (rnn M S i)) (nI i) σ = some (nI (rnn M S 256), τ) ∧ RpF σ τ := by
  intro k
  induction k with
  | zero =>
    intro i fuel σ hi hf h
    obtain ⟨f', rfl, -⟩ := fuel_succ hf
    have e : i = 256 := by omega
    refine ⟨σ, ?_, RpF.refl σ⟩
    rw [fX7_channelsNeeded_49, show (255 : Int32) = nI 255 from rfl, if_lt (by decide) (by omega), if_pos (by omega), e]
  | succ k ih =>
    intro i fuel σ hi hf h
    obtain ⟨f', rfl, hf⟩ := fuel_succ hf
    have hi12 : i < 2 ^ 12 := by omega
    have hpc : pc i ≤ 12 := pc_le12 i
    have hr := (rnn_spec M S i).1
    rw [fX7_channelsNeeded_49, show (255 : Int32) = nI 255 from rfl, if_lt (by decide) (by omega), if_neg (by omega), h.2.1, zI_ndf]
    simp only [jp_eq]
    have hnd : ndf i M.av < 2 ^ 31 := Nat.lt_trans (ndf_lt hi12) (by decide)
    rw [if_eq0 hnd, zs_add]
    by_cases q1 : ndf i M.av = 0
    · rw [if_pos q1, cb_eq hi12, bd_some, if_le (by omega) (by omega)]
      by_cases q2 : rnn M S i ≤ pc i
      · rw [if_pos q2]
        have e : rnn M S (i + 1) = rnn M S i := by rw [rnn, if_neg (by rw [decide_eq_false (by omega : ¬ pc i < rnn M S i), Bool.and_false]; decide)]
        have := ih (i + 1) f' σ (by omega) (by omega) h
        rw [e] at this
        exact this
      · rw [if_neg q2]
        obtain ⟨τ, e1, f1⟩ := with_eq hM hS (a := i) h
        rw [e1, bd_some]
        have r1 := h.rp f1
        by_cases q3 : 0 < M.cnt i S
        · rw [if_pos q3, if_neg (by decide), cb_eq hi12, bd_some]
          have e : rnn M S (i + 1) = pc i := by
            rw [rnn, if_pos]
            unfold enough
            rw [decide_eq_true q1, decide_eq_true q3, decide_eq_true (by omega : pc i < rnn M S i)]
            rfl
          obtain ⟨υ, e2, f2⟩ := ih (i + 1) f' τ (by omega) (by omega) r1
          rw [e] at e2
          exact ⟨υ, e2, f1.trans f2⟩
        · rw [if_neg q3, if_pos rfl]
          have e : rnn M S (i + 1) = rnn M S i := by
            rw [rnn, if_neg]
            unfold enough
            rw [decide_eq_false q3, Bool.and_false, Bool.false_and]
            decide
          obtain ⟨υ, e2, f2⟩ := ih (i + 1) f' τ (by omega) (by omega) r1
          rw [e] at e2
          exact ⟨υ, e2, f1.trans f2⟩
    · rw [if_neg q1]
      have e : rnn M S (i + 1) = rnn M S i := by
        rw [rnn, if_neg]
        unfold enough
        rw [decide_eq_false q1, Bool.false_and, Bool.false_and]
        decide
      have := ih (i + 1) f' σ (by omega) (by omega) h
      rw [e] at this
      exact this
/-! the class -/
def Few (M : Mk) (S num' i : Nat) : Prop := ∃ c, i ≤ c ∧ c < 256 ∧ enough M S c = true ∧ pc c = num'
theorem few_in {B : Nat} {M : Mk} {S num' : Nat} (hS : S < 2 ^ M.n) (hnum : num' < 2 ^ 31) (K : Sg → Option (Int32 × Sg)) : ∀ k i fuel (σ : Sg), i + k = 256 → k < fuel → PkI B M σ →
    ∃ τ, ((Few M S num' i ∧ fX4_fewestChannels_10 (nI S) (nI num') K fuel (nI i) σ = some (nI num', τ)) ∨ (¬ Few M S num' i ∧ fX4_fewestChannels_10 (nI S) (nI num') K fuel (nI i) σ = K τ)) ∧ PkF σ τ ∧ PkI B M τ := by
  intro k
  induction k with
  | zero =>
    intro i fuel σ hi hf h
    obtain ⟨f', rfl, -⟩ := fuel_succ hf
    refine ⟨σ, Or.inr ⟨?_, ?_⟩, PkF.refl σ, h⟩
    · rintro ⟨c, h1, h2, -⟩
      omega
    · rw [fX4_fewestChannels_10, show (255 : Int32) = nI 255 from rfl, if_lt (by decide) (by omega), if_pos (by omega)]
  | succ k ih =>
    intro i fuel σ hi hf h
    obtain ⟨f', rfl, hf⟩ := fuel_succ hf
    have hi12 : i < 2 ^ 12 := by omega
    have hpc : pc i ≤ 12 := pc_le12 i
    have step : (¬ (enough M S i = true ∧ pc i = num')) → (Few M S num' (i + 1) ↔ Few M S num' i) := by
      intro hno
      constructor
      · rintro ⟨c, h1, h2⟩
        exact ⟨c, by omega, h2⟩
      · rintro ⟨c, h1, h2, h3⟩
        rcases Nat.eq_or_lt_of_le h1 with e | e
        · rw [← e] at h3
          exact absurd h3 hno
        · exact ⟨c, e, h2, h3⟩
    rw [fX4_fewestChannels_10, show (255 : Int32) = nI 255 from rfl, if_lt (by decide) (by omega), if_neg (by omega), h.1.2.2.1, zI_ndf, bitCount_nI hi12]
    simp only [jp_eq]
    have hnd : ndf i M.av < 2 ^ 31 := Nat.lt_trans (ndf_lt hi12) (by decide)
    rw [if_eq0 hnd, if_eq (by omega) hnum, zs_add]
    have tail : ∀ τ, PkF σ τ → PkI B M τ → (¬ (enough M S i = true ∧ pc i = num')) → ∃ υ, ((Few M S num' i ∧ fX4_fewestChannels_10 (nI S) (nI num') K f' (nI (i + 1)) τ = some (nI num', υ)) ∨ (¬ Few M S num' i ∧ fX4_fewestChannels_10 (nI S) (nI num') K f' (nI (i + 1)) τ = K υ)) ∧ PkF σ υ ∧ PkI B M υ := by
      intro τ hf1 hp hno
      obtain ⟨υ, e1, f1, p1⟩ := ih (i + 1) f' τ (by omega) (by omega) hp
      rw [step hno] at e1
      exact ⟨υ, e1, hf1.trans f1, p1⟩
    by_cases q1 : pc i = num'
    · rw [if_pos q1]
      by_cases q2 : ndf i M.av = 0
      · rw [if_pos q2]
        obtain ⟨τ1, e1, f1, l1, -, p1⟩ := allow_pk h (a := i)
        rw [e1, bd_some]
        obtain ⟨τ2, e2, f2, -, k2, p2⟩ := solutions_eq h.2.1.1 hS (Nat.le_refl 1) (by decide) (lf_lt h.2.1 i) p1.1.1 p1.rows.2 l1 p1.2.2.1
        have hp2 : PkI B M τ2 := ⟨p1.1.pk f2, p1.2.1, p2, p1.2.2.2.keep f2.2 k2⟩
        rw [show (1 : Int32) = nI 1 from rfl, e2, bd_some, show (0 : Int32) = nI 0 from rfl, if_le (by omega) (by decide)]
        by_cases q3 : 0 < M.cnt i S
        · have q3' : 0 < num M.sm M.nx (els S) (M.lf i) := q3
          rw [if_neg (by omega)]
          refine ⟨τ2, Or.inl ⟨⟨i, Nat.le_refl i, by omega, ?_, q1⟩, rfl⟩, f1.trans f2, hp2⟩
          unfold enough
          rw [decide_eq_true q2, decide_eq_true q3]
          rfl
        · have q3' : ¬ 0 < num M.sm M.nx (els S) (M.lf i) := q3
          rw [if_pos (by omega)]
          refine tail τ2 (f1.trans f2) hp2 ?_
          unfold enough
          rw [decide_eq_false q3, Bool.and_false]
          exact fun z => absurd z.1 (by decide)
      · rw [if_neg q2]
        refine tail σ (PkF.refl σ) h ?_
        unfold enough
        rw [decide_eq_false q2, Bool.false_and]
        exact fun z => absurd z.1 (by decide)
    · rw [if_neg q1]
      exact tail σ (PkF.refl σ) h fun z => q1 z.2
theorem enk_iff (M : Mk) (S k : Nat) : enk M S k = true ↔ Few M S k 0 := by
  unfold enk Few
  rw [List.any_eq_true]
  constructor
  · rintro ⟨c, h1, h2⟩
    rw [Bool.and_eq_true, decide_eq_true_eq] at h2
    exact ⟨c, Nat.zero_le c, List.mem_range.mp h1, h2⟩
  · rintro ⟨c, -, h1, h2, h3⟩
    exact ⟨c, List.mem_range.mpr h1, by rw [h2, h3, decide_eq_true rfl]; rfl⟩
theorem few_out {B : Nat} {M : Mk} {S : Nat} (hS : S < 2 ^ M.n) : ∀ k i fuel (σ : Sg), i + k = 8 → k < fuel → PkI B M σ →
    ∃ τ, fX4_fewestChannels_2 (nI S) fuel (nI i) σ = some (nI (lst (enk M S) k i), τ) ∧ PkF σ τ ∧ PkI B M τ := by
  intro k
  induction k with
  | zero =>
    intro i fuel σ hi hf h
    obtain ⟨f', rfl, -⟩ := fuel_succ hf
    have e : i = 8 := by omega
    refine ⟨σ, ?_, PkF.refl σ, h⟩
    rw [fX4_fewestChannels_2, show (8 : Int32) = nI 8 from rfl, if_le (by decide) (by omega), if_pos (by omega), lst, e]
  | succ k ih =>
    intro i fuel σ hi hf h
    obtain ⟨f', rfl, hf⟩ := fuel_succ hf
    obtain ⟨F, hF8, hFe⟩ : ∃ F, 256 < F ∧ FU = F := ⟨FU, by unfold FU; omega, rfl⟩
    rw [fX4_fewestChannels_2, show (8 : Int32) = nI 8 from rfl, if_le (by decide) (by omega), if_neg (by omega), hFe, show (0 : Int32) = nI 0 from rfl, zs_add]
    obtain ⟨τ, e1, f1, p1⟩ := few_in hS (show i < 2 ^ 31 by omega) (fun (σ16 : Sg) => fX4_fewestChannels_2 (nI S) f' (nI (i + 1)) σ16) 256 0 F σ (by omega) (by omega) h
    rw [lst]
    rcases e1 with ⟨q, e1⟩ | ⟨q, e1⟩
    · rw [if_pos ((enk_iff M S i).mpr q), e1]
      exact ⟨τ, rfl, f1, p1⟩
    · rw [if_neg fun z => q ((enk_iff M S i).mp z), e1]
      obtain ⟨υ, e2, f2, p2⟩ := ih (i + 1) f' τ (by omega) (by omega) p1
      exact ⟨υ, e2, f1.trans f2, p2⟩
theorem few_eq {B : Nat} {M : Mk} {S : Nat} (hS : S < 2 ^ M.n) {σ : Sg} (h : PkI B M σ) : ∃ τ, fX4_fewestChannels (nI S) σ = some (nI (rnn M S 256), τ) ∧ PkF σ τ ∧ PkI B M τ := by
  rw [rnn_lst, fX4_fewestChannels, show (0 : Int32) = nI 0 from rfl]
  exact few_out hS 8 0 FU σ (by omega) (by unfold FU; omega) h
