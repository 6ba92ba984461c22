/-! Layer 2, 9: the class's search, its callers -/
theorem els_pow : ∀ s : Nat, s < 12 → els (2 ^ s) = [s] := by decide +kernel
theorem pc_two {R s : Nat} (hs : s < 12) (h : R.testBit s = true) (hR : R < 2 ^ 12) (hne : R ≠ 2 ^ s) : 2 ≤ pc R := by
  rw [pc_take hs h]
  refine Nat.succ_le_succ (Nat.one_le_iff_ne_zero.mpr fun h0 => hne ?_)
  have : els (ndf R (2 ^ s)) = [] := List.eq_nil_of_length_eq_zero (by rw [pc_els]; exact h0)
  refine Nat.eq_of_testBit_eq fun i => ?_
  rw [tb_pow]
  by_cases q : i = s
  · rw [q, h, decide_eq_true rfl]
  · rw [decide_eq_false q]
    cases q2 : R.testBit i with
    | false => rfl
    | true =>
      have : i ∈ els (ndf R (2 ^ s)) := mem_els.mpr ⟨tb_lt hR q2, by rw [ndf_testBit, tb_pow, q2, decide_eq_false q]; rfl⟩
      rw [‹els (ndf R (2 ^ s)) = []›] at this
      cases this
theorem pc_pos0 {S : Nat} (hS : S < 2 ^ 12) (h : pc S = 0) : S = 0 := by
  have : els S = [] := List.eq_nil_of_length_eq_zero (by rw [pc_els]; exact h)
  refine Nat.eq_of_testBit_eq fun i => ?_
  rw [tb_zero]
  cases q : S.testBit i with
  | false => rfl
  | true =>
    have h2 : i ∈ els S := mem_els.mpr ⟨tb_lt hS q, q⟩
    rw [this] at h2; cases h2
def srT (F : Nat) (self : Int32 → Int32 → Int32 → Sg → Option (Int32 × Sg)) (a c v2 r5 x10 : Int32) (σ14 : Sg) : Option (Int32 × Sg) :=
  bd (fX4_lacksRoom a v2 σ14) (fun (r15 : Int32) (σ16 : Sg) => if r15 = 0 then (bd (fX3_hasNextIn v2 σ16) (fun (r19 : Int32) (σ20 : Sg) =>
    if r19 = 0 then (fX4_search_138 a c v2 r5 x10 1 self (fun (y27 : Int32) (σ57 : Sg) => some ((if c < y27 then c else y27), σ57)) F (0 : Int32) (0 : Int32) σ20)
    else (fX4_search_138 a c v2 r5 x10 0 self (fun (y27 : Int32) (σ57 : Sg) => some ((if c < y27 then c else y27), σ57)) F (0 : Int32) (0 : Int32) σ20)))
    else (some ((0 : Int32), σ16)))
def srR (F : Nat) (self : Int32 → Int32 → Int32 → Sg → Option (Int32 × Sg)) (a c v2 : Int32) (σ3 : Sg) : Option (Int32 × Sg) :=
  if v2 = 0 then (some ((1 : Int32), σ3)) else (bd (fX4_tightest a v2 σ3) (fun (r5 : Int32) (σ6 : Sg) => gd (inb a 12) (gd (inb r5 12)
    (if v2 = ((1 : Int32) <<< (r5 &&& 31)) then (some ((if (pJ6_bitCount_0f7a4 (σ6 (41 + a.toNatClampNeg) r5.toNatClampNeg)) < c then (pJ6_bitCount_0f7a4 (σ6 (41 + a.toNatClampNeg) r5.toNatClampNeg)) else c), σ6))
     else (bd (fX4_listUsers a v2 σ6) (fun (_ : Unit) (σ12 : Sg) => if (σ12 2 6) = (σ12 2 8) then (srT F self a c v2 r5 (σ6 (41 + a.toNatClampNeg) r5.toNatClampNeg) σ12)
      else (bd (fX4_measureSharing σ12) (fun (_ : Unit) (σ60 : Sg) => srT F self a c v2 r5 (σ6 (41 + a.toNatClampNeg) r5.toNatClampNeg) σ60))))))))
theorem srB (self : Int32 → Int32 → Int32 → Sg → Option (Int32 × Sg)) (a b c : Int32) (σ : Sg) : fX4_searchB self a b c σ =
    if a < (12 : Int32) then (if c = (1 : Int32) then (bd (fX4_withoutEasy a b σ) (fun (r63 : Int32) (σ64 : Sg) => srR FU self a c r63 σ64)) else (srR FU self a c b σ)) else (if b = 0 then (some ((1 : Int32), σ)) else (some ((0 : Int32), σ))) := rfl
theorem search_eq {n : Nat} {sm nx : Nat → Nat} (hg : Gr n sm nx) : ∀ fuel d S l left (σ : Sg), 12 < fuel + d → d + pc S ≤ 12 → S < 2 ^ n → 1 ≤ l → l ≤ 1000 → (∀ s, s < n → left s < 2 ^ 8) → SrP n sm nx d left σ →
    ∃ τ, fX4_search fuel (nI d) (nI S) (nI l) σ = some (nI (min l (num sm nx (els S) left)), τ) ∧ SrF d σ τ ∧ ShInv n sm τ := by
  have hn := hg.1
  intro fuel
  induction fuel with
  | zero => intro d S l left σ h1 h2; omega
  | succ fuel ih =>
    intro d S l left σ h1 h2 hS hl1 hl hleft hP
    have hS12 := hg.lt12 hS
    rw [fX4_search, srB, show (12 : Int32) = nI 12 from rfl, if_lt (by omega) (by decide)]
    obtain ⟨F, hF8, hFe⟩ : ∃ F, 8 < F ∧ FU = F := ⟨FU, by unfold FU; omega, rfl⟩
    rw [hFe]
    by_cases hd : d < 12
    · rw [if_pos hd]
      -- what follows once the easy ones are left out
      have rest : ∀ R, R < 2 ^ n → pc R ≤ pc S → min l (num sm nx (els S) left) = min l (num sm nx (els R) left) →
          ∃ τ, srR F (fun a b c σ => fX4_search fuel a b c σ) (nI d) (nI l) (nI R) σ =
            some (nI (min l (num sm nx (els S) left)), τ) ∧ SrF d σ τ ∧ ShInv n sm τ := by
        intro R hR hpc hmin
        have hR12 := hg.lt12 hR
        rw [hmin, srR, if_eq0 (lt12_31 hR12)]
        by_cases hR0 : R = 0
        · rw [if_pos hR0]
          refine ⟨σ, ?_, SrF.refl d σ, hP.2.2.2⟩
          rw [hR0, els_zero, num, Nat.min_eq_right hl1]; rfl
        · rw [if_neg hR0]
          obtain ⟨s, hs, hsR, et⟩ := tight_eq hn hd hR hR0 hP.1 (fun s hs => ⟨left s, hleft s hs, hP.2.2.1 hd s hs⟩) fun s hs => ⟨sm s, nx s, hP.2.1 s (by omega)⟩
          have hx8 := hleft s hs
          rw [et, bd_some, gd_of (inb_ok hd (by omega)), gd_of (inb_ok (show s < 12 by omega) (by omega)), zI_clamp (show d < 2 ^ 31 by omega), zI_clamp (show s < 2 ^ 31 by omega), hP.2.2.1 hd s hs, zI_one_shl (by omega), if_eq (lt12_31 hR12) (pow_lt31 (by omega))]
          by_cases hone : R = 2 ^ s
          · rw [if_pos hone]
            refine ⟨σ, ?_, SrF.refl d σ, hP.2.2.2⟩
            have hp := pc_le12 (left s)
            rw [bitCount_nI (lt8_12 hx8), if_lt (by omega) (by omega), hone, els_pow s (by omega), num_one s left hx8]
            split
            · rw [Nat.min_eq_right (by omega)]
            · rw [Nat.min_eq_left (by omega)]
          · rw [if_neg hone]
            have h2R := pc_two (show s < 12 by omega) hsR hR12 hone
            have hd1 : d + 1 < 12 := by omega
            rw [users_eq hn hd hR hleft hP.1 (hP.2.2.1 hd), bd_some]
            -- what follows once the table stands
            have tbl : ∀ σ', SrF d σ σ' → ShInv n sm σ' → (∀ c, c < 8 → σ' (53 + d) c = nI (usm left R c n)) → (∃ T, ShOK sm n T ∧ ∀ U, U < 2 ^ n → σ' 39 U = nI (T U)) →
                ∃ τ, srT F (fun a b c σ => fX4_search fuel a b c σ) (nI d) (nI l) (nI R) (nI s) (nI (left s)) σ' =
                some (nI (min l (num sm nx (els R) left)), τ) ∧ SrF d σ τ ∧ ShInv n sm τ := by
              rintro σ' hfr hsh hu ⟨T, hT, hTe⟩
              have hP' := hP.frame hfr (Nat.le_refl d) hsh
              rw [srT, room_eq hn hd hR (u := fun c => usm left R c n) (f := fun c => T (usm left R c n)) (fun c hc => ⟨hu c hc, hg.lt12 (usm_lt left R c n), hTe _ (usm_lt left R c n)⟩) (fun c hc => Nat.le_trans (hT _ (usm_lt left R c n)).1 hn), bd_some]
              by_cases hroom : pc R ≤ sumTo (fun c => T (usm left R c n)) 8
              · rw [if_pos hroom, if_pos rfl]
                obtain ⟨b, e1, e2⟩ := next_eq hg hR hP'.1 fun s hs => (hP'.2.1 s hs).2
                rw [e1, bd_some]
                have go : ∀ v : Int32, (v = 0 ∨ ∀ s, s < n → R.testBit s = true → nx s &&& R = 0) → ∃ τ, (fX4_search_138 (nI d) (nI l) (nI R) (nI s) (nI (left s)) v (fun a b c σ => fX4_search fuel a b c σ) (fun (y27 : Int32) (σ57 : Sg) => some ((if nI l < y27 then nI l else y27), σ57)) F (0 : Int32) (0 : Int32) σ') =
                    some (nI (min l (num sm nx (els R) left)), τ) ∧ SrF d σ τ ∧ ShInv n sm τ := by
                  intro v hv
                  rw [show (0 : Int32) = nI 0 from rfl]
                  obtain ⟨τ, t', f1, f2, f3, f4, f5⟩ := srch_loop hg hd1 hR hs hsR hl hleft hv (fun a b c σ => fX4_search fuel a b c σ) (fun (y27 : Int32) (σ57 : Sg) => some ((if nI l < y27 then nI l else y27), σ57))
                    (fun l' left' σ' a b c e => by
                      refine ih (d + 1) (ndf R (2 ^ s)) l' left' σ' (by omega) ?_ (ndf_lt hR) a b c e
                      have := pc_take (show s < 12 by omega) hsR
                      omega) 8 0 F σ' 0 (by omega) hF8 (by simp [sumTo]) (by omega) hP' hu (fun _ c' hc' => absurd hc' (Nat.not_lt_zero c'))
                  refine ⟨τ, ?_, hfr.trans f4, f5⟩
                  refine f1.trans ?_
                  rw [num_take hg.2.2.2.1 hg.2.2.2.2.1 (show s < 12 by omega) hsR, if_lt (by omega) (by omega)]
                  split
                  · congr 3; omega
                  · congr 3; omega
                cases b with
                | true =>
                  rw [if_neg (show ¬ ((if true = true then (1 : Int32) else 0) = 0) by decide)]
                  exact go 0 (Or.inl rfl)
                | false =>
                  rw [if_pos (show (if false = true then (1 : Int32) else 0) = 0 by decide)]
                  exact go 1 (Or.inr (e2 rfl))
              · rw [if_neg hroom, if_neg (by decide)]
                refine ⟨σ', ?_, hfr, hsh⟩
                rw [no_room hn hT hg.2.2.2.1 hg.2.2.2.2.2.1 hR (us := fun c => usm left R c n) (fun c hc => ⟨usm_lt left R c n, fun s => by
                  rw [usm_tb]
                  cases q : R.testBit s with
                  | false => simp
                  | true => rw [decide_eq_true (tb_lt hR q)]; rfl⟩) (Nat.lt_of_not_le hroom), Nat.min_eq_right (Nat.zero_le _)]
                rfl
            obtain ⟨u, v, a1, a2, a3, a4, a5, a6⟩ := hP.2.2.2
            have hfr1 : SrF d σ (sst σ (53 + d) (fun c => if c < 8 then nI (usm left R c n) else σ (53 + d) c)) := ⟨fun k a b c e f => sst_ne (by omega), by rw [sst_ne (by omega)]⟩
            rw [show (sst σ (53 + d) (fun c => if c < 8 then nI (usm left R c n) else σ (53 + d) c)) 2 6 = nI u from by rw [sst_ne (by omega)]; exact a1, show (sst σ (53 + d) (fun c => if c < 8 then nI (usm left R c n) else σ (53 + d) c)) 2 8 = nI v from by rw [sst_ne (by omega)]; exact a2, if_eq (by omega) (by omega)]
            by_cases huv : u = v
            · rw [if_pos huv]
              exact tbl _ hfr1 (hP.2.2.2.same (sst_ne (by omega)) (sst_ne (by omega))) (fun c hc => by rw [sst_self, if_pos hc]) (by
                obtain ⟨T, t1, t2⟩ := a6 huv
                exact ⟨T, t1, fun U hU => by rw [sst_ne (by omega)]; exact t2 U hU⟩)
            · rw [if_neg huv]
              obtain ⟨r, T, m1, m2, m3, m4⟩ := shr_eq hg (σ := sst σ (53 + d) (fun c => if c < 8 then nI (usm left R c n) else σ (53 + d) c)) (by rw [sst_ne (by omega)]; exact hP.1) (fun s hs => by rw [sst_ne (by omega)]; exact (hP.2.1 s hs).1) (by rw [sst_ne (by omega)]; exact a5)
              rw [m1, bd_some]
              refine tbl _ (hfr1.trans ⟨fun k a b c e f => by rw [sst_ne a, sup_ne b], by rw [sst_ne (by decide), sup_self, upd_app, if_neg (by decide)]⟩) ⟨v, v, ?_, ?_, a3, Nat.le_refl v, by rw [sst_self]; exact m4, fun _ => ⟨T, m2, fun U hU => by rw [sst_self]; exact m3 U hU⟩⟩ (fun c hc => by
                rw [sst_ne (by omega), sup_ne (by omega), sst_self, if_pos hc]) ⟨T, m2, fun U hU => by rw [sst_self]; exact m3 U hU⟩
              · rw [sst_ne (by decide), sup_self, upd_app, if_pos rfl, sst_ne (by omega)]; exact a2
              · rw [sst_ne (by decide), sup_self, upd_app, if_neg (by decide), sst_ne (by omega)]; exact a2
      rw [if_eq1 (by omega)]
      by_cases hl1' : l = 1
      · rw [if_pos hl1']
        obtain ⟨y, e1, e2, e3⟩ := easy_eq hg hd hS hleft hP.1 hP.2.1 (hP.2.2.1 hd)
        rw [e1, bd_some]
        refine rest y (lt_of_tb fun i hi => tb_lt hS (e2 i hi)) (pc_le fun i _ hi => e2 i hi) ?_
        rw [hl1']
        omega
      · rw [if_neg hl1']
        exact rest S hS (Nat.le_refl _) rfl
    · rw [if_neg hd, if_eq0 (lt12_31 hS12)]
      have hS0 : S = 0 := pc_pos0 hS12 (by omega)
      rw [if_pos hS0]
      refine ⟨σ, ?_, SrF.refl d σ, hP.2.2.2⟩
      rw [hS0, els_zero, num, Nat.min_eq_right hl1]; rfl
