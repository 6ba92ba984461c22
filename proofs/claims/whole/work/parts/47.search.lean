/-! Layer 2, 8: the class's search counts assignments up to its limit -/
def ShInv (n : Nat) (sm : Nat → Nat) (σ : Sg) : Prop := ∃ u v, σ 2 6 = nI u ∧ σ 2 8 = nI v ∧ v < 2 ^ 20 ∧ u ≤ v ∧ σ 39 0 = nI 0 ∧ (u = v → ∃ T, ShOK sm n T ∧ ∀ U, U < 2 ^ n → σ 39 U = nI (T U))
def SrF (d : Nat) (σ τ : Sg) : Prop := (∀ k, k ≠ 39 → k ≠ 2 → ¬(41 + d < k ∧ k ≤ 52) → ¬(53 + d ≤ k ∧ k ≤ 64) → ¬(65 + d ≤ k ∧ k ≤ 76) → τ k = σ k) ∧ τ 2 8 = σ 2 8
theorem SrF.refl (d : Nat) (σ : Sg) : SrF d σ σ := ⟨fun _ _ _ _ _ _ => rfl, rfl⟩
theorem SrF.trans {d : Nat} {σ τ υ : Sg} (h : SrF d σ τ) (h2 : SrF d τ υ) : SrF d σ υ := ⟨fun k a b c e f => (h2.1 k a b c e f).trans (h.1 k a b c e f), h2.2.trans h.2⟩
theorem SrF.up {d : Nat} {σ τ : Sg} (h : SrF (d + 1) σ τ) : SrF d σ τ := ⟨fun k a b c e f => h.1 k a b (fun q => c (by omega)) (fun q => e (by omega)) (fun q => f (by omega)), h.2⟩
theorem ShInv.same {n : Nat} {sm : Nat → Nat} {σ τ : Sg} (h : ShInv n sm σ) (h2 : τ 2 = σ 2) (h39 : τ 39 = σ 39) : ShInv n sm τ := by
  obtain ⟨u, v, a, b, c, e, f, g⟩ := h
  exact ⟨u, v, by rw [h2]; exact a, by rw [h2]; exact b, c, e, by rw [h39]; exact f, fun q => by obtain ⟨T, h3, h4⟩ := g q; exact ⟨T, h3, fun U hU => by rw [h39]; exact h4 U hU⟩⟩
/-- what a search at depth d finds in the state -/
def SrP (n : Nat) (sm nx : Nat → Nat) (d : Nat) (left : Nat → Nat) (σ : Sg) : Prop :=
  σ 3 6 = nI n ∧ (∀ s, s < 12 → σ 15 s = nI (sm s) ∧ σ 16 s = nI (nx s)) ∧ (d < 12 → ∀ s, s < n → σ (41 + d) s = nI (left s)) ∧ ShInv n sm σ
theorem SrP.frame {n : Nat} {sm nx : Nat → Nat} {d d' : Nat} {left : Nat → Nat} {σ τ : Sg} (h : SrP n sm nx d left σ) (hf : SrF d' σ τ) (hd : d ≤ d') (hs : ShInv n sm τ) : SrP n sm nx d left τ := by
  obtain ⟨a, b, c, -⟩ := h
  refine ⟨by rw [hf.1 3 (by decide) (by decide) (by omega) (by omega) (by omega)]; exact a, fun s hs => ?_, fun h12 s hs => ?_, hs⟩
  · rw [hf.1 15 (by decide) (by decide) (by omega) (by omega) (by omega), hf.1 16 (by decide) (by decide) (by omega) (by omega) (by omega)]; exact b s hs
  · rw [hf.1 (41 + d) (by omega) (by omega) (by omega) (by omega) (by omega)]; exact c h12 s hs
theorem srch_loop {n : Nat} {sm nx : Nat → Nat} (hg : Gr n sm nx) {d R s l : Nat} (hd : d + 1 < 12) (hR : R < 2 ^ n) (hs : s < n) (hsR : R.testBit s = true) (hl : l ≤ 1000) {left : Nat → Nat} (hleft : ∀ s, s < n → left s < 2 ^ 8) {v : Int32} (hv : v = 0 ∨ ∀ s, s < n → R.testBit s = true → nx s &&& R = 0)
    (self : Int32 → Int32 → Int32 → Sg → Option (Int32 × Sg)) (K : Int32 → Sg → Option (Int32 × Sg))
    (hself : ∀ l' left' σ', 1 ≤ l' → l' ≤ 1000 → (∀ s, s < n → left' s < 2 ^ 8) → SrP n sm nx (d + 1) left' σ' → ∃ τ, self (nI (d + 1)) (nI (ndf R (2 ^ s))) (nI l') σ' = some (nI (min l' (num sm nx (els (ndf R (2 ^ s))) left')), τ) ∧ SrF (d + 1) σ' τ ∧ ShInv n sm τ) :
    ∀ k c fuel (σ : Sg) t, c + k = 8 → k < fuel → min l t = min l (sumTo (fun c => if (left s).testBit c then num sm nx (els (ndf R (2 ^ s))) (giv sm nx s c left) else 0) c) → t ≤ 2 * l → SrP n sm nx d left σ → (∀ c, c < 8 → σ (53 + d) c = nI (usm left R c n)) →
      (t < l → ∀ c', c' < c → (left s).testBit c' = true → σ (65 + d) c' = nI (num sm nx (els (ndf R (2 ^ s))) (giv sm nx s c' left))) →
      ∃ τ t', fX4_search_138 (nI d) (nI l) (nI R) (nI s) (nI (left s)) v self K fuel (nI t) (nI c) σ = K (nI t') τ ∧ min l t' = min l (sumTo (fun c => if (left s).testBit c then num sm nx (els (ndf R (2 ^ s))) (giv sm nx s c left) else 0) 8) ∧ t' ≤ 2 * l ∧ SrF d σ τ ∧ ShInv n sm τ := by
  have hn := hg.1
  intro k
  induction k with
  | zero =>
    intro c fuel σ t hc hf ht ht2 hP hu hF
    obtain ⟨f', rfl, -⟩ := fuel_succ hf
    refine ⟨σ, t, ?_, ?_, ht2, SrF.refl d σ, hP.2.2.2⟩
    · rw [fX4_search_138, show (8 : Int32) = nI 8 from rfl, if_le (by decide) (by omega), if_pos (by omega)]
    · rw [ht, show c = 8 by omega]
  | succ k ih =>
    intro c fuel σ t hc hf ht ht2 hP hu hF
    obtain ⟨f', rfl, hf⟩ := fuel_succ hf
    have hc8 : c < 8 := by omega
    rw [fX4_search_138, show (8 : Int32) = nI 8 from rfl, if_le (by decide) (by omega), if_neg (by omega), if_le (by omega) (by omega)]
    by_cases hlt : l ≤ t
    · rw [if_pos hlt]
      refine ⟨σ, t, rfl, ?_, ht2, SrF.refl d σ, hP.2.2.2⟩
      have h1 : sumTo (fun c => if (left s).testBit c then num sm nx (els (ndf R (2 ^ s))) (giv sm nx s c left) else 0) c ≤ sumTo (fun c => if (left s).testBit c then num sm nx (els (ndf R (2 ^ s))) (giv sm nx s c left) else 0) 8 := sumTo_mono _ (by omega)
      omega
    · rw [if_neg hlt]
      simp only [jp_eq, lt'_eq]
      rw [if_c (lt8_31 (hleft s hs)) (by omega), zs_add c]
      cases hb : (left s).testBit c with
      | false =>
        rw [if_neg (by decide)]
        refine ih (c + 1) f' σ t (by omega) (by omega) ?_ ht2 hP hu ?_
        · rw [sumTo, if_neg (by rw [hb]; decide), Nat.add_zero]; exact ht
        · intro h c' hc' hb'
          rcases Nat.lt_or_ge c' c with q | q
          · exact hF h c' q hb'
          · rw [show c' = c by omega, hb] at hb'; cases hb'
      | true =>
        rw [if_pos rfl]
        -- after the number for this channel is known
        have ht1 : t ≤ l := by omega
        have tail : ∀ (σ' : Sg) (y : Nat), min l (t + y) = min l (t + num sm nx (els (ndf R (2 ^ s))) (giv sm nx s c left)) → t + y ≤ 2 * l → (t + y < l → y = num sm nx (els (ndf R (2 ^ s))) (giv sm nx s c left)) → SrF d σ σ' → ShInv n sm σ' → (∀ c, c < 8 → σ' (53 + d) c = nI (usm left R c n)) → σ' (65 + d) c = nI y → (∀ c', c' < c → σ' (65 + d) c' = σ (65 + d) c') →
            ∃ τ t', (gd (inb (nI d) 12) (gd (inb (nI c) 8) (fX4_search_138 (nI d) (nI l) (nI R) (nI s) (nI (left s)) v self K f' (nI t + (σ' (65 + (nI d).toNatClampNeg) (nI c).toNatClampNeg)) (nI (c + 1)) σ'))) = K (nI t') τ ∧ min l t' = min l (sumTo (fun c => if (left s).testBit c then num sm nx (els (ndf R (2 ^ s))) (giv sm nx s c left) else 0) 8) ∧ t' ≤ 2 * l ∧ SrF d σ τ ∧ ShInv n sm τ := by
          intro σ' y hy1 hy2 hy3 hfr hsh hu' hfo hold
          rw [gd_of (inb_ok (by omega) (by omega)), gd_of (inb_ok hc8 (by omega)), zI_clamp (by omega), zI_clamp (by omega), hfo, zI_add]
          have hsum : sumTo (fun c => if (left s).testBit c then num sm nx (els (ndf R (2 ^ s))) (giv sm nx s c left) else 0) (c + 1) = sumTo (fun c => if (left s).testBit c then num sm nx (els (ndf R (2 ^ s))) (giv sm nx s c left) else 0) c + num sm nx (els (ndf R (2 ^ s))) (giv sm nx s c left) := by
            rw [sumTo, if_pos hb]
          obtain ⟨τ, t', e1, e1a, e1b, e2, e3⟩ := ih (c + 1) f' σ' (t + y) (by omega) (by omega) (by rw [hsum]; omega) hy2 (hP.frame hfr (Nat.le_refl d) hsh) hu' (fun h c' hc' hb' => by
            rcases Nat.lt_or_ge c' c with q | q
            · rw [hold c' q]; exact hF (by omega) c' q hb'
            · have q2 : c' = c := by omega
              subst q2
              rw [hfo, hy3 h])
          exact ⟨τ, t', e1, e1a, e1b, hfr.trans e2, e3⟩
        -- the number by a search
        have bySearch : ∃ τ t', (if (-1 : Int32) = (-1 : Int32) then (bd (fX4_give (nI c) (nI s) (nI d) σ) (fun (_ : Unit) (σ40 : Sg) => gd (inb (nI d) 12) (bd (self (nI d + (1 : Int32)) (nI R &&& (((1 : Int32) <<< (nI s &&& 31)) ^^^ (-1 : Int32))) (nI l - nI t) σ40) (fun (r43 : Int32) (σ44 : Sg) => gd (inb (nI c) 8) (gd (inb (nI d) 12) (gd (inb (nI c) 8) (fX4_search_138 (nI d) (nI l) (nI R) (nI s) (nI (left s)) v self K f' (nI t + (sup σ44 (65 + (nI d).toNatClampNeg) (nI c).toNatClampNeg r43 (65 + (nI d).toNatClampNeg) (nI c).toNatClampNeg)) (nI (c + 1)) (sup σ44 (65 + (nI d).toNatClampNeg) (nI c).toNatClampNeg r43)))))))) else
            (gd (inb (nI d) 12) (gd (inb (nI d) 12) (gd (inb (-1 : Int32) 8) (gd (inb (nI c) 8) (gd (inb (nI d) 12) (gd (inb (nI c) 8) (fX4_search_138 (nI d) (nI l) (nI R) (nI s) (nI (left s)) v self K f' (nI t + (sup σ (65 + (nI d).toNatClampNeg) (nI c).toNatClampNeg (σ (65 + (nI d).toNatClampNeg) (-1 : Int32).toNatClampNeg) (65 + (nI d).toNatClampNeg) (nI c).toNatClampNeg)) (nI (c + 1)) (sup σ (65 + (nI d).toNatClampNeg) (nI c).toNatClampNeg (σ (65 + (nI d).toNatClampNeg) (-1 : Int32).toNatClampNeg)))))))))) = K (nI t') τ ∧ min l t' = min l (sumTo (fun c => if (left s).testBit c then num sm nx (els (ndf R (2 ^ s))) (giv sm nx s c left) else 0) 8) ∧ t' ≤ 2 * l ∧ SrF d σ τ ∧ ShInv n sm τ := by
          rw [if_pos rfl, give_eq hg hs hc8 hd hP.1 hP.2.1 (hP.2.2.1 (by omega)), bd_some, gd_of (inb_ok (by omega) (by omega)), zs_add d, zI_one_shl (by omega), zI_ndf, zI_sub ht1]
          obtain ⟨τ, e1, e2, e3⟩ := hself (l - t) (giv sm nx s c left) (sst σ (41 + (d + 1)) (fun j => if j < n then nI (giv sm nx s c left j) else σ (41 + (d + 1)) j)) (by omega) (by omega) (fun o ho => ndf_lt (hleft o ho))
            ⟨by rw [sst_ne (by omega)]; exact hP.1, fun s hs => by rw [sst_ne (by omega), sst_ne (by omega)]; exact hP.2.1 s hs, fun _ o ho => by rw [sst_self, if_pos ho], hP.2.2.2.same (sst_ne (by omega)) (sst_ne (by omega))⟩
          have hfr1 : SrF d σ τ := SrF.trans ⟨fun k a b c e f => sst_ne (by omega), by rw [sst_ne (by omega)]⟩ e2.up
          rw [e1, bd_some, gd_of (inb_ok hc8 (by omega)), zI_clamp (by omega), zI_clamp (by omega)]
          have := tail (sup τ (65 + d) c (nI (min (l - t) (num sm nx (els (ndf R (2 ^ s))) (giv sm nx s c left))))) (min (l - t) (num sm nx (els (ndf R (2 ^ s))) (giv sm nx s c left))) (by omega) (by omega) (by omega) (hfr1.trans ⟨fun k a b c e f => sup_ne (by omega), by rw [sup_ne (by omega)]⟩) (e3.same (sup_ne (by omega)) (sup_ne (by omega)))
            (fun c' hc' => by
              rw [sup_ne (by omega), e2.1 (53 + d) (by omega) (by omega) (by omega) (by omega) (by omega), sst_ne (by omega)]; exact hu c' hc') (by rw [sup_self, upd_app, if_pos rfl]) (fun c' hc' => by
              rw [sup_self, upd_app, if_neg (by omega), e2.1 (65 + d) (by omega) (by omega) (by omega) (by omega) (by omega), sst_ne (by omega)])
          rwa [zI_clamp (by omega), zI_clamp (by omega)] at this
        rcases hv with hv | hv
        · rw [if_pos hv]
          exact bySearch
        · by_cases hv0 : v = 0
          · rw [if_pos hv0]
            exact bySearch
          · rw [if_neg hv0]
            have husm : ∀ c, c < 8 → σ (53 + d) c = nI (usm left R c n) ∧ usm left R c n < 2 ^ 12 := fun c hc => ⟨hu c hc, hg.lt12 (usm_lt left R c n)⟩
            obtain ⟨r, e1, e2⟩ := twin_eq (d := d) (c := c) (by omega) hc8 (hleft s hs) husm
            rw [e1, bd_some]
            rcases e2 with rfl | ⟨o, ho, rfl, hbo, huo⟩
            · exact bySearch
            · rw [if_neg (zI_neg1 (by omega)), gd_of (inb_ok (by omega) (by omega)), gd_of (inb_ok (by omega) (by omega)), gd_of (inb_ok (by omega) (by omega)), gd_of (inb_ok hc8 (by omega)), zI_clamp (show d < 2 ^ 31 by omega), zI_clamp (show c < 2 ^ 31 by omega), zI_clamp (show o < 2 ^ 31 by omega)]
              have hx := hF (by omega) o ho hbo
              have htw : num sm nx (els (ndf R (2 ^ s))) (giv sm nx s o left) = num sm nx (els (ndf R (2 ^ s))) (giv sm nx s c left) := by
                refine num_twin (by omega) hc8 (by omega) hsR (fun a ha b hb => ?_) (fun a ha => ?_)
                · have h1 := hv a (tb_lt hR (mem_els.mp ha).2) (mem_els.mp ha).2
                  have h2 := congrArg (fun z => z.testBit b) h1
                  simp only [Nat.testBit_and, tb_zero, (mem_els.mp hb).2, Bool.and_true] at h2
                  exact h2
                · have h1 := congrArg (fun z => z.testBit a) huo
                  simp only [usm_tb, (mem_els.mp ha).2, decide_eq_true (tb_lt hR (mem_els.mp ha).2), Bool.true_and] at h1
                  exact h1
              have hlo : num sm nx (els (ndf R (2 ^ s))) (giv sm nx s o left) ≤ sumTo (fun c => if (left s).testBit c then num sm nx (els (ndf R (2 ^ s))) (giv sm nx s c left) else 0) c := by
                have := sumTo_mono (fun c => if (left s).testBit c then num sm nx (els (ndf R (2 ^ s))) (giv sm nx s c left) else 0) (show o + 1 ≤ c by omega)
                rw [sumTo, if_pos hbo] at this
                omega
              have htl : t < l := by omega
              have := tail (sup σ (65 + d) c (σ (65 + d) o)) (num sm nx (els (ndf R (2 ^ s))) (giv sm nx s o left)) (by rw [htw]) (by omega) (fun _ => htw) ⟨fun k a b c e f => sup_ne (by omega), by rw [sup_ne (by omega)]⟩ (hP.2.2.2.same (sup_ne (by omega)) (sup_ne (by omega)))
                (fun c' hc' => by rw [sup_ne (by omega)]; exact hu c' hc') (by rw [sup_self, upd_app, if_pos rfl, hx]) (fun c' hc' => by rw [sup_self, upd_app, if_neg (by omega)])
              rwa [zI_clamp (by omega), zI_clamp (by omega)] at this
