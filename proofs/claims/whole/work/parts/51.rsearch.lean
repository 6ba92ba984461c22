/-! Layer 2, 12: the reference's search counts assignments up to its limit -/
theorem around_all : ∀ c : Nat, c < 8 → (if nI c ≤ 0 then (0 : Int32) else (1 : Int32) <<< ((nI c - (1 : Int32)) &&& 31)) ||| ((1 : Int32) <<< (nI (c + 1) &&& 31)) = nI (2 ^ (c + 1) ||| (2 ^ c >>> 1)) := by decide +kernel
theorem rsrch_loop {n : Nat} {sm nx : Nat → Nat} (hg : Gr n sm nx) {d R s l f0 : Nat} (hd : d < 12) (hR : R < 2 ^ n) (hs : s < n) (hl : l ≤ 1000) {left : Nat → Nat} (hleft : ∀ s, s < n → left s < 2 ^ 8)
    (self : Int32 → Int32 → Int32 → Sg → Option (Unit × Sg)) (K : Sg → Option (Unit × Sg)) (F : Nat) (hF : 12 < F) (hFe : FU = F)
    (hself : ∀ f left' σ', f < l → (∀ s, s < n → left' s < 2 ^ 8) → RsP n sm nx σ' → (∀ s, s < n → σ' (10 + (d + 1)) s = nI (left' s)) → σ' 0 14 = nI f → ∃ τ, self (nI (d + 1)) (nI (ndf R (2 ^ s))) (nI l) σ' = some ((), τ) ∧ τ 0 14 = nI (min l (f + num sm nx (els (ndf R (2 ^ s))) left')) ∧ RsF (d + 1) σ' τ) :
    ∀ k c fuel (σ : Sg), c + k = 8 → k < fuel → σ 0 14 = nI (min l (f0 + sumTo (fun c => if (left s).testBit c then num sm nx (els (ndf R (2 ^ s))) (giv sm nx s c left) else 0) c)) → RsP n sm nx σ → (∀ s, s < n → σ (10 + d) s = nI (left s)) →
      ∃ τ, fX7_search_26 (nI d) (nI R) (nI l) (nI s) self K fuel (nI c) σ = K τ ∧ τ 0 14 = nI (min l (f0 + sumTo (fun c => if (left s).testBit c then num sm nx (els (ndf R (2 ^ s))) (giv sm nx s c left) else 0) 8)) ∧ RsF d σ τ := by
  have hn := hg.1
  intro k
  induction k with
  | zero =>
    intro c fuel σ hc hf ht hP hL
    obtain ⟨f', rfl, -⟩ := fuel_succ hf
    refine ⟨σ, ?_, ?_, RsF.refl d σ⟩
    · rw [fX7_search_26, show (8 : Int32) = nI 8 from rfl, if_le (by decide) (by omega), if_pos (by omega)]
    · rw [ht, show c = 8 by omega]
  | succ k ih =>
    intro c fuel σ hc hf ht hP hL
    obtain ⟨f', rfl, hf⟩ := fuel_succ hf
    have hc8 : c < 8 := by omega
    rw [fX7_search_26, show (8 : Int32) = nI 8 from rfl, if_le (by decide) (by omega), if_neg (by omega), ht, if_le (by omega) (by omega)]
    by_cases hlt : l ≤ min l (f0 + sumTo (fun c => if (left s).testBit c then num sm nx (els (ndf R (2 ^ s))) (giv sm nx s c left) else 0) c)
    · rw [if_pos hlt]
      refine ⟨σ, rfl, ?_, RsF.refl d σ⟩
      have h1 : sumTo (fun c => if (left s).testBit c then num sm nx (els (ndf R (2 ^ s))) (giv sm nx s c left) else 0) c ≤ sumTo (fun c => if (left s).testBit c then num sm nx (els (ndf R (2 ^ s))) (giv sm nx s c left) else 0) 8 := sumTo_mono _ (by omega)
      rw [ht]
      congr 1
      omega
    · rw [if_neg hlt, gd_of (inb_ok (by omega) (by omega)), gd_of (inb_ok (show s < 12 by omega) (by omega))]
      simp only [jp_eq, lt'_eq]
      rw [zI_clamp (show d < 2 ^ 31 by omega), zI_clamp (show s < 2 ^ 31 by omega), hL s hs, if_h (lt8_31 (hleft s hs)) (by omega), zs_add c, hFe]
      cases hb : (left s).testBit c with
      | false =>
        rw [if_neg (by decide)]
        refine ih (c + 1) f' σ (by omega) (by omega) ?_ hP hL
        rw [sumTo, if_neg (by rw [hb]; decide), Nat.add_zero]; exact ht
      | true =>
        rw [if_pos rfl]
        have go : ∀ x15 : Int32, x15 = nI (2 ^ (c + 1) ||| (2 ^ c >>> 1)) → ∃ τ, fX7_search_85 (nI d) (nI R) (nI l) (nI s) (nI c) x15 (fun (σ33 : Sg) => bd (self (nI d + (1 : Int32)) (nI R &&& (((1 : Int32) <<< (nI s &&& 31)) ^^^ (-1 : Int32))) (nI l) σ33) (fun (_ : Unit) (σ34 : Sg) => fX7_search_26 (nI d) (nI R) (nI l) (nI s) self K f' (nI (c + 1)) σ34)) F (0 : Int32) σ = K τ ∧
            τ 0 14 = nI (min l (f0 + sumTo (fun c => if (left s).testBit c then num sm nx (els (ndf R (2 ^ s))) (giv sm nx s c left) else 0) 8)) ∧ RsF d σ τ := by
          intro x15 hx
          rw [hx, show (0 : Int32) = nI 0 from rfl, rgive_loop hg hs hc8 hd (nI R) (nI l) _ n 0 F σ (by omega) (by omega) hP hL, zs_add, zI_one_shl (by omega), zI_ndf]
          have hf1 : RsF d σ (sst σ (10 + (d + 1)) (fun j => if 0 ≤ j ∧ j < n then nI (giv sm nx s c left j) else σ (10 + (d + 1)) j)) := ⟨fun k a b => sst_ne (by omega), fun j a => by rw [sst_ne (by omega)]⟩
          obtain ⟨τ, e1, e2, e3⟩ := hself _ (giv sm nx s c left) _ (Nat.lt_of_not_le hlt) (fun o ho => ndf_lt (hleft o ho)) (hP.frame hf1) (fun o ho => by rw [sst_self, if_pos ⟨Nat.zero_le _, ho⟩]) (by rw [sst_ne (by omega)]; exact ht)
          rw [e1, bd_some]
          have hf2 := hf1.trans e3.up
          obtain ⟨τ2, g1, g2, g3⟩ := ih (c + 1) f' τ (by omega) (by omega) (by
            rw [e2, sumTo, if_pos hb]
            congr 1
            omega) (hP.frame hf2) (fun o ho => by rw [e3.1 (10 + d) (by omega) (by omega), sst_ne (by omega)]; exact hL o ho)
          exact ⟨τ2, g1, g2, hf2.trans g3⟩
        have ha := around_all c hc8
        by_cases q : nI c ≤ 0
        · rw [if_pos q] at ha ⊢
          exact go _ ha
        · rw [if_neg q] at ha ⊢
          exact go _ ha
theorem rsearch_eq {n : Nat} {sm nx : Nat → Nat} (hg : Gr n sm nx) : ∀ fuel d S l f left (σ : Sg), 12 < fuel + d → d + pc S ≤ 12 → S < 2 ^ n → f < l → l ≤ 1000 → (∀ s, s < n → left s < 2 ^ 8) → RsP n sm nx σ → (∀ s, s < n → σ (10 + d) s = nI (left s)) → σ 0 14 = nI f →
    ∃ τ, fX7_search fuel (nI d) (nI S) (nI l) σ = some ((), τ) ∧ τ 0 14 = nI (min l (f + num sm nx (els S) left)) ∧ RsF d σ τ := by
  have hn := hg.1
  intro fuel
  induction fuel with
  | zero => intro d S l f left σ h1 h2; omega
  | succ fuel ih =>
    intro d S l f left σ h1 h2 hS hf hl hleft hP hL h14
    obtain ⟨F, hF8, hFe⟩ : ∃ F, 12 < F ∧ FU = F := ⟨FU, by unfold FU; omega, rfl⟩
    rw [fX7_search, fX7_searchB, if_eq0 (lt12_31 (hg.lt12 hS)), hFe]
    by_cases hS0 : S = 0
    · rw [if_pos hS0, lt'_eq, h14, zs_add]
      refine ⟨_, rfl, ?_, fun k a b => sup_ne a, fun j a => by rw [sup_self, upd_app, if_neg a]⟩
      rw [sup_self, upd_app, if_pos rfl, hS0, els_zero, num, Nat.min_eq_right (by omega)]
    · rw [if_neg hS0]
      obtain ⟨s, hs, hsS, et⟩ := rtight_eq hn (d := d) (by omega) hS hS0 hP.1 fun s hs => ⟨left s, hleft s hs, hL s hs⟩
      have hpc := pc_take (show s < 12 by omega) hsS
      rw [et, bd_some, show (0 : Int32) = nI 0 from rfl]
      obtain ⟨τ, e1, e2, e3⟩ := rsrch_loop (f0 := f) hg (show d < 12 by omega) hS hs hl hleft (fun a b c σ => fX7_search fuel a b c σ) (fun (σ37 : Sg) => some ((), σ37)) F hF8 hFe
        (fun f' left' σ' a b c e g => ih (d + 1) (ndf S (2 ^ s)) l f' left' σ' (by omega) (by omega) (ndf_lt hS) a hl b c e g) 8 0 F σ (by omega) (by omega) (by
          rw [h14, sumTo, Nat.add_zero, Nat.min_eq_right (by omega)]) hP hL
      refine ⟨τ, e1, ?_, e3⟩
      rw [e2, num_take hg.2.2.2.1 hg.2.2.2.2.1 (show s < 12 by omega) hsS]
