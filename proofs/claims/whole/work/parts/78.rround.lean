/-! Layer 2, 39: the reference plays a round -/
theorem stt_one {M : Mk} {A : Au} {k s : Nat} : nI (stt M A k s) = 1 ↔ (bidk M A k).testBit s = true := by
  unfold stt
  constructor
  · intro h
    split at h
    · next q => exact q
    · split at h <;> exact absurd h (by decide)
  · intro h
    rw [if_pos h]
    rfl
theorem rrall_loop {M : Mk} (hM : M.WF) {m : Nat} {R : Nat → Nat} (hR : Rkd M m R) {A : Au} (hA : AucOK M A) (K : Sg → Option (Unit × Sg)) : ∀ k j fuel (σ : Sg), j + k = m → k < fuel → RefM (σ 1) M → AucM (σ 1) M (rall M R A j) →
    ∃ τ, fX7_considerAll_2 K fuel (nI j) σ = K τ ∧ RW σ τ ∧ AucM (τ 1) M (rall M R A m) := by
  have hn := hM.1.1
  have hm := hR.1
  intro k
  induction k with
  | zero =>
    intro j fuel σ hj hf hr h
    obtain ⟨f', rfl, -⟩ := fuel_succ hf
    obtain ⟨v, e1, hv⟩ := ranked_eq hM hR (nI j) hr
    have hv1 : v = -1 := by
      rcases hv with ⟨i, h1, h2, -⟩ | ⟨-, h2⟩
      · have := (zI_inj (by omega) (by omega)).mp h2
        omega
      · exact h2
    refine ⟨σ, ?_, RW.refl σ, ?_⟩
    · rw [fX7_considerAll_2, e1, bd_some, hv1, if_pos (by decide)]
    · rw [← show j = m by omega]
      exact h
  | succ k ih =>
    intro j fuel σ hj hf hr h
    obtain ⟨f', rfl, hf⟩ := fuel_succ hf
    have hjm : j < m := by omega
    have hRn := tb_lt hM.2.2.1 (hR.2.1 j hjm)
    obtain ⟨v, e1, hv⟩ := ranked_eq hM hR (nI j) hr
    have hv1 : v = nI (R j) := by
      rcases hv with ⟨i, h1, h2, h3⟩ | ⟨h1, -⟩
      · rw [h3, (zI_inj (by omega) (by omega)).mp h2]
      · exact absurd rfl (h1 j hjm)
    have hok := rall_ok hM (R := R) hA j
    rw [fX7_considerAll_2, e1, bd_some, hv1, if_neg (zI_nn (by omega)), e1, bd_some, hv1, stof_eq hok.1 hok.2.2.2.2.2.2.1 hn h hRn, bd_some]
    simp only [jp_eq]
    rw [e1, bd_some, hv1, zs_add]
    by_cases q : (bidk M (rall M R A j) (rall M R A j).m).testBit (R j) = true
    · rw [if_pos (stt_one.mpr q)]
      obtain ⟨τ, e2, f2, x2⟩ := rconsider_eq hM hok hr h q
      rw [e2, bd_some]
      obtain ⟨υ, e3, f3, x3⟩ := ih (j + 1) f' τ (by omega) (by omega) (hr.rw hn f2) (by rw [rall, rstep, if_pos q]; exact x2)
      exact ⟨υ, e3, f2.trans f3, x3⟩
    · rw [if_neg (fun z => q (stt_one.mp z))]
      exact ih (j + 1) f' σ (by omega) (by omega) hr (by rw [rall, rstep, if_neg q]; exact h)
theorem rfall_loop {M : Mk} (hM : M.WF) {A : Au} (hA : AucOK M A) (h0 : A.bs A.now = 0) (K : Sg → Option (Unit × Sg)) : ∀ k i fuel (σ : Sg), i + k = M.n → k < fuel → RefM (σ 1) M → AucM (σ 1) M (fall M A i) →
    ∃ τ, fX7_considerAll_40 K fuel (nI i) σ = K τ ∧ RW σ τ ∧ AucM (τ 1) M (fall M A M.n) := by
  have hn := hM.1.1
  intro k
  induction k with
  | zero =>
    intro i fuel σ hi hf hr h
    obtain ⟨f', rfl, -⟩ := fuel_succ hf
    refine ⟨σ, ?_, RW.refl σ, ?_⟩
    · rw [fX7_considerAll_40, hr.1, if_le (by omega) (by omega), if_pos (by omega)]
    · rw [show M.n = i by omega]
      exact h
  | succ k ih =>
    intro i fuel σ hi hf hr h
    obtain ⟨f', rfl, hf⟩ := fuel_succ hf
    have hin : i < M.n := by omega
    have hok := fall_ok (M := M) hA i
    have hnow := hok.1
    have hb0 : (fall M A i).bs (fall M A i).now = 0 := by rw [(fall_now M A i).1, (fall_now M A i).2]; exact h0
    rw [fX7_considerAll_40, hr.1, if_le (by omega) (by omega), if_neg (by omega), h.1, show (112 : Int32) = nI 112 from rfl, zI_add, gd_of (inb_ok (by omega) (by omega)), zI_clamp (by omega), (h.2.1 _ (Nat.le_refl _)).1, hb0, if_pos (show nI 0 = (0 : Int32) from rfl), stof_eq hok.1 hok.2.2.2.2.2.2.1 hn h hin, bd_some]
    simp only [jp_eq]
    rw [zs_add]
    by_cases q : (bidk M (fall M A i) (fall M A i).m).testBit i = true
    · have hm := ev_room hM hok.2.2.2.2.1 q
      have hc : σ 1 (214 + (fall M A i).now) = nI (fall M A i).m := by rw [(h.2.1 _ (Nat.le_refl _)).2.1, hok.2.2.2.2.2.2.1]
      rw [if_pos (stt_one.mpr q), sset_eq h.1 hnow (by omega), bd_some, show (88 : Int32) = nI 88 from rfl, zI_add, gd_of (inb_ok (by omega) (by omega)), lt'_eq, zI_clamp (by omega), show (2 : Int32) = nI 2 from rfl, rnote_eq (m := (fall M A i).m) (now := (fall M A i).now) (by rw [sup_self, upd_app, if_neg (by omega), sup_self, upd_app, if_neg (by omega)]; exact h.1) hnow (by rw [sup_self, upd_app, if_neg (by omega), sup_self, upd_app, if_neg (by omega)]; exact hc) hm (by omega) (by decide), bd_some]
      have f2 : RW σ (sup (sup (sup (sup σ 1 (316 + (fall M A i).now * 12 + i) (nI 2)) 1 (88 + i) (-1)) 1 (100 + (fall M A i).m) (nI (1000 * (fall M A i).now + 10 * i + 2))) 1 (214 + (fall M A i).now) (nI ((fall M A i).m + 1))) := (((RW.s1 (by omega)).trans (RW.s1 (by omega))).trans (RW.s1 (by omega))).trans (RW.s1 (by omega))
      obtain ⟨υ, e3, f3, x3⟩ := ih (i + 1) f' _ (by omega) (by omega) (hr.rw hn f2) (by
        rw [fall, fstep, if_pos q]
        refine AucM.add hM hok h q (by decide) (fun z => absurd z (by decide)) (fun _ => ?_) ?_ ?_ ?_ ?_
        · rw [sup_self, upd_app, if_neg (by omega), sup_self, upd_app, if_neg (by omega), sup_self, upd_app, if_pos rfl]
        · rw [sup_self, upd_app, if_neg (by omega), sup_self, upd_app, if_neg (by omega), sup_self, upd_app, if_neg (by omega), sup_self, upd_app, if_pos rfl]
          rfl
        · rw [sup_self, upd_app, if_neg (by omega), sup_self, upd_app, if_pos rfl]
        · rw [sup_self, upd_app, if_pos rfl]
        · intro j a1 a2 a3 a4
          rw [sup_self, upd_app, if_neg a4, sup_self, upd_app, if_neg a3, sup_self, upd_app, if_neg a2, sup_self, upd_app, if_neg a1])
      exact ⟨υ, e3, f2.trans f3, x3⟩
    · rw [if_neg (fun z => q (stt_one.mp z))]
      exact ih (i + 1) f' σ (by omega) (by omega) hr (by rw [fall, fstep, if_neg q]; exact h)
theorem rplay_eq {M : Mk} (hM : M.WF) {m : Nat} {R : Nat → Nat} (hR : Rkd M m R) {A : Au} (hA : AucOK M A) {σ : Sg} (hr : RefM (σ 1) M) (h : AucM (σ 1) M A) :
    ∃ τ, fX7_considerAll σ = some ((), τ) ∧ RW σ τ ∧ AucM (τ 1) M (play M R m A) := by
  have hn := hM.1.1
  have hnow := hA.1
  obtain ⟨F, hF8, hFe⟩ : ∃ F, 12 < F ∧ FU = F := ⟨FU, by unfold FU; omega, rfl⟩
  rw [fX7_considerAll, hFe, show (0 : Int32) = nI 0 from rfl]
  obtain ⟨τ, e1, f1, x1⟩ := rrall_loop hM hR hA (fun (σ20 : Sg) => fX7_considerAll_40 (fun (σ37 : Sg) => some ((), σ37)) F (nI 0) σ20) m 0 F σ (by omega) (by have := hR.1; omega) hr h
  rw [e1]
  have hr1 := hr.rw hn f1
  have hok := rall_ok hM (R := R) hA m
  unfold play
  by_cases q : A.bs A.now = 0
  · rw [if_pos q]
    obtain ⟨υ, e2, f2, x2⟩ := rfall_loop hM hok (by rw [(rall_now M R A m).1, (rall_now M R A m).2]; exact q) (fun (σ37 : Sg) => some ((), σ37)) M.n 0 F τ (by omega) (by omega) hr1 x1
    exact ⟨υ, e2, f1.trans f2, x2⟩
  · rw [if_neg q]
    refine ⟨τ, ?_, f1, x1⟩
    obtain ⟨f', rfl, -⟩ := fuel_succ hF8
    have hb := hA.2.2.2.1
    have hnow2 : (rall M R A m).now = A.now := (rall_now M R A m).1
    rw [fX7_considerAll_40, hr1.1, if_le (by omega) (by omega)]
    by_cases z : M.n ≤ 0
    · rw [if_pos z]
    · rw [if_neg z, x1.1, show (112 : Int32) = nI 112 from rfl, zI_add, hnow2, gd_of (inb_ok (by omega) (by omega)), zI_clamp (by omega), (x1.2.1 A.now (by omega)).1, (rall_now M R A m).2, show (0 : Int32) = nI 0 from rfl, if_eq (by omega) (by decide), if_neg q]
