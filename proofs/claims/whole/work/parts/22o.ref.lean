/-! the reference: clusters, size, member, together, hinge -/
theorem zcSi_lt {A : zAS} {i x : Nat} (h : zcSi A i x = true) : x < zan A := by
  unfold zcSi zcS at h
  simp only [Bool.and_eq_true, decide_eq_true_eq] at h
  exact h.1
section zQ
variable {E : zEN} {d : Nat} {A : zAS} {rf : Nat → Int32} {σ : zST}
theorem sm_clusters (hI : zmf A rf σ) : zSp E (d + 40) zM_X8_clusters [.inr (8, 48)] σ (zMP A rf (.inr (nI (zcu A (zan A)).length)) σ) := by
  refine zSp.of rfl (Nat.le_of_ble_eq_true rfl) (zg_X8_clusters_0 fun G C hG hC => ?_)
  conv => whnf
  refine hC _ _ _ _ ((sm_findClusters (d := d + 9) hI).conseq ?_)
  rintro r σ2 ⟨h1, h2⟩
  conv => whnf
  exact ⟨h1.lo (by simp), hI.agw h1 (by simp) (by simp), h2.1⟩
theorem sm_size (hI : zmf A rf σ) {x : Int32} : zSp E (d + 40) zM_X8_size [.inr (8, 48), .inl x] σ (zMP A rf (zoc A x (fun i => .inr (nI (fb_ct (zcSi A i) 24)))) σ) := by
  have hl := zcu_le2 hI.1
  refine zSp.of rfl (Nat.le_of_ble_eq_true rfl) (zg_X8_size_0 fun G C hG hC => ?_)
  conv => whnf
  refine hC _ _ _ _ ((sm_findClusters (d := d + 9) hI).conseq ?_)
  rintro r σ2 ⟨h1, h2⟩
  have hI2 := hI.agw h1 (by simp) (by simp)
  have hz2 := h1.lo (by simp)
  conv => whnf
  refine hC _ _ _ _ ((sm_isIn (d := d + 38) (n := (zcu A (zan A)).length) (by omega) h2.1).conseq ?_)
  rintro r σ3 ⟨rfl, rfl⟩
  conv => whnf
  rcases zix_cases x (n := (zcu A (zan A)).length) (by omega) with ⟨hz, -⟩ | ⟨i, hi, rfl, hz⟩
  · rw [hz, if_neg (by decide), zoc_out hz]
    refine br_t rfl ?_
    conv => whnf
    refine hC _ _ _ _ ((sm_refuse (d := d + 38) (k := 0) (by decide) hI2).conseq ?_)
    intro r σ' hq
    conv => whnf
    exact ⟨hz2.tr hq.1, hq.2.1, hq.2.2⟩
  · rw [hz, if_pos rfl, zoc_in hI.1 hi]
    refine br_f (by decide) ?_
    conv => whnf
    refine ⟨pk_in i 576 (by omega), ?_⟩
    conv => whnf
    dsimp only
    rw [nI_clamp (by omega : i < 2 ^ 31), h2.2 i hi]
    refine hC _ _ _ _ ((sp_bits (d := d + 38)).conseq ?_)
    rintro r σ4 ⟨rfl, rfl⟩
    conv => whnf
    exact ⟨hz2, hI2, by rw [zpopmk]; rfl⟩
theorem sm_together (hI : zmf A rf σ) {x y : Int32} : zSp E (d + 40) zM_X8_together [.inr (8, 48), .inl x, .inl y] σ (zMP A rf (zop A x y (fun u w => .inr (zfstF (fun i => zcSi A i u && zcSi A i w) (zcu A (zan A)).length))) σ) := by
  have hn := hI.1.1
  have hl := zcu_le2 hI.1
  refine zSp.of rfl (Nat.le_of_ble_eq_true rfl) (zg_X8_together_0 fun G C hG hC => ?_)
  conv => whnf
  refine hC _ _ _ _ ((sm_areJoints (d := d + 37) hI).conseq ?_)
  rintro r σ' ⟨rfl, rfl⟩
  conv => whnf
  cases hp : zpr A x y
  · rw [if_neg (by decide), zop_out hp]
    refine br_t rfl ?_
    conv => whnf
    refine hC _ _ _ _ ((sm_refuse (d := d + 38) (k := 0) (by decide) hI).conseq ?_)
    intro r σ' hq
    conv => whnf
    exact hq
  · rw [if_pos rfl]
    refine br_f (by decide) ?_
    obtain ⟨u, w, hu, hw, huw, rfl, rfl⟩ := zpr_t hn hp
    rw [zop_in hn hu hw hp]
    conv => whnf
    refine hC _ _ _ _ ((sm_findClusters (d := d + 9) hI).conseq ?_)
    rintro r σ2 ⟨h1, h2⟩
    have hI2 := hI.agw h1 (by simp) (by simp)
    have hz2 := h1.lo (by simp)
    conv => whnf
    refine hC _ _ _ _ ((sm_clusterOf (d := d + 38) h2 hl (by omega : u < 24) (by omega : w < 24)).conseq ?_)
    rintro r σ3 ⟨rfl, hr⟩
    conv => whnf
    exact ⟨hz2, hI2, zfstF_eq hr⟩
theorem sm_hinge (hI : zmf A rf σ) {x : Int32} : zSp E (d + 40) zM_X8_hinge [.inr (8, 48), .inl x] σ (zMP A rf (if zix x (zan A) = true then .inr (if zhg A x.toNatClampNeg = true then 1 else 0) else .inl 0) σ) := by
  have hn := hI.1.1
  have hl := zcu_le2 hI.1
  refine zSp.of rfl (Nat.le_of_ble_eq_true rfl) (zg_X8_hinge_0 fun G C hG hC => ?_)
  conv => whnf
  refine hC _ _ _ _ ((sm_isIn (d := d + 38) (n := zan A) (by omega) hI.2.1).conseq ?_)
  rintro r σ' ⟨rfl, rfl⟩
  conv => whnf
  rcases zix_cases x (n := zan A) (by omega) with ⟨hz, -⟩ | ⟨i, hi, rfl, hz⟩
  · rw [hz, if_neg (by decide), if_neg (by decide)]
    refine br_t rfl ?_
    conv => whnf
    refine hC _ _ _ _ ((sm_refuse (d := d + 38) (k := 0) (by decide) hI).conseq ?_)
    intro r σ' hq
    conv => whnf
    exact hq
  · rw [hz, if_pos rfl, if_pos rfl, nI_clamp (by omega)]
    refine br_f (by decide) ?_
    conv => whnf
    refine hC _ _ _ _ ((sm_findClusters (d := d + 9) hI).conseq ?_)
    rintro r σ2 ⟨h1, h2⟩
    have hI2 := hI.agw h1 (by simp) (by simp)
    have hz2 := h1.lo (by simp)
    conv => whnf
    refine hC _ _ _ _ ((sm_isHinge (d := d + 38) h2 hl (by omega : i < 24)).conseq ?_)
    rintro r σ3 ⟨rfl, rfl⟩
    conv => whnf
    by_cases hh : 2 ≤ fb_ct (fun j => zcL A (zcu A (zan A)) j i) (zcu A (zan A)).length
    · have e : zhg A i = true := decide_eq_true hh
      rw [if_pos hh, e]
      refine br_f (by decide) ?_
      conv => whnf
      exact ⟨hz2, hI2, rfl⟩
    · have e : zhg A i = false := decide_eq_false hh
      rw [if_neg hh, e]
      refine br_t rfl ?_
      conv => whnf
      exact ⟨hz2, hI2, rfl⟩
theorem sm_member (hI : zmf A rf σ) {x k : Int32} : zSp E (d + 40) zM_X8_member [.inr (8, 48), .inl x, .inl k] σ (zMP A rf (zoc A x (fun i => .inr (zithF (zcSi A i) 24 k))) σ) := by
  have hn := hI.1.1
  have hl := zcu_le2 hI.1
  refine zSp.of rfl (Nat.le_of_ble_eq_true rfl) (zg_X8_member_0 fun G C hG hC => ?_)
  conv => whnf
  refine hC _ _ _ _ ((sm_findClusters (d := d + 9) hI).conseq ?_)
  rintro r σ2 ⟨h1, h2⟩
  have hI2 := hI.agw h1 (by simp) (by simp)
  have hz2 := h1.lo (by simp)
  conv => whnf
  refine hC _ _ _ _ ((sm_isIn (d := d + 38) (n := (zcu A (zan A)).length) (by omega) h2.1).conseq ?_)
  rintro r σ3 ⟨rfl, rfl⟩
  conv => whnf
  rcases zix_cases x (n := (zcu A (zan A)).length) (by omega) with ⟨hz, -⟩ | ⟨i, hi, rfl, hz⟩
  · rw [hz, if_neg (by decide), zoc_out hz]
    refine br_t rfl ?_
    conv => whnf
    refine hC _ _ _ _ ((sm_refuse (d := d + 38) (k := 0) (by decide) hI2).conseq ?_)
    intro r σ' hq
    conv => whnf
    exact ⟨hz2.tr hq.1, hq.2.1, hq.2.2⟩
  · rw [hz, if_pos rfl]
    refine br_f (by decide) ?_
    have fin : ∀ r, zith (zcSi A i) 24 k r → zMP A rf (zoc A (nI i) (fun i => .inr (zithF (zcSi A i) 24 k))) σ r σ3 := fun r hr => by
      rw [zoc_in hI.1 hi]
      exact ⟨hz2, hI2, zithF_eq (by omega) hr⟩
    have loop : ∀ q f (x3 x4 : Int32), f + q = zan A → x4 = nI f → (∀ j, j < 2 ^ 31 → k = nI j → fb_ct (zcSi A i) f ≤ j ∧ x3 = nI (j - fb_ct (zcSi A i) f)) → zWp E (d + 40) zM_X8_member (zMP A rf (zoc A (nI i) (fun i => .inr (zithF (zcSi A i) 24 k))) σ) 26 [some (.inr (8, 48)), some (.inl (nI i)), some (.inl k), some (.inl x3), some (.inl x4)] [] σ3 := by
      intro q
      induction q with
      | zero =>
        intro f x3 x4 hf hx4 hj
        have hf : f = zan A := by omega
        subst hf
        refine zg_X8_member_26 fun G C hG hC => ?_
        conv => whnf
        refine pk_le (zan A) (zan A) (fun _ => ?_) (fun _ => by omega) hI2.2.1 hx4
        conv => whnf
        refine fin _ (Or.inr ⟨fun y hy hp e => ?_, rfl⟩)
        have l1 := fb_ct_le (zcSi A i) y
        have hyn := zcSi_lt hp
        have l2 := fb_ct_mono (zcSi A i) (show y + 1 ≤ zan A by omega)
        rw [fb_ct_succ, hp] at l2
        simp only [if_true] at l2
        have := (hj (fb_ct (zcSi A i) y) (by omega) e).1
        omega
      | succ q ih =>
        intro f x3 x4 hf hx4 hj
        have he : σ3 63 i = zmk (zcSi A i) := h2.2 i hi
        refine zg_X8_member_26 fun G C hG hC => ?_
        conv => whnf
        refine pk_le (zan A) f (fun _ => by omega) (fun _ => ?_) hI2.2.1 hx4
        conv => whnf
        refine ⟨fun h0 => ?_, fun h0 => ?_⟩
        · have h0 : k < 0 := h0
          conv => whnf
          refine fin _ (Or.inr ⟨fun y hy hp e => ?_, rfl⟩)
          have l1 := fb_ct_le (zcSi A i) y
          rw [e] at h0
          exact nI_pos (by omega) h0
        · have h0 : ¬ k < 0 := h0
          obtain ⟨j, hj31, hkj⟩ := nI_of h0
          obtain ⟨g1, g2⟩ := hj j hj31 hkj
          conv => whnf
          refine ⟨pk_in i 576 (by omega), ?_⟩
          conv => whnf
          dsimp only
          rw [nI_clamp (by omega : i < 2 ^ 31), he, hx4, zbitv (by omega), zmk_bt _ (by omega)]
          cases hc : zcSi A i f
          · rw [if_neg (by decide)]
            refine br_t rfl ?_
            conv => whnf
            refine hG _ _ _ _ (ih (f + 1) _ _ (by omega) (nI_1 f) (fun j' hj' e => ?_))
            rw [fb_ct_succ, hc]
            exact hj j' hj' e
          · rw [if_pos rfl]
            refine br_f (by decide) ?_
            conv => whnf
            refine pk_eq (j - fb_ct (zcSi A i) f) 0 (fun e0 => ?_) (fun e0 => ?_) g2 rfl
            · conv => whnf
              have : j = fb_ct (zcSi A i) f := by omega
              exact fin _ (Or.inl ⟨f, by omega, hc, by rw [hkj, this], rfl⟩)
            · conv => whnf
              refine hG _ _ _ _ (ih (f + 1) _ _ (by omega) (nI_1 f) (fun j' hj' e => ?_))
              have : j' = j := ((nI_eq hj31 hj').mp (hkj.symm.trans e)).symm
              subst this
              rw [fb_ct_succ, hc]
              refine ⟨by simp only [if_true]; omega, ?_⟩
              rw [g2]
              obtain ⟨w, hw⟩ : ∃ w, j' - fb_ct (zcSi A i) f = w + 1 := ⟨j' - fb_ct (zcSi A i) f - 1, by omega⟩
              rw [hw]
              have : j' - (fb_ct (zcSi A i) f + 1) = w := by omega
              simp only [if_true]
              rw [this]
              exact zdec1 w
    conv => whnf
    exact hG _ _ _ _ (loop (zan A) 0 k 0 (by omega) rfl (fun j _ e => ⟨Nat.zero_le _, e⟩))
end zQ
