/-! the reference: circuit, circuitBar -/
theorem zdec1 (w : Nat) : nI (w + 1) + (-1) = nI w := by
  rw [nI_succ, Int32.add_assoc]
  exact Int32.add_zero _
section zQ
variable {E : zEN} {d : Nat} {A : zAS} {rf : Nat → Int32} {σ : zST}
theorem sm_circuit (hI : zmf A rf σ) {x : Int32} : zSp E (d + 40) zM_X8_circuit [.inr (8, 48), .inl x] σ (zMP A rf (zob A x (fun i => if zlf A i = true then .inr (nI (fb_ct (zci A i) (zam A))) else .inl 2)) σ) := by
  have hm := hI.1.2.1
  refine zSp.of rfl (Nat.le_of_ble_eq_true rfl) (zg_X8_circuit_0 fun G C hG hC => ?_)
  conv => whnf
  refine hC _ _ _ _ ((sm_isBar (d := d + 37) hI).conseq ?_)
  rintro r σ' ⟨rfl, rfl⟩
  conv => whnf
  rcases zix_cases x (n := zam A) (by omega) with ⟨hz, -⟩ | ⟨i, hi, rfl, hz⟩
  · rw [hz, if_neg (by decide), zob_out hz]
    refine br_t rfl ?_
    conv => whnf
    refine hC _ _ _ _ ((sm_refuse (d := d + 38) (k := 0) (by decide) hI).conseq ?_)
    intro r σ' hq
    conv => whnf
    exact hq
  · rw [hz, if_pos rfl, zob_in hm hi]
    refine br_f (by decide) ?_
    conv => whnf
    refine hC _ _ _ _ ((sm_findBase (d := d + 9) hI).conseq ?_)
    rintro r σ2 ⟨h1, h2, h3⟩
    have hI2 := hI.agw h1 (by simp) (by simp)
    have hz2 := h1.lo (by simp)
    conv => whnf
    refine ⟨pk_in i 80 (by omega), ?_⟩
    conv => whnf
    dsimp only
    rw [nI_clamp (by omega : i < 2 ^ 31), (hI2.2.2.2.1 i hi).2.2.2]
    unfold zlf
    cases h4 : zat A i
    · rw [if_neg (by decide)]
      refine br_t rfl ?_
      conv => whnf
      refine hC _ _ _ _ ((sm_refuse (d := d + 38) (k := 2) (by decide) hI2).conseq ?_)
      intro r σ' hq
      conv => whnf
      exact ⟨hz2.tr hq.1, hq.2.1, hq.2.2⟩
    · rw [if_pos rfl]
      refine br_f (by decide) ?_
      conv => whnf
      refine ⟨pk_in i 80 (by omega), ?_⟩
      conv => whnf
      dsimp only
      rw [nI_clamp (by omega : i < 2 ^ 31), h3 i hi]
      cases h5 : zK A false 2 3 i
      · rw [if_neg (by decide)]
        refine br_t rfl ?_
        conv => whnf
        refine hC _ _ _ _ ((sm_findCircuit (d := d + 11) hI2 h3 hi).conseq ?_)
        rintro r σ3 ⟨h6, rfl, -⟩
        conv => whnf
        exact ⟨hz2.tr (h6.lo (by simp)), hI2.agw h6 (by simp) (by simp), rfl⟩
      · rw [if_pos rfl]
        refine br_f (by decide) ?_
        conv => whnf
        refine hC _ _ _ _ ((sm_refuse (d := d + 38) (k := 2) (by decide) hI2).conseq ?_)
        intro r σ' hq
        conv => whnf
        exact ⟨hz2.tr hq.1, hq.2.1, hq.2.2⟩
theorem zith_out {p : Nat → Bool} {n : Nat} {i : Int32} (hn : n < 2 ^ 31) (h : i < 0 ∨ nI (fb_ct p n) ≤ i) : zith p n i (-9) := by
  refine Or.inr ⟨fun x hx hp e => ?_, rfl⟩
  have l1 := fb_ct_le p x
  have l2 := fb_ct_mono p (show x + 1 ≤ n by omega)
  have l3 := fb_ct_le p n
  rw [fb_ct_succ, hp] at l2
  simp only [if_true] at l2
  rw [e] at h
  rcases h with h | h
  · exact nI_pos (by omega) h
  · have := (nI_leI (by omega) (by omega)).mp h
    omega
theorem sm_circuitBar (hI : zmf A rf σ) {x n : Int32} : zSp E (d + 40) zM_X8_circuitBar [.inr (8, 48), .inl x, .inl n] σ (zMP A rf (zob A x (fun i => if zlf A i = true then .inr (zithF (zci A i) (zam A) n) else .inl 2)) σ) := by
  have hm := hI.1.2.1
  refine zSp.of rfl (Nat.le_of_ble_eq_true rfl) (zg_X8_circuitBar_0 fun G C hG hC => ?_)
  conv => whnf
  refine hC _ _ _ _ ((sm_isBar (d := d + 37) hI).conseq ?_)
  rintro r σ' ⟨rfl, rfl⟩
  conv => whnf
  rcases zix_cases x (n := zam A) (by omega) with ⟨hz, -⟩ | ⟨i, hi, rfl, hz⟩
  · rw [hz, if_neg (by decide), zob_out hz]
    refine br_t rfl ?_
    conv => whnf
    refine hC _ _ _ _ ((sm_refuse (d := d + 38) (k := 0) (by decide) hI).conseq ?_)
    intro r σ' hq
    conv => whnf
    exact hq
  · rw [hz, if_pos rfl, zob_in hm hi]
    refine br_f (by decide) ?_
    conv => whnf
    refine hC _ _ _ _ ((sm_findBase (d := d + 9) hI).conseq ?_)
    rintro r σ2 ⟨h1, h2, h3⟩
    have hI2 := hI.agw h1 (by simp) (by simp)
    have hz2 := h1.lo (by simp)
    conv => whnf
    refine ⟨pk_in i 80 (by omega), ?_⟩
    conv => whnf
    dsimp only
    rw [nI_clamp (by omega : i < 2 ^ 31), (hI2.2.2.2.1 i hi).2.2.2]
    cases h4 : zat A i
    · have hlf : zlf A i = false := by unfold zlf; rw [h4]; rfl
      rw [if_neg (by decide)]
      refine br_t rfl ?_
      conv => whnf
      refine hC _ _ _ _ ((sm_refuse (d := d + 38) (k := 2) (by decide) hI2).conseq ?_)
      intro r σ' hq
      conv => whnf
      rw [hlf]
      exact ⟨hz2.tr hq.1, hq.2.1, hq.2.2⟩
    · rw [if_pos rfl]
      refine br_f (by decide) ?_
      conv => whnf
      refine ⟨pk_in i 80 (by omega), ?_⟩
      conv => whnf
      dsimp only
      rw [nI_clamp (by omega : i < 2 ^ 31), h3 i hi]
      cases h5 : zK A false 2 3 i
      · have hlf : zlf A i = true := by unfold zlf; rw [h4, h5]; rfl
        rw [if_neg (by decide)]
        refine br_t rfl ?_
        conv => whnf
        refine hC _ _ _ _ ((sm_findCircuit (d := d + 11) hI2 h3 hi).conseq ?_)
        rintro r σ3 ⟨h6, rfl, h7⟩
        have hI3 := hI2.agw h6 (by simp) (by simp)
        have hz3 := hz2.tr (h6.lo (by simp))
        have l3 := fb_ct_le (zci A i) (zam A)
        have fin : ∀ r, zith (zci A i) (zam A) n r → zMP A rf (zob A (nI i) (fun i => if zlf A i = true then .inr (zithF (zci A i) (zam A) n) else .inl 2)) σ' r σ3 := fun r hr => by
          rw [zob_in hm hi, hlf]
          exact ⟨hz3, hI3, zithF_eq (by omega) hr⟩
        have loop : ∀ q f (x4 x5 : Int32), f + q = zam A → x5 = nI f → (∀ j, n = nI j → j < fb_ct (zci A i) (zam A) → fb_ct (zci A i) f ≤ j ∧ x4 = nI (j - fb_ct (zci A i) f)) → zWp E (d + 40) zM_X8_circuitBar (zMP A rf (zob A (nI i) (fun i => if zlf A i = true then .inr (zithF (zci A i) (zam A) n) else .inl 2)) σ') 55 [some (.inr (8, 48)), some (.inl (nI i)), some (.inl n), some (.inl (nI (fb_ct (zci A i) (zam A)))), some (.inl x4), some (.inl x5)] [] σ3 := by
          intro q
          induction q with
          | zero =>
            intro f x4 x5 hf hx5 hj
            have hf : f = zam A := by omega
            subst hf
            refine zg_X8_circuitBar_55 fun G C hG hC => ?_
            conv => whnf
            refine pk_le (zam A) (zam A) (fun _ => ?_) (fun _ => by omega) hI3.2.2.1 hx5
            conv => whnf
            refine fin _ ?_
            rcases zix_cases n (n := fb_ct (zci A i) (zam A)) (by omega) with ⟨-, hx⟩ | ⟨j, hjl, rfl, -⟩
            · exact zith_out (by omega) hx
            · have := (hj j rfl hjl).1
              omega
          | succ q ih =>
            intro f x4 x5 hf hx5 hj
            refine zg_X8_circuitBar_55 fun G C hG hC => ?_
            conv => whnf
            refine pk_le (zam A) f (fun _ => by omega) (fun _ => ?_) hI3.2.2.1 hx5
            conv => whnf
            rcases zix_cases n (n := fb_ct (zci A i) (zam A)) (by omega) with ⟨-, hx⟩ | ⟨j, hjl, rfl, -⟩
            · refine ⟨fun _ => ?_, fun h0 => ?_⟩
              · conv => whnf
                exact fin _ (zith_out (by omega) hx)
              · conv => whnf
                refine br_t ?_ ?_
                · rcases hx with hx | hx
                  · exact absurd hx h0
                  · exact hx
                · conv => whnf
                  exact fin _ (zith_out (by omega) hx)
            · obtain ⟨g1, g2⟩ := hj j rfl hjl
              refine br_f (nI_pos (by omega)) ?_
              conv => whnf
              refine pk_le (fb_ct (zci A i) (zam A)) j (fun _ => by omega) (fun _ => ?_)
              conv => whnf
              refine ⟨pk_in f 80 (by omega) hx5, ?_⟩
              conv => whnf
              dsimp only
              rw [pk_cl f hx5, h7 f (by omega)]
              cases hc : zci A i f
              · rw [if_neg (by decide)]
                refine br_t rfl ?_
                conv => whnf
                refine hG _ _ _ _ (ih (f + 1) _ _ (by omega) (by rw [hx5, nI_1]) (fun j' e hj' => ?_))
                rw [fb_ct_succ, hc]
                exact hj j' e hj'
              · rw [if_pos rfl]
                refine br_f (by decide) ?_
                conv => whnf
                refine pk_eq (j - fb_ct (zci A i) f) 0 (fun e0 => ?_) (fun e0 => ?_) g2 rfl
                · conv => whnf
                  have : j = fb_ct (zci A i) f := by omega
                  exact fin _ (Or.inl ⟨f, by omega, hc, by rw [this], hx5⟩)
                · conv => whnf
                  refine hG _ _ _ _ (ih (f + 1) _ _ (by omega) (by rw [hx5, nI_1]) (fun j' e hj' => ?_))
                  have : j' = j := ((nI_eq (by omega) (by omega)).mp e).symm
                  subst this
                  rw [fb_ct_succ, hc]
                  refine ⟨by simp only [if_true]; omega, ?_⟩
                  rw [g2]
                  obtain ⟨w, hw⟩ : ∃ w, j' - fb_ct (zci A i) f = w + 1 := ⟨j' - fb_ct (zci A i) f - 1, by omega⟩
                  rw [hw]
                  have : j' - (fb_ct (zci A i) f + 1) = w := by omega
                  simp only [if_true]
                  rw [this]
                  exact zdec1 w
        conv => whnf
        refine hG _ _ _ _ (loop (zam A) 0 n 0 (by omega) rfl (fun j e _ => ⟨Nat.zero_le _, ?_⟩))
        rw [e]; rfl
      · have hlf : zlf A i = false := by unfold zlf; rw [h4, h5]; rfl
        rw [if_pos rfl]
        refine br_f (by decide) ?_
        conv => whnf
        refine hC _ _ _ _ ((sm_refuse (d := d + 38) (k := 2) (by decide) hI2).conseq ?_)
        intro r σ' hq
        conv => whnf
        rw [hlf]
        exact ⟨hz2.tr hq.1, hq.2.1, hq.2.2⟩
end zQ
