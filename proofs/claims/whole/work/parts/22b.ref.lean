/-! the reference: bar, cut, cost -/
section zQ
variable {E : zEN} {d : Nat} {A : zAS} {rf : Nat → Int32} {σ : zST}
set_option maxHeartbeats 4000000 in
theorem sm_bar (hI : zmf A rf σ) {x y c : Int32} : zSp E (d + 40) zM_X8_bar [.inr (8, 48), .inl x, .inl y, .inl c] σ (zMP (zt_bar A x y c) rf (zo_bar A x y c) σ) := by
  have hn := hI.1.1
  have hm := hI.1.2.1
  have refu : ∀ (k : Nat), k < 6 → zo_bar A x y c = .inl k → ∀ r σ', zMP A rf (.inl k) σ r σ' → zMP (zt_bar A x y c) rf (zo_bar A x y c) σ r σ' := by
    intro k hk ho r σ' hq
    have : zt_bar A x y c = A := by unfold zt_bar; rw [ho]
    rw [this, ho]
    exact hq
  refine zSp.of rfl (Nat.le_of_ble_eq_true rfl) (zg_X8_bar_0 fun G C hG hC => ?_)
  conv => whnf
  refine hC _ _ _ _ ((sm_areJoints (d := d + 37) hI).conseq ?_)
  rintro r σ' ⟨rfl, rfl⟩
  conv => whnf
  cases hp : zpr A x y
  · rw [if_neg (by decide)]
    refine br_t rfl ?_
    conv => whnf
    refine hC _ _ _ _ ((sm_refuse (d := d + 38) (k := 0) (by decide) hI).conseq ?_)
    intro r σ' hq
    conv => whnf
    exact refu 0 (by decide) (by unfold zo_bar; rw [hp]; rfl) r σ' hq
  · rw [if_pos rfl]
    refine br_f (by decide) ?_
    obtain ⟨u, w, hu, hw, huw, rfl, rfl⟩ := zpr_t hn hp
    conv => whnf
    refine hC _ _ _ _ ((sm_between (d := d + 38) hI (by omega : u < 24) (by omega : w < 24)).conseq ?_)
    rintro r σ' ⟨rfl, hr⟩
    conv => whnf
    have hc1 : (nI u).toNatClampNeg = u := nI_clamp (by omega)
    have hc2 : (nI w).toNatClampNeg = w := nI_clamp (by omega)
    rcases hr with ⟨hr, htd⟩ | ⟨hr, htd⟩
    · refine br_t hr ?_
      conv => whnf
      refine ⟨fun h0 => ?_, fun h0 => ?_⟩
      · have h0 : 0 ≤ c := h0
        have h0' : ¬ c < 0 := fun q => by
          have a1 := Int32.lt_iff_toInt_lt.mp q
          have a2 := Int32.le_iff_toInt_le.mp h0
          omega
        obtain ⟨c', hc', rfl⟩ := nI_of h0'
        conv => whnf
        refine pk_lt 999 c' (fun h9 => ?_) (fun h9 => ?_)
        · conv => whnf
          refine hC _ _ _ _ ((sm_refuse (d := d + 38) (k := 5) (by decide) hI).conseq ?_)
          intro r σ' hq
          conv => whnf
          refine refu 5 (by decide) ?_ r σ' hq
          unfold zo_bar
          rw [hp, hc1, hc2, htd, if_pos rfl, if_neg (by decide), if_neg h0', if_pos (Or.inl (show (999 : Int32) < nI c' from nI_lt (a := 999) h9 hc'))]
        · have h9' : ¬ (999 : Int32) < nI c' := nI_nlt (b := c') (a := 999) (by omega) (by decide)
          conv => whnf
          refine pk_eq (zam A) 80 (fun h8 => ?_) (fun h8 => ?_) hI.2.2.1 rfl
          · conv => whnf
            refine hC _ _ _ _ ((sm_refuse (d := d + 38) (k := 5) (by decide) hI).conseq ?_)
            intro r σ' hq
            conv => whnf
            refine refu 5 (by decide) ?_ r σ' hq
            unfold zo_bar
            rw [hp, hc1, hc2, htd, if_pos rfl, if_neg (by decide), if_neg h0', if_pos (Or.inr (by omega))]
          · have ho : zo_bar A (nI u) (nI w) (nI c') = .inr (nI (zam A)) := by
              unfold zo_bar
              rw [hp, hc1, hc2, htd, if_pos rfl, if_neg (by decide), if_neg h0', if_neg (by simp [h9', h8])]
            have ht : zt_bar A (nI u) (nI w) (nI c') = (zan A, zam A + 1, zput (zaa A) (zam A) (min u w), zput (zab A) (zam A) (max u w), zput (zac A) (zam A) c', fun q => if q = zam A then true else zat A q) := by
              unfold zt_bar
              rw [ho, hc1, hc2, nI_clamp hc']
            rw [ho, ht]
            have e6 := hI.2.2.1
            conv => whnf
            dsimp only
            refine ⟨pk_in (zam A) 80 (by omega) e6, ?_⟩
            conv => whnf
            refine ⟨pk_in (zam A) 80 (by omega) (by rw [zup_ne (by decide)]; exact e6), ?_⟩
            conv => whnf
            refine ⟨pk_in (zam A) 80 (by omega) (by rw [zup_ne (by decide), zup_ne (by decide)]; exact e6), ?_⟩
            conv => whnf
            refine ⟨pk_in (zam A) 80 (by omega) (by rw [zup_ne (by decide), zup_ne (by decide), zup_ne (by decide)]; exact e6), Or.inr rfl, ?_⟩
            conv => whnf
            dsimp only
            simp only [zup_ne (by decide : (48 : Nat) ≠ 50), zup_ne (by decide : (48 : Nat) ≠ 51), zup_ne (by decide : (48 : Nat) ≠ 52), zup_ne (by decide : (48 : Nat) ≠ 53), e6, nI_clamp (by omega : zam A < 2 ^ 31), zmin_nI (by omega : u < 2 ^ 31) (by omega : w < 2 ^ 31), zmax_nI (by omega : u < 2 ^ 31) (by omega : w < 2 ^ 31), zup_self, pk_us, nI_1]
            refine ⟨((((zlo.rf.up (by decide)).up (by decide)).up (by decide)).up (by decide)).up (by decide), ?_, nI_pred _⟩
            obtain ⟨⟨v1, v2, v3⟩, h2, h3, h4, h5⟩ := hI
            refine ⟨⟨v1, by show zam A + 1 ≤ 80; omega, fun q hq => ?_⟩, ?_, ?_, ?_, ?_⟩
            · show zput (zaa A) (zam A) (min u w) q < zput (zab A) (zam A) (max u w) q ∧ zput (zab A) (zam A) (max u w) q < zan A ∧ zput (zac A) (zam A) c' q < 1000
              have hq : q < zam A + 1 := hq
              unfold zput
              by_cases e : q = zam A
              · rw [if_pos e, if_pos e, if_pos e]
                omega
              · rw [if_neg e, if_neg e, if_neg e]
                exact v3 q (by omega)
            · rw [zup_self, pk_un (by decide), zup_ne (by decide), zup_ne (by decide), zup_ne (by decide), zup_ne (by decide)]; exact h2
            · rw [zup_self, pk_us]
            · intro q hq
              have hq : q < zam A + 1 := hq
              show _ = nI (zput (zaa A) (zam A) (min u w) q) ∧ _ = nI (zput (zab A) (zam A) (max u w) q) ∧ _ = nI (zput (zac A) (zam A) c' q) ∧ _ = if (if q = zam A then true else zat A q) = true then 1 else 0
              rw [zup_ne (by decide), zup_ne (by decide), zup_ne (by decide), zup_ne (by decide), zup_self, zup_ne (by decide), zup_ne (by decide), zup_ne (by decide), zup_self, zup_ne (by decide), zup_ne (by decide), zup_ne (by decide), zup_self, zup_ne (by decide), zup_ne (by decide), zup_ne (by decide), zup_self, zup_ne (by decide), zup_ne (by decide), zup_ne (by decide)]
              unfold zput
              by_cases e : q = zam A
              · rw [e, pk_us, pk_us, pk_us, pk_us]; simp
              · rw [pk_un e, pk_un e, pk_un e, pk_un e]
                simp only [e, if_false]
                exact h4 q (by omega)
            · rw [zup_ne (by decide), zup_ne (by decide), zup_ne (by decide), zup_ne (by decide), zup_ne (by decide)]; exact h5
      · have h0 : ¬ 0 ≤ c := h0
        have h0' : c < 0 := by
          rw [Int32.lt_iff_toInt_lt]
          have : ¬ (0 : Int32).toInt ≤ c.toInt := fun q => h0 (Int32.le_iff_toInt_le.mpr q)
          omega
        conv => whnf
        refine hC _ _ _ _ ((sm_refuse (d := d + 38) (k := 3) (by decide) hI).conseq ?_)
        intro r σ' hq
        conv => whnf
        refine refu 3 (by decide) ?_ r σ' hq
        unfold zo_bar
        rw [hp, hc1, hc2, htd, if_pos rfl, if_neg (by decide), if_pos h0']
    · refine br_f hr ?_
      conv => whnf
      refine hC _ _ _ _ ((sm_refuse (d := d + 38) (k := 2) (by decide) hI).conseq ?_)
      intro r σ' hq
      conv => whnf
      refine refu 2 (by decide) ?_ r σ' hq
      unfold zo_bar
      rw [hp, hc1, hc2, htd, if_pos rfl, if_pos rfl]
end zQ
