/-! the reference: cut, wrong, cost -/
section zQ
variable {E : zEN} {d : Nat} {A : zAS} {rf : Nat → Int32} {σ : zST}
theorem zmf.setT (hI : zmf A rf σ) {i : Nat} {b : Bool} (hi : i < zam A) : zmf (zan A, zam A, zaa A, zab A, zac A, fun q => if q = i then b else zat A q) rf (zup σ 53 i (if b = true then 1 else 0)) := by
  obtain ⟨h1, h2, h3, h4, h5⟩ := hI
  refine ⟨h1, by rw [zup_ne (by decide)]; exact h2, by rw [zup_ne (by decide)]; exact h3, fun x hx => ?_, by rw [zup_ne (by decide)]; exact h5⟩
  have := h4 x hx
  rw [zup_ne (by decide), zup_ne (by decide), zup_ne (by decide), zup_self]
  refine ⟨this.1, this.2.1, this.2.2.1, ?_⟩
  show _ = if (if x = i then b else zat A x) = true then 1 else 0
  by_cases e : x = i
  · rw [e, pk_us, if_pos rfl]
  · rw [pk_un e, if_neg e]; exact this.2.2.2
theorem zmf.setC (hI : zmf A rf σ) {i v : Nat} (hi : i < zam A) (hv : v < 1000) : zmf (zan A, zam A, zaa A, zab A, fun q => if q = i then v else zac A q, zat A) rf (zup σ 52 i (nI v)) := by
  obtain ⟨⟨v1, v2, v3⟩, h2, h3, h4, h5⟩ := hI
  refine ⟨⟨v1, v2, fun x hx => ?_⟩, by rw [zup_ne (by decide)]; exact h2, by rw [zup_ne (by decide)]; exact h3, fun x hx => ?_, by rw [zup_ne (by decide)]; exact h5⟩
  · have := v3 x hx
    refine ⟨this.1, this.2.1, ?_⟩
    show (if x = i then v else zac A x) < 1000
    split
    · exact hv
    · exact this.2.2
  · have := h4 x hx
    rw [zup_ne (by decide), zup_ne (by decide), zup_self, zup_ne (by decide)]
    refine ⟨this.1, this.2.1, ?_, this.2.2.2⟩
    show _ = nI (if x = i then v else zac A x)
    by_cases e : x = i
    · rw [e, pk_us, if_pos rfl]
    · rw [pk_un e, if_neg e]; exact this.2.2.1
theorem zt_same (A : zAS) {i : Nat} {b : Bool} (h : zat A i = b) : (zan A, zam A, zaa A, zab A, zac A, fun q => if q = i then b else zat A q) = A := by
  have : (fun q => if q = i then b else zat A q) = zat A := funext fun q => by
    by_cases e : q = i
    · rw [if_pos e, e, h]
    · rw [if_neg e]
  rw [this]
theorem sm_cut (hI : zmf A rf σ) {x : Int32} {on : Bool} : zSp E (d + 40) zM_X8_cut [.inr (8, 48), .inl x, .inl (zbo on)] σ (zMP (zt_cut A x on) rf (zo_cut A x on) σ) := by
  have hm := hI.1.2.1
  refine zSp.of rfl (Nat.le_of_ble_eq_true rfl) (zg_X8_cut_0 fun G C hG hC => ?_)
  conv => whnf
  refine hC _ _ _ _ ((sm_isBar (d := d + 37) hI).conseq ?_)
  rintro r σ' ⟨rfl, rfl⟩
  conv => whnf
  rcases zix_cases x (n := zam A) (by omega) with ⟨hz, -⟩ | ⟨i, hi, rfl, hz⟩
  · rw [hz, if_neg (by decide)]
    refine br_t rfl ?_
    conv => whnf
    refine hC _ _ _ _ ((sm_refuse (d := d + 38) (k := 0) (by decide) hI).conseq ?_)
    intro r σ' hq
    conv => whnf
    have h1 : zo_cut A x on = .inl 0 := by unfold zo_cut; rw [hz]; rfl
    have h2 : zt_cut A x on = A := by unfold zt_cut; rw [hz]; rfl
    rw [h1, h2]; exact hq
  · have hc : (nI i).toNatClampNeg = i := nI_clamp (by omega)
    rw [hz, if_pos rfl]
    refine br_f (by decide) ?_
    conv => whnf
    refine ⟨pk_in i 80 (by omega), ?_⟩
    conv => whnf
    have e1 : zo_cut A (nI i) on = .inr (if zat A i = !on then 0 else 1) := by unfold zo_cut; rw [hz, hc]; rfl
    have e2 : zt_cut A (nI i) on = (zan A, zam A, zaa A, zab A, zac A, fun q => if q = i then !on else zat A q) := by unfold zt_cut; rw [hz, hc]; rfl
    rw [e1, e2]
    dsimp only
    rw [hc, (hI.2.2.2.1 i hi).2.2.2]
    have hs := hI.setT (b := !on) hi
    cases on
    · refine br_t rfl ?_
      conv => whnf
      cases ht : zat A i
      · rw [if_neg (by decide)]
        refine br_f (by decide) ?_
        conv => whnf
        refine br_t rfl ?_
        conv => whnf
        refine ⟨pk_in i 80 (by omega), Or.inr rfl, ?_⟩
        conv => whnf
        dsimp only
        rw [hc]
        exact ⟨zlo.rf.up (by decide), hs, rfl⟩
      · rw [if_pos rfl]
        refine br_t rfl ?_
        conv => whnf
        rw [zt_same A (b := !false) ht]
        exact ⟨zlo.rf, hI, rfl⟩
    · refine br_f (by decide) ?_
      conv => whnf
      cases ht : zat A i
      · rw [if_neg (by decide)]
        refine br_t rfl ?_
        conv => whnf
        rw [zt_same A (b := !true) ht]
        exact ⟨zlo.rf, hI, rfl⟩
      · rw [if_pos rfl]
        refine br_f (by decide) ?_
        conv => whnf
        refine br_f (by decide) ?_
        conv => whnf
        refine ⟨pk_in i 80 (by omega), Or.inl rfl, ?_⟩
        conv => whnf
        dsimp only
        rw [hc]
        exact ⟨zlo.rf.up (by decide), hs, rfl⟩
def zwr (v lo hi : Int32) : Int32 := if v < lo then -4 else if hi < v then -6 else 0
theorem sm_wrong {v lo hi : Int32} : zSp E (d + 1) zM_X8_wrong [.inl v, .inl lo, .inl hi] σ (fun r σ' => σ' = σ ∧ r = zwr v lo hi) := by
  refine zSp.of rfl (Nat.le_of_ble_eq_true rfl) (zg_X8_wrong_0 fun G C hG hC => ?_)
  conv => whnf
  unfold zwr
  refine ⟨fun h => ?_, fun h => ?_⟩
  · have h : lo ≤ v := h
    have h' : ¬ v < lo := fun q => by
      have a1 := Int32.lt_iff_toInt_lt.mp q
      have a2 := Int32.le_iff_toInt_le.mp h
      omega
    rw [if_neg h']
    conv => whnf
    refine ⟨fun h => ?_, fun h => ?_⟩
    · have h : v ≤ hi := h
      have h' : ¬ hi < v := fun q => by
        have a1 := Int32.lt_iff_toInt_lt.mp q
        have a2 := Int32.le_iff_toInt_le.mp h
        omega
      rw [if_neg h']
      conv => whnf
      exact ⟨rfl, rfl⟩
    · have h : ¬ v ≤ hi := h
      have h' : hi < v := Int32.lt_iff_toInt_lt.mpr (by
        have : ¬ v.toInt ≤ hi.toInt := fun q => h (Int32.le_iff_toInt_le.mpr q)
        omega)
      rw [if_pos h']
      conv => whnf
      exact ⟨rfl, rfl⟩
  · have h : ¬ lo ≤ v := h
    have h' : v < lo := Int32.lt_iff_toInt_lt.mpr (by
      have : ¬ lo.toInt ≤ v.toInt := fun q => h (Int32.le_iff_toInt_le.mpr q)
      omega)
    rw [if_pos h']
    conv => whnf
    exact ⟨rfl, rfl⟩
theorem sm_cost (hI : zmf A rf σ) {x v : Int32} : zSp E (d + 40) zM_X8_cost [.inr (8, 48), .inl x, .inl v] σ (zMP (zt_cost A x v) rf (zo_cost A x v) σ) := by
  have hm := hI.1.2.1
  have refu : ∀ (k : Nat), k < 6 → zo_cost A x v = .inl k → ∀ r σ', zMP A rf (.inl k) σ r σ' → zMP (zt_cost A x v) rf (zo_cost A x v) σ r σ' := by
    intro k hk ho r σ' hq
    have : zt_cost A x v = A := by unfold zt_cost; rw [ho]
    rw [this, ho]
    exact hq
  refine zSp.of rfl (Nat.le_of_ble_eq_true rfl) (zg_X8_cost_0 fun G C hG hC => ?_)
  conv => whnf
  refine hC _ _ _ _ ((sm_isBar (d := d + 37) hI).conseq ?_)
  rintro r σ' ⟨rfl, rfl⟩
  conv => whnf
  rcases zix_cases x (n := zam A) (by omega) with ⟨hz, -⟩ | ⟨i, hi, rfl, hz⟩
  · rw [hz, if_neg (by decide)]
    refine br_t rfl ?_
    conv => whnf
    refine br_f (by decide) ?_
    conv => whnf
    refine hC _ _ _ _ ((sm_refuse (d := d + 38) (k := 0) (by decide) hI).conseq ?_)
    intro r σ' hq
    conv => whnf
    exact refu 0 (by decide) (by unfold zo_cost; rw [hz]; rfl) r σ' hq
  · have hc : (nI i).toNatClampNeg = i := nI_clamp (by omega)
    rw [hz, if_pos rfl]
    refine br_f (by decide) ?_
    conv => whnf
    refine hC _ _ _ _ ((sm_wrong (d := d + 38)).conseq ?_)
    rintro r σ' ⟨rfl, rfl⟩
    conv => whnf
    unfold zwr
    by_cases h0 : v < 0
    · rw [if_pos h0]
      refine br_f (by decide) ?_
      conv => whnf
      refine hC _ _ _ _ ((sm_refuse (d := d + 38) (k := 3) (by decide) hI).conseq ?_)
      intro r σ' hq
      conv => whnf
      exact refu 3 (by decide) (by unfold zo_cost; rw [hz, if_pos rfl, if_pos h0]) r σ' hq
    · rw [if_neg h0]
      by_cases h9 : 999 < v
      · rw [if_pos h9]
        refine br_f (by decide) ?_
        conv => whnf
        refine hC _ _ _ _ ((sm_refuse (d := d + 38) (k := 5) (by decide) hI).conseq ?_)
        intro r σ' hq
        conv => whnf
        exact refu 5 (by decide) (by unfold zo_cost; rw [hz, if_pos rfl, if_neg h0, if_pos h9]) r σ' hq
      · rw [if_neg h9]
        refine br_t rfl ?_
        conv => whnf
        refine ⟨pk_in i 80 (by omega), ?_⟩
        conv => whnf
        refine ⟨pk_in i 80 (by omega), ?_⟩
        conv => whnf
        have ho : zo_cost A (nI i) v = .inr (nI (zac A i)) := by unfold zo_cost; rw [hz, if_pos rfl, if_neg h0, if_neg h9, hc]
        obtain ⟨v', hv', rfl⟩ := nI_of h0
        have ht : zt_cost A (nI i) (nI v') = (zan A, zam A, zaa A, zab A, fun q => if q = i then v' else zac A q, zat A) := by unfold zt_cost; rw [ho, hc, nI_clamp hv']
        have hv9 : v' < 1000 := by
          apply Classical.byContradiction
          intro q
          exact h9 (nI_lt (a := 999) (by omega) hv')
        rw [ho, ht]
        dsimp only
        rw [hc]
        exact ⟨zlo.rf.up (by decide), hI.setC hi hv9, (hI.2.2.2.1 i hi).2.2.1⟩
end zQ
