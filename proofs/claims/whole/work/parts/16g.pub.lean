/-! the class's answers: back, tight, barOf, count -/
section zQ
variable {E : zEN} {d ch : Nat} {A : zAS} {rf : Nat → Int32} {σ : zST}
theorem sp_back (hI : zCI A ch rf σ) {x w : Int32} : zSp E (d + 8) zM_X7_back [.inr (7, 0), .inl x, .inl w] σ (zPP A ch rf (zo_back A x w) σ) := by
  have hn := hI.1.1.1
  have bad : ∀ (C : zCT), (∀ M as σ P, zSp E (d + 7) M as σ P → C M as σ P) → (w < 0 ∨ 2 < w) → zB_X7_back_9 (fun _ _ _ _ => False) C (zPP A ch rf (zo_back A x w) σ) [some (.inr (7, 0)), some (.inl x), some (.inl w)] [] σ := by
    intro C hC hw
    conv => whnf
    refine hC _ _ _ _ ((sp_refuse (d := d + 6) (k := 1) (by decide) hI).conseq ?_)
    intro r σ' hq
    conv => whnf
    unfold zo_back
    rw [if_pos hw]
    exact hq
  refine zSp.of rfl (Nat.le_of_ble_eq_true rfl) (zg_X7_back_0 fun G C hG hC => ?_)
  conv => whnf
  refine ⟨fun h0 => bad C hC (Or.inl h0), fun h0 => ?_⟩
  conv => whnf
  refine ⟨fun h2 => ?_, fun h2 => bad C hC (Or.inr ?_)⟩
  · have h2 : w ≤ 2 := h2
    have hw : ¬ (w < 0 ∨ 2 < w) := by
      rintro (q | q)
      · exact h0 q
      · have a1 := Int32.lt_iff_toInt_lt.mp q
        have a2 := Int32.le_iff_toInt_le.mp h2
        omega
    conv => whnf
    refine hC _ _ _ _ ((sp_noJoint (d := d + 6) (n := zan A) (by omega) hI.1.2.2.1).conseq ?_)
    rintro r σ' ⟨rfl, rfl⟩
    conv => whnf
    unfold zo_back
    rw [if_neg hw]
    rcases zix_cases x (n := zan A) (by omega) with ⟨hz, -⟩ | ⟨i, hi, rfl, hz⟩
    · rw [hz, if_neg (by decide), if_neg (by decide)]
      refine br_f (by decide) ?_
      conv => whnf
      exact ⟨fun _ _ => rfl, hI, rfl⟩
    · rw [hz, if_pos rfl, if_pos rfl, nI_clamp (by omega)]
      refine br_t rfl ?_
      conv => whnf
      refine hC _ _ _ _ ((sp_walk (d := d + 1) hI.1 hI.2.1 hI.2.2.2.2.2.2.2.1).conseq ?_)
      rintro r σ2 ⟨h1, h2, h3⟩
      have hI2 := hI.step h1 h2 h3
      have hzh := zhi.of h1 (by simp)
      conv => whnf
      refine ⟨fun e0 => ?_, fun e0 => ?_⟩
      · have e0 : w = 0 := e0
        rw [if_pos e0]
        conv => whnf
        refine ⟨pk_in i 24 (by omega), ?_⟩
        conv => whnf
        refine ⟨hzh, hI2, ?_⟩
        dsimp only
        rw [nI_clamp (by omega : i < 2 ^ 31), (h3.2 i hi).1]
        rfl
      · have e0 : ¬ w = 0 := e0
        rw [if_neg e0]
        conv => whnf
        refine ⟨fun e1 => ?_, fun e1 => ?_⟩
        · have e1 : w = 1 := e1
          rw [if_pos e1]
          conv => whnf
          refine ⟨pk_in i 24 (by omega), ?_⟩
          conv => whnf
          refine ⟨hzh, hI2, ?_⟩
          dsimp only
          rw [nI_clamp (by omega : i < 2 ^ 31), (h3.2 i hi).2.1]
          rfl
        · have e1 : ¬ w = 1 := e1
          rw [if_neg e1]
          conv => whnf
          refine ⟨pk_in i 24 (by omega), ?_⟩
          conv => whnf
          refine ⟨hzh, hI2, ?_⟩
          dsimp only
          rw [nI_clamp (by omega : i < 2 ^ 31), (h3.2 i hi).2.2]
          rfl
  · have h2 : ¬ w ≤ 2 := h2
    apply Int32.lt_iff_toInt_lt.mpr
    have : ¬ w.toInt ≤ (2 : Int32).toInt := fun q => h2 (Int32.le_iff_toInt_le.mpr q)
    omega
theorem sp_barOf (hI : zCI A ch rf σ) {x w : Int32} : zSp E (d + 8) zM_X7_barOf [.inr (7, 0), .inl x, .inl w] σ (zPP A ch rf (zob A x (zo_barOf A w)) σ) := by
  have hm := hI.1.1.2.1
  refine zSp.of rfl (Nat.le_of_ble_eq_true rfl) (zg_X7_barOf_0 fun G C hG hC => ?_)
  conv => whnf
  refine hC _ _ _ _ ((sp_noBar (d := d + 6) (n := zam A) (by omega) hI.1.2.2.2.1).conseq ?_)
  rintro r σ' ⟨rfl, rfl⟩
  conv => whnf
  rcases zix_cases x (n := zam A) (by omega) with ⟨hz, -⟩ | ⟨i, hi, rfl, hz⟩
  · rw [hz, if_neg (by decide), zob_out hz]
    refine br_f (by decide) ?_
    conv => whnf
    refine hC _ _ _ _ ((sp_refuse (d := d + 6) (k := 0) (by decide) hI).conseq ?_)
    intro r σ' hq
    conv => whnf
    exact hq
  · rw [hz, if_pos rfl, zob_in hm hi]
    have hx := hI.1.2.2.2.2.2.2.1 i hi
    refine br_t rfl ?_
    conv => whnf
    refine ⟨⟨fun e => ?_, ⟨fun e => ?_, ⟨fun e => ?_, ⟨fun e => ?_, trivial⟩⟩⟩⟩, fun e => ?_⟩
    · have e : w = 0 := e
      subst e
      conv => whnf
      refine ⟨pk_in i 80 (by omega), ?_⟩
      conv => whnf
      refine ⟨fun _ _ => rfl, hI, ?_⟩
      dsimp only
      rw [nI_clamp (by omega : i < 2 ^ 31), hx.1]
      rfl
    · have e : w = 1 := e
      subst e
      conv => whnf
      refine ⟨pk_in i 80 (by omega), ?_⟩
      conv => whnf
      refine ⟨fun _ _ => rfl, hI, ?_⟩
      dsimp only
      rw [nI_clamp (by omega : i < 2 ^ 31), hx.2.1]
      rfl
    · have e : w = 2 := e
      subst e
      conv => whnf
      refine ⟨pk_in i 80 (by omega), ?_⟩
      conv => whnf
      refine ⟨fun _ _ => rfl, hI, ?_⟩
      dsimp only
      rw [nI_clamp (by omega : i < 2 ^ 31), hx.2.2.1]
      rfl
    · have e : w = 3 := e
      subst e
      conv => whnf
      refine ⟨pk_in i 80 (by omega), ?_⟩
      conv => whnf
      dsimp only
      rw [nI_clamp (by omega : i < 2 ^ 31), hx.2.2.2]
      cases h1 : zat A i
      · rw [if_neg (by decide)]
        refine br_t rfl ?_
        conv => whnf
        exact ⟨fun _ _ => rfl, hI, by unfold zo_barOf; rw [h1]; rfl⟩
      · rw [if_pos rfl]
        refine br_f (by decide) ?_
        conv => whnf
        exact ⟨fun _ _ => rfl, hI, by unfold zo_barOf; rw [h1]; rfl⟩
    · have e : w.toInt < 0 ∨ 0 + (4 : Int) ≤ w.toInt := e
      have ho : zo_barOf A w i = .inl 1 := by
        unfold zo_barOf
        have g : ∀ v : Int32, 0 ≤ v.toInt → v.toInt < 4 → w ≠ v := fun v h1 h2 q => by subst q; omega
        rw [if_neg (g 0 (by decide) (by decide)), if_neg (g 1 (by decide) (by decide)), if_neg (g 2 (by decide) (by decide)), if_neg (g 3 (by decide) (by decide))]
      rw [ho]
      conv => whnf
      refine hC _ _ _ _ ((sp_refuse (d := d + 6) (k := 1) (by decide) hI).conseq ?_)
      intro r σ' hq
      conv => whnf
      exact hq
theorem sp_tight (hI : zCI A ch rf σ) {k l : Int32} : zSp E (d + 8) zM_X7_tight [.inr (7, 0), .inl k, .inl l] σ (zPP A ch rf (zow k l (fun k l => .inr (zo_tight A k l))) σ) := by
  have hn := hI.1.1.1
  have hm := hI.1.1.2.1
  have l2 := fb_ct_le (zat A) (zam A)
  refine zSp.of rfl (Nat.le_of_ble_eq_true rfl) (zg_X7_tight_0 fun G C hG hC => ?_)
  conv => whnf
  refine hC _ _ _ _ ((sp_wrongCount (d := d + 6)).conseq ?_)
  rintro r σ' ⟨rfl, rfl⟩
  conv => whnf
  rcases zwc_cases k l with h | h | h
  · rw [h, zow_4 h]
    refine br_f (by decide) ?_
    conv => whnf
    refine hC _ _ _ _ ((sp_refuse (d := d + 6) (k := 3) (by decide) hI).conseq ?_)
    intro r σ' hq
    conv => whnf
    exact hq
  · rw [h, zow_6 h]
    refine br_f (by decide) ?_
    conv => whnf
    refine hC _ _ _ _ ((sp_refuse (d := d + 6) (k := 5) (by decide) hI).conseq ?_)
    intro r σ' hq
    conv => whnf
    exact hq
  · obtain ⟨k, l, rfl, rfl, hk1, hk3, hl⟩ := zwc_0 h
    rw [h, zow_0 h (by omega) (by omega)]
    refine br_t rfl ?_
    conv => whnf
    refine hC _ _ _ _ ((sp_play (d := d + 2) (j := 23) (k := k) (l := l) (by decide) hI.1 hI.2.2.2.1 hk3 (by omega) (by omega)).conseq ?_)
    intro r σ2 hp
    have hI2 := hI.row23 hp.1 (hp.ri hI.2.2.2.1)
    have hz2 := zhi.of hp.1 (by simp)
    have l1 := zrk_le A false k l
    have e9 : σ2 23 9 = nI (zrk A false k l) := hp.2.2.2.2.2.1
    have e7 := hI2.1.2.2.2.2.1
    have e5 := hI2.1.2.2.1
    have fin : ∀ (b : Bool) (S : zSS), (b = true ↔ 0 < zan A ∧ nI (zrk A false k l) = nI k * nI (zan A) - nI l) → zB_X7_tight_61 G C (zPP A ch rf (.inr (zo_tight A k l)) σ') [some (.inr (7, 0)), some (.inl (nI k)), some (.inl (nI l)), some (.inl (zwc (nI k) (nI l))), none, none] [.inl (if b = true then 1 else 0)] σ2 := by
      intro b S hb
      conv => whnf
      refine pk_eq (zrk A false k l) (fb_ct (zat A) (zam A)) (fun q => ?_) (fun q => ?_) e9 e7
      · conv => whnf
        cases b
        · rw [if_neg (by decide)]
          refine br_t rfl ?_
          conv => whnf
          refine br_f (by decide) ?_
          conv => whnf
          exact ⟨hz2, hI2, by unfold zo_tight; rw [if_neg (fun z => by cases hb.mpr z), if_pos q]; rfl⟩
        · rw [if_pos rfl]
          refine br_f (by decide) ?_
          conv => whnf
          refine br_f (by decide) ?_
          conv => whnf
          exact ⟨hz2, hI2, by unfold zo_tight; rw [if_pos (hb.mp rfl), if_pos q]; rfl⟩
      · conv => whnf
        cases b
        · rw [if_neg (by decide)]
          refine br_t rfl ?_
          conv => whnf
          refine br_t rfl ?_
          conv => whnf
          exact ⟨hz2, hI2, by unfold zo_tight; rw [if_neg (fun z => by cases hb.mpr z), if_neg q]; rfl⟩
        · rw [if_pos rfl]
          refine br_f (by decide) ?_
          conv => whnf
          refine br_t rfl ?_
          conv => whnf
          exact ⟨hz2, hI2, by unfold zo_tight; rw [if_pos (hb.mp rfl), if_neg q]; rfl⟩
    conv => whnf
    refine pk_le (zan A) 0 (fun q => ?_) (fun q => ?_) e5
    · exact fin false [] ⟨fun z => (by cases z), fun z => by omega⟩
    · conv => whnf
      dsimp only
      rw [e9, e5]
      refine ⟨fun q2 => ?_, fun q2 => ?_⟩
      · exact fin true [] ⟨fun _ => ⟨q, q2⟩, fun _ => rfl⟩
      · exact fin false [] ⟨fun z => (by cases z), fun z => absurd z.2 q2⟩
theorem sp_count (hI : zCI A ch rf σ) {w : Int32} : zSp E (d + 9) zM_X7_count [.inr (7, 0), .inl w] σ (zPP A ch rf (.inr (zo_count A rf w)) σ) := by
  have hn := hI.1.1.1
  have hm := hI.1.1.2.1
  refine zSp.of rfl (Nat.le_of_ble_eq_true rfl) (zg_X7_count_0 fun G C hG hC => ?_)
  have rest : ¬ (11 ≤ w ∧ w ≤ 16) → zB_X7_count_22 G C (zPP A ch rf (.inr (zo_count A rf w)) σ) [some (.inr (7, 0)), some (.inl w)] [] σ := by
    intro hw
    have ho : zo_count A rf w = if w = 0 then nI (zan A) else if w = 1 then nI (zam A) else if w = 2 then nI (fb_ct (zat A) (zam A)) else if w = 3 then nI (zrk A false 2 3) else if w = 4 then nI (fb_ct (fun x => zat A x && zspb A x) (zam A)) else if w = 5 then nI (fb_ct (zhg A) (zan A)) else -9 := by unfold zo_count; rw [if_neg hw]
    rw [ho]
    conv => whnf
    refine ⟨⟨fun e => ?_, ⟨fun e => ?_, ⟨fun e => ?_, ⟨fun e => ?_, ⟨fun e => ?_, ⟨fun e => ?_, trivial⟩⟩⟩⟩⟩⟩, fun e => ?_⟩
    · have e : w = 0 := e
      subst e
      conv => whnf
      exact ⟨fun _ _ => rfl, hI, hI.1.2.2.1⟩
    · have e : w = 1 := e
      subst e
      conv => whnf
      exact ⟨fun _ _ => rfl, hI, hI.1.2.2.2.1⟩
    · have e : w = 2 := e
      subst e
      conv => whnf
      exact ⟨fun _ _ => rfl, hI, hI.1.2.2.2.2.1⟩
    · have e : w = 3 := e
      subst e
      conv => whnf
      refine hC _ _ _ _ ((sp_rank (d := d) hI).conseq ?_)
      intro r σ' hq
      conv => whnf
      exact hq
    · have e : w = 4 := e
      subst e
      conv => whnf
      refine hC _ _ _ _ ((sp_play (d := d + 3) (k := 2) (l := 3) (by decide) hI.1 hI.2.1 (by decide) (by decide) (by decide)).conseq ?_)
      intro r σ2 hp
      have hI' := hI.row7 hp.1 (hp.ri hI.2.1)
      conv => whnf
      refine hC _ _ _ _ ((sp_countSpare (d := d + 3) hI'.1 hp.2.2).conseq ?_)
      rintro r σ2 ⟨rfl, rfl⟩
      conv => whnf
      exact ⟨zhi.of hp.1 (by simp), hI', rfl⟩
    · have e : w = 5 := e
      subst e
      conv => whnf
      refine hC _ _ _ _ ((sp_clfind (d := d + 2) hI.1 hI.2.1 hI.2.2.2.2.1).conseq ?_)
      rintro r σ2 ⟨h1, h2, h3⟩
      have hI2 := hI.clus h1 h2 h3
      have hzh := zhi.of h1 (by simp)
      conv => whnf
      refine hC _ _ _ _ ((sp_countHinges (d := d + 5) hI2.1 h3).conseq ?_)
      rintro r σ2 ⟨rfl, rfl⟩
      conv => whnf
      exact ⟨hzh, hI2, rfl⟩
    · have e : w.toInt < 0 ∨ 0 + (6 : Int) ≤ w.toInt := e
      have g : ∀ v : Int32, 0 ≤ v.toInt → v.toInt < 6 → w ≠ v := fun v h1 h2 q => by subst q; omega
      rw [if_neg (g 0 (by decide) (by decide)), if_neg (g 1 (by decide) (by decide)), if_neg (g 2 (by decide) (by decide)), if_neg (g 3 (by decide) (by decide)), if_neg (g 4 (by decide) (by decide)), if_neg (g 5 (by decide) (by decide))]
      conv => whnf
      exact ⟨fun _ _ => rfl, hI, rfl⟩
  conv => whnf
  refine ⟨fun h1 => rest ?_, fun h1 => ?_⟩
  · rintro ⟨q, -⟩
    have h1 : w < 11 := h1
    have a1 := Int32.lt_iff_toInt_lt.mp h1
    have a2 := Int32.le_iff_toInt_le.mp q
    omega
  · have h1 : ¬ w < 11 := h1
    have a1 : ¬ w.toInt < (11 : Int32).toInt := fun q => h1 (Int32.lt_iff_toInt_lt.mpr q)
    conv => whnf
    refine ⟨fun h2 => rest ?_, fun h2 => ?_⟩
    · rintro ⟨-, q⟩
      have h2 : (16 : Int32) < w := h2
      have a1 := Int32.lt_iff_toInt_lt.mp h2
      have a2 := Int32.le_iff_toInt_le.mp q
      omega
    · have h2 : ¬ (16 : Int32) < w := h2
      have a2 : ¬ (16 : Int32).toInt < w.toInt := fun q => h2 (Int32.lt_iff_toInt_lt.mpr q)
      have e11 : (11 : Int32).toInt = 11 := rfl
      have e16 : (16 : Int32).toInt = 16 := rfl
      obtain ⟨j, hj, rfl⟩ := nI_of (x := w) (fun q => by have := Int32.lt_iff_toInt_lt.mp q; have : (0 : Int32).toInt = 0 := rfl; omega)
      rw [nI_toInt hj] at a1 a2
      have es : nI j - 11 = nI (j - 11) := by
        have : nI j = nI (j - 11) + nI 11 := by rw [nI_add]; congr 1; omega
        rw [this]
        exact Int32.add_sub_cancel _ _
      conv => whnf
      dsimp only
      rw [es]
      refine ⟨pk_in (j - 11) 6 (by omega), ?_⟩
      conv => whnf
      refine ⟨fun _ _ => rfl, hI, ?_⟩
      rw [nI_clamp (by omega : j - 11 < 2 ^ 31), hI.2.2.2.2.2.2.2.2 (j - 11) (by omega)]
      unfold zo_count
      rw [if_pos ⟨Int32.le_iff_toInt_le.mpr (by rw [nI_toInt hj]; omega), Int32.le_iff_toInt_le.mpr (by rw [nI_toInt hj]; omega)⟩, nI_clamp hj]
      rfl
end zQ
