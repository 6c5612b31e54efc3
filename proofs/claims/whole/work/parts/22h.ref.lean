/-! the reference: wrongCount, rankBy, keptBy, thereMany, tight, forests, barOf -/
section zQ
variable {E : zEN} {d : Nat} {A : zAS} {rf : Nat → Int32} {σ : zST}
theorem sm_wrongCount {k l : Int32} : zSp E (d + 1) zM_X8_wrongCount [.inl k, .inl l] σ (fun r σ' => σ' = σ ∧ r = zwc k l) := by
  refine zSp.of rfl (Nat.le_of_ble_eq_true rfl) (zg_X8_wrongCount_0 fun G C hG hC => ?_)
  unfold zwc
  conv => whnf
  refine ⟨fun h1 => ?_, fun h1 => ?_⟩
  · conv => whnf
    have h1 : k < 1 := h1
    exact ⟨rfl, by rw [if_pos (Or.inl h1)]⟩
  · have h1 : ¬ k < 1 := h1
    conv => whnf
    refine ⟨fun h2 => ?_, fun h2 => ?_⟩
    · have h2 : 0 ≤ l := h2
      have h2' : ¬ l < 0 := fun q => by
        have a1 := Int32.lt_iff_toInt_lt.mp q
        have a2 := Int32.le_iff_toInt_le.mp h2
        omega
      conv => whnf
      refine ⟨fun h3 => ?_, fun h3 => ?_⟩
      · have h3 : 3 < k := h3
        conv => whnf
        exact ⟨rfl, by rw [if_neg (by simp [h1, h2']), if_pos (Or.inl h3)]⟩
      · have h3 : ¬ 3 < k := h3
        conv => whnf
        refine ⟨fun h4 => ?_, fun h4 => ?_⟩
        · have h4 : l ≤ 2 * k - 1 := h4
          have h4' : ¬ 2 * k - 1 < l := fun q => by
            have a1 := Int32.lt_iff_toInt_lt.mp q
            have a2 := Int32.le_iff_toInt_le.mp h4
            omega
          conv => whnf
          exact ⟨rfl, by rw [if_neg (by simp [h1, h2']), if_neg (by simp [h3, h4'])]⟩
        · have h4 : ¬ l ≤ 2 * k - 1 := h4
          have h4' : 2 * k - 1 < l := by
            rw [Int32.lt_iff_toInt_lt]
            have : ¬ l.toInt ≤ (2 * k - 1).toInt := fun q => h4 (Int32.le_iff_toInt_le.mpr q)
            omega
          conv => whnf
          exact ⟨rfl, by rw [if_neg (by simp [h1, h2']), if_pos (Or.inr h4')]⟩
    · have h2 : ¬ 0 ≤ l := h2
      have h2' : l < 0 := by
        rw [Int32.lt_iff_toInt_lt]
        have : ¬ (0 : Int32).toInt ≤ l.toInt := fun q => h2 (Int32.le_iff_toInt_le.mpr q)
        omega
      conv => whnf
      exact ⟨rfl, by rw [if_pos (Or.inr h2')]⟩
theorem sm_barOf (hI : zmf A rf σ) {x w : Int32} : zSp E (d + 40) zM_X8_barOf [.inr (8, 48), .inl x, .inl w] σ (zMP A rf (zob A x (zo_barOf A w)) σ) := by
  have hm := hI.1.2.1
  refine zSp.of rfl (Nat.le_of_ble_eq_true rfl) (zg_X8_barOf_0 fun G C hG hC => ?_)
  conv => whnf
  refine hC _ _ _ _ ((sm_isBar (d := d + 37) hI).conseq ?_)
  rintro r σ' ⟨rfl, rfl⟩
  conv => whnf
  rcases zix_cases x (n := zam A) (by omega) with ⟨hz, -⟩ | ⟨i, hi, rfl, hz⟩
  · rw [hz, if_neg (by decide), zob_out hz]
    refine br_t rfl ?_
    conv => whnf
    refine hC _ _ _ _ ((sm_refuse (d := d + 38) (k := 0) (by decide) hI).conseq ?_)
    intro r σ' hq
    conv => whnf
    exact hq
  · rw [hz, if_pos rfl, zob_in hm hi]
    have hx := hI.2.2.2.1 i hi
    refine br_f (by decide) ?_
    conv => whnf
    refine ⟨⟨fun e => ?_, ⟨fun e => ?_, ⟨fun e => ?_, ⟨fun e => ?_, trivial⟩⟩⟩⟩, fun e => ?_⟩
    · have e : w = 0 := e
      subst e
      conv => whnf
      refine ⟨pk_in i 80 (by omega), ?_⟩
      conv => whnf
      refine ⟨zlo.rf, hI, ?_⟩
      dsimp only
      rw [nI_clamp (by omega : i < 2 ^ 31), hx.1]
      rfl
    · have e : w = 1 := e
      subst e
      conv => whnf
      refine ⟨pk_in i 80 (by omega), ?_⟩
      conv => whnf
      refine ⟨zlo.rf, hI, ?_⟩
      dsimp only
      rw [nI_clamp (by omega : i < 2 ^ 31), hx.2.1]
      rfl
    · have e : w = 2 := e
      subst e
      conv => whnf
      refine ⟨pk_in i 80 (by omega), ?_⟩
      conv => whnf
      refine ⟨zlo.rf, hI, ?_⟩
      dsimp only
      rw [nI_clamp (by omega : i < 2 ^ 31), hx.2.2.1]
      rfl
    · have e : w = 3 := e
      subst e
      conv => whnf
      refine ⟨pk_in i 80 (by omega), ?_⟩
      conv => whnf
      dsimp only
      rw [nI_clamp (by omega : i < 2 ^ 31), hx.2.2.2]
      cases h1 : zat A i
      · rw [if_neg (by decide)]
        refine br_t rfl ?_
        conv => whnf
        exact ⟨zlo.rf, hI, by unfold zo_barOf; rw [h1]; rfl⟩
      · rw [if_pos rfl]
        refine br_f (by decide) ?_
        conv => whnf
        exact ⟨zlo.rf, hI, by unfold zo_barOf; rw [h1]; rfl⟩
    · have e : w.toInt < 0 ∨ 0 + (4 : Int) ≤ w.toInt := e
      have ho : zo_barOf A w i = .inl 1 := by
        unfold zo_barOf
        have g : ∀ v : Int32, 0 ≤ v.toInt → v.toInt < 4 → w ≠ v := fun v h1 h2 q => by subst q; omega
        rw [if_neg (g 0 (by decide) (by decide)), if_neg (g 1 (by decide) (by decide)), if_neg (g 2 (by decide) (by decide)), if_neg (g 3 (by decide) (by decide))]
      rw [ho]
      conv => whnf
      refine hC _ _ _ _ ((sm_refuse (d := d + 38) (k := 1) (by decide) hI).conseq ?_)
      intro r σ' hq
      conv => whnf
      exact hq
theorem sm_rankBy (hI : zmf A rf σ) {k l : Int32} : zSp E (d + 40) zM_X8_rankBy [.inr (8, 48), .inl k, .inl l] σ (zMP A rf (zow k l (fun k l => .inr (nI (zrk A false k l)))) σ) := by
  refine zSp.of rfl (Nat.le_of_ble_eq_true rfl) (zg_X8_rankBy_0 fun G C hG hC => ?_)
  conv => whnf
  refine hC _ _ _ _ ((sm_wrongCount (d := d + 38)).conseq ?_)
  rintro r σ' ⟨rfl, rfl⟩
  conv => whnf
  rcases zwc_cases k l with h | h | h
  · rw [h, zow_4 h]
    refine br_f (by decide) ?_
    conv => whnf
    refine hC _ _ _ _ ((sm_refuse (d := d + 38) (k := 3) (by decide) hI).conseq ?_)
    intro r σ' hq
    conv => whnf
    exact hq
  · rw [h, zow_6 h]
    refine br_f (by decide) ?_
    conv => whnf
    refine hC _ _ _ _ ((sm_refuse (d := d + 38) (k := 5) (by decide) hI).conseq ?_)
    intro r σ' hq
    conv => whnf
    exact hq
  · obtain ⟨k, l, rfl, rfl, hk1, hk3, hl⟩ := zwc_0 h
    rw [h, zow_0 h (by omega) (by omega)]
    refine br_t rfl ?_
    conv => whnf
    refine hC _ _ _ _ ((sm_keeps1 (d := d + 11) hI hk3 (by omega)).conseq ?_)
    rintro r σ2 ⟨h1, h2, rfl⟩
    conv => whnf
    exact ⟨h1.lo (by simp), hI.agw h1 (by simp) (by simp), rfl⟩
theorem sm_keptBy (hI : zmf A rf σ) {x k l : Int32} : zSp E (d + 40) zM_X8_keptBy [.inr (8, 48), .inl x, .inl k, .inl l] σ (zMP A rf (zob A x (fun i => zow k l (fun k l => .inr (zkv A false k l i)))) σ) := by
  have hm := hI.1.2.1
  refine zSp.of rfl (Nat.le_of_ble_eq_true rfl) (zg_X8_keptBy_0 fun G C hG hC => ?_)
  conv => whnf
  refine hC _ _ _ _ ((sm_isBar (d := d + 37) hI).conseq ?_)
  rintro r σ' ⟨rfl, rfl⟩
  conv => whnf
  rcases zix_cases x (n := zam A) (by omega) with ⟨hz, -⟩ | ⟨i, hi, rfl, hz⟩
  · rw [hz, if_neg (by decide), zob_out hz]
    refine br_t rfl ?_
    conv => whnf
    refine br_f (by decide) ?_
    conv => whnf
    refine hC _ _ _ _ ((sm_refuse (d := d + 38) (k := 0) (by decide) hI).conseq ?_)
    intro r σ' hq
    conv => whnf
    exact hq
  · rw [hz, if_pos rfl, zob_in hm hi]
    refine br_f (by decide) ?_
    conv => whnf
    refine hC _ _ _ _ ((sm_wrongCount (d := d + 38)).conseq ?_)
    rintro r σ' ⟨rfl, rfl⟩
    conv => whnf
    rcases zwc_cases k l with h | h | h
    · rw [h, zow_4 h]
      refine br_f (by decide) ?_
      conv => whnf
      refine hC _ _ _ _ ((sm_refuse (d := d + 38) (k := 3) (by decide) hI).conseq ?_)
      intro r σ' hq
      conv => whnf
      exact hq
    · rw [h, zow_6 h]
      refine br_f (by decide) ?_
      conv => whnf
      refine hC _ _ _ _ ((sm_refuse (d := d + 38) (k := 5) (by decide) hI).conseq ?_)
      intro r σ' hq
      conv => whnf
      exact hq
    · obtain ⟨k, l, rfl, rfl, hk1, hk3, hl⟩ := zwc_0 h
      rw [h, zow_0 h (by omega) (by omega)]
      refine br_t rfl ?_
      conv => whnf
      refine hC _ _ _ _ ((sm_keeps1 (d := d + 11) hI hk3 (by omega)).conseq ?_)
      rintro r σ2 ⟨h1, h2, rfl⟩
      have hI2 := hI.agw h1 (by simp) (by simp)
      have hz2 := h1.lo (by simp)
      conv => whnf
      refine ⟨pk_in i 80 (by omega), ?_⟩
      conv => whnf
      dsimp only
      rw [nI_clamp (by omega : i < 2 ^ 31), (hI2.2.2.2.1 i hi).2.2.2]
      unfold zkv
      cases h3 : zat A i
      · rw [if_neg (by decide)]
        refine br_t rfl ?_
        conv => whnf
        exact ⟨hz2, hI2, rfl⟩
      · rw [if_pos rfl]
        refine br_f (by decide) ?_
        conv => whnf
        refine ⟨pk_in i 80 (by omega), ?_⟩
        conv => whnf
        dsimp only
        rw [nI_clamp (by omega : i < 2 ^ 31), h2.2 i hi]
        cases h4 : zK A false k l i
        · rw [if_neg (by decide)]
          refine br_t rfl ?_
          conv => whnf
          exact ⟨hz2, hI2, rfl⟩
        · rw [if_pos rfl]
          refine br_f (by decide) ?_
          conv => whnf
          exact ⟨hz2, hI2, rfl⟩
theorem sm_thereMany (hI : zmf A rf σ) : zSp E (d + 1) zM_X8_thereMany [.inr (8, 48)] σ (fun r σ' => σ' = σ ∧ r = nI (fb_ct (zat A) (zam A))) := by
  have hm := hI.1.2.1
  have loop : ∀ r i (x1 x2 : Int32), i + r = zam A → x1 = nI (fb_ct (zat A) i) → x2 = nI i → zWp E (d + 1) zM_X8_thereMany (fun r σ' => σ' = σ ∧ r = nI (fb_ct (zat A) (zam A))) 4 [some (.inr (8, 48)), some (.inl x1), some (.inl x2)] [] σ := by
    intro r
    induction r with
    | zero =>
      intro i x1 x2 hi hx1 hx2
      have hi : i = zam A := by omega
      subst hi
      refine zg_X8_thereMany_4 fun G C hG hC => ?_
      conv => whnf
      refine pk_le (zam A) (zam A) (fun _ => ?_) (fun _ => by omega) hI.2.2.1 hx2
      conv => whnf
      exact ⟨rfl, hx1⟩
    | succ r ih =>
      intro i x1 x2 hi hx1 hx2
      have hx := hI.2.2.2.1 i (by omega)
      refine zg_X8_thereMany_4 fun G C hG hC => ?_
      conv => whnf
      refine pk_le (zam A) i (fun _ => by omega) (fun _ => ?_) hI.2.2.1 hx2
      conv => whnf
      refine ⟨pk_in i 80 (by omega) hx2, ?_⟩
      conv => whnf
      dsimp only
      rw [pk_cl i hx2, hx.2.2.2]
      cases ht : zat A i
      · rw [if_neg (by decide)]
        refine br_t rfl ?_
        conv => whnf
        exact hG _ _ _ _ (ih (i + 1) _ _ (by omega) (by rw [hx1, fb_ct_succ, ht]; exact nI_add _ 0) (by rw [hx2, nI_1]))
      · rw [if_pos rfl]
        refine br_f (by decide) ?_
        conv => whnf
        exact hG _ _ _ _ (ih (i + 1) _ _ (by omega) (by rw [hx1, fb_ct_succ, ht]; exact nI_add _ 1) (by rw [hx2, nI_1]))
  refine zSp.of rfl (Nat.le_of_ble_eq_true rfl) (zg_X8_thereMany_0 fun G C hG hC => ?_)
  conv => whnf
  exact hG _ _ _ _ (loop (zam A) 0 0 0 (by omega) rfl rfl)
theorem sm_tight (hI : zmf A rf σ) {k l : Int32} : zSp E (d + 40) zM_X8_tight [.inr (8, 48), .inl k, .inl l] σ (zMP A rf (zow k l (fun k l => .inr (zo_tight A k l))) σ) := by
  have hn := hI.1.1
  have hm := hI.1.2.1
  have l2 := fb_ct_le (zat A) (zam A)
  refine zSp.of rfl (Nat.le_of_ble_eq_true rfl) (zg_X8_tight_0 fun G C hG hC => ?_)
  conv => whnf
  refine hC _ _ _ _ ((sm_wrongCount (d := d + 38)).conseq ?_)
  rintro r σ' ⟨rfl, rfl⟩
  conv => whnf
  rcases zwc_cases k l with h | h | h
  · rw [h, zow_4 h]
    refine br_f (by decide) ?_
    conv => whnf
    refine hC _ _ _ _ ((sm_refuse (d := d + 38) (k := 3) (by decide) hI).conseq ?_)
    intro r σ' hq
    conv => whnf
    exact hq
  · rw [h, zow_6 h]
    refine br_f (by decide) ?_
    conv => whnf
    refine hC _ _ _ _ ((sm_refuse (d := d + 38) (k := 5) (by decide) hI).conseq ?_)
    intro r σ' hq
    conv => whnf
    exact hq
  · obtain ⟨k, l, rfl, rfl, hk1, hk3, hl⟩ := zwc_0 h
    rw [h, zow_0 h (by omega) (by omega)]
    refine br_t rfl ?_
    conv => whnf
    refine hC _ _ _ _ ((sm_keeps1 (d := d + 11) hI hk3 (by omega)).conseq ?_)
    rintro r σ2 ⟨h1, h2, rfl⟩
    have hI2 := hI.agw h1 (by simp) (by simp)
    have hz2 := h1.lo (by simp)
    have l1 := zrk_le A false k l
    have fin : ∀ (b : Bool), (b = true ↔ 0 < zan A ∧ nI (zrk A false k l) = nI k * nI (zan A) - nI l) → zB_X8_tight_50 G C (zMP A rf (.inr (zo_tight A k l)) σ') [some (.inr (8, 48)), some (.inl (nI k)), some (.inl (nI l)), some (.inl (zwc (nI k) (nI l))), some (.inl (nI (zrk A false k l)))] [.inl (if b = true then 2 else 0)] σ2 := by
      intro b hb
      conv => whnf
      refine hC _ _ _ _ ((sm_thereMany (d := d + 38) hI2).conseq ?_)
      rintro r σ3 ⟨rfl, rfl⟩
      conv => whnf
      refine pk_eq (zrk A false k l) (fb_ct (zat A) (zam A)) (fun q => ?_) (fun q => ?_)
      · conv => whnf
        refine ⟨hz2, hI2, ?_⟩
        unfold zo_tight
        cases b
        · rw [if_neg (by decide), if_neg (fun z => by cases hb.mpr z), if_pos q]; rfl
        · rw [if_pos rfl, if_pos (hb.mp rfl), if_pos q]; rfl
      · conv => whnf
        refine ⟨hz2, hI2, ?_⟩
        unfold zo_tight
        cases b
        · rw [if_neg (by decide), if_neg (fun z => by cases hb.mpr z), if_neg q]; rfl
        · rw [if_pos rfl, if_pos (hb.mp rfl), if_neg q]; rfl
    conv => whnf
    refine pk_le (zan A) 0 (fun q => ?_) (fun q => ?_) hI2.2.1
    · exact fin false ⟨fun z => (by cases z), fun z => by omega⟩
    · conv => whnf
      dsimp only
      rw [hI2.2.1]
      refine ⟨fun q2 => ?_, fun q2 => ?_⟩
      · exact fin true ⟨fun _ => ⟨q, q2⟩, fun _ => rfl⟩
      · exact fin false ⟨fun z => (by cases z), fun z => absurd z.2 q2⟩
theorem sm_forests (hI : zmf A rf σ) : zSp E (d + 40) zM_X8_forests [.inr (8, 48)] σ (zMP A rf (.inr (zfor A 3 1)) σ) := by
  have hm := hI.1.2.1
  have l2 := fb_ct_le (zat A) (zam A)
  have loop : ∀ n k (x1 : Int32) (σ' : zST), k + n = 4 → 1 ≤ k → x1 = nI k → zlo σ σ' → zmf A rf σ' → zWp E (d + 40) zM_X8_forests (zMP A rf (.inr (zfor A n k)) σ) 2 [some (.inr (8, 48)), some (.inl x1)] [] σ' := by
    intro n
    induction n with
    | zero =>
      intro k x1 σ' hk h1 hx hz hI
      refine zg_X8_forests_2 fun G C hG hC => ?_
      conv => whnf
      refine pk_le 4 k (fun _ => ?_) (fun _ => by omega) rfl hx
      conv => whnf
      exact ⟨hz, hI, rfl⟩
    | succ n ih =>
      intro k x1 σ' hk h1 hx hz hI
      refine zg_X8_forests_2 fun G C hG hC => ?_
      conv => whnf
      refine pk_le 4 k (fun _ => by omega) (fun _ => ?_) rfl hx
      conv => whnf
      subst hx
      refine hC _ _ _ _ ((sm_keeps1 (d := d + 11) hI (by omega) (by omega)).conseq ?_)
      rintro r σ2 ⟨h3, h4, rfl⟩
      have hI2 := hI.agw h3 (by simp) (by simp)
      have hz2 := hz.tr (h3.lo (by simp))
      have l1 := zrk_le A false k k
      conv => whnf
      refine hC _ _ _ _ ((sm_thereMany (d := d + 38) hI2).conseq ?_)
      rintro r σ3 ⟨rfl, rfl⟩
      conv => whnf
      refine pk_eq (zrk A false k k) (fb_ct (zat A) (zam A)) (fun h => ?_) (fun h => ?_)
      · conv => whnf
        exact ⟨hz2, hI2, by unfold zfor; rw [if_pos h]; rfl⟩
      · conv => whnf
        have := ih (k + 1) (nI (k + 1)) σ3 (by omega) (by omega) rfl hz2 hI2
        have e : zfor A (n + 1) k = zfor A n (k + 1) := by rw [zfor, if_neg h]
        rw [← e, nI_succ] at this
        exact hG _ _ _ _ this
  refine zSp.of rfl (Nat.le_of_ble_eq_true rfl) (zg_X8_forests_0 fun G C hG hC => ?_)
  conv => whnf
  exact hG _ _ _ _ (loop 3 1 1 σ rfl (by omega) rfl zlo.rf hI)
end zQ
