/-! the reference: freedom, kept, spare, stiff, grows -/
theorem zrk_wo {A : zAS} (hvd : zvd A) {x : Nat} (hx : x < zam A) (ht : zat A x = true) : (zrk A false 2 3 = zrk (zwo A (nI x)) false 2 3 ↔ zspr A x) ∧ zrk (zwo A (nI x)) false 2 3 ≤ zrk A false 2 3 := by
  have hm := hvd.2.1
  have hB : zsp (zaa A) (zab A) (zam A) 2 3 (zK (zwo A (nI x)) false 2 3) := zK_sp (A := zwo A (nI x)) (by decide)
  have hBt : ∀ y, zK (zwo A (nI x)) false 2 3 y = true → y < zam A ∧ zat A y = true ∧ y ≠ x := fun y hy => by
    have h := zK_t hy
    have h2 : (zat A y && !decide (nI y = nI x)) = true := h.2
    have h1 : y < zam A := h.1
    simp only [Bool.and_eq_true, Bool.not_eq_true', decide_eq_false_iff_not] at h2
    exact ⟨h1, h2.1, fun e => h2.2 (by rw [e])⟩
  have hBm : ∀ y, y < zam A → zat A y = true → y ≠ x → zK (zwo A (nI x)) false 2 3 y = false → ¬ zfb (zaa A) (zab A) (zam A) 2 3 (zK (zwo A (nI x)) false 2 3) (zaa A y) (zab A y) := fun y h1 h2 h3 h4 => zK_max (A := zwo A (nI x)) h1 (by
    show (zat A y && !decide (nI y = nI x)) = true
    have : ¬ nI y = nI x := fun e => h3 ((nI_eq (by omega) (by omega)).mp e)
    simp [h2, this]) h4
  have hle : zrk (zwo A (nI x)) false 2 3 ≤ zrk A false 2 3 := zexch hvd.eo (S := zat A) hB (fun y _ hy => (hBt y hy).2.1) _ _ (zK_sp (by decide)) (fun e h1 h2 h3 => zK_max h1 h2 h3) rfl
  have up : ∀ J : Nat → Bool, zsp (zaa A) (zab A) (zam A) 2 3 J → (∀ y, y < zam A → J y = true → (zat A y && !decide (y = x)) = true) → fb_ct J (zam A) ≤ zrk (zwo A (nI x)) false 2 3 := fun J hJ hJS => zexch hvd.eo (S := fun y => zat A y && !decide (y = x)) hJ hJS _ _ hB (fun e h1 h2 h3 => by
    simp only [Bool.and_eq_true, Bool.not_eq_true', decide_eq_false_iff_not] at h2
    exact hBm e h1 h2.1 h2.2 h3) rfl
  refine ⟨⟨fun heq => ?_, fun hs => ?_⟩, hle⟩
  · apply Classical.byContradiction
    intro hn
    have hKx : zK A false 2 3 x = true := by
      cases h : zK A false 2 3 x
      · exact absurd (Or.inl h) hn
      · rfl
    have hI : zsp (zaa A) (zab A) (zam A) 2 3 (fun y => if y = x then false else zK A false 2 3 y) := zsp_sub (zK_sp (by decide)) (fun y _ hy => by
      by_cases e : y = x
      · simp [e] at hy
      · simpa [e] using hy)
    have hlt : zrk (zwo A (nI x)) false 2 3 ≤ fb_ct (fun y => if y = x then false else zK A false 2 3 y) (zam A) := zexch hvd.eo (S := fun y => zat A y && !decide (y = x)) hB (fun y _ hy => by have := hBt y hy; simp [this.2.1, this.2.2]) _ _ hI (fun e h1 h2 h3 hf => by
      simp only [Bool.and_eq_true, Bool.not_eq_true', decide_eq_false_iff_not] at h2
      have h3' : zK A false 2 3 e = false := by simpa [h2.2] using h3
      refine hn (Or.inr ⟨e, h1, ?_, ?_⟩)
      · unfold zlf; rw [h2.1, h3']; rfl
      · unfold zci; rw [hKx]; exact @decide_eq_true _ (Classical.propDecidable _) hf) rfl
    have := fb_ct_del1 hx hKx
    unfold zrk at *
    omega
  · refine Nat.le_antisymm ?_ hle
    by_cases hKx : zK A false 2 3 x = true
    · rcases hs with h | ⟨lf, h1, h2, h3⟩
      · rw [h] at hKx; cases hKx
      · unfold zlf at h2
        simp only [Bool.and_eq_true, Bool.not_eq_true'] at h2
        unfold zci at h3
        rw [hKx, Bool.true_and] at h3
        have hf := @of_decide_eq_true _ (Classical.propDecidable _) h3
        have hne : lf ≠ x := fun e => by rw [e, hKx] at h2; exact absurd h2.2 (by decide)
        have hI : zsp (zaa A) (zab A) (zam A) 2 3 (fun y => if y = x then false else zK A false 2 3 y) := zsp_sub (zK_sp (by decide)) (fun y _ hy => by
          by_cases e : y = x
          · simp [e] at hy
          · simpa [e] using hy)
        have hIl : (fun y => if y = x then false else zK A false 2 3 y) lf = false := by simp [hne, h2.2]
        have hJ := zsp_add h1 hIl hI hf
        have := up _ hJ (fun y hy hJy => by
          by_cases e : y = lf
          · subst e; simp [h2.1, hne]
          · simp only [e, if_false] at hJy
            by_cases e2 : y = x
            · simp [e2] at hJy
            · simp only [e2, if_false] at hJy
              simp [(zK_t hJy).2, e2])
        rw [fb_ct_add1 h1 hIl] at this
        have h5 := fb_ct_del1 hx hKx
        unfold zrk at *
        omega
    · have hKx : zK A false 2 3 x = false := by
        cases h : zK A false 2 3 x
        · rfl
        · exact absurd h hKx
      exact up _ (zK_sp (by decide)) (fun y hy hJy => by
        have : y ≠ x := fun e => by rw [e, hKx] at hJy; cases hJy
        simp [(zK_t hJy).2, this])
theorem zcd_lt {n : Nat} (hn : n ≤ 24) : zcd (fun x => decide (x < n)) = n := by
  unfold zcd
  have h := fb_ct_split (fun x => decide (x < n)) n (24 - n)
  rw [Nat.add_sub_of_le hn] at h
  have e1 : fb_ct (fun x => decide (x < n)) n = n := fb_ct_all.mpr (fun k hk => by simp [hk])
  have e2 : fb_ct (fun k => decide (n + k < n)) (24 - n) = 0 := fb_ct_zero.mpr (fun k _ => by simp)
  rw [h, e1, e2]; rfl
theorem zrk_full {A : zAS} (hvd : zvd A) (hm : 0 < zam A) : zrk A false 2 3 + 3 ≤ 2 * zan A := by
  have hn := hvd.1
  have h0 := hvd.2.2 0 hm
  have h := zK_sp (A := A) (bc := false) (k := 2) (l := 3) (by decide) (fun x => decide (x < zan A)) (by rw [zcd_lt hn]; omega)
  rw [zcd_lt hn] at h
  have e : zib (zaa A) (zab A) (zam A) (zK A false 2 3) (fun x => decide (x < zan A)) = zrk A false 2 3 := fb_ct_cong fun y hy => by
    have := hvd.2.2 y hy
    have h1 : zaa A y < zan A := by omega
    simp [h1, this.2.1]
  rw [e] at h
  exact h
section zQ
variable {E : zEN} {d : Nat} {A : zAS} {rf : Nat → Int32} {σ : zST}
theorem sm_freedomOf (hI : zmf A rf σ) {x : Int32} : zSp E (d + 1) zM_X8_freedomOf [.inr (8, 48), .inl x] σ (fun r σ' => σ' = σ ∧ r = 2 * nI (zan A) - x) := by
  refine zSp.of rfl (Nat.le_of_ble_eq_true rfl) (zg_X8_freedomOf_0 fun G C hG hC => ?_)
  conv => whnf
  refine ⟨rfl, ?_⟩
  dsimp only
  rw [hI.2.1]
theorem sm_freedom1 (hI : zmf A rf σ) : zSp E (d + 30) zM_X8_freedom [.inr (8, 48)] σ (fun r σ' => zagw zkj [11, 12, 13] σ σ' ∧ r = 2 * nI (zan A) - nI (zrk A false 2 3)) := by
  refine zSp.of rfl (Nat.le_of_ble_eq_true rfl) (zg_X8_freedom_0 fun G C hG hC => ?_)
  conv => whnf
  refine hC _ _ _ _ ((sm_ranks (d := d) hI).conseq ?_)
  rintro r σ' ⟨h1, h2, rfl⟩
  conv => whnf
  refine hC _ _ _ _ ((sm_freedomOf (d := d + 28) (hI.agw h1 (by simp) (by simp))).conseq ?_)
  rintro r σ2 ⟨rfl, rfl⟩
  conv => whnf
  exact ⟨h1, rfl⟩
theorem sm_freedom (hI : zmf A rf σ) : zSp E (d + 40) zM_X8_freedom [.inr (8, 48)] σ (zMP A rf (.inr (2 * nI (zan A) - nI (zrk A false 2 3))) σ) := by
  refine (sm_freedom1 (d := d + 10) hI).conseq ?_
  rintro r σ' ⟨h1, rfl⟩
  exact ⟨h1.lo (by simp), hI.agw h1 (by simp) (by simp), rfl⟩
theorem sm_kept (hI : zmf A rf σ) {x : Int32} : zSp E (d + 40) zM_X8_kept [.inr (8, 48), .inl x] σ (zMP A rf (zob A x (fun i => .inr (zkv A false 2 3 i))) σ) := by
  have hm := hI.1.2.1
  refine zSp.of rfl (Nat.le_of_ble_eq_true rfl) (zg_X8_kept_0 fun G C hG hC => ?_)
  conv => whnf
  refine hC _ _ _ _ ((sm_isBar (d := d + 37) hI).conseq ?_)
  rintro r σ' ⟨rfl, rfl⟩
  conv => whnf
  rcases zix_cases x (n := zam A) (by omega) with ⟨hz, -⟩ | ⟨i, hi, rfl, hz⟩
  · rw [hz, if_neg (by decide), zob_out hz]
    refine br_t rfl ?_
    conv => whnf
    refine hC _ _ _ _ ((sm_refuse (d := d + 38) (k := 0) (by decide) hI).conseq ?_)
    intro r σ' hq
    conv => whnf
    exact hq
  · rw [hz, if_pos rfl, zob_in hm hi]
    refine br_f (by decide) ?_
    conv => whnf
    refine hC _ _ _ _ ((sm_ranks (d := d + 10) hI).conseq ?_)
    rintro r σ2 ⟨h1, h2, rfl⟩
    have hI2 := hI.agw h1 (by simp) (by simp)
    have hz2 := h1.lo (by simp)
    conv => whnf
    refine ⟨pk_in i 80 (by omega), ?_⟩
    conv => whnf
    dsimp only
    rw [nI_clamp (by omega : i < 2 ^ 31), (hI2.2.2.2.1 i hi).2.2.2]
    unfold zkv
    cases h3 : zat A i
    · rw [if_neg (by decide)]
      refine br_t rfl ?_
      conv => whnf
      exact ⟨hz2, hI2, rfl⟩
    · rw [if_pos rfl]
      refine br_f (by decide) ?_
      conv => whnf
      refine ⟨pk_in i 80 (by omega), ?_⟩
      conv => whnf
      dsimp only
      rw [nI_clamp (by omega : i < 2 ^ 31), h2.2 i hi]
      cases h4 : zK A false 2 3 i
      · rw [if_neg (by decide)]
        refine br_t rfl ?_
        conv => whnf
        exact ⟨hz2, hI2, rfl⟩
      · rw [if_pos rfl]
        refine br_f (by decide) ?_
        conv => whnf
        exact ⟨hz2, hI2, rfl⟩
theorem sm_isSpare (hI : zmf A rf σ) {i : Nat} (hi : i < zam A) (ht : zat A i = true) : zSp E (d + 30) zM_X8_isSpare [.inr (8, 48), .inl (nI i)] σ (fun r σ' => zagw zkj [11, 12, 13] σ σ' ∧ r = if zspb A i = true then 1 else 0) := by
  have hm := hI.1.2.1
  refine zSp.of rfl (Nat.le_of_ble_eq_true rfl) (zg_X8_isSpare_0 fun G C hG hC => ?_)
  conv => whnf
  refine hC _ _ _ _ ((sm_ranks (d := d) hI).conseq ?_)
  rintro r σ' ⟨h1, h2, rfl⟩
  have hI2 := hI.agw h1 (by simp) (by simp)
  conv => whnf
  refine hC _ _ _ _ ((sm_keeps (d := d + 1) (k := 2) (l := 3) hI2 (by decide) (by decide)).conseq ?_)
  rintro r σ2 ⟨h3, h4, rfl⟩
  conv => whnf
  have l1 := zrk_le A false 2 3
  have l2 : zrk (zwo A (nI i)) false 2 3 ≤ zam A := zrk_le _ false 2 3
  refine pk_eq (zrk A false 2 3) (zrk (zwo A (nI i)) false 2 3) (fun h => ?_) (fun h => ?_)
  · conv => whnf
    exact ⟨Or.inr rfl, h1.tr h3, by rw [zspb_t ((zrk_wo hI.1 hi ht).1.mp h)]; rfl⟩
  · conv => whnf
    exact ⟨Or.inl rfl, h1.tr h3, by rw [zspb_f (fun q => h ((zrk_wo hI.1 hi ht).1.mpr q))]; rfl⟩
theorem sm_spare (hI : zmf A rf σ) {x : Int32} : zSp E (d + 40) zM_X8_spare [.inr (8, 48), .inl x] σ (zMP A rf (zob A x (fun i => .inr (if zat A i = true then (if zspb A i = true then 1 else 0) else -9))) σ) := by
  have hm := hI.1.2.1
  refine zSp.of rfl (Nat.le_of_ble_eq_true rfl) (zg_X8_spare_0 fun G C hG hC => ?_)
  conv => whnf
  refine hC _ _ _ _ ((sm_isBar (d := d + 37) hI).conseq ?_)
  rintro r σ' ⟨rfl, rfl⟩
  conv => whnf
  rcases zix_cases x (n := zam A) (by omega) with ⟨hz, -⟩ | ⟨i, hi, rfl, hz⟩
  · rw [hz, if_neg (by decide), zob_out hz]
    refine br_t rfl ?_
    conv => whnf
    refine hC _ _ _ _ ((sm_refuse (d := d + 38) (k := 0) (by decide) hI).conseq ?_)
    intro r σ' hq
    conv => whnf
    exact hq
  · rw [hz, if_pos rfl, zob_in hm hi]
    refine br_f (by decide) ?_
    conv => whnf
    refine ⟨pk_in i 80 (by omega), ?_⟩
    conv => whnf
    dsimp only
    rw [nI_clamp (by omega : i < 2 ^ 31), (hI.2.2.2.1 i hi).2.2.2]
    cases h3 : zat A i
    · rw [if_neg (by decide)]
      refine br_t rfl ?_
      conv => whnf
      exact ⟨zlo.rf, hI, rfl⟩
    · rw [if_pos rfl]
      refine br_f (by decide) ?_
      conv => whnf
      refine hC _ _ _ _ ((sm_isSpare (d := d + 9) hI hi h3).conseq ?_)
      rintro r σ2 ⟨h1, rfl⟩
      have hI2 := hI.agw h1 (by simp) (by simp)
      have hz2 := h1.lo (by simp)
      conv => whnf
      cases h4 : zspb A i
      · rw [if_neg (by decide)]
        refine br_t rfl ?_
        conv => whnf
        exact ⟨hz2, hI2, rfl⟩
      · rw [if_pos rfl]
        refine br_f (by decide) ?_
        conv => whnf
        exact ⟨hz2, hI2, rfl⟩
theorem sm_grows (hI : zmf A rf σ) {x y : Int32} : zSp E (d + 40) zM_X8_grows [.inr (8, 48), .inl x, .inl y] σ (zMP A rf (zop A x y (fun u w => .inr (if zbn A u w = true then 0 else 1))) σ) := by
  have hn := hI.1.1
  refine zSp.of rfl (Nat.le_of_ble_eq_true rfl) (zg_X8_grows_0 fun G C hG hC => ?_)
  conv => whnf
  refine hC _ _ _ _ ((sm_areJoints (d := d + 37) hI).conseq ?_)
  rintro r σ' ⟨rfl, rfl⟩
  conv => whnf
  cases hp : zpr A x y
  · rw [if_neg (by decide), zop_out hp]
    refine br_t rfl ?_
    conv => whnf
    refine hC _ _ _ _ ((sm_refuse (d := d + 38) (k := 0) (by decide) hI).conseq ?_)
    intro r σ' hq
    conv => whnf
    exact hq
  · rw [if_pos rfl]
    refine br_f (by decide) ?_
    obtain ⟨u, w, hu, hw, huw, rfl, rfl⟩ := zpr_t hn hp
    rw [zop_in hn hu hw hp]
    conv => whnf
    refine hC _ _ _ _ ((sm_ranks (d := d + 10) hI).conseq ?_)
    rintro r σ2 ⟨h1, h2, rfl⟩
    conv => whnf
    refine hC _ _ _ _ ((sp_isFree (d := d + 12) h2.1 (by omega) (by omega) huw (Or.inl rfl)).conseq ?_)
    rintro r σ3 ⟨h3, h4⟩
    have h5 := h1.tr (h3.sub (by simp) (by simp))
    have hI2 := hI.agw h5 (by simp) (by simp)
    have hz2 := h5.lo (by simp)
    conv => whnf
    rcases h4 with ⟨rfl, hf, -⟩ | ⟨rfl, hf, -⟩
    · refine br_f (by decide) ?_
      conv => whnf
      have hbn : zbn A u w = false := zbn_f.mpr hf
      rw [hbn]
      exact ⟨hz2, hI2, rfl⟩
    · refine br_t rfl ?_
      conv => whnf
      have hbn : zbn A u w = true := zbn_t.mpr hf
      rw [hbn]
      exact ⟨hz2, hI2, rfl⟩
theorem sm_stiff (hI : zmf A rf σ) : zSp E (d + 40) zM_X8_stiff [.inr (8, 48)] σ (zMP A rf (.inr (zo_stiff A)) σ) := by
  have hn := hI.1.1
  have hm := hI.1.2.1
  have hr := zrk_le A false 2 3
  have loop : ¬ (zan A = 0 ∨ 3 + zrk A false 2 3 < 2 * zan A) → ∀ r i (x1 : Int32) (σ' : zST), i + r = zam A → x1 = nI i → zlo σ σ' → zmf A rf σ' → fb_ct (fun x => zat A x && zspb A x) i = fb_ct (zat A) i → zWp E (d + 40) zM_X8_stiff (zMP A rf (.inr (zo_stiff A)) σ) 19 [some (.inr (8, 48)), some (.inl x1)] [] σ' := by
    intro h0 r
    induction r with
    | zero =>
      intro i x1 σ' hi hx hz hI hc
      have hi : i = zam A := by omega
      subst hi
      refine zg_X8_stiff_19 fun G C hG hC => ?_
      conv => whnf
      refine pk_le (zam A) (zam A) (fun _ => ?_) (fun _ => by omega) hI.2.2.1 hx
      conv => whnf
      exact ⟨hz, hI, by unfold zo_stiff; rw [if_neg h0, if_pos hc]; rfl⟩
    | succ r ih =>
      intro i x1 σ' hi hx hz hI hc
      have hxi := hI.2.2.2.1 i (by omega)
      refine zg_X8_stiff_19 fun G C hG hC => ?_
      conv => whnf
      refine pk_le (zam A) i (fun _ => by omega) (fun _ => ?_) hI.2.2.1 hx
      conv => whnf
      refine ⟨pk_in i 80 (by omega) hx, ?_⟩
      conv => whnf
      dsimp only
      rw [pk_cl i hx, hxi.2.2.2]
      cases ht : zat A i
      · rw [if_neg (by decide)]
        refine br_t rfl ?_
        conv => whnf
        exact hG _ _ _ _ (ih (i + 1) _ _ (by omega) (by rw [hx, nI_1]) hz hI (by rw [fb_ct_succ, fb_ct_succ, ht, hc]; rfl))
      · rw [if_pos rfl]
        refine br_f (by decide) ?_
        conv => whnf
        subst hx
        refine hC _ _ _ _ ((sm_keeps (d := d + 11) (k := 2) (l := 3) hI (by decide) (by decide)).conseq ?_)
        rintro r σ2 ⟨h3, h4, rfl⟩
        have hI2 := hI.agw h3 (by simp) (by simp)
        have hz2 := hz.tr (h3.lo (by simp))
        conv => whnf
        refine hC _ _ _ _ ((sm_freedomOf (d := d + 38) hI2).conseq ?_)
        rintro r σ3 ⟨rfl, rfl⟩
        conv => whnf
        have l2 : zrk (zwo A (nI i)) false 2 3 ≤ zam A := zrk_le _ false 2 3
        have hw := zrk_wo hI.1 (x := i) (by omega) ht
        have hfull := zrk_full hI.1 (by omega)
        refine ⟨fun h => ?_, fun h => ?_⟩
        · have h := (zfr3 hn (by omega)).mp h
          have hs : zspr A i := hw.1.mp (by omega)
          conv => whnf
          exact hG _ _ _ _ (ih (i + 1) _ _ (by omega) (nI_1 i) hz2 hI2 (by rw [fb_ct_succ, fb_ct_succ, hc, ht, zspb_t hs]; rfl))
        · have h' : 3 + zrk (zwo A (nI i)) false 2 3 < 2 * zan A := by
            apply Classical.byContradiction
            intro q
            exact h ((zfr3 hn (by omega)).mpr q)
          have hs : ¬ zspr A i := fun q => by
            have := hw.1.mpr q
            simp only [not_or] at h0
            omega
          conv => whnf
          refine ⟨hz2, hI2, ?_⟩
          unfold zo_stiff
          rw [if_neg h0, if_neg]
          · rfl
          · intro q
            have := fb_ct_same (p := fun x => zat A x && zspb A x) (q := zat A) (n := zam A) (fun k _ hk => by simp only [Bool.and_eq_true] at hk; exact hk.1) (by omega) i (by omega) ht
            simp only [Bool.and_eq_true] at this
            rw [zspb_f hs] at this
            exact absurd this.2 (by decide)
  refine zSp.of rfl (Nat.le_of_ble_eq_true rfl) (zg_X8_stiff_0 fun G C hG hC => ?_)
  conv => whnf
  refine pk_eq (zan A) 0 (fun h0 => ?_) (fun h0 => ?_) hI.2.1 rfl
  · conv => whnf
    exact ⟨zlo.rf, hI, by unfold zo_stiff; rw [if_pos (Or.inl h0)]; rfl⟩
  · conv => whnf
    refine hC _ _ _ _ ((sm_freedom1 (d := d + 9) hI).conseq ?_)
    rintro r σ2 ⟨h1, rfl⟩
    have hI2 := hI.agw h1 (by simp) (by simp)
    have hz2 := h1.lo (by simp)
    conv => whnf
    refine ⟨fun h => ?_, fun h => ?_⟩
    · have h := (zfr3 hn (by omega)).mp h
      conv => whnf
      exact hG _ _ _ _ (loop (by simp only [not_or]; exact ⟨h0, h⟩) (zam A) 0 0 σ2 (by omega) rfl hz2 hI2 rfl)
    · have h : 3 + zrk A false 2 3 < 2 * zan A := by
        apply Classical.byContradiction
        intro q
        exact h ((zfr3 hn (by omega)).mpr q)
      conv => whnf
      exact ⟨hz2, hI2, by unfold zo_stiff; rw [if_pos (Or.inr h)]; rfl⟩
end zQ
