/-! the reference: count -/
section zQ
variable {E : zEN} {d : Nat} {A : zAS} {rf : Nat → Int32} {σ : zST}
theorem sm_count (hI : zmf A rf σ) {w : Int32} : zSp E (d + 40) zM_X8_count [.inr (8, 48), .inl w] σ (zMP A rf (.inr (zo_count A rf w)) σ) := by
  have hn := hI.1.1
  have hm := hI.1.2.1
  have hl := zcu_le2 hI.1
  have sp : ∀ r i (x2 x3 : Int32) (σ' : zST), i + r = zam A → x2 = nI (fb_ct (fun x => zat A x && zspb A x) i) → x3 = nI i → zlo σ σ' → zmf A rf σ' → zWp E (d + 40) zM_X8_count (zMP A rf (.inr (nI (fb_ct (fun x => zat A x && zspb A x) (zam A)))) σ) 86 [some (.inr (8, 48)), some (.inl w), some (.inl x2), some (.inl x3)] [] σ' := by
    intro r
    induction r with
    | zero =>
      intro i x2 x3 σ' hi hx2 hx3 hz hI'
      have hi : i = zam A := by omega
      subst hi
      refine zg_X8_count_86 fun G C hG hC => ?_
      conv => whnf
      refine pk_le (zam A) (zam A) (fun _ => ?_) (fun _ => by omega) hI'.2.2.1 hx3
      conv => whnf
      exact ⟨hz, hI', hx2⟩
    | succ r ih =>
      intro i x2 x3 σ' hi hx2 hx3 hz hI'
      have hx := hI'.2.2.2.1 i (by omega)
      have e3 : x3 + 1 = nI (i + 1) := by rw [hx3, nI_1]
      refine zg_X8_count_86 fun G C hG hC => ?_
      conv => whnf
      refine pk_le (zam A) i (fun _ => by omega) (fun _ => ?_) hI'.2.2.1 hx3
      conv => whnf
      refine ⟨pk_in i 80 (by omega) hx3, ?_⟩
      conv => whnf
      dsimp only
      rw [pk_cl i hx3, hx.2.2.2]
      cases ht : zat A i
      · rw [if_neg (by decide)]
        refine br_t rfl ?_
        conv => whnf
        exact hG _ _ _ _ (ih (i + 1) _ _ _ (by omega) (by rw [hx2, fb_ct_succ, ht]; exact nI_add _ 0) e3 hz hI')
      · rw [if_pos rfl]
        refine br_f (by decide) ?_
        conv => whnf
        subst hx3
        refine hC _ _ _ _ ((sm_isSpare (d := d + 9) hI' (by omega) ht).conseq ?_)
        rintro r2 σ2 ⟨h1, rfl⟩
        have hI2 := hI'.agw h1 (by simp) (by simp)
        have hz2 := hz.tr (h1.lo (by simp))
        conv => whnf
        cases hs : zspb A i
        · rw [if_neg (by decide)]
          refine br_t rfl ?_
          conv => whnf
          exact hG _ _ _ _ (ih (i + 1) _ _ _ (by omega) (by rw [hx2, fb_ct_succ, ht, hs]; exact nI_add _ 0) e3 hz2 hI2)
        · rw [if_pos rfl]
          refine br_f (by decide) ?_
          conv => whnf
          exact hG _ _ _ _ (ih (i + 1) _ _ _ (by omega) (by rw [hx2, fb_ct_succ, ht, hs]; exact nI_add _ 1) e3 hz2 hI2)
  have hg : ∀ r i (x2 x3 : Int32) (σ' : zST), i + r = zan A → x2 = nI (fb_ct (zhg A) i) → x3 = nI i → zlo σ σ' → zmf A rf σ' → zmcl A (zcu A (zan A)) σ' → zWp E (d + 40) zM_X8_count (zMP A rf (.inr (nI (fb_ct (zhg A) (zan A)))) σ) 133 [some (.inr (8, 48)), some (.inl w), some (.inl x2), some (.inl x3)] [] σ' := by
    intro r
    induction r with
    | zero =>
      intro i x2 x3 σ' hi hx2 hx3 hz hI' hL
      have hi : i = zan A := by omega
      subst hi
      refine zg_X8_count_133 fun G C hG hC => ?_
      conv => whnf
      refine pk_le (zan A) (zan A) (fun _ => ?_) (fun _ => by omega) hI'.2.1 hx3
      conv => whnf
      exact ⟨hz, hI', hx2⟩
    | succ r ih =>
      intro i x2 x3 σ' hi hx2 hx3 hz hI' hL
      have e3 : x3 + 1 = nI (i + 1) := by rw [hx3, nI_1]
      refine zg_X8_count_133 fun G C hG hC => ?_
      conv => whnf
      refine pk_le (zan A) i (fun _ => by omega) (fun _ => ?_) hI'.2.1 hx3
      conv => whnf
      subst hx3
      refine hC _ _ _ _ ((sm_isHinge (d := d + 38) hL hl (by omega : i < 24)).conseq ?_)
      rintro r2 σ2 ⟨rfl, rfl⟩
      conv => whnf
      by_cases hh : 2 ≤ fb_ct (fun j => zcL A (zcu A (zan A)) j i) (zcu A (zan A)).length
      · have e : zhg A i = true := decide_eq_true hh
        rw [if_pos hh]
        refine br_f (by decide) ?_
        conv => whnf
        exact hG _ _ _ _ (ih (i + 1) _ _ _ (by omega) (by rw [hx2, fb_ct_succ, e]; exact nI_add _ 1) e3 hz hI' hL)
      · have e : zhg A i = false := decide_eq_false hh
        rw [if_neg hh]
        refine br_t rfl ?_
        conv => whnf
        exact hG _ _ _ _ (ih (i + 1) _ _ _ (by omega) (by rw [hx2, fb_ct_succ, e]; exact nI_add _ 0) e3 hz hI' hL)
  refine zSp.of rfl (Nat.le_of_ble_eq_true rfl) (zg_X8_count_0 fun G C hG hC => ?_)
  have rest : ¬ (11 ≤ w ∧ w ≤ 16) → zB_X8_count_22 G C (zMP A rf (.inr (zo_count A rf w)) σ) [some (.inr (8, 48)), some (.inl w), none, none] [] σ := by
    intro hw
    have ho : zo_count A rf w = if w = 0 then nI (zan A) else if w = 1 then nI (zam A) else if w = 2 then nI (fb_ct (zat A) (zam A)) else if w = 3 then nI (zrk A false 2 3) else if w = 4 then nI (fb_ct (fun x => zat A x && zspb A x) (zam A)) else if w = 5 then nI (fb_ct (zhg A) (zan A)) else -9 := by unfold zo_count; rw [if_neg hw]
    conv => whnf
    refine ⟨⟨fun e => ?_, ⟨fun e => ?_, ⟨fun e => ?_, ⟨fun e => ?_, ⟨fun e => ?_, ⟨fun e => ?_, trivial⟩⟩⟩⟩⟩⟩, fun e => ?_⟩
    · have e : w = 0 := e
      subst e
      conv => whnf
      exact ⟨zlo.rf, hI, hI.2.1⟩
    · have e : w = 1 := e
      subst e
      conv => whnf
      exact ⟨zlo.rf, hI, hI.2.2.1⟩
    · have e : w = 2 := e
      subst e
      conv => whnf
      refine hC _ _ _ _ ((sm_thereMany (d := d + 38) hI).conseq ?_)
      rintro r σ' ⟨rfl, rfl⟩
      conv => whnf
      exact ⟨zlo.rf, hI, rfl⟩
    · have e : w = 3 := e
      subst e
      conv => whnf
      refine hC _ _ _ _ ((sm_ranks (d := d + 10) hI).conseq ?_)
      rintro r σ' ⟨h1, h2, rfl⟩
      conv => whnf
      exact ⟨h1.lo (by simp), hI.agw h1 (by simp) (by simp), rfl⟩
    · have e : w = 4 := e
      have ho' : zo_count A rf w = nI (fb_ct (fun x => zat A x && zspb A x) (zam A)) := by rw [ho, e]; rfl
      rw [← ho'] at sp
      conv => whnf
      exact hG _ _ _ _ (sp (zam A) 0 0 0 σ (by omega) rfl rfl zlo.rf hI)
    · have e : w = 5 := e
      have ho' : zo_count A rf w = nI (fb_ct (zhg A) (zan A)) := by rw [ho, e]; rfl
      rw [← ho'] at hg
      conv => whnf
      refine hC _ _ _ _ ((sm_findClusters (d := d + 9) hI).conseq ?_)
      rintro r σ2 ⟨h1, h2⟩
      conv => whnf
      exact hG _ _ _ _ (hg (zan A) 0 0 0 σ2 (by omega) rfl rfl (h1.lo (by simp)) (hI.agw h1 (by simp) (by simp)) h2)
    · have e : w.toInt < 0 ∨ 0 + (6 : Int) ≤ w.toInt := e
      have g : ∀ v : Int32, 0 ≤ v.toInt → v.toInt < 6 → w ≠ v := fun v h1 h2 q => by subst q; omega
      rw [ho, if_neg (g 0 (by decide) (by decide)), if_neg (g 1 (by decide) (by decide)), if_neg (g 2 (by decide) (by decide)), if_neg (g 3 (by decide) (by decide)), if_neg (g 4 (by decide) (by decide)), if_neg (g 5 (by decide) (by decide))]
      conv => whnf
      exact ⟨zlo.rf, hI, rfl⟩
  have e10 : (10 : Int32).toInt = 10 := rfl
  have e11 : (11 : Int32).toInt = 11 := rfl
  have e16 : (16 : Int32).toInt = 16 := rfl
  have e17 : (17 : Int32).toInt = 17 := rfl
  conv => whnf
  refine ⟨fun h1 => rest ?_, fun h1 => ?_⟩
  · rintro ⟨q, -⟩
    have a1 := Int32.le_iff_toInt_le.mp (show w ≤ 10 from h1)
    have a2 := Int32.le_iff_toInt_le.mp q
    omega
  · have a1 : ¬ w.toInt ≤ (10 : Int32).toInt := fun q => h1 (Int32.le_iff_toInt_le.mpr q)
    conv => whnf
    refine ⟨fun h2 => rest ?_, fun h2 => ?_⟩
    · rintro ⟨-, q⟩
      have a1 := Int32.le_iff_toInt_le.mp (show (17 : Int32) ≤ w from h2)
      have a2 := Int32.le_iff_toInt_le.mp q
      omega
    · have a2 : ¬ (17 : Int32).toInt ≤ w.toInt := fun q => h2 (Int32.le_iff_toInt_le.mpr q)
      obtain ⟨j, hj, rfl⟩ := nI_of (x := w) (fun q => by have := Int32.lt_iff_toInt_lt.mp q; have : (0 : Int32).toInt = 0 := rfl; omega)
      rw [nI_toInt hj] at a1 a2
      have es : nI j - 10 = nI (j - 10) := by
        have : nI j = nI (j - 10) + nI 10 := by rw [nI_add]; congr 1; omega
        rw [this]
        exact Int32.add_sub_cancel _ _
      conv => whnf
      dsimp only
      rw [es]
      refine ⟨pk_in (j - 10) 7 (by omega), ?_⟩
      conv => whnf
      refine ⟨zlo.rf, hI, ?_⟩
      have h5 := hI.2.2.2.2 (j - 11) (by omega)
      have ej : j - 11 + 1 = j - 10 := by omega
      rw [ej] at h5
      rw [nI_clamp (by omega : j - 10 < 2 ^ 31), h5]
      unfold zo_count
      rw [if_pos ⟨Int32.le_iff_toInt_le.mpr (by rw [nI_toInt hj]; omega), Int32.le_iff_toInt_le.mpr (by rw [nI_toInt hj]; omega)⟩, nI_clamp hj]
      rfl
end zQ
