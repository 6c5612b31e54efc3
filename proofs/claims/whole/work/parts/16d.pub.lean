/-! the class's answers that change nothing -/
noncomputable def zrk (A : zAS) (bc : Bool) (k l : Nat) : Nat := fb_ct (zK A bc k l) (zam A)
theorem zrk_le (A : zAS) (bc : Bool) (k l : Nat) : zrk A bc k l ≤ zam A := fb_ct_le _ _
theorem zplay.ri {A : zAS} {ch j k l : Nat} {bc : Bool} {σ : zST} {r : Int32} {σ' : zST} (h : zplay A ch j bc k l σ r σ') (hR : zri A ch j bc σ) : zri A ch j bc σ' := h.2.2.ri (by rw [h.2.1]; exact hR.1)
theorem zPP.of {A : zAS} {ch : Nat} {rf : Nat → Int32} {v r : Int32} {σ σ' : zST} (h1 : zhi σ σ') (h2 : zCI A ch rf σ') (h3 : r = v) : zPP A ch rf (.inr v) σ r σ' := ⟨h1, h2, h3⟩
section zQ
variable {E : zEN} {d ch : Nat} {A : zAS} {rf : Nat → Int32} {σ : zST}
theorem sp_rank (hI : zCI A ch rf σ) : zSp E (d + 8) zM_X7_rank [.inr (7, 0)] σ (zPP A ch rf (.inr (nI (zrk A false 2 3))) σ) := by
  refine zSp.of rfl (Nat.le_of_ble_eq_true rfl) (zg_X7_rank_0 fun G C hG hC => ?_)
  conv => whnf
  refine hC _ _ _ _ ((sp_play (d := d + 2) (k := 2) (l := 3) (by decide) hI.1 hI.2.1 (by decide) (by decide) (by decide)).conseq ?_)
  intro r σ' hp
  conv => whnf
  exact ⟨zhi.of hp.1 (by simp), hI.row7 hp.1 (hp.ri hI.2.1), hp.2.2.2.2.2.1⟩
theorem zfree_eq {n r : Nat} : (2 : Int32) * nI n - nI r = 2 * nI n - nI r := rfl
theorem sp_freedom (hI : zCI A ch rf σ) : zSp E (d + 8) zM_X7_freedom [.inr (7, 0)] σ (zPP A ch rf (.inr (2 * nI (zan A) - nI (zrk A false 2 3))) σ) := by
  refine zSp.of rfl (Nat.le_of_ble_eq_true rfl) (zg_X7_freedom_0 fun G C hG hC => ?_)
  conv => whnf
  refine hC _ _ _ _ ((sp_play (d := d + 2) (k := 2) (l := 3) (by decide) hI.1 hI.2.1 (by decide) (by decide) (by decide)).conseq ?_)
  intro r σ' hp
  conv => whnf
  have hI' := hI.row7 hp.1 (hp.ri hI.2.1)
  refine ⟨zhi.of hp.1 (by simp), hI', ?_⟩
  dsimp only
  rw [hI'.1.2.2.1, hp.2.2.2.2.2.1]
  rfl
noncomputable def zo_stiff (A : zAS) : Int32 := if zan A = 0 ∨ 3 + zrk A false 2 3 < 2 * zan A then 0 else if fb_ct (fun x => zat A x && zspb A x) (zam A) = fb_ct (zat A) (zam A) then 2 else 1
theorem zfr3 {n r : Nat} (hn : n ≤ 24) (hr : r ≤ 80) : (2 * nI n - nI r ≤ 3 ↔ ¬ 3 + r < 2 * n) := by
  have e : (2 : Int32) * nI n = nI (2 * n) := pk_mul 2 n
  rw [e, Int32.le_iff_toInt_le, pk_sub_toInt (by omega) (by omega)]
  have : (3 : Int32).toInt = 3 := rfl
  omega
theorem sp_stiff (hI : zCI A ch rf σ) : zSp E (d + 8) zM_X7_stiff [.inr (7, 0)] σ (zPP A ch rf (.inr (zo_stiff A)) σ) := by
  have hn := hI.1.1.1
  have hm := hI.1.1.2.1
  have hr := zrk_le A false 2 3
  refine zSp.of rfl (Nat.le_of_ble_eq_true rfl) (zg_X7_stiff_0 fun G C hG hC => ?_)
  conv => whnf
  refine hC _ _ _ _ ((sp_play (d := d + 2) (k := 2) (l := 3) (by decide) hI.1 hI.2.1 (by decide) (by decide) (by decide)).conseq ?_)
  intro r σ' hp
  conv => whnf
  have hI' := hI.row7 hp.1 (hp.ri hI.2.1)
  have hz := zhi.of hp.1 (by simp)
  dsimp only
  rw [hI'.1.2.2.1]
  refine pk_eq (zan A) 0 (fun h0 => ?_) (fun h0 => ?_)
  · conv => whnf
    exact ⟨hz, hI', by unfold zo_stiff; rw [if_pos (Or.inl h0)]; rfl⟩
  · conv => whnf
    have e9 : σ' 7 9 = nI (zrk A false 2 3) := hp.2.2.2.2.2.1
    dsimp only
    rw [hI'.1.2.2.1, e9]
    refine ⟨fun h => ?_, fun h => ?_⟩
    · have h := (zfr3 hn (by omega)).mp h
      conv => whnf
      refine hC _ _ _ _ ((sp_countSpare (d := d + 2) hI'.1 hp.2.2).conseq ?_)
      rintro r σ2 ⟨rfl, rfl⟩
      conv => whnf
      have l1 := fb_ct_le (fun x => zat A x && zspb A x) (zam A)
      have l2 := fb_ct_le (zat A) (zam A)
      refine pk_eq (fb_ct (fun x => zat A x && zspb A x) (zam A)) (fb_ct (zat A) (zam A)) (fun h2 => ?_) (fun h2 => ?_) rfl hI'.1.2.2.2.2.1
      · conv => whnf
        exact ⟨hz, hI', by unfold zo_stiff; rw [if_neg (by simp only [not_or]; exact ⟨h0, h⟩), if_pos h2]; rfl⟩
      · conv => whnf
        exact ⟨hz, hI', by unfold zo_stiff; rw [if_neg (by simp only [not_or]; exact ⟨h0, h⟩), if_neg h2]; rfl⟩
    · have h : 3 + zrk A false 2 3 < 2 * zan A := by
        apply Classical.byContradiction
        intro q
        exact h ((zfr3 hn (by omega)).mpr q)
      conv => whnf
      exact ⟨hz, hI', by unfold zo_stiff; rw [if_pos (Or.inr h)]; rfl⟩
/-- a bar that is kept: 1, 0; cut: -9 -/
noncomputable def zkv (A : zAS) (bc : Bool) (k l i : Nat) : Int32 := if zat A i = true then (if zK A bc k l i = true then 1 else 0) else -9
theorem sp_keptIn {j k l i : Nat} {bc : Bool} (hF : zcf A ch σ) (hR : zrow A ch j bc k l σ) (hi : i < zam A) : zSp E (d + 1) zM_X7_keptIn [.inr (7, 0), .inr (5, j), .inl (nI i)] σ (fun r σ' => σ' = σ ∧ r = zkv A bc k l i) := by
  have hm := hF.1.2.1
  refine zSp.of rfl (Nat.le_of_ble_eq_true rfl) (zg_X7_keptIn_0 fun G C hG hC => ?_)
  conv => whnf
  refine ⟨pk_in i 80 (by omega), ?_⟩
  conv => whnf
  dsimp only
  rw [nI_clamp (by omega : i < 2 ^ 31), (hF.2.2.2.2.2.2.1 i hi).2.2.2]
  unfold zkv
  cases h1 : zat A i
  · rw [if_neg (by decide)]
    refine br_t rfl ?_
    conv => whnf
    exact ⟨rfl, rfl⟩
  · rw [if_pos rfl]
    refine br_f (by decide) ?_
    conv => whnf
    refine ⟨pk_in i 80 (by omega), ?_⟩
    conv => whnf
    dsimp only
    rw [nI_clamp (by omega : i < 2 ^ 31), hR.2.2.2.2.1 i (by omega)]
    cases h2 : zK A bc k l i
    · rw [if_neg (by decide)]
      refine br_t rfl ?_
      conv => whnf
      exact ⟨rfl, rfl⟩
    · rw [if_pos rfl]
      refine br_f (by decide) ?_
      conv => whnf
      exact ⟨rfl, rfl⟩
/-- a method of a bar: nobody, or what f says -/
def zob (A : zAS) (x : Int32) (f : Nat → zO) : zO := if zix x (zam A) = true then f x.toNatClampNeg else .inl 0
theorem zob_in {f : Nat → zO} {i : Nat} (hm : zam A ≤ 80) (hi : i < zam A) : zob A (nI i) f = f i := by
  unfold zob; rw [zix_nI (by omega), nI_clamp (by omega)]; simp [hi]
theorem zob_out {f : Nat → zO} {x : Int32} (h : zix x (zam A) = false) : zob A x f = .inl 0 := by unfold zob; rw [h]; rfl
theorem sp_kept (hI : zCI A ch rf σ) {x : Int32} : zSp E (d + 8) zM_X7_kept [.inr (7, 0), .inl x] σ (zPP A ch rf (zob A x (fun i => .inr (zkv A false 2 3 i))) σ) := by
  have hm := hI.1.1.2.1
  refine zSp.of rfl (Nat.le_of_ble_eq_true rfl) (zg_X7_kept_0 fun G C hG hC => ?_)
  conv => whnf
  refine hC _ _ _ _ ((sp_noBar (d := d + 6) (n := zam A) (by omega) hI.1.2.2.2.1).conseq ?_)
  rintro r σ' ⟨rfl, rfl⟩
  conv => whnf
  rcases zix_cases x (n := zam A) (by omega) with ⟨hz, -⟩ | ⟨i, hi, rfl, hz⟩
  · rw [hz, if_neg (by decide), zob_out hz]
    refine br_f (by decide) ?_
    conv => whnf
    refine hC _ _ _ _ ((sp_refuse (d := d + 6) (k := 0) (by decide) hI).conseq ?_)
    intro r σ' hq
    conv => whnf
    exact hq
  · rw [hz, if_pos rfl, zob_in hm hi]
    refine br_t rfl ?_
    conv => whnf
    refine hC _ _ _ _ ((sp_play (d := d + 2) (k := 2) (l := 3) (by decide) hI.1 hI.2.1 (by decide) (by decide) (by decide)).conseq ?_)
    intro r σ2 hp
    have hI' := hI.row7 hp.1 (hp.ri hI.2.1)
    conv => whnf
    refine hC _ _ _ _ ((sp_keptIn (d := d + 6) hI'.1 hp.2.2 hi).conseq ?_)
    rintro r σ2 ⟨rfl, rfl⟩
    conv => whnf
    exact ⟨zhi.of hp.1 (by simp), hI', rfl⟩
theorem sp_cheap (hI : zCI A ch rf σ) {x : Int32} : zSp E (d + 8) zM_X7_cheap [.inr (7, 0), .inl x] σ (zPP A ch rf (zob A x (fun i => .inr (zkv A true 2 3 i))) σ) := by
  have hm := hI.1.1.2.1
  refine zSp.of rfl (Nat.le_of_ble_eq_true rfl) (zg_X7_cheap_0 fun G C hG hC => ?_)
  conv => whnf
  refine hC _ _ _ _ ((sp_noBar (d := d + 6) (n := zam A) (by omega) hI.1.2.2.2.1).conseq ?_)
  rintro r σ' ⟨rfl, rfl⟩
  conv => whnf
  rcases zix_cases x (n := zam A) (by omega) with ⟨hz, -⟩ | ⟨i, hi, rfl, hz⟩
  · rw [hz, if_neg (by decide), zob_out hz]
    refine br_f (by decide) ?_
    conv => whnf
    refine hC _ _ _ _ ((sp_refuse (d := d + 6) (k := 0) (by decide) hI).conseq ?_)
    intro r σ' hq
    conv => whnf
    exact hq
  · rw [hz, if_pos rfl, zob_in hm hi]
    refine br_t rfl ?_
    conv => whnf
    refine hC _ _ _ _ ((sp_play (d := d + 2) (j := 15) (k := 2) (l := 3) (by decide) hI.1 hI.2.2.1 (by decide) (by decide) (by decide)).conseq ?_)
    intro r σ2 hp
    have hI' := hI.row15 hp.1 (hp.ri hI.2.2.1)
    conv => whnf
    refine hC _ _ _ _ ((sp_keptIn (d := d + 6) hI'.1 hp.2.2 hi).conseq ?_)
    rintro r σ2 ⟨rfl, rfl⟩
    conv => whnf
    exact ⟨zhi.of hp.1 (by simp), hI', rfl⟩
theorem sp_cheapest (hI : zCI A ch rf σ) : zSp E (d + 8) zM_X7_cheapest [.inr (7, 0)] σ (zPP A ch rf (.inr (nI (fb_sm (fun x => if zK A true 2 3 x = true then zac A x else 0) (zam A)))) σ) := by
  refine zSp.of rfl (Nat.le_of_ble_eq_true rfl) (zg_X7_cheapest_0 fun G C hG hC => ?_)
  conv => whnf
  refine hC _ _ _ _ ((sp_play (d := d + 2) (j := 15) (k := 2) (l := 3) (by decide) hI.1 hI.2.2.1 (by decide) (by decide) (by decide)).conseq ?_)
  intro r σ2 hp
  have hI' := hI.row15 hp.1 (hp.ri hI.2.2.1)
  conv => whnf
  refine hC _ _ _ _ ((sp_costOfKept (d := d + 6) hI'.1 hp.2.2).conseq ?_)
  rintro r σ2 ⟨rfl, rfl⟩
  conv => whnf
  exact ⟨zhi.of hp.1 (by simp), hI', rfl⟩
theorem sp_spare (hI : zCI A ch rf σ) {x : Int32} : zSp E (d + 8) zM_X7_spare [.inr (7, 0), .inl x] σ (zPP A ch rf (zob A x (fun i => .inr (if zat A i = true then (if zspb A i = true then 1 else 0) else -9))) σ) := by
  have hm := hI.1.1.2.1
  refine zSp.of rfl (Nat.le_of_ble_eq_true rfl) (zg_X7_spare_0 fun G C hG hC => ?_)
  conv => whnf
  refine hC _ _ _ _ ((sp_noBar (d := d + 6) (n := zam A) (by omega) hI.1.2.2.2.1).conseq ?_)
  rintro r σ' ⟨rfl, rfl⟩
  conv => whnf
  rcases zix_cases x (n := zam A) (by omega) with ⟨hz, -⟩ | ⟨i, hi, rfl, hz⟩
  · rw [hz, if_neg (by decide), zob_out hz]
    refine br_f (by decide) ?_
    conv => whnf
    refine hC _ _ _ _ ((sp_refuse (d := d + 6) (k := 0) (by decide) hI).conseq ?_)
    intro r σ' hq
    conv => whnf
    exact hq
  · rw [hz, if_pos rfl, zob_in hm hi]
    refine br_t rfl ?_
    conv => whnf
    refine ⟨pk_in i 80 (by omega), ?_⟩
    conv => whnf
    dsimp only
    rw [nI_clamp (by omega : i < 2 ^ 31), (hI.1.2.2.2.2.2.2.1 i hi).2.2.2]
    cases h1 : zat A i
    · rw [if_neg (by decide)]
      refine br_t rfl ?_
      conv => whnf
      exact ⟨fun _ _ => rfl, hI, rfl⟩
    · rw [if_pos rfl]
      refine br_f (by decide) ?_
      conv => whnf
      refine hC _ _ _ _ ((sp_play (d := d + 2) (k := 2) (l := 3) (by decide) hI.1 hI.2.1 (by decide) (by decide) (by decide)).conseq ?_)
      intro r σ2 hp
      have hI' := hI.row7 hp.1 (hp.ri hI.2.1)
      conv => whnf
      refine hC _ _ _ _ ((sp_isSpare (d := d + 3) hI'.1 hp.2.2 hi).conseq ?_)
      rintro r σ2 ⟨rfl, rfl⟩
      conv => whnf
      cases h2 : zspb A i
      · rw [if_neg (by decide)]
        refine br_t rfl ?_
        conv => whnf
        exact ⟨zhi.of hp.1 (by simp), hI', rfl⟩
      · rw [if_pos rfl]
        refine br_f (by decide) ?_
        conv => whnf
        exact ⟨zhi.of hp.1 (by simp), hI', rfl⟩
theorem sp_circuit (hI : zCI A ch rf σ) {x : Int32} : zSp E (d + 8) zM_X7_circuit [.inr (7, 0), .inl x] σ (zPP A ch rf (zob A x (fun i => if zlf A i = true then .inr (nI (fb_ct (zci A i) (zam A))) else .inl 2)) σ) := by
  have hm := hI.1.1.2.1
  refine zSp.of rfl (Nat.le_of_ble_eq_true rfl) (zg_X7_circuit_0 fun G C hG hC => ?_)
  conv => whnf
  refine hC _ _ _ _ ((sp_noBar (d := d + 6) (n := zam A) (by omega) hI.1.2.2.2.1).conseq ?_)
  rintro r σ' ⟨rfl, rfl⟩
  conv => whnf
  rcases zix_cases x (n := zam A) (by omega) with ⟨hz, -⟩ | ⟨i, hi, rfl, hz⟩
  · rw [hz, if_neg (by decide), zob_out hz]
    refine br_f (by decide) ?_
    conv => whnf
    refine hC _ _ _ _ ((sp_refuse (d := d + 6) (k := 0) (by decide) hI).conseq ?_)
    intro r σ' hq
    conv => whnf
    exact hq
  · rw [hz, if_pos rfl, zob_in hm hi]
    refine br_t rfl ?_
    conv => whnf
    refine hC _ _ _ _ ((sp_play (d := d + 2) (k := 2) (l := 3) (by decide) hI.1 hI.2.1 (by decide) (by decide) (by decide)).conseq ?_)
    intro r σ2 hp
    have hI' := hI.row7 hp.1 (hp.ri hI.2.1)
    have hzh := zhi.of hp.1 (by simp)
    conv => whnf
    refine hC _ _ _ _ ((sp_isLeft (d := d + 6) hI'.1 hp.2.2 hi).conseq ?_)
    rintro r σ2 ⟨rfl, rfl⟩
    conv => whnf
    cases h1 : zlf A i
    · rw [if_neg (by decide)]
      refine br_t rfl ?_
      conv => whnf
      refine hC _ _ _ _ ((sp_refuse (d := d + 6) (k := 2) (by decide) hI').conseq ?_)
      intro r σ3 hq
      conv => whnf
      exact ⟨hzh.tr hq.1, hq.2.1, hq.2.2⟩
    · rw [if_pos rfl]
      refine br_f (by decide) ?_
      conv => whnf
      refine hC _ _ _ _ ((sp_circuitLength (d := d + 3) hI'.1 hp.2.2 hi h1).conseq ?_)
      rintro r σ2 ⟨rfl, rfl⟩
      conv => whnf
      exact ⟨hzh, hI', rfl⟩
/-- the i-th that has p, as a function -/
noncomputable def zithF (p : Nat → Bool) (n : Nat) (i : Int32) : Int32 := @dite _ (∃ r, zith p n i r) (Classical.propDecidable _) (fun h => h.choose) (fun _ => 0)
theorem zithF_eq {p : Nat → Bool} {n : Nat} {i r : Int32} (hn : n < 2 ^ 31) (h : zith p n i r) : r = zithF p n i := by
  unfold zithF
  have he : ∃ r, zith p n i r := ⟨r, h⟩
  rw [dif_pos he]
  exact zith_one hn h he.choose_spec
theorem sp_circuitBar (hI : zCI A ch rf σ) {x n : Int32} : zSp E (d + 8) zM_X7_circuitBar [.inr (7, 0), .inl x, .inl n] σ (zPP A ch rf (zob A x (fun i => if zlf A i = true then .inr (zithF (zci A i) (zam A) n) else .inl 2)) σ) := by
  have hm := hI.1.1.2.1
  refine zSp.of rfl (Nat.le_of_ble_eq_true rfl) (zg_X7_circuitBar_0 fun G C hG hC => ?_)
  conv => whnf
  refine hC _ _ _ _ ((sp_noBar (d := d + 6) (n := zam A) (by omega) hI.1.2.2.2.1).conseq ?_)
  rintro r σ' ⟨rfl, rfl⟩
  conv => whnf
  rcases zix_cases x (n := zam A) (by omega) with ⟨hz, -⟩ | ⟨i, hi, rfl, hz⟩
  · rw [hz, if_neg (by decide), zob_out hz]
    refine br_f (by decide) ?_
    conv => whnf
    refine hC _ _ _ _ ((sp_refuse (d := d + 6) (k := 0) (by decide) hI).conseq ?_)
    intro r σ' hq
    conv => whnf
    exact hq
  · rw [hz, if_pos rfl, zob_in hm hi]
    refine br_t rfl ?_
    conv => whnf
    refine hC _ _ _ _ ((sp_play (d := d + 2) (k := 2) (l := 3) (by decide) hI.1 hI.2.1 (by decide) (by decide) (by decide)).conseq ?_)
    intro r σ2 hp
    have hI' := hI.row7 hp.1 (hp.ri hI.2.1)
    have hzh := zhi.of hp.1 (by simp)
    conv => whnf
    refine hC _ _ _ _ ((sp_isLeft (d := d + 6) hI'.1 hp.2.2 hi).conseq ?_)
    rintro r σ2 ⟨rfl, rfl⟩
    conv => whnf
    cases h1 : zlf A i
    · rw [if_neg (by decide)]
      refine br_t rfl ?_
      conv => whnf
      refine hC _ _ _ _ ((sp_refuse (d := d + 6) (k := 2) (by decide) hI').conseq ?_)
      intro r σ3 hq
      conv => whnf
      exact ⟨hzh.tr hq.1, hq.2.1, hq.2.2⟩
    · rw [if_pos rfl]
      refine br_f (by decide) ?_
      conv => whnf
      refine hC _ _ _ _ ((sp_circuitAt (d := d + 3) hI'.1 hp.2.2 hi h1).conseq ?_)
      rintro r σ2 ⟨rfl, hr⟩
      conv => whnf
      exact ⟨hzh, hI', zithF_eq (by omega) hr⟩
end zQ
