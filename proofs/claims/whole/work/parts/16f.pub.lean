/-! the class's answers: the rest -/
theorem zoc_in {A : zAS} (hvd : zvd A) {f : Nat → zO} {i : Nat} (hi : i < (zcu A (zan A)).length) : zoc A (nI i) f = f i := by
  have := zcu_le2 hvd
  unfold zoc; rw [zix_nI (by omega), nI_clamp (by omega)]; simp [hi]
theorem zoc_out {A : zAS} {f : Nat → zO} {x : Int32} (h : zix x (zcu A (zan A)).length = false) : zoc A x f = .inl 0 := by unfold zoc; rw [h]; rfl
noncomputable def zo_fewestAt (A : zAS) (x : Int32) : Int32 := if zix x (zmu A (zan A)).length = true then nI (100 * ((zmu A (zan A)).getD x.toNatClampNeg (0, 0)).1 + ((zmu A (zan A)).getD x.toNatClampNeg (0, 0)).2) else -9
noncomputable def zo_back (A : zAS) (x w : Int32) : zO := if w < 0 ∨ 2 < w then .inl 1 else if zix x (zan A) = true then .inr (if w = 0 then nI (zgo1 A x.toNatClampNeg) else if w = 1 then nI (zkd1 A x.toNatClampNeg) else zco1 A x.toNatClampNeg) else .inr (-9)
/-- a method of two counts -/
def zow (k l : Int32) (f : Nat → Nat → zO) : zO := if zwc k l = -4 then .inl 3 else if zwc k l = -6 then .inl 5 else f k.toNatClampNeg l.toNatClampNeg
theorem zwc_cases (k l : Int32) : zwc k l = -4 ∨ zwc k l = -6 ∨ zwc k l = 0 := by
  unfold zwc
  split
  · exact Or.inl rfl
  · split
    · exact Or.inr (Or.inl rfl)
    · exact Or.inr (Or.inr rfl)
theorem zow_4 {k l : Int32} {f : Nat → Nat → zO} (h : zwc k l = -4) : zow k l f = .inl 3 := by unfold zow; rw [if_pos h]
theorem zow_6 {k l : Int32} {f : Nat → Nat → zO} (h : zwc k l = -6) : zow k l f = .inl 5 := by unfold zow; rw [h]; rfl
theorem zow_0 {k l : Nat} {f : Nat → Nat → zO} (h : zwc (nI k) (nI l) = 0) (hk : k < 2 ^ 31) (hl : l < 2 ^ 31) : zow (nI k) (nI l) f = f k l := by unfold zow; rw [h, nI_clamp hk, nI_clamp hl]; rfl
noncomputable def zo_tight (A : zAS) (k l : Nat) : Int32 := (if 0 < zan A ∧ nI (zrk A false k l) = nI k * nI (zan A) - nI l then 2 else 0) + (if zrk A false k l = fb_ct (zat A) (zam A) then 1 else 0)
noncomputable def zfor (A : zAS) : Nat → Nat → Int32
  | 0, _ => -9
  | n + 1, k => if zrk A false k k = fb_ct (zat A) (zam A) then nI k else zfor A n (k + 1)
def zo_barOf (A : zAS) (w : Int32) (i : Nat) : zO := if w = 0 then .inr (nI (zaa A i)) else if w = 1 then .inr (nI (zab A i)) else if w = 2 then .inr (nI (zac A i)) else if w = 3 then .inr (if zat A i = true then 1 else 0) else .inl 1
noncomputable def zo_count (A : zAS) (rf : Nat → Int32) (w : Int32) : Int32 := if 11 ≤ w ∧ w ≤ 16 then rf (w.toNatClampNeg - 11) else if w = 0 then nI (zan A) else if w = 1 then nI (zam A) else if w = 2 then nI (fb_ct (zat A) (zam A)) else if w = 3 then nI (zrk A false 2 3) else if w = 4 then nI (fb_ct (fun x => zat A x && zspb A x) (zam A)) else if w = 5 then nI (fb_ct (zhg A) (zan A)) else -9
section zQ
variable {E : zEN} {d ch : Nat} {A : zAS} {rf : Nat → Int32} {σ : zST}
theorem sp_size (hI : zCI A ch rf σ) {x : Int32} : zSp E (d + 8) zM_X7_size [.inr (7, 0), .inl x] σ (zPP A ch rf (zoc A x (fun i => .inr (nI (fb_ct (zcSi A i) 24)))) σ) := by
  have hl := zcu_le2 hI.1.1
  refine zSp.of rfl (Nat.le_of_ble_eq_true rfl) (zg_X7_size_0 fun G C hG hC => ?_)
  conv => whnf
  refine hC _ _ _ _ ((sp_clfind (d := d + 1) hI.1 hI.2.1 hI.2.2.2.2.1).conseq ?_)
  rintro r σ2 ⟨h1, h2, h3⟩
  have hI2 := hI.clus h1 h2 h3
  have hzh := zhi.of h1 (by simp)
  conv => whnf
  refine hC _ _ _ _ ((sp_noCluster (d := d + 6) (n := (zcu A (zan A)).length) (by omega) h3.2.1).conseq ?_)
  rintro r σ3 ⟨rfl, rfl⟩
  conv => whnf
  rcases zix_cases x (n := (zcu A (zan A)).length) (by omega) with ⟨hz, -⟩ | ⟨i, hi, rfl, hz⟩
  · rw [hz, if_neg (by decide), zoc_out hz]
    refine br_f (by decide) ?_
    conv => whnf
    refine hC _ _ _ _ ((sp_refuse (d := d + 6) (k := 0) (by decide) hI2).conseq ?_)
    intro r σ' hq
    conv => whnf
    exact ⟨hzh.tr hq.1, hq.2.1, hq.2.2⟩
  · rw [hz, if_pos rfl, zoc_in hI.1.1 hi]
    refine br_t rfl ?_
    conv => whnf
    refine ⟨pk_in i 276 (by omega), ?_⟩
    conv => whnf
    dsimp only
    rw [nI_clamp (by omega : i < 2 ^ 31), h3.2.2 i hi]
    refine hC _ _ _ _ ((sp_bitCount (d := d + 6)).conseq ?_)
    rintro r σ4 ⟨rfl, rfl⟩
    conv => whnf
    exact ⟨hzh, hI2, by rw [zpopmk]; rfl⟩
theorem sp_member (hI : zCI A ch rf σ) {x k : Int32} : zSp E (d + 8) zM_X7_member [.inr (7, 0), .inl x, .inl k] σ (zPP A ch rf (zoc A x (fun i => .inr (zithF (zcSi A i) 24 k))) σ) := by
  have hl := zcu_le2 hI.1.1
  refine zSp.of rfl (Nat.le_of_ble_eq_true rfl) (zg_X7_member_0 fun G C hG hC => ?_)
  conv => whnf
  refine hC _ _ _ _ ((sp_clfind (d := d + 1) hI.1 hI.2.1 hI.2.2.2.2.1).conseq ?_)
  rintro r σ2 ⟨h1, h2, h3⟩
  have hI2 := hI.clus h1 h2 h3
  have hzh := zhi.of h1 (by simp)
  conv => whnf
  refine hC _ _ _ _ ((sp_noCluster (d := d + 6) (n := (zcu A (zan A)).length) (by omega) h3.2.1).conseq ?_)
  rintro r σ3 ⟨rfl, rfl⟩
  conv => whnf
  rcases zix_cases x (n := (zcu A (zan A)).length) (by omega) with ⟨hz, -⟩ | ⟨i, hi, rfl, hz⟩
  · rw [hz, if_neg (by decide), zoc_out hz]
    refine br_f (by decide) ?_
    conv => whnf
    refine hC _ _ _ _ ((sp_refuse (d := d + 6) (k := 0) (by decide) hI2).conseq ?_)
    intro r σ' hq
    conv => whnf
    exact ⟨hzh.tr hq.1, hq.2.1, hq.2.2⟩
  · rw [hz, if_pos rfl, zoc_in hI.1.1 hi]
    refine br_t rfl ?_
    conv => whnf
    refine ⟨pk_in i 276 (by omega), ?_⟩
    conv => whnf
    dsimp only
    rw [nI_clamp (by omega : i < 2 ^ 31), h3.2.2 i hi]
    refine hC _ _ _ _ ((sp_jointAt (d := d + 5)).conseq ?_)
    rintro r σ4 ⟨rfl, hr⟩
    conv => whnf
    exact ⟨hzh, hI2, zithF_eq (by omega) hr⟩
theorem sp_fewestAt (hI : zCI A ch rf σ) {x : Int32} : zSp E (d + 8) zM_X7_fewestAt [.inr (7, 0), .inl x] σ (zPP A ch rf (.inr (zo_fewestAt A x)) σ) := by
  have hl := zmu_len A (zan A)
  refine zSp.of rfl (Nat.le_of_ble_eq_true rfl) (zg_X7_fewestAt_0 fun G C hG hC => ?_)
  conv => whnf
  refine hC _ _ _ _ ((sp_mifind (d := d + 1) hI.1 hI.2.1 hI.2.2.2.2.2.2.1).conseq ?_)
  rintro r σ2 ⟨h1, h2, h3⟩
  have hI2 := hI.miss h1 h2 h3
  have hzh := zhi.of h1 (by simp)
  conv => whnf
  unfold zo_fewestAt
  rcases zix_cases x (n := (zmu A (zan A)).length) (by omega) with ⟨hz, hx⟩ | ⟨i, hi, rfl, hz⟩
  · rw [hz, if_neg (by decide)]
    refine ⟨fun _ => ?_, fun h0 => ?_⟩
    · conv => whnf
      exact ⟨hzh, hI2, rfl⟩
    · conv => whnf
      dsimp only
      rw [h3.2.1]
      refine br_f (fun q => ?_) ?_
      · rcases hx with hx | hx
        · exact h0 hx
        · have a1 := Int32.lt_iff_toInt_lt.mp q
          have a2 := Int32.le_iff_toInt_le.mp hx
          omega
      · conv => whnf
        exact ⟨hzh, hI2, rfl⟩
  · rw [hz, if_pos rfl, nI_clamp (by omega)]
    refine br_f (fun q => ?_) ?_
    · have a1 := Int32.lt_iff_toInt_lt.mp q
      rw [nI_toInt (by omega)] at a1
      have : (0 : Int32).toInt = 0 := rfl
      omega
    · conv => whnf
      refine pk_lt i (zmu A (zan A)).length (fun _ => ?_) (fun _ => by omega) rfl h3.2.1
      conv => whnf
      refine ⟨pk_in i 276 (by omega), ?_⟩
      conv => whnf
      refine ⟨hzh, hI2, ?_⟩
      dsimp only
      rw [nI_clamp (by omega : i < 2 ^ 31), h3.2.2 i hi]
      rfl
theorem sp_rankBy (hI : zCI A ch rf σ) {k l : Int32} : zSp E (d + 8) zM_X7_rankBy [.inr (7, 0), .inl k, .inl l] σ (zPP A ch rf (zow k l (fun k l => .inr (nI (zrk A false k l)))) σ) := by
  refine zSp.of rfl (Nat.le_of_ble_eq_true rfl) (zg_X7_rankBy_0 fun G C hG hC => ?_)
  conv => whnf
  refine hC _ _ _ _ ((sp_wrongCount (d := d + 6)).conseq ?_)
  rintro r σ' ⟨rfl, rfl⟩
  conv => whnf
  rcases zwc_cases k l with h | h | h
  · rw [h, zow_4 h]
    refine br_f (by decide) ?_
    conv => whnf
    refine hC _ _ _ _ ((sp_refuse (d := d + 6) (k := 3) (by decide) hI).conseq ?_)
    intro r σ' hq
    conv => whnf
    exact hq
  · rw [h, zow_6 h]
    refine br_f (by decide) ?_
    conv => whnf
    refine hC _ _ _ _ ((sp_refuse (d := d + 6) (k := 5) (by decide) hI).conseq ?_)
    intro r σ' hq
    conv => whnf
    exact hq
  · obtain ⟨k, l, rfl, rfl, hk1, hk3, hl⟩ := zwc_0 h
    rw [h, zow_0 h (by omega) (by omega)]
    refine br_t rfl ?_
    conv => whnf
    refine hC _ _ _ _ ((sp_play (d := d + 2) (j := 23) (k := k) (l := l) (by decide) hI.1 hI.2.2.2.1 hk3 (by omega) (by omega)).conseq ?_)
    intro r σ' hp
    conv => whnf
    exact ⟨zhi.of hp.1 (by simp), hI.row23 hp.1 (hp.ri hI.2.2.2.1), hp.2.2.2.2.2.1⟩
theorem sp_keptBy (hI : zCI A ch rf σ) {x k l : Int32} : zSp E (d + 8) zM_X7_keptBy [.inr (7, 0), .inl x, .inl k, .inl l] σ (zPP A ch rf (zob A x (fun i => zow k l (fun k l => .inr (zkv A false k l i)))) σ) := by
  have hm := hI.1.1.2.1
  refine zSp.of rfl (Nat.le_of_ble_eq_true rfl) (zg_X7_keptBy_0 fun G C hG hC => ?_)
  conv => whnf
  refine hC _ _ _ _ ((sp_noBar (d := d + 6) (n := zam A) (by omega) hI.1.2.2.2.1).conseq ?_)
  rintro r σ' ⟨rfl, rfl⟩
  conv => whnf
  rcases zix_cases x (n := zam A) (by omega) with ⟨hz, -⟩ | ⟨i, hi, rfl, hz⟩
  · rw [hz, if_neg (by decide), zob_out hz]
    refine br_f (by decide) ?_
    conv => whnf
    refine br_f (by decide) ?_
    conv => whnf
    refine hC _ _ _ _ ((sp_refuse (d := d + 6) (k := 0) (by decide) hI).conseq ?_)
    intro r σ' hq
    conv => whnf
    exact hq
  · rw [hz, if_pos rfl, zob_in hm hi]
    refine br_t rfl ?_
    conv => whnf
    refine hC _ _ _ _ ((sp_wrongCount (d := d + 6)).conseq ?_)
    rintro r σ' ⟨rfl, rfl⟩
    conv => whnf
    rcases zwc_cases k l with h | h | h
    · rw [h, zow_4 h]
      refine br_f (by decide) ?_
      conv => whnf
      refine hC _ _ _ _ ((sp_refuse (d := d + 6) (k := 3) (by decide) hI).conseq ?_)
      intro r σ' hq
      conv => whnf
      exact hq
    · rw [h, zow_6 h]
      refine br_f (by decide) ?_
      conv => whnf
      refine hC _ _ _ _ ((sp_refuse (d := d + 6) (k := 5) (by decide) hI).conseq ?_)
      intro r σ' hq
      conv => whnf
      exact hq
    · obtain ⟨k, l, rfl, rfl, hk1, hk3, hl⟩ := zwc_0 h
      rw [h, zow_0 h (by omega) (by omega)]
      refine br_t rfl ?_
      conv => whnf
      refine hC _ _ _ _ ((sp_play (d := d + 2) (j := 23) (k := k) (l := l) (by decide) hI.1 hI.2.2.2.1 hk3 (by omega) (by omega)).conseq ?_)
      intro r σ2 hp
      have hI' := hI.row23 hp.1 (hp.ri hI.2.2.2.1)
      conv => whnf
      refine hC _ _ _ _ ((sp_keptIn (d := d + 6) hI'.1 hp.2.2 hi).conseq ?_)
      rintro r σ2 ⟨rfl, rfl⟩
      conv => whnf
      exact ⟨zhi.of hp.1 (by simp), hI', rfl⟩
theorem sp_forests (hI : zCI A ch rf σ) : zSp E (d + 8) zM_X7_forests [.inr (7, 0)] σ (zPP A ch rf (.inr (zfor A 3 1)) σ) := by
  have hm := hI.1.1.2.1
  have l2 := fb_ct_le (zat A) (zam A)
  have loop : ∀ n k (x1 : Int32) (σ' : zST), k + n = 4 → 1 ≤ k → x1 = nI k → zhi σ σ' → zCI A ch rf σ' → zWp E (d + 8) zM_X7_forests (zPP A ch rf (.inr (zfor A n k)) σ) 2 [some (.inr (7, 0)), some (.inl x1)] [] σ' := by
    intro n
    induction n with
    | zero =>
      intro k x1 σ' hk h1 hx hz hI
      refine zg_X7_forests_2 fun G C hG hC => ?_
      conv => whnf
      refine pk_lt 3 k (fun _ => ?_) (fun _ => by omega) rfl hx
      conv => whnf
      exact ⟨hz, hI, rfl⟩
    | succ n ih =>
      intro k x1 σ' hk h1 hx hz hI
      refine zg_X7_forests_2 fun G C hG hC => ?_
      conv => whnf
      refine pk_lt 3 k (fun _ => by omega) (fun _ => ?_) rfl hx
      conv => whnf
      subst hx
      refine hC _ _ _ _ ((sp_play (d := d + 2) (j := 23) (k := k) (l := k) (by decide) hI.1 hI.2.2.2.1 (by omega) (by omega) (by omega)).conseq ?_)
      intro r σ2 hp
      have hI2 := hI.row23 hp.1 (hp.ri hI.2.2.2.1)
      have hz2 := hz.tr (zhi.of hp.1 (by simp))
      have l1 := zrk_le A false k k
      conv => whnf
      refine pk_eq (zrk A false k k) (fb_ct (zat A) (zam A)) (fun h => ?_) (fun h => ?_) hp.2.2.2.2.2.1 hI2.1.2.2.2.2.1
      · conv => whnf
        exact ⟨hz2, hI2, by unfold zfor; rw [if_pos h]; rfl⟩
      · conv => whnf
        have := ih (k + 1) (nI (k + 1)) σ2 (by omega) (by omega) rfl hz2 hI2
        have e : zfor A (n + 1) k = zfor A n (k + 1) := by rw [zfor, if_neg h]
        rw [← e, nI_succ] at this
        exact hG _ _ _ _ this
  refine zSp.of rfl (Nat.le_of_ble_eq_true rfl) (zg_X7_forests_0 fun G C hG hC => ?_)
  conv => whnf
  exact hG _ _ _ _ (loop 3 1 1 σ rfl (by omega) rfl (fun _ _ => rfl) hI)
end zQ
