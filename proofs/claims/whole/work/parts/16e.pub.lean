/-! the class's answers: pairs, clusters, pieces, bundles, fewest -/
noncomputable def zfstF (p : Nat → Bool) (n : Nat) : Int32 := @dite _ (∃ r, zfst p n r) (Classical.propDecidable _) (fun h => h.choose) (fun _ => 0)
theorem zfstF_eq {p : Nat → Bool} {n : Nat} {r : Int32} (h : zfst p n r) : r = zfstF p n := by
  unfold zfstF
  have he : ∃ r, zfst p n r := ⟨r, h⟩
  rw [dif_pos he]
  exact zfst_one h he.choose_spec
/-- a method of a pair -/
def zop (A : zAS) (x y : Int32) (f : Nat → Nat → zO) : zO := if zpr A x y = true then f x.toNatClampNeg y.toNatClampNeg else .inl 0
theorem zop_in {A : zAS} {f : Nat → Nat → zO} {u w : Nat} (hn : zan A ≤ 24) (hu : u < zan A) (hw : w < zan A) (h : zpr A (nI u) (nI w) = true) : zop A (nI u) (nI w) f = f u w := by
  unfold zop; rw [h, if_pos rfl, nI_clamp (by omega), nI_clamp (by omega)]
theorem zop_out {A : zAS} {f : Nat → Nat → zO} {x y : Int32} (h : zpr A x y = false) : zop A x y f = .inl 0 := by unfold zop; rw [h]; rfl
/-- a method of a cluster -/
noncomputable def zoc (A : zAS) (x : Int32) (f : Nat → zO) : zO := if zix x (zcu A (zan A)).length = true then f x.toNatClampNeg else .inl 0
section zQ
variable {E : zEN} {d ch : Nat} {A : zAS} {rf : Nat → Int32} {σ : zST}
theorem sp_grows (hI : zCI A ch rf σ) {x y : Int32} : zSp E (d + 8) zM_X7_grows [.inr (7, 0), .inl x, .inl y] σ (zPP A ch rf (zop A x y (fun u w => .inr (if zbn A u w = true then 0 else 1))) σ) := by
  have hn := hI.1.1.1
  refine zSp.of rfl (Nat.le_of_ble_eq_true rfl) (zg_X7_grows_0 fun G C hG hC => ?_)
  conv => whnf
  refine hC _ _ _ _ ((sp_noPair (d := d + 5) hn hI.1.2.2.1).conseq ?_)
  rintro r σ' ⟨rfl, rfl⟩
  conv => whnf
  cases hp : zpr A x y
  · rw [if_neg (by decide), zop_out hp]
    refine br_f (by decide) ?_
    conv => whnf
    refine hC _ _ _ _ ((sp_refuse (d := d + 6) (k := 0) (by decide) hI).conseq ?_)
    intro r σ' hq
    conv => whnf
    exact hq
  · rw [if_pos rfl]
    refine br_t rfl ?_
    conv => whnf
    obtain ⟨u, w, hu, hw, huw, rfl, rfl⟩ := zpr_t hn hp
    rw [zop_in hn hu hw hp]
    refine hC _ _ _ _ ((sp_play (d := d + 2) (k := 2) (l := 3) (by decide) hI.1 hI.2.1 (by decide) (by decide) (by decide)).conseq ?_)
    intro r σ2 hpl
    have hI' := hI.row7 hpl.1 (hpl.ri hI.2.1)
    have hzh := zhi.of hpl.1 (by simp)
    conv => whnf
    refine hC _ _ _ _ ((sp_allows (d := d + 4) (j := 8) (k := 2) (l := 3) hpl.2.2.2.2.2.2.2.1 (by omega : u < 24) (by omega : w < 24) huw).conseq ?_)
    rintro r σ3 ⟨h1, h2, h3⟩
    have hr3 : zrow A ch 7 false 2 3 σ3 := hpl.2.2.board h1 h2
    have hb5 : σ3 7 5 = σ2 7 5 := by rw [h1 7 (by simp)]
    have hI3 : zCI A ch rf σ3 := hI'.row7 (fun q hq => h1 q (fun hm => hq (by simp at hm ⊢; omega))) (hr3.ri (by rw [hb5]; exact hI'.2.1.1))
    have hzh3 := hzh.tr (zhi.of h1 (by simp))
    conv => whnf
    rcases h3 with ⟨rfl, hf, -⟩ | ⟨rfl, hf, -⟩
    · refine br_f (by decide) ?_
      conv => whnf
      have hbn : zbn A u w = false := zbn_f.mpr hf
      rw [hbn]
      exact ⟨hzh3, hI3, rfl⟩
    · refine br_t rfl ?_
      conv => whnf
      have hbn : zbn A u w = true := zbn_t.mpr hf
      rw [hbn]
      exact ⟨hzh3, hI3, rfl⟩
theorem sp_clusters (hI : zCI A ch rf σ) : zSp E (d + 8) zM_X7_clusters [.inr (7, 0)] σ (zPP A ch rf (.inr (nI (zcu A (zan A)).length)) σ) := by
  refine zSp.of rfl (Nat.le_of_ble_eq_true rfl) (zg_X7_clusters_0 fun G C hG hC => ?_)
  conv => whnf
  refine hC _ _ _ _ ((sp_clfind (d := d + 1) hI.1 hI.2.1 hI.2.2.2.2.1).conseq ?_)
  rintro r σ2 ⟨h1, h2, h3⟩
  conv => whnf
  exact ⟨zhi.of h1 (by simp), hI.clus h1 h2 h3, h3.2.1⟩
theorem sp_hinge (hI : zCI A ch rf σ) {x : Int32} : zSp E (d + 8) zM_X7_hinge [.inr (7, 0), .inl x] σ (zPP A ch rf (if zix x (zan A) = true then .inr (if zhg A x.toNatClampNeg = true then 1 else 0) else .inl 0) σ) := by
  have hn := hI.1.1.1
  refine zSp.of rfl (Nat.le_of_ble_eq_true rfl) (zg_X7_hinge_0 fun G C hG hC => ?_)
  conv => whnf
  refine hC _ _ _ _ ((sp_noJoint (d := d + 6) (n := zan A) (by omega) hI.1.2.2.1).conseq ?_)
  rintro r σ' ⟨rfl, rfl⟩
  conv => whnf
  rcases zix_cases x (n := zan A) (by omega) with ⟨hz, -⟩ | ⟨i, hi, rfl, hz⟩
  · rw [hz, if_neg (by decide), if_neg (by decide)]
    refine br_f (by decide) ?_
    conv => whnf
    refine hC _ _ _ _ ((sp_refuse (d := d + 6) (k := 0) (by decide) hI).conseq ?_)
    intro r σ' hq
    conv => whnf
    exact hq
  · rw [hz, if_pos rfl, if_pos rfl, nI_clamp (by omega)]
    refine br_t rfl ?_
    conv => whnf
    refine hC _ _ _ _ ((sp_clfind (d := d + 1) hI.1 hI.2.1 hI.2.2.2.2.1).conseq ?_)
    rintro r σ2 ⟨h1, h2, h3⟩
    have hI2 := hI.clus h1 h2 h3
    have hzh := zhi.of h1 (by simp)
    conv => whnf
    refine hC _ _ _ _ ((sp_clHinge (d := d + 5) hI.1.1 h3 (by omega : i < 24)).conseq ?_)
    rintro r σ2 ⟨rfl, rfl⟩
    conv => whnf
    cases hh : zhg A i
    · rw [if_neg (by decide)]
      refine br_t rfl ?_
      conv => whnf
      exact ⟨hzh, hI2, rfl⟩
    · rw [if_pos rfl]
      refine br_f (by decide) ?_
      conv => whnf
      exact ⟨hzh, hI2, rfl⟩
theorem sp_together (hI : zCI A ch rf σ) {x y : Int32} : zSp E (d + 8) zM_X7_together [.inr (7, 0), .inl x, .inl y] σ (zPP A ch rf (zop A x y (fun u w => .inr (zfstF (fun i => zcSi A i u && zcSi A i w) (zcu A (zan A)).length))) σ) := by
  have hn := hI.1.1.1
  refine zSp.of rfl (Nat.le_of_ble_eq_true rfl) (zg_X7_together_0 fun G C hG hC => ?_)
  conv => whnf
  refine hC _ _ _ _ ((sp_noPair (d := d + 5) hn hI.1.2.2.1).conseq ?_)
  rintro r σ' ⟨rfl, rfl⟩
  conv => whnf
  cases hp : zpr A x y
  · rw [if_neg (by decide), zop_out hp]
    refine br_f (by decide) ?_
    conv => whnf
    refine hC _ _ _ _ ((sp_refuse (d := d + 6) (k := 0) (by decide) hI).conseq ?_)
    intro r σ' hq
    conv => whnf
    exact hq
  · rw [if_pos rfl]
    refine br_t rfl ?_
    conv => whnf
    obtain ⟨u, w, hu, hw, huw, rfl, rfl⟩ := zpr_t hn hp
    rw [zop_in hn hu hw hp]
    refine hC _ _ _ _ ((sp_clfind (d := d + 1) hI.1 hI.2.1 hI.2.2.2.2.1).conseq ?_)
    rintro r σ2 ⟨h1, h2, h3⟩
    have hI2 := hI.clus h1 h2 h3
    have hzh := zhi.of h1 (by simp)
    conv => whnf
    refine hC _ _ _ _ ((sp_firstWith (d := d + 5) hI.1.1 h3 (by omega : u < 24) (by omega : w < 24)).conseq ?_)
    rintro r σ2 ⟨rfl, hr⟩
    conv => whnf
    exact ⟨hzh, hI2, zfstF_eq hr⟩
theorem sp_pieces (hI : zCI A ch rf σ) : zSp E (d + 8) zM_X7_pieces [.inr (7, 0)] σ (zPP A ch rf (.inr (nI (zan A) - nI (zrk A false 1 1))) σ) := by
  refine zSp.of rfl (Nat.le_of_ble_eq_true rfl) (zg_X7_pieces_0 fun G C hG hC => ?_)
  conv => whnf
  refine hC _ _ _ _ ((sp_play (d := d + 2) (j := 23) (k := 1) (l := 1) (by decide) hI.1 hI.2.2.2.1 (by decide) (by decide) (by decide)).conseq ?_)
  intro r σ' hp
  have hI' := hI.row23 hp.1 (hp.ri hI.2.2.2.1)
  conv => whnf
  refine ⟨zhi.of hp.1 (by simp), hI', ?_⟩
  dsimp only
  rw [hI'.1.2.2.1, hp.2.2.2.2.2.1]
  rfl
theorem sp_fewest (hI : zCI A ch rf σ) : zSp E (d + 8) zM_X7_fewest [.inr (7, 0)] σ (zPP A ch rf (.inr (nI (zmu A (zan A)).length)) σ) := by
  refine zSp.of rfl (Nat.le_of_ble_eq_true rfl) (zg_X7_fewest_0 fun G C hG hC => ?_)
  conv => whnf
  refine hC _ _ _ _ ((sp_mifind (d := d + 1) hI.1 hI.2.1 hI.2.2.2.2.2.2.1).conseq ?_)
  rintro r σ2 ⟨h1, h2, h3⟩
  conv => whnf
  exact ⟨zhi.of h1 (by simp), hI.miss h1 h2 h3, h3.2.1⟩
theorem sp_bundles (hI : zCI A ch rf σ) : zSp E (d + 8) zM_X7_bundles [.inr (7, 0)] σ (zPP A ch rf (.inr (nI (fb_ct (zhd A) (zam A)))) σ) := by
  refine zSp.of rfl (Nat.le_of_ble_eq_true rfl) (zg_X7_bundles_0 fun G C hG hC => ?_)
  conv => whnf
  refine hC _ _ _ _ ((sp_bufind (d := d + 1) hI.1 hI.2.1 hI.2.2.2.2.2.1).conseq ?_)
  rintro r σ2 ⟨h1, h2, h3⟩
  conv => whnf
  exact ⟨zhi.of h1 (by simp), hI.bund h1 h2 h3, h3.2.1⟩
theorem sp_threes (hI : zCI A ch rf σ) : zSp E (d + 8) zM_X7_threes [.inr (7, 0)] σ (zPP A ch rf (.inr (nI (fb_ct (fun i => decide (zkd1 A i = 3)) (zan A)))) σ) := by
  refine zSp.of rfl (Nat.le_of_ble_eq_true rfl) (zg_X7_threes_0 fun G C hG hC => ?_)
  conv => whnf
  refine hC _ _ _ _ ((sp_walk (d := d + 1) hI.1 hI.2.1 hI.2.2.2.2.2.2.2.1).conseq ?_)
  rintro r σ2 ⟨h1, h2, h3⟩
  have hI2 := hI.step h1 h2 h3
  have hzh := zhi.of h1 (by simp)
  conv => whnf
  refine hC _ _ _ _ ((sp_countThrees (d := d + 6) hI2.1 h3).conseq ?_)
  rintro r σ2 ⟨rfl, rfl⟩
  conv => whnf
  exact ⟨hzh, hI2, rfl⟩
theorem sp_bundle (hI : zCI A ch rf σ) {x : Int32} : zSp E (d + 8) zM_X7_bundle [.inr (7, 0), .inl x] σ (zPP A ch rf (zob A x (fun i => .inr (if zat A i = true then nI (fb_ct (zhd A) (zba A (zam A) i)) else -9))) σ) := by
  have hm := hI.1.1.2.1
  refine zSp.of rfl (Nat.le_of_ble_eq_true rfl) (zg_X7_bundle_0 fun G C hG hC => ?_)
  conv => whnf
  refine hC _ _ _ _ ((sp_noBar (d := d + 6) (n := zam A) (by omega) hI.1.2.2.2.1).conseq ?_)
  rintro r σ' ⟨rfl, rfl⟩
  conv => whnf
  rcases zix_cases x (n := zam A) (by omega) with ⟨hz, -⟩ | ⟨i, hi, rfl, hz⟩
  · rw [hz, if_neg (by decide), zob_out hz]
    refine br_f (by decide) ?_
    conv => whnf
    refine hC _ _ _ _ ((sp_refuse (d := d + 6) (k := 0) (by decide) hI).conseq ?_)
    intro r σ' hq
    conv => whnf
    exact hq
  · rw [hz, if_pos rfl, zob_in hm hi]
    refine br_t rfl ?_
    conv => whnf
    refine ⟨pk_in i 80 (by omega), ?_⟩
    conv => whnf
    dsimp only
    rw [nI_clamp (by omega : i < 2 ^ 31), (hI.1.2.2.2.2.2.2.1 i hi).2.2.2]
    cases h1 : zat A i
    · rw [if_neg (by decide)]
      refine br_t rfl ?_
      conv => whnf
      exact ⟨fun _ _ => rfl, hI, rfl⟩
    · rw [if_pos rfl]
      refine br_f (by decide) ?_
      conv => whnf
      refine hC _ _ _ _ ((sp_bufind (d := d + 1) hI.1 hI.2.1 hI.2.2.2.2.2.1).conseq ?_)
      rintro r σ2 ⟨h1, h2, h3⟩
      have hI2 := hI.bund h1 h2 h3
      have hzh := zhi.of h1 (by simp)
      conv => whnf
      refine hC _ _ _ _ ((sp_numberOf (d := d + 5) hI2.1 h3 hi).conseq ?_)
      rintro r σ2 ⟨rfl, rfl⟩
      conv => whnf
      exact ⟨hzh, hI2, rfl⟩
end zQ
