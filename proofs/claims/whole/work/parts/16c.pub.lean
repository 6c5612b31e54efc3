/-! bar, cut, cost -/
theorem zpr_t {A : zAS} {x y : Int32} (hn : zan A ≤ 24) (h : zpr A x y = true) : ∃ u w, u < zan A ∧ w < zan A ∧ u ≠ w ∧ x = nI u ∧ y = nI w := by
  unfold zpr at h
  simp only [Bool.and_eq_true, Bool.not_eq_true', decide_eq_false_iff_not] at h
  obtain ⟨h1, h2, h3⟩ := h
  rcases zix_cases x (n := zan A) (by omega) with ⟨q, -⟩ | ⟨u, hu, rfl, -⟩
  · rw [q] at h1; cases h1
  · rcases zix_cases y (n := zan A) (by omega) with ⟨q, -⟩ | ⟨w, hw, rfl, -⟩
    · rw [q] at h2; cases h2
    · exact ⟨u, w, hu, hw, fun e => h3 (by rw [e]), rfl, rfl⟩
theorem ztied_any {A : zAS} {ch u w : Nat} {σ : zST} (hF : zcf A ch σ) (hu : u < 24) (hw : w < 24) (huw : u ≠ w) : bt (σ 6 u) w = ztd A (min u w) (max u w) := by
  rcases Nat.lt_or_ge u w with h | h
  · rw [Nat.min_eq_left (by omega), Nat.max_eq_right (by omega)]; exact ztied_eq hF h hw
  · have hlt : w < u := by omega
    rw [Nat.min_eq_right (by omega), Nat.max_eq_left (by omega), ← ztied_eq hF hlt hu]
    have h1 := hF.2.2.2.2.2.2.2 u hu w hw
    have h2 := hF.2.2.2.2.2.2.2 w hw u hu
    cases hb : bt (σ 6 w) u
    · cases hc : bt (σ 6 u) w
      · rfl
      · obtain ⟨x, hx, hq⟩ := h1.mp hc
        rw [h2.mpr ⟨x, hx, hq.symm⟩] at hb; cases hb
    · obtain ⟨x, hx, hq⟩ := h2.mp hb
      rw [h1.mpr ⟨x, hx, hq.symm⟩]
theorem zres_neg : (zres (.inl 0) = -1 ∧ zres (.inl 1) = -2 ∧ zres (.inl 2) = -3) ∧ zres (.inl 3) = -4 ∧ zres (.inl 5) = -6 := by decide
set_option maxHeartbeats 4000000 in
theorem sp_bar {E : zEN} {d ch : Nat} {A : zAS} {rf : Nat → Int32} {x y c : Int32} {σ : zST} (hI : zCI A ch rf σ) (hch : ch + 1 < 2 ^ 30) : zSp E (d + 8) zM_X7_bar [.inr (7, 0), .inl x, .inl y, .inl c] σ (fun r σ' => ∃ ch', ch' ≤ ch + 1 ∧ zPP (zt_bar A x y c) ch' rf (zo_bar A x y c) σ r σ') := by
  have hF := hI.1
  have hn := hF.1.1
  have hm := hF.1.2.1
  have refu : ∀ (k : Nat), k < 6 → zo_bar A x y c = .inl k → ∀ r σ', (zhi σ σ' ∧ zCI A ch (zrfo rf (.inl k)) σ' ∧ r = zres (.inl k)) → ∃ ch', ch' ≤ ch + 1 ∧ zPP (zt_bar A x y c) ch' rf (zo_bar A x y c) σ r σ' := by
    intro k hk ho r σ' hq
    refine ⟨ch, by omega, ?_⟩
    have : zt_bar A x y c = A := by unfold zt_bar; rw [ho]
    rw [this, ho]
    exact hq
  refine zSp.of rfl (Nat.le_of_ble_eq_true rfl) (zg_X7_bar_0 fun G C hG hC => ?_)
  conv => whnf
  refine hC _ _ _ _ ((sp_noPair (d := d + 5) hn hF.2.2.1).conseq ?_)
  rintro r σ' ⟨rfl, rfl⟩
  conv => whnf
  cases hp : zpr A x y
  · rw [if_neg (by decide)]
    refine br_f (by decide) ?_
    conv => whnf
    refine hC _ _ _ _ ((sp_refuse (d := d + 6) (k := 0) (by decide) hI).conseq ?_)
    intro r σ' hq
    conv => whnf
    exact refu 0 (by decide) (by unfold zo_bar; rw [hp]; rfl) r σ' hq
  · rw [if_pos rfl]
    refine br_t rfl ?_
    conv => whnf
    obtain ⟨u, w, hu, hw, huw, rfl, rfl⟩ := zpr_t hn hp
    refine hC _ _ _ _ ((sp_tied (d := d + 5) (by omega : u < 24) (by omega : w < 24)).conseq ?_)
    rintro r σ' ⟨rfl, rfl⟩
    conv => whnf
    rw [ztied_any hF (by omega) (by omega) huw]
    have hc1 : (nI u).toNatClampNeg = u := nI_clamp (by omega)
    have hc2 : (nI w).toNatClampNeg = w := nI_clamp (by omega)
    cases htd : ztd A (min u w) (max u w)
    · rw [if_neg (by decide)]
      refine br_t rfl ?_
      conv => whnf
      refine ⟨fun h0 => ?_, fun h0 => ?_⟩
      · have h0 : 0 ≤ c := h0
        have h0' : ¬ c < 0 := fun q => by
          have a1 := Int32.lt_iff_toInt_lt.mp q
          have a2 := Int32.le_iff_toInt_le.mp h0
          omega
        obtain ⟨c', hc', rfl⟩ := nI_of h0'
        conv => whnf
        refine pk_lt 999 c' (fun h9 => ?_) (fun h9 => ?_)
        · conv => whnf
          refine hC _ _ _ _ ((sp_refuse (d := d + 6) (k := 5) (by decide) hI).conseq ?_)
          intro r σ' hq
          conv => whnf
          refine refu 5 (by decide) ?_ r σ' hq
          unfold zo_bar
          rw [hp, hc1, hc2, htd, if_pos rfl, if_neg (by decide), if_neg h0', if_pos (Or.inl (show (999 : Int32) < nI c' from nI_lt (a := 999) h9 hc'))]
        · have h9' : ¬ (999 : Int32) < nI c' := nI_nlt (b := c') (a := 999) (by omega) (by decide)
          conv => whnf
          refine pk_lt (zam A) 80 (fun h8 => ?_) (fun h8 => ?_) hF.2.2.2.1 rfl
          · conv => whnf
            have e1 : (if nI w < nI u then nI w else nI u) = nI (min u w) := by
              by_cases h : w < u
              · rw [if_pos (nI_lt h (by omega)), Nat.min_eq_right (by omega)]
              · rw [if_neg (nI_nlt (by omega) (by omega)), Nat.min_eq_left (by omega)]
            have e2 : (if nI u < nI w then nI w else nI u) = nI (max u w) := by
              by_cases h : u < w
              · rw [if_pos (nI_lt h (by omega)), Nat.max_eq_right (by omega)]
              · rw [if_neg (nI_nlt (by omega) (by omega)), Nat.max_eq_left (by omega)]
            dsimp only
            rw [e1, e2]
            refine hC _ _ _ _ ((sp_addBar (d := d + 6) hF (u := min u w) (w := max u w) (c := c') (by omega) (by omega) (by omega) h8 hch).conseq ?_)
            rintro r σ2 ⟨rfl, g1, g2⟩
            conv => whnf
            have ho : zo_bar A (nI u) (nI w) (nI c') = .inr (nI (zam A)) := by
              unfold zo_bar
              have : ¬ zam A = 80 := by omega
              rw [hp, hc1, hc2, htd, if_pos rfl, if_neg (by decide), if_neg h0', if_neg (by simp [h9', this])]
            have ht : zt_bar A (nI u) (nI w) (nI c') = (zan A, zam A + 1, zput (zaa A) (zam A) (min u w), zput (zab A) (zam A) (max u w), zput (zac A) (zam A) c', fun q => if q = zam A then true else zat A q) := by
              unfold zt_bar
              rw [ho, hc1, hc2, nI_clamp hc']
            refine ⟨ch + 1, Nat.le_refl _, ?_⟩
            rw [ho, ht]
            exact ⟨zhi.of g1 (by simp), hI.new g2 (fun q hq => g1 q (by simp; omega)), rfl⟩
          · conv => whnf
            refine hC _ _ _ _ ((sp_refuse (d := d + 6) (k := 5) (by decide) hI).conseq ?_)
            intro r σ' hq
            conv => whnf
            refine refu 5 (by decide) ?_ r σ' hq
            unfold zo_bar
            rw [hp, hc1, hc2, htd, if_pos rfl, if_neg (by decide), if_neg h0', if_pos (Or.inr (by omega))]
      · have h0 : ¬ 0 ≤ c := h0
        have h0' : c < 0 := by
          rw [Int32.lt_iff_toInt_lt]
          have : ¬ (0 : Int32).toInt ≤ c.toInt := fun q => h0 (Int32.le_iff_toInt_le.mpr q)
          omega
        conv => whnf
        refine hC _ _ _ _ ((sp_refuse (d := d + 6) (k := 3) (by decide) hI).conseq ?_)
        intro r σ' hq
        conv => whnf
        refine refu 3 (by decide) ?_ r σ' hq
        unfold zo_bar
        rw [hp, hc1, hc2, htd, if_pos rfl, if_neg (by decide), if_pos h0']
    · rw [if_pos rfl]
      refine br_f (by decide) ?_
      conv => whnf
      refine hC _ _ _ _ ((sp_refuse (d := d + 6) (k := 2) (by decide) hI).conseq ?_)
      intro r σ' hq
      conv => whnf
      refine refu 2 (by decide) ?_ r σ' hq
      unfold zo_bar
      rw [hp, hc1, hc2, htd, if_pos rfl, if_pos rfl]
/-! cut -/
def zbo (b : Bool) : Int32 := if b = true then 1 else 0
def zo_cut (A : zAS) (x : Int32) (on : Bool) : zO := if zix x (zam A) = true then .inr (if zat A x.toNatClampNeg = !on then 0 else 1) else .inl 0
def zt_cut (A : zAS) (x : Int32) (on : Bool) : zAS := if zix x (zam A) = true then (zan A, zam A, zaa A, zab A, zac A, fun q => if q = x.toNatClampNeg then !on else zat A q) else A
set_option maxHeartbeats 4000000 in
theorem sp_cut {E : zEN} {d ch : Nat} {A : zAS} {rf : Nat → Int32} {x : Int32} {on : Bool} {σ : zST} (hI : zCI A ch rf σ) (hch : ch + 1 < 2 ^ 30) : zSp E (d + 8) zM_X7_cut [.inr (7, 0), .inl x, .inl (zbo on)] σ (fun r σ' => ∃ ch', ch' ≤ ch + 1 ∧ zPP (zt_cut A x on) ch' rf (zo_cut A x on) σ r σ') := by
  have hF := hI.1
  have hm := hF.1.2.1
  refine zSp.of rfl (Nat.le_of_ble_eq_true rfl) (zg_X7_cut_0 fun G C hG hC => ?_)
  conv => whnf
  refine hC _ _ _ _ ((sp_noBar (d := d + 6) (n := zam A) (by omega) hF.2.2.2.1).conseq ?_)
  rintro r σ' ⟨rfl, rfl⟩
  conv => whnf
  rcases zix_cases x (n := zam A) (by omega) with ⟨hz, -⟩ | ⟨i, hi, rfl, hz⟩
  · rw [hz, if_neg (by decide)]
    refine br_f (by decide) ?_
    conv => whnf
    refine hC _ _ _ _ ((sp_refuse (d := d + 6) (k := 0) (by decide) hI).conseq ?_)
    intro r σ' hq
    conv => whnf
    refine ⟨ch, by omega, ?_⟩
    have h1 : zo_cut A x on = .inl 0 := by unfold zo_cut; rw [hz]; rfl
    have h2 : zt_cut A x on = A := by unfold zt_cut; rw [hz]; rfl
    rw [h1, h2]; exact hq
  · have hc : (nI i).toNatClampNeg = i := nI_clamp (by omega)
    have ho : zo_cut A (nI i) on = .inr (if zat A i = !on then 0 else 1) := by unfold zo_cut; rw [hz, hc]; rfl
    have ht : zt_cut A (nI i) on = (zan A, zam A, zaa A, zab A, zac A, fun q => if q = i then !on else zat A q) := by unfold zt_cut; rw [hz, hc]; rfl
    rw [hz, if_pos rfl]
    refine br_t rfl ?_
    -- setThere
    have hset : ∀ (b : Bool), zSp E (d + 7) zM_X2_setThere [.inr (2, 1), .inl (nI i), .inl (zbo b)] σ' (fun r σ2 => (zat A i = b ∧ r = 0 ∧ σ2 = σ') ∨ (zat A i = !b ∧ r = 1 ∧ zagr [1, 5] σ' σ2 ∧ zcf (zan A, zam A, zaa A, zab A, zac A, fun q => if q = i then b else zat A q) (ch + 1) σ2)) := by
      intro b
      obtain ⟨⟨v1, v2, v3⟩, f0, f1, f2, f3, f4, f5, f6⟩ := hF
      refine zSp.of rfl (Nat.le_of_ble_eq_true rfl) (zg_X2_setThere_0 fun G C hG hC => ?_)
      conv => whnf
      refine ⟨pk_in i 80 (by omega), ?_⟩
      conv => whnf
      dsimp only
      rw [hc, (f5 i hi).2.2.2]
      have hbit : ∀ p q : Bool, ((if p = true then (1 : Int32) else 0) = zbo q) ↔ p = q := by decide
      refine ⟨fun h => ?_, fun h => ?_⟩
      · have h := (hbit _ _).mp h
        conv => whnf
        exact ⟨Or.inl rfl, Or.inl ⟨h, rfl, rfl⟩⟩
      · have h : ¬ zat A i = b := fun q => h ((hbit _ _).mpr q)
        have h' : zat A i = !b := by cases hz2 : zat A i <;> cases b <;> simp_all
        conv => whnf
        refine ⟨pk_in i 80 (by omega), by cases b <;> simp [zbo], ?_⟩
        conv => whnf
        dsimp only
        rw [hc]
        have fin : ∀ (e : Int32), σ' 1 7 + e = nI (fb_ct (fun q => if q = i then b else zat A q) (zam A)) → zcf (zan A, zam A, zaa A, zab A, zac A, fun q => if q = i then b else zat A q) (ch + 1) (zup (zup (zup σ' 5 i (zbo b)) 1 7 (σ' 1 7 + e)) 1 8 (σ' 1 8 + 1)) := by
          intro e he
          refine ⟨⟨v1, v2, v3⟩, hch, ?_, ?_, ?_, ?_, ?_, ?_⟩
          · rw [zup_self, pk_un (by decide), zup_self, pk_un (by decide), zup_ne (by decide)]; exact f1
          · rw [zup_self, pk_un (by decide), zup_self, pk_un (by decide), zup_ne (by decide)]; exact f2
          · rw [zup_self, pk_un (by decide), zup_self, pk_us]; exact he
          · rw [zup_self, pk_us, f4, nI_1]
          · intro q hq
            rw [zup_ne (by decide), zup_ne (by decide), zup_ne (by decide), zup_ne (by decide), zup_ne (by decide), zup_ne (by decide), zup_ne (by decide), zup_ne (by decide), zup_ne (by decide), zup_ne (by decide), zup_ne (by decide), zup_self]
            obtain ⟨g1, g2, g3, g4⟩ := f5 q hq
            refine ⟨g1, g2, g3, ?_⟩
            show _ = if (if q = i then b else zat A q) = true then 1 else 0
            by_cases e2 : q = i
            · subst e2; rw [pk_us, if_pos rfl]; rfl
            · rw [pk_un e2, if_neg e2]; exact g4
          · intro u hu w hw
            rw [zup_ne (by decide), zup_ne (by decide), zup_ne (by decide)]; exact f6 u hu w hw
        cases hb : b
        · refine br_t rfl ?_
          conv => whnf
          subst hb
          have hd := fb_ct_del1 hi (K := zat A) h'
          refine ⟨Or.inr rfl, Or.inr ⟨h', rfl, ((zagr.rf.up (by simp)).up (by simp)).up (by simp), ?_⟩⟩
          dsimp only
          rw [zup_ne (by decide : (1 : Nat) ≠ 5), zup_self, pk_un (by decide), zup_ne (by decide : (1 : Nat) ≠ 5)]
          refine fin (-1) ?_
          rw [f3, ← hd]
          exact pk_m1 _
        · refine br_f (by decide) ?_
          conv => whnf
          subst hb
          have hd := fb_ct_add1 hi (K := zat A) h'
          refine ⟨Or.inr rfl, Or.inr ⟨h', rfl, ((zagr.rf.up (by simp)).up (by simp)).up (by simp), ?_⟩⟩
          dsimp only
          rw [zup_ne (by decide : (1 : Nat) ≠ 5), zup_self, pk_un (by decide), zup_ne (by decide : (1 : Nat) ≠ 5)]
          refine fin 1 ?_
          rw [f3, hd, nI_1]
    have done : ∀ (r : Int32) (σ2 : zST), ((zat A i = !on ∧ r = 0 ∧ σ2 = σ') ∨ (zat A i = !!on ∧ r = 1 ∧ zagr [1, 5] σ' σ2 ∧ zcf (zan A, zam A, zaa A, zab A, zac A, fun q => if q = i then !on else zat A q) (ch + 1) σ2)) → ∃ ch', ch' ≤ ch + 1 ∧ zPP (zt_cut A (nI i) on) ch' rf (zo_cut A (nI i) on) σ' r σ2 := by
      rintro r σ2 (⟨h1, rfl, rfl⟩ | ⟨h1, rfl, h2, h3⟩)
      · refine ⟨ch, by omega, ?_⟩
        rw [ho, ht, if_pos h1]
        have e : (fun q => if q = i then !on else zat A q) = zat A := by
          funext q
          by_cases e : q = i
          · subst e; rw [if_pos rfl, h1]
          · rw [if_neg e]
        rw [e]
        exact ⟨fun _ _ => rfl, hI, rfl⟩
      · refine ⟨ch + 1, Nat.le_refl _, ?_⟩
        have : ¬ zat A i = !on := by rw [h1]; cases on <;> decide
        rw [ho, ht, if_neg this]
        exact ⟨zhi.of h2 (by simp), hI.new h3 (fun q hq => h2 q (by simp; omega)), rfl⟩
    cases on
    · conv => whnf
      refine br_t rfl ?_
      conv => whnf
      refine hC _ _ _ _ ((hset true).conseq ?_)
      intro r σ2 hq
      have hd := done r σ2 hq
      conv => whnf
      rcases hq with ⟨-, rfl, -⟩ | ⟨-, rfl, -⟩
      · refine br_t rfl ?_
        conv => whnf
        exact hd
      · refine br_f (by decide) ?_
        conv => whnf
        exact hd
    · conv => whnf
      refine br_f (by decide) ?_
      conv => whnf
      refine hC _ _ _ _ ((hset false).conseq ?_)
      intro r σ2 hq
      have hd := done r σ2 hq
      conv => whnf
      rcases hq with ⟨-, rfl, -⟩ | ⟨-, rfl, -⟩
      · refine br_t rfl ?_
        conv => whnf
        exact hd
      · refine br_f (by decide) ?_
        conv => whnf
        exact hd
/-! cost -/
def zo_cost (A : zAS) (x v : Int32) : zO := if zix x (zam A) = true then (if v < 0 then .inl 3 else if 999 < v then .inl 5 else .inr (nI (zac A x.toNatClampNeg))) else .inl 0
def zt_cost (A : zAS) (x v : Int32) : zAS := match zo_cost A x v with
  | .inl _ => A
  | .inr _ => (zan A, zam A, zaa A, zab A, fun q => if q = x.toNatClampNeg then v.toNatClampNeg else zac A q, zat A)
set_option maxHeartbeats 4000000 in
theorem sp_cost {E : zEN} {d ch : Nat} {A : zAS} {rf : Nat → Int32} {x v : Int32} {σ : zST} (hI : zCI A ch rf σ) (hch : ch + 1 < 2 ^ 30) : zSp E (d + 8) zM_X7_cost [.inr (7, 0), .inl x, .inl v] σ (fun r σ' => ∃ ch', ch' ≤ ch + 1 ∧ zPP (zt_cost A x v) ch' rf (zo_cost A x v) σ r σ') := by
  have hF := hI.1
  have hm := hF.1.2.1
  have refu : ∀ (k : Nat), k < 6 → zo_cost A x v = .inl k → ∀ r σ', (zhi σ σ' ∧ zCI A ch (zrfo rf (.inl k)) σ' ∧ r = zres (.inl k)) → ∃ ch', ch' ≤ ch + 1 ∧ zPP (zt_cost A x v) ch' rf (zo_cost A x v) σ r σ' := by
    intro k hk ho r σ' hq
    refine ⟨ch, by omega, ?_⟩
    have : zt_cost A x v = A := by unfold zt_cost; rw [ho]
    rw [this, ho]
    exact hq
  refine zSp.of rfl (Nat.le_of_ble_eq_true rfl) (zg_X7_cost_0 fun G C hG hC => ?_)
  conv => whnf
  refine hC _ _ _ _ ((sp_noBar (d := d + 6) (n := zam A) (by omega) hF.2.2.2.1).conseq ?_)
  rintro r σ' ⟨rfl, rfl⟩
  conv => whnf
  rcases zix_cases x (n := zam A) (by omega) with ⟨hz, -⟩ | ⟨i, hi, rfl, hz⟩
  · rw [hz, if_neg (by decide)]
    refine br_f (by decide) ?_
    conv => whnf
    refine hC _ _ _ _ ((sp_refuse (d := d + 6) (k := 0) (by decide) hI).conseq ?_)
    intro r σ' hq
    conv => whnf
    exact refu 0 (by decide) (by unfold zo_cost; rw [hz]; rfl) r σ' hq
  · have hc : (nI i).toNatClampNeg = i := nI_clamp (by omega)
    rw [hz, if_pos rfl]
    refine br_t rfl ?_
    conv => whnf
    refine ⟨fun h0 => ?_, fun h0 => ?_⟩
    · have h0 : 0 ≤ v := h0
      have h0' : ¬ v < 0 := fun q => by
        have a1 := Int32.lt_iff_toInt_lt.mp q
        have a2 := Int32.le_iff_toInt_le.mp h0
        omega
      obtain ⟨v', hv', rfl⟩ := nI_of h0'
      conv => whnf
      refine pk_le v' 999 (fun h9 => ?_) (fun h9 => ?_)
      · conv => whnf
        have h9' : ¬ (999 : Int32) < nI v' := nI_nlt (b := v') (a := 999) (by omega) (by decide)
        refine hC _ _ _ _ (zSp.conseq (P := fun r σ2 => r = nI (zac A i) ∧ σ2 = zup (zup σ' 4 i (nI v')) 1 8 (nI (ch + 1))) ?_ ?_)
        · refine zSp.of rfl (Nat.le_of_ble_eq_true rfl) (zg_X2_setCost_0 fun G C hG hC => ?_)
          conv => whnf
          refine ⟨pk_in i 80 (by omega), ?_⟩
          conv => whnf
          refine ⟨pk_in i 80 (by omega), ?_⟩
          conv => whnf
          dsimp only
          rw [hc, zup_ne (by decide : (1 : Nat) ≠ 4), hF.2.2.2.2.2.1, nI_1]
          exact ⟨(hF.2.2.2.2.2.2.1 i hi).2.2.1, rfl⟩
        · rintro r σ2 ⟨rfl, rfl⟩
          conv => whnf
          have ho : zo_cost A (nI i) (nI v') = .inr (nI (zac A i)) := by unfold zo_cost; rw [hz, hc, if_pos rfl, if_neg h0', if_neg h9']
          have ht : zt_cost A (nI i) (nI v') = (zan A, zam A, zaa A, zab A, fun q => if q = i then v' else zac A q, zat A) := by unfold zt_cost; rw [ho, hc, nI_clamp hv']
          refine ⟨ch + 1, Nat.le_refl _, ?_⟩
          rw [ho, ht]
          have hag : zagr [1, 4] σ' (zup (zup σ' 4 i (nI v')) 1 8 (nI (ch + 1))) := (zagr.rf.up (by simp)).up (by simp)
          refine ⟨zhi.of hag (by simp), hI.new ?_ (fun q hq => hag q (by simp; omega)), rfl⟩
          obtain ⟨⟨v1, v2, v3⟩, f0, f1, f2, f3, f4, f5, f6⟩ := hF
          refine ⟨⟨v1, v2, fun q hq => ?_⟩, hch, ?_, ?_, ?_, ?_, ?_, ?_⟩
          · have := v3 q hq
            refine ⟨this.1, this.2.1, ?_⟩
            show (if q = i then v' else zac A q) < 1000
            split
            · omega
            · exact this.2.2
          · rw [zup_self, pk_un (by decide), zup_ne (by decide)]; exact f1
          · rw [zup_self, pk_un (by decide), zup_ne (by decide)]; exact f2
          · rw [zup_self, pk_un (by decide), zup_ne (by decide)]; exact f3
          · rw [zup_self, pk_us]
          · intro q hq
            rw [hag 2 (by simp), hag 3 (by simp), hag 5 (by simp), zup_ne (by decide), zup_self]
            obtain ⟨g1, g2, g3, g4⟩ := f5 q hq
            refine ⟨g1, g2, ?_, g4⟩
            show _ = nI (if q = i then v' else zac A q)
            by_cases e2 : q = i
            · subst e2; rw [pk_us, if_pos rfl]
            · rw [pk_un e2, if_neg e2]; exact g3
          · intro u hu w hw
            rw [hag 6 (by simp)]; exact f6 u hu w hw
      · conv => whnf
        refine hC _ _ _ _ ((sp_refuse (d := d + 6) (k := 5) (by decide) hI).conseq ?_)
        intro r σ' hq
        conv => whnf
        refine refu 5 (by decide) ?_ r σ' hq
        unfold zo_cost
        rw [hz, if_pos rfl, if_neg h0', if_pos (show (999 : Int32) < nI v' from nI_lt (a := 999) h9 hv')]
    · have h0 : ¬ 0 ≤ v := h0
      have h0' : v < 0 := by
        rw [Int32.lt_iff_toInt_lt]
        have : ¬ (0 : Int32).toInt ≤ v.toInt := fun q => h0 (Int32.le_iff_toInt_le.mpr q)
        omega
      conv => whnf
      refine hC _ _ _ _ ((sp_refuse (d := d + 6) (k := 3) (by decide) hI).conseq ?_)
      intro r σ' hq
      conv => whnf
      refine refu 3 (by decide) ?_ r σ' hq
      unfold zo_cost
      rw [hz, if_pos rfl, if_pos h0']
