/-! the reference: goesBack, back, threes -/
section zQ
variable {E : zEN} {d : Nat} {A : zAS} {rf : Nat → Int32} {σ : zST}
abbrev zgj2 : List Nat := [54, 55, 56, 57, 58, 59, 62, 67, 68, 69, 70]
def zgst (A : zAS) (i : Nat) (σ : zST) : Prop := ∀ q, q < i → σ 68 q = nI (zgo1 A q) ∧ σ 69 q = nI (zkd1 A q) ∧ σ 70 q = zco1 A q
def zgbp (A : zAS) (σ : zST) : zPT := fun _ σ' => zagw zgj2 [11, 12, 13] σ σ' ∧ zgst A (zan A) σ'
theorem zner_aw {n : Nat} {N : zNT} {f : Nat → Int32} {v : Nat} (h : ∀ w, w < n → f w = zmk (fun x => N w x && !decide (x = v))) : zner n (zaw N v) (upd f v 0) := by
  intro w hw
  by_cases e : w = v
  · subst e
    rw [pk_us, ← zmk_none]
    exact zmk_cong fun x _ => by simp [zaw]
  · rw [pk_un e, h w hw]
    exact zmk_cong fun x _ => by simp [zaw, e]
set_option maxHeartbeats 8000000 in
theorem sm_goesBack (hI : zmf A rf σ) : zSp E (d + 31) zM_X8_goesBack [.inr (8, 48)] σ (zgbp A σ) := by
  have hvd := hI.1
  have hn := hvd.1
  have hm := hvd.2.1
  have main : ∀ r i (x1 x2 : Int32) (x3 x4 x5 : Option zAV) (σ' : zST), i + r = zan A → x1 = zmk (zwk A i).2 → x2 = nI i → zagw zgj2 [11, 12, 13] σ σ' → zner (zan A) (zwk A i).1 (σ' 67) → zgst A i σ' → zWp E (d + 31) zM_X8_goesBack (zgbp A σ) 79 [some (.inr (8, 48)), some (.inl x1), some (.inl x2), x3, x4, x5] [] σ' := by
    intro r
    induction r with
    | zero =>
      intro i x1 x2 x3 x4 x5 σ' hi hx1 hx2 hag hN hq
      have hI' := hI.agw hag (by simp) (by simp)
      have hi : i = zan A := by omega
      subst hi
      refine zg_X8_goesBack_79 fun G C hG hC => ?_
      conv => whnf
      refine pk_le (zan A) (zan A) (fun _ => ?_) (fun _ => by omega) hI'.2.1 hx2
      conv => whnf
      exact ⟨hag, hq⟩
    | succ r ih =>
      intro i x1 x2 x3 x4 x5 σ' hi hx1 hx2 hag hN hq
      subst hx1
      subst hx2
      have hin : i < zan A := by omega
      have hI' := hI.agw hag (by simp) (by simp)
      obtain ⟨b, b1, b2, b3, b4⟩ := zgo1_lt hin
      have hwf := zwk_wf hvd i
      have hkd := zkd1_lt hvd hin
      have hkde : fb_ct ((zwk A i).1 b) 24 = zkd1 A i := by unfold zkd1 zdeg; rw [← b2]
      have hS' : (zwk A (i + 1)).2 = fun x => (zwk A i).2 x && !decide (x = b) := by
        show (zwn (zan A) (zwk A i)).2 = _
        unfold zwn
        dsimp only
        rw [b1]; rfl
      have hN' : (zwk A (i + 1)).1 = if zkd1 A i = 3 then zadd (zaw (zwk A i).1 b) (zbf2 ((zwk A i).1 b) (zlb (zaw (zwk A i).1 b))) else zaw (zwk A i).1 b := by
        show (zwn (zan A) (zwk A i)).1 = _
        unfold zwn
        dsimp only
        rw [b1]
        unfold zkd1
        rw [← b2]; rfl
      have hco : zco1 A i = if zkd1 A i = 3 then zcode (zbf2 ((zwk A i).1 b) (zlb (zaw (zwk A i).1 b))) else -9 := by
        unfold zco1
        rw [← b2]
      -- the last stretch: the joint is taken away
      have clr : ∀ (σ3 : zST), zagw zgj2 [11, 12, 13] σ σ3 → σ3 68 = upd (σ' 68) i (nI b) → σ3 69 = upd (σ' 69) i (nI (zkd1 A i)) → σ3 70 = upd (σ' 70) i (-9) → ∀ r2 j (x5 : Int32) (σ4 : zST), j + r2 = zan A → x5 = nI j → zagw [67] [] σ3 σ4 → (∀ w, w < zan A → σ4 67 w = if w < j then zmk (fun x => (zwk A i).1 w x && !decide (x = b)) else zmk ((zwk A i).1 w)) → zWp E (d + 31) zM_X8_goesBack (zgbp A σ) 195 [some (.inr (8, 48)), some (.inl (zmk (zwk A (i + 1)).2)), some (.inl (nI i)), some (.inl (nI b)), some (.inl (zmk ((zwk A i).1 b))), some (.inl x5)] [] σ4 := by
        intro σ3 hag3 h68 h69 h70 r2
        induction r2 with
        | zero =>
          intro j x5 σ4 hj hx5 hag4 h67
          have hj : j = zan A := by omega
          subst hj
          have hagA : zagw zgj2 [11, 12, 13] σ σ4 := hag3.tr (hag4.sub (by simp) (by simp))
          have hI4 := hI.agw hagA (by simp) (by simp)
          have k68 : σ4 68 = upd (σ' 68) i (nI b) := by rw [hag4.1 68 (by simp) (by decide)]; exact h68
          have k69 : σ4 69 = upd (σ' 69) i (nI (zkd1 A i)) := by rw [hag4.1 69 (by simp) (by decide)]; exact h69
          have k70 : σ4 70 = upd (σ' 70) i (-9) := by rw [hag4.1 70 (by simp) (by decide)]; exact h70
          have hz : zner (zan A) (zaw (zwk A i).1 b) (upd (σ4 67) b 0) := zner_aw (fun w hw => by rw [h67 w hw, if_pos hw])
          refine zg_X8_goesBack_195 fun G C hG hC => ?_
          conv => whnf
          refine pk_le (zan A) (zan A) (fun _ => ?_) (fun _ => by omega) hI4.2.1 hx5
          conv => whnf
          refine ⟨pk_in b 24 (by omega), ?_⟩
          conv => whnf
          refine ⟨pk_in i 24 (by omega), ?_⟩
          conv => whnf
          dsimp only
          rw [nI_clamp (by omega : b < 2 ^ 31), nI_clamp (by omega : i < 2 ^ 31), zup_ne (by decide), k69, pk_us]
          have hagB : zagw zgj2 [11, 12, 13] σ (zup σ4 67 b 0) := hagA.up (by simp) (by decide)
          have m67 : zner (zan A) (zaw (zwk A i).1 b) (zup σ4 67 b 0 67) := by rw [zup_self]; exact hz
          have m68 : zup σ4 67 b 0 68 = upd (σ' 68) i (nI b) := by rw [zup_ne (by decide)]; exact k68
          have m69 : zup σ4 67 b 0 69 = upd (σ' 69) i (nI (zkd1 A i)) := by rw [zup_ne (by decide)]; exact k69
          have m70 : zup σ4 67 b 0 70 = upd (σ' 70) i (-9) := by rw [zup_ne (by decide)]; exact k70
          generalize zup σ4 67 b 0 = σ5 at *
          refine pk_eq (zkd1 A i) 3 (fun e3 => ?_) (fun e3 => ?_)
          · conv => whnf
            refine hC _ _ _ _ ((sm_mends (d := d + 2) (hI.agw hagB (by simp) (by simp)) m67 (hwf.aw b) (nb := (zwk A i).1 b) (fun x hx => (hwf b x hx).2.1) (by rw [hkde]; exact e3)).conseq ?_)
            rintro r6 σ6 ⟨g1, rfl, g3⟩
            conv => whnf
            refine ⟨pk_in i 24 (by omega), ?_⟩
            conv => whnf
            dsimp only
            rw [nI_clamp (by omega : i < 2 ^ 31)]
            refine hG _ _ _ _ (ih (i + 1) _ _ _ _ _ _ (by omega) rfl (nI_1 i) ((hagB.tr (g1.sub (by simp) (by simp))).up (by simp) (by decide)) ?_ ?_)
            · rw [zup_ne (by decide), hN', if_pos e3]; exact g3
            · intro q hq1
              rw [zup_ne (by decide), zup_ne (by decide), zup_self, g1.1 68 (by simp) (by decide), g1.1 69 (by simp) (by decide), g1.1 70 (by simp) (by decide), m68, m69, m70]
              by_cases e : q = i
              · subst e
                rw [pk_us, pk_us, pk_us]
                refine ⟨by rw [← b2], rfl, ?_⟩
                rw [hco, if_pos e3]
              · rw [pk_un e, pk_un e, pk_un e, pk_un e]; exact hq q (by omega)
          · conv => whnf
            refine hG _ _ _ _ (ih (i + 1) _ _ _ _ _ _ (by omega) rfl (nI_1 i) hagB ?_ ?_)
            · rw [hN', if_neg e3]; exact m67
            · intro q hq1
              rw [m68, m69, m70]
              by_cases e : q = i
              · subst e
                rw [pk_us, pk_us, pk_us]
                refine ⟨by rw [← b2], rfl, ?_⟩
                rw [hco, if_neg e3]
              · rw [pk_un e, pk_un e, pk_un e]; exact hq q (by omega)
        | succ r2 ih2 =>
          intro j x5 σ4 hj hx5 hag4 h67
          have hagA : zagw zgj2 [11, 12, 13] σ σ4 := hag3.tr (hag4.sub (by simp) (by simp))
          have hI4 := hI.agw hagA (by simp) (by simp)
          refine zg_X8_goesBack_195 fun G C hG hC => ?_
          conv => whnf
          refine pk_le (zan A) j (fun _ => by omega) (fun _ => ?_) hI4.2.1 hx5
          conv => whnf
          refine ⟨pk_in j 24 (by omega) hx5, ?_⟩
          conv => whnf
          refine ⟨pk_in j 24 (by omega) hx5, ?_⟩
          conv => whnf
          dsimp only
          rw [pk_cl j hx5, h67 j (by omega), if_neg (by omega), zmk_del _ (by omega)]
          refine hG _ _ _ _ (ih2 (j + 1) _ _ (by omega) (by rw [hx5, nI_1]) (hag4.up (by simp) (by decide)) (fun w hw => ?_))
          rw [zup_self]
          by_cases e : w = j
          · subst e; rw [pk_us, if_pos (by omega)]
          · rw [pk_un e, h67 w hw]
            have : w < j ↔ w < j + 1 := by omega
            simp only [this]
      -- the best
      have best : ∀ r2 j (x3 x4 : Int32) (x5 : Option zAV), j + r2 = zan A → x4 = nI j → ((zbst (zwk A i).1 (zwk A i).2 j = none ∧ x3 = -1) ∨ ∃ v, zbst (zwk A i).1 (zwk A i).2 j = some v ∧ v < zan A ∧ x3 = nI v) → zWp E (d + 31) zM_X8_goesBack (zgbp A σ) 92 [some (.inr (8, 48)), some (.inl (zmk (zwk A i).2)), some (.inl (nI i)), some (.inl x3), some (.inl x4), x5] [] σ' := by
        intro r2
        induction r2 with
        | zero =>
          intro j x3 x4 x5 hj hx4 hb
          have hj : j = zan A := by omega
          subst hj
          have hx3 : x3 = nI b := by
            rcases hb with ⟨h1, -⟩ | ⟨v, h1, -, h3⟩
            · rw [b1] at h1; cases h1
            · rw [b1] at h1; cases h1; exact h3
          subst hx3
          refine zg_X8_goesBack_92 fun G C hG hC => ?_
          conv => whnf
          refine pk_le (zan A) (zan A) (fun _ => ?_) (fun _ => by omega) hI'.2.1 hx4
          conv => whnf
          refine ⟨pk_in i 24 (by omega), ?_⟩
          conv => whnf
          refine ⟨pk_in b 24 (by omega), ?_⟩
          conv => whnf
          dsimp only
          rw [nI_clamp (by omega : i < 2 ^ 31), nI_clamp (by omega : b < 2 ^ 31), zup_ne (by decide), hN b b3]
          refine hC _ _ _ _ ((sp_bits (d := d + 29)).conseq ?_)
          rintro r3 σ1 ⟨hσ1, rfl⟩
          rw [zpopmk, hkde]
          conv => whnf
          refine ⟨pk_in i 24 (by omega), ?_⟩
          conv => whnf
          refine ⟨pk_in i 24 (by omega), ?_⟩
          conv => whnf
          refine ⟨pk_in b 24 (by omega), ?_⟩
          conv => whnf
          dsimp only
          rw [nI_clamp (by omega : i < 2 ^ 31), nI_clamp (by omega : b < 2 ^ 31), zup_ne (by decide), zup_ne (by decide), hσ1, zup_ne (by decide), hN b b3, zmk_del _ (by omega)]
          have e1 : zmk (fun x => (zwk A i).2 x && !decide (x = b)) = zmk (zwk A (i + 1)).2 := by rw [hS']
          rw [e1]
          refine hG _ _ _ _ (clr _ (((hag.up (by simp) (by decide)).up (by simp) (by decide)).up (by simp) (by decide)) ?_ ?_ ?_ (zan A) 0 0 _ (by omega) rfl zagw.rf (fun w hw => ?_))
          · rw [zup_ne (by decide), zup_ne (by decide), zup_self]
          · rw [zup_ne (by decide), zup_self, zup_ne (by decide)]
          · rw [zup_self, zup_ne (by decide), zup_ne (by decide)]
          · rw [zup_ne (by decide), zup_ne (by decide), zup_ne (by decide), if_neg (Nat.not_lt_zero w)]; exact hN w hw
        | succ r2 ih2 =>
          intro j x3 x4 x5 hj hx4 hb
          subst hx4
          have hdj := zdeg_lt hwf j (by omega)
          have hstep : zbst (zwk A i).1 (zwk A i).2 (j + 1) = if (zwk A i).2 j = true then (match zbst (zwk A i).1 (zwk A i).2 j with
            | none => some j
            | some v => if zdeg (zwk A i).1 j < zdeg (zwk A i).1 v then some j else some v) else zbst (zwk A i).1 (zwk A i).2 j := rfl
          refine zg_X8_goesBack_92 fun G C hG hC => ?_
          conv => whnf
          refine pk_le (zan A) j (fun _ => by omega) (fun _ => ?_) hI'.2.1 rfl
          conv => whnf
          dsimp only
          rw [zbitv (by omega), zmk_bt _ (by omega)]
          cases hS : (zwk A i).2 j
          · rw [if_neg (by decide)]
            refine br_f (by decide) ?_
            conv => whnf
            refine hG _ _ _ _ (ih2 (j + 1) _ _ _ (by omega) (nI_1 j) ?_)
            rw [hstep, hS, if_neg (by decide)]; exact hb
          · rw [if_pos rfl]
            refine br_t rfl ?_
            conv => whnf
            rw [hS, if_pos rfl] at hstep
            rcases hb with ⟨h1, h2⟩ | ⟨v, h1, h2, h3⟩
            · rw [h1] at hstep
              refine br_t (by rw [h2]; decide) ?_
              conv => whnf
              exact hG _ _ _ _ (ih2 (j + 1) _ _ _ (by omega) (nI_1 j) (Or.inr ⟨j, hstep, by omega, rfl⟩))
            · rw [h1] at hstep
              subst h3
              have hdv := zdeg_lt hwf v (by omega)
              refine br_f (nI_pos (by omega)) ?_
              conv => whnf
              refine ⟨pk_in j 24 (by omega), ?_⟩
              conv => whnf
              dsimp only
              rw [nI_clamp (by omega : j < 2 ^ 31), hN j (by omega)]
              refine hC _ _ _ _ ((sp_bits (d := d + 29)).conseq ?_)
              rintro r3 σ1 ⟨hσ1, rfl⟩
              rw [zpopmk]
              conv => whnf
              refine ⟨pk_in v 24 (by omega), ?_⟩
              conv => whnf
              dsimp only
              rw [nI_clamp (by omega : v < 2 ^ 31), hσ1, hN v h2]
              refine hC _ _ _ _ ((sp_bits (d := d + 29)).conseq ?_)
              rintro r4 σ2 ⟨hσ2, rfl⟩
              rw [zpopmk]
              conv => whnf
              rw [hσ2]
              refine pk_le (zdeg (zwk A i).1 v) (zdeg (zwk A i).1 j) (fun hle => ?_) (fun hlt => ?_) rfl rfl
              · conv => whnf
                refine hG _ _ _ _ (ih2 (j + 1) _ _ _ (by omega) (nI_1 j) (Or.inr ⟨v, ?_, h2, rfl⟩))
                rw [hstep]
                dsimp only
                rw [if_neg (by omega)]
              · conv => whnf
                refine hG _ _ _ _ (ih2 (j + 1) _ _ _ (by omega) (nI_1 j) (Or.inr ⟨j, ?_, by omega, rfl⟩))
                rw [hstep]
                dsimp only
                rw [if_pos hlt]
      refine zg_X8_goesBack_79 fun G C hG hC => ?_
      conv => whnf
      refine pk_le (zan A) i (fun _ => by omega) (fun _ => ?_) hI'.2.1 rfl
      conv => whnf
      exact hG _ _ _ _ (best (zan A) 0 _ _ _ (by omega) rfl (Or.inl ⟨rfl, rfl⟩))
  have tie : ∀ r i (x1 : Int32) (x2 x3 x4 x5 : Option zAV) (σ' : zST), i + r = zam A → x1 = nI i → zagw zgj2 [11, 12, 13] σ σ' → zbase A σ' → zner (zan A) (zN0 A i) (σ' 67) → zWp E (d + 31) zM_X8_goesBack (zgbp A σ) 29 [some (.inr (8, 48)), some (.inl x1), x2, x3, x4, x5] [] σ' := by
    intro r
    induction r with
    | zero =>
      intro i x1 x2 x3 x4 x5 σ' hi hx1 hag hB hN
      have hI' := hI.agw hag (by simp) (by simp)
      have hi : i = zam A := by omega
      subst hi
      refine zg_X8_goesBack_29 fun G C hG hC => ?_
      conv => whnf
      refine pk_le (zam A) (zam A) (fun _ => ?_) (fun _ => by omega) hI'.2.2.1 hx1
      conv => whnf
      dsimp only
      rw [hI'.2.1, zmask_mk hn]
      exact hG _ _ _ _ (main (zan A) 0 _ _ _ _ _ σ' (by omega) rfl rfl hag hN (fun q hq => absurd hq (Nat.not_lt_zero q)))
    | succ r ih =>
      intro i x1 x2 x3 x4 x5 σ' hi hx1 hag hB hN
      subst hx1
      have hI' := hI.agw hag (by simp) (by simp)
      have hx := hI'.2.2.2.1 i (by omega)
      have hv := hvd.2.2 i (by omega)
      have hstep : zN0 A (i + 1) = if zK A false 2 3 i = true then zadd (zN0 A i) (some (zaa A i, zab A i)) else zN0 A i := rfl
      refine zg_X8_goesBack_29 fun G C hG hC => ?_
      conv => whnf
      refine pk_le (zam A) i (fun _ => by omega) (fun _ => ?_) hI'.2.2.1 rfl
      conv => whnf
      refine ⟨pk_in i 80 (by omega), ?_⟩
      conv => whnf
      dsimp only
      rw [nI_clamp (by omega : i < 2 ^ 31), hB i (by omega)]
      cases hK : zK A false 2 3 i
      · rw [if_neg (by decide)]
        refine br_t rfl ?_
        conv => whnf
        refine hG _ _ _ _ (ih (i + 1) _ _ _ _ _ σ' (by omega) (nI_1 i) hag hB ?_)
        rw [hstep, hK, if_neg (by decide)]; exact hN
      · rw [if_pos rfl]
        refine br_f (by decide) ?_
        conv => whnf
        refine ⟨pk_in i 80 (by omega), ?_⟩
        conv => whnf
        refine ⟨pk_in i 80 (by omega), ?_⟩
        conv => whnf
        dsimp only
        rw [nI_clamp (by omega : i < 2 ^ 31), hx.1, hx.2.1]
        refine hC _ _ _ _ ((sm_links (d := d + 29) hN hn (by omega : zaa A i < zan A) (by omega : zab A i < zan A) (by omega)).conseq ?_)
        rintro r2 σ2 ⟨t1, t2⟩
        conv => whnf
        refine hG _ _ _ _ (ih (i + 1) _ _ _ _ _ σ2 (by omega) (nI_1 i) (hag.tr (t1.sub (by simp) (by simp))) ?_ ?_)
        · unfold zbase
          rw [t1.1 62 (by simp) (by decide)]; exact hB
        · rw [hstep, hK, if_pos rfl]; exact t2
  have zero : ∀ r j (x1 : Int32) (x2 x3 x4 x5 : Option zAV) (σ' : zST), j + r = zan A → x1 = nI j → zagw zgj2 [11, 12, 13] σ σ' → zbase A σ' → (∀ v, v < j → σ' 67 v = 0) → zWp E (d + 31) zM_X8_goesBack (zgbp A σ) 6 [some (.inr (8, 48)), some (.inl x1), x2, x3, x4, x5] [] σ' := by
    intro r
    induction r with
    | zero =>
      intro j x1 x2 x3 x4 x5 σ' hj hx1 hag hB h0
      have hI' := hI.agw hag (by simp) (by simp)
      have hj : j = zan A := by omega
      subst hj
      refine zg_X8_goesBack_6 fun G C hG hC => ?_
      conv => whnf
      refine pk_le (zan A) (zan A) (fun _ => ?_) (fun _ => by omega) hI'.2.1 hx1
      conv => whnf
      refine hG _ _ _ _ (tie (zam A) 0 _ _ _ _ _ σ' (by omega) rfl hag hB (fun v hv => ?_))
      rw [h0 v hv]
      exact zmk_none.symm
    | succ r ih =>
      intro j x1 x2 x3 x4 x5 σ' hj hx1 hag hB h0
      have hI' := hI.agw hag (by simp) (by simp)
      refine zg_X8_goesBack_6 fun G C hG hC => ?_
      conv => whnf
      refine pk_le (zan A) j (fun _ => by omega) (fun _ => ?_) hI'.2.1 hx1
      conv => whnf
      refine ⟨pk_in j 24 (by omega) hx1, ?_⟩
      conv => whnf
      dsimp only
      rw [pk_cl j hx1]
      refine hG _ _ _ _ (ih (j + 1) _ _ _ _ _ _ (by omega) (by rw [hx1, nI_1]) (hag.up (by simp) (by decide)) ?_ (fun v hv => ?_))
      · unfold zbase
        rw [zup_ne (by decide)]; exact hB
      · rw [zup_self]
        by_cases e : v = j
        · subst e; rw [pk_us]
        · rw [pk_un e]; exact h0 v (by omega)
  refine zSp.of rfl (Nat.le_of_ble_eq_true rfl) (zg_X8_goesBack_0 fun G C hG hC => ?_)
  conv => whnf
  refine hC _ _ _ _ ((sm_findBase (d := d) hI).conseq ?_)
  rintro r σ2 ⟨h1, -, h3⟩
  conv => whnf
  exact hG _ _ _ _ (zero (zan A) 0 0 _ _ _ _ σ2 (by omega) rfl (h1.sub (by simp) (by simp)) h3 (fun v hv => absurd hv (Nat.not_lt_zero v)))
theorem sm_back (hI : zmf A rf σ) {x w : Int32} : zSp E (d + 40) zM_X8_back [.inr (8, 48), .inl x, .inl w] σ (zMP A rf (zo_back A x w) σ) := by
  have hn := hI.1.1
  refine zSp.of rfl (Nat.le_of_ble_eq_true rfl) (zg_X8_back_0 fun G C hG hC => ?_)
  conv => whnf
  refine hC _ _ _ _ ((sm_isIn (d := d + 38) (n := 3) (by decide) rfl).conseq ?_)
  rintro r σ' ⟨rfl, rfl⟩
  conv => whnf
  rcases zix_cases w (n := 3) (by decide) with ⟨hw, hw2⟩ | ⟨q, hq, rfl, hw⟩
  · rw [hw, if_neg (by decide)]
    refine br_t rfl ?_
    conv => whnf
    refine hC _ _ _ _ ((sm_refuse (d := d + 38) (k := 1) (by decide) hI).conseq ?_)
    intro r σ2 hz
    conv => whnf
    have : zo_back A x w = .inl 1 := by
      unfold zo_back
      rw [if_pos]
      rcases hw2 with h | h
      · exact Or.inl h
      · refine Or.inr (Int32.lt_iff_toInt_lt.mpr ?_)
        have h1 := Int32.le_iff_toInt_le.mp h
        have e3 : (nI 3).toInt = 3 := rfl
        have e2 : (2 : Int32).toInt = 2 := rfl
        omega
    rw [this]
    exact hz
  · rw [hw, if_pos rfl]
    refine br_f (by decide) ?_
    conv => whnf
    refine hC _ _ _ _ ((sm_isIn (d := d + 38) (n := zan A) (by omega) hI.2.1).conseq ?_)
    rintro r σ' ⟨rfl, rfl⟩
    conv => whnf
    have hno : ¬ (nI q < 0 ∨ 2 < nI q) := by
      rintro (h | h)
      · exact nI_pos (by omega) h
      · have := Int32.lt_iff_toInt_lt.mp h
        rw [nI_toInt (by omega)] at this
        have e2 : (2 : Int32).toInt = 2 := rfl
        omega
    unfold zo_back
    rw [if_neg hno]
    rcases zix_cases x (n := zan A) (by omega) with ⟨hz, -⟩ | ⟨i, hi, rfl, hz⟩
    · rw [hz, if_neg (by decide), if_neg (by decide)]
      refine br_t rfl ?_
      conv => whnf
      exact ⟨zlo.rf, hI, rfl⟩
    · rw [hz, if_pos rfl, if_pos rfl, nI_clamp (by omega)]
      refine br_f (by decide) ?_
      conv => whnf
      refine hC _ _ _ _ ((sm_goesBack (d := d + 8) hI).conseq ?_)
      rintro r σ2 ⟨h1, h2⟩
      have hI2 := hI.agw h1 (by simp) (by simp)
      have hz2 : zlo σ' σ2 := h1.lo (by simp)
      have hh := h2 i hi
      conv => whnf
      refine ⟨fun e0 => ?_, fun e0 => ?_⟩
      · have e0 : nI q = 0 := e0
        rw [if_pos e0]
        conv => whnf
        refine ⟨pk_in i 24 (by omega), ?_⟩
        conv => whnf
        refine ⟨hz2, hI2, ?_⟩
        dsimp only
        rw [nI_clamp (by omega : i < 2 ^ 31), hh.1]
        rfl
      · have e0 : ¬ nI q = 0 := e0
        rw [if_neg e0]
        conv => whnf
        refine ⟨fun e1 => ?_, fun e1 => ?_⟩
        · have e1 : nI q = 1 := e1
          rw [if_pos e1]
          conv => whnf
          refine ⟨pk_in i 24 (by omega), ?_⟩
          conv => whnf
          refine ⟨hz2, hI2, ?_⟩
          dsimp only
          rw [nI_clamp (by omega : i < 2 ^ 31), hh.2.1]
          rfl
        · have e1 : ¬ nI q = 1 := e1
          rw [if_neg e1]
          conv => whnf
          refine ⟨pk_in i 24 (by omega), ?_⟩
          conv => whnf
          refine ⟨hz2, hI2, ?_⟩
          dsimp only
          rw [nI_clamp (by omega : i < 2 ^ 31), hh.2.2]
          rfl
theorem sm_threes (hI : zmf A rf σ) : zSp E (d + 40) zM_X8_threes [.inr (8, 48)] σ (zMP A rf (.inr (nI (fb_ct (fun i => decide (zkd1 A i = 3)) (zan A)))) σ) := by
  have hvd := hI.1
  have hn := hvd.1
  refine zSp.of rfl (Nat.le_of_ble_eq_true rfl) (zg_X8_threes_0 fun G C hG hC => ?_)
  conv => whnf
  refine hC _ _ _ _ ((sm_goesBack (d := d + 8) hI).conseq ?_)
  rintro r σ2 ⟨h1, h2⟩
  have hI2 := hI.agw h1 (by simp) (by simp)
  have hz2 : zlo σ σ2 := h1.lo (by simp)
  have loop : ∀ r i (x1 x2 : Int32), i + r = zan A → x1 = nI (fb_ct (fun i => decide (zkd1 A i = 3)) i) → x2 = nI i → zWp E (d + 40) zM_X8_threes (zMP A rf (.inr (nI (fb_ct (fun i => decide (zkd1 A i = 3)) (zan A)))) σ) 8 [some (.inr (8, 48)), some (.inl x1), some (.inl x2)] [] σ2 := by
    intro r
    induction r with
    | zero =>
      intro i x1 x2 hi hx1 hx2
      have hi : i = zan A := by omega
      subst hi
      refine zg_X8_threes_8 fun G C hG hC => ?_
      conv => whnf
      refine pk_le (zan A) (zan A) (fun _ => ?_) (fun _ => by omega) hI2.2.1 hx2
      conv => whnf
      exact ⟨hz2, hI2, hx1⟩
    | succ r ih =>
      intro i x1 x2 hi hx1 hx2
      have hkd := zkd1_lt hvd (i := i) (by omega)
      refine zg_X8_threes_8 fun G C hG hC => ?_
      conv => whnf
      refine pk_le (zan A) i (fun _ => by omega) (fun _ => ?_) hI2.2.1 hx2
      conv => whnf
      refine ⟨pk_in i 24 (by omega) hx2, ?_⟩
      conv => whnf
      dsimp only
      rw [pk_cl i hx2, (h2 i (by omega)).2.1]
      have hnext : x2 + 1 = nI (i + 1) := by rw [hx2, nI_1]
      refine pk_eq (zkd1 A i) 3 (fun h => ?_) (fun h => ?_)
      · conv => whnf
        exact hG _ _ _ _ (ih (i + 1) _ _ (by omega) (by rw [hx1, fb_ct_succ]; simp [h]; exact nI_add _ 1) hnext)
      · conv => whnf
        exact hG _ _ _ _ (ih (i + 1) _ _ (by omega) (by rw [hx1, fb_ct_succ]; simp [h]) hnext)
  conv => whnf
  exact hG _ _ _ _ (loop (zan A) 0 0 0 (by omega) rfl rfl)
end zQ
