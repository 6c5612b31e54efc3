/-! the reference: cheapestOf, cheapest, cheap -/
abbrev zch2 : List Nat := [54, 55, 56, 57, 58, 60, 65]
noncomputable def zsum (A : zAS) (K : Nat → Bool) : Nat := fb_sm (fun x => if K x = true then zac A x else 0) (zam A)
def zchp (A : zAS) (σ : zST) : zPT := fun r σ' => zagw zch2 [11, 12, 13] σ σ' ∧ r = nI (zsum A (zK A true 2 3)) ∧ ∀ x, x < zam A → σ' 60 x = if zK A true 2 3 x = true then 1 else 0
section zQ
variable {E : zEN} {d : Nat} {A : zAS} {rf : Nat → Int32} {σ : zST}
set_option maxHeartbeats 4000000 in
theorem sm_cheapestOf (hI : zmf A rf σ) : zSp E (d + 28) zM_X8_cheapestOf [.inr (8, 48)] σ (zchp A σ) := by
  have hn := hI.1.1
  have hm := hI.1.2.1
  have hv := hI.1.2.2
  have hlen : ∀ i, i ≤ zam A → (zord true (zac A) (zat A) i).length ≤ i := fun i _ => by rw [zord_len]; exact fb_ct_le _ _
  -- the game
  have game : ∀ r i (x2 x3 : Int32) (x4 : Option zAV) (σ' : zST), i + r = (zL A true).length → x2 = nI (zsum A (zkp (zaa A) (zab A) (zam A) 2 3 ((zL A true).take i))) → x3 = nI i → zagw zch2 [11, 12, 13] σ σ' → (∀ q, q < (zL A true).length → σ' 65 q = nI ((zL A true).getD q 0)) → (∀ y, y < zam A → σ' 60 y = if zkp (zaa A) (zab A) (zam A) 2 3 ((zL A true).take i) y = true then 1 else 0) → zmb 2 3 (fb_ct (zkp (zaa A) (zab A) (zam A) 2 3 ((zL A true).take i)) (zam A)) (zib (zaa A) (zab A) (zam A) (zkp (zaa A) (zab A) (zam A) 2 3 ((zL A true).take i))) σ' → zWp E (d + 28) zM_X8_cheapestOf (zchp A σ) 105 [some (.inr (8, 48)), some (.inl (nI (zL A true).length)), some (.inl x2), some (.inl x3), x4] [] σ' := by
    have hl : (zL A true).length ≤ zam A := hlen (zam A) (Nat.le_refl _)
    intro r
    induction r with
    | zero =>
      intro i x2 x3 x4 σ' hi hx2 hx3 hag hord hK hM
      have hi : i = (zL A true).length := by omega
      refine zg_X8_cheapestOf_105 fun G C hG hC => ?_
      conv => whnf
      refine pk_le (zL A true).length i (fun _ => ?_) (fun _ => by omega) rfl hx3
      conv => whnf
      subst hi
      rw [List.take_length] at hx2 hK
      exact ⟨hag, hx2, hK⟩
    | succ r ih =>
      intro i x2 x3 x4 σ' hi hx2 hx3 hag hord hK hM
      have hI' := hI.agw hag (by simp) (by simp)
      have hil : i < (zL A true).length := by omega
      obtain ⟨x, hxe⟩ : ∃ x, x = (zL A true).getD i 0 := ⟨_, rfl⟩
      have hmb := zL_lt (A := A) (bc := true) (x := x) (by rw [hxe]; exact zgetD_mem hil)
      have htk : (zL A true).take (i + 1) = (zL A true).take i ++ [x] := by
        rw [List.take_add_one, hxe]
        simp [List.getD, List.getElem?_eq_getElem hil]
      have hnd := zord_nodup true (zac A) (zat A) (zam A)
      have hxnot : x ∉ (zL A true).take i := by
        intro h
        have hnd2 : ((zL A true).take (i + 1)).Nodup := hnd.sublist (List.take_sublist _ _)
        rw [htk, List.nodup_append] at hnd2
        exact hnd2.2.2 x h x List.mem_cons_self rfl
      have hKx : zkp (zaa A) (zab A) (zam A) 2 3 ((zL A true).take i) x = false := by
        cases hq : zkp (zaa A) (zab A) (zam A) 2 3 ((zL A true).take i) x
        · rfl
        · exact absurd (zkp_in _ _ hq) hxnot
      have hsnoc : zkp (zaa A) (zab A) (zam A) 2 3 ((zL A true).take (i + 1)) = zst1 (zaa A) (zab A) (zam A) 2 3 (zkp (zaa A) (zab A) (zam A) 2 3 ((zL A true).take i)) x := by rw [htk, zkp_snoc]
      have hox : σ' 65 i = nI x := by rw [hord i hil, hxe]
      have hxx := hI'.2.2.2.1 x hmb.1
      have hvx := hv x hmb.1
      refine zg_X8_cheapestOf_105 fun G C hG hC => ?_
      conv => whnf
      refine pk_le (zL A true).length i (fun _ => by omega) (fun _ => ?_) rfl hx3
      conv => whnf
      refine ⟨pk_in i 80 (by omega) hx3, ?_⟩
      conv => whnf
      dsimp only
      rw [pk_cl i hx3, hox]
      refine ⟨pk_in x 80 (by omega), ?_⟩
      conv => whnf
      refine ⟨pk_in x 80 (by omega), ?_⟩
      conv => whnf
      dsimp only
      rw [nI_clamp (by omega : x < 2 ^ 31), hxx.1, hxx.2.1]
      refine hC _ _ _ _ ((sp_isFree (d := d) hM (by omega) (by omega) (by omega) (Or.inr rfl)).conseq ?_)
      rintro r2 σ2 ⟨hag2, hr⟩
      have hag3 : zagw zch2 [11, 12, 13] σ σ2 := hag.tr (hag2.sub (by simp) (by simp))
      have h60 : σ2 60 = σ' 60 := hag2.1 60 (by simp) (by decide)
      have h65 : σ2 65 = σ' 65 := hag2.1 65 (by simp) (by decide)
      have h52 : σ2 52 x = nI (zac A x) := by rw [hag2.1 52 (by simp) (by decide)]; exact hxx.2.2.1
      have e3 : x3 + 1 = nI (i + 1) := by rw [hx3, nI_1]
      conv => whnf
      rcases hr with ⟨rfl, hf, hM2, -⟩ | ⟨rfl, hf, hM2⟩
      · refine ⟨pk_in x 80 (by omega), Or.inr rfl, ?_⟩
        conv => whnf
        refine ⟨pk_in x 80 (by omega), ?_⟩
        conv => whnf
        dsimp only
        rw [nI_clamp (by omega : x < 2 ^ 31), zup_self, pk_us]
        refine br_f (by decide) ?_
        conv => whnf
        refine ⟨pk_in x 80 (by omega), ?_⟩
        conv => whnf
        dsimp only
        rw [nI_clamp (by omega : x < 2 ^ 31), zup_ne (by decide), h52]
        have hst' := hsnoc.trans (zst1_t hf)
        refine hG _ _ _ _ (ih (i + 1) _ _ _ _ (by omega) ?_ e3 (hag3.up (by simp) (by decide)) (fun q hq => by rw [zup_ne (by decide), h65]; exact hord q hq) (fun y hy => ?_) ?_)
        · rw [hx2, nI_add, hst']
          congr 1
          have := fb_sm_upd (fun y => if zkp (zaa A) (zab A) (zam A) 2 3 ((zL A true).take i) y = true then zac A y else 0) (zac A x) hmb.1
          have e2 : fb_sm (fun k => if k = x then zac A x else (fun y => if zkp (zaa A) (zab A) (zam A) 2 3 ((zL A true).take i) y = true then zac A y else 0) k) (zam A) = zsum A (fun y => if y = x then true else zkp (zaa A) (zab A) (zam A) 2 3 ((zL A true).take i) y) := fb_sm_cong fun k hk => by
            by_cases e : k = x
            · subst e; simp
            · simp [e]
          have h0 : (if zkp (zaa A) (zab A) (zam A) 2 3 ((zL A true).take i) x = true then zac A x else 0) = 0 := by rw [hKx]; rfl
          have this2 : zsum A (fun y => if y = x then true else zkp (zaa A) (zab A) (zam A) 2 3 ((zL A true).take i) y) + (if zkp (zaa A) (zab A) (zam A) 2 3 ((zL A true).take i) x = true then zac A x else 0) = zsum A (zkp (zaa A) (zab A) (zam A) 2 3 ((zL A true).take i)) + zac A x := by rw [← e2]; exact this
          rw [h0] at this2
          omega
        · rw [hst', zup_self]
          by_cases e : y = x
          · subst e; rw [pk_us]; simp
          · rw [pk_un e, h60]; simp only [e, if_false]; exact hK y hy
        · rw [hst', fb_ct_add1 hmb.1 hKx]
          exact ((hM2 rfl).cong (fun V => by rw [zib_add hmb.1 hKx]; rfl)).agw (js := [60]) (fs := []) (zagw.rf.up (by simp) (by decide)) (by simp) (by simp)
      · refine ⟨pk_in x 80 (by omega), Or.inl rfl, ?_⟩
        conv => whnf
        refine ⟨pk_in x 80 (by omega), ?_⟩
        conv => whnf
        dsimp only
        rw [nI_clamp (by omega : x < 2 ^ 31), zup_self, pk_us]
        refine br_t rfl ?_
        conv => whnf
        have hst' := hsnoc.trans (zst1_f hf)
        refine hG _ _ _ _ (ih (i + 1) _ _ _ _ (by omega) ?_ e3 (hag3.up (by simp) (by decide)) (fun q hq => by rw [zup_ne (by decide), h65]; exact hord q hq) (fun y hy => ?_) ?_)
        · rw [hx2, hst']; exact nI_add _ 0
        · rw [hst', zup_self]
          by_cases e : y = x
          · subst e; rw [pk_us, hKx]; rfl
          · rw [pk_un e, h60]; exact hK y hy
        · rw [hst']
          exact hM2.agw (js := [60]) (fs := []) (zagw.rf.up (by simp) (by decide)) (by simp) (by simp)
  -- the order
  have loop : ∀ r i (x1 x2 : Int32) (x3 x4 : Option zAV) (σ' : zST), i + r = zam A → x1 = nI (zord true (zac A) (zat A) i).length → x2 = nI i → zagw zch2 [11, 12, 13] σ σ' → (∀ q, q < (zord true (zac A) (zat A) i).length → σ' 65 q = nI ((zord true (zac A) (zat A) i).getD q 0)) → (∀ y, y < i → σ' 60 y = 0) → zWp E (d + 28) zM_X8_cheapestOf (zchp A σ) 4 [some (.inr (8, 48)), some (.inl x1), some (.inl x2), x3, x4] [] σ' := by
    intro r
    induction r with
    | zero =>
      intro i x1 x2 x3 x4 σ' hi hx1 hx2 hag hq h60
      have hI' := hI.agw hag (by simp) (by simp)
      have hi : i = zam A := by omega
      subst hi
      refine zg_X8_cheapestOf_4 fun G C hG hC => ?_
      conv => whnf
      refine pk_le (zam A) (zam A) (fun _ => ?_) (fun _ => by omega) hI'.2.2.1 hx2
      conv => whnf
      refine hC _ _ _ _ ((sp_begins (d := d + 26) (k := 2) (l := 3) (by decide) (by decide)).conseq ?_)
      rintro r2 σ2 ⟨h1, h2⟩
      conv => whnf
      subst hx1
      refine hG _ _ _ _ (game _ 0 0 0 _ σ2 (Nat.zero_add _) ?_ rfl (hag.tr (h1.sub (by simp) (by simp))) (by rw [h1.1 65 (by simp) (by decide)]; exact hq) (fun y hy => ?_) ?_)
      · have : zsum A (zkp (zaa A) (zab A) (zam A) 2 3 ((zL A true).take 0)) = 0 := by
          unfold zsum
          rw [fb_sm_cong (g := fun _ => 0) (fun k _ => by simp [zkp]), fb_sm_const]
          rfl
        rw [this]; rfl
      · rw [h1.1 60 (by simp) (by decide)]; exact h60 y hy
      · have e0 : fb_ct (zkp (zaa A) (zab A) (zam A) 2 3 ((zL A true).take 0)) (zam A) = 0 := fb_ct_zero.mpr (fun _ _ => rfl)
        rw [e0]
        exact h2.cong (fun V => (fb_ct_zero.mpr (fun _ _ => rfl)).symm)
    | succ r ih =>
      intro i x1 x2 x3 x4 σ' hi hx1 hx2 hag hq h60
      have hI' := hI.agw hag (by simp) (by simp)
      have hl := hlen i (by omega)
      have hxi := hI'.2.2.2.1 i (by omega)
      have hnext : x2 + 1 = nI (i + 1) := by rw [hx2, nI_1]
      refine zg_X8_cheapestOf_4 fun G C hG hC => ?_
      conv => whnf
      refine pk_le (zam A) i (fun _ => by omega) (fun _ => ?_) hI'.2.2.1 hx2
      conv => whnf
      refine ⟨pk_in i 80 (by omega) hx2, Or.inl rfl, ?_⟩
      conv => whnf
      refine ⟨pk_in i 80 (by omega) hx2, ?_⟩
      conv => whnf
      dsimp only
      rw [pk_cl i hx2, zup_ne (by decide), hxi.2.2.2]
      have hagu : zagw zch2 [11, 12, 13] σ (zup σ' 60 i 0) := hag.up (by simp) (by decide)
      have h60u : ∀ y, y < i + 1 → zup σ' 60 i 0 60 y = 0 := fun y hy => by
        rw [zup_self]
        by_cases e : y = i
        · subst e; exact pk_us
        · rw [pk_un e]; exact h60 y (by omega)
      have hqu : ∀ q, q < (zord true (zac A) (zat A) i).length → zup σ' 60 i 0 65 q = nI ((zord true (zac A) (zat A) i).getD q 0) := fun q h => by rw [zup_ne (by decide)]; exact hq q h
      generalize hσ : zup σ' 60 i 0 = σu at *
      cases ht : zat A i
      · rw [if_neg (by decide)]
        refine br_t rfl ?_
        conv => whnf
        refine hG _ _ _ _ (ih (i + 1) _ _ _ _ _ (by omega) ?_ hnext hagu ?_ h60u)
        · rw [zord_skip _ _ _ _ ht]; exact hx1
        · rw [zord_skip _ _ _ _ ht]; exact hqu
      · rw [if_pos rfl]
        refine br_f (by decide) ?_
        conv => whnf
        have hord : zord true (zac A) (zat A) (i + 1) = zins (zord true (zac A) (zat A) i) (zpp true (zac A) (zord true (zac A) (zat A) i) i) i := by
          show (if zat A i = true then _ else _) = _
          rw [if_pos ht]
        have place : ∀ (G : Nat → zKT) (C : zCT) (p : Nat) (y3 : Int32) (σ2 : zST), (∀ pc L S σ1, zWp E (d + 28) zM_X8_cheapestOf (zchp A σ) pc L S σ1 → G pc L S σ1) → p = zpp true (zac A) (zord true (zac A) (zat A) i) i → y3 = nI p → zagw zch2 [11, 12, 13] σ σ2 → (∀ y, y < i + 1 → σ2 60 y = 0) → (∀ q, q < p → σ2 65 q = nI ((zord true (zac A) (zat A) i).getD q 0)) → (∀ q, p < q → q ≤ (zord true (zac A) (zat A) i).length → σ2 65 q = nI ((zord true (zac A) (zat A) i).getD (q - 1) 0)) → zB_X8_cheapestOf_79 G C (zchp A σ) [some (.inr (8, 48)), some (.inl x1), some (.inl x2), some (.inl y3), x4] [] σ2 := by
          intro G C p y3 σ2 hG hp hy3 hag2 h6 h1 h2
          have hple := zpp_le true (zac A) (zord true (zac A) (zat A) i) i
          conv => whnf
          refine ⟨pk_in p 80 (by omega) hy3, ?_⟩
          conv => whnf
          dsimp only
          rw [pk_cl p hy3]
          refine hG _ _ _ _ (ih (i + 1) _ _ _ _ _ (by omega) ?_ hnext (hag2.up (by simp) (by decide)) ?_ (fun y hy => by rw [zup_ne (by decide)]; exact h6 y hy))
          · rw [hord, zins_len, hx1, nI_1]
          · intro q hq1
            rw [hord] at hq1 ⊢
            rw [zins_len] at hq1
            rw [zup_self, zins_get hple, ← hp]
            by_cases e : q = p
            · subst e; rw [pk_us, if_neg (Nat.lt_irrefl _), if_pos rfl, hx2]
            · rw [pk_un e]
              by_cases hlt : q < p
              · rw [if_pos hlt]; exact h1 q hlt
              · rw [if_neg hlt, if_neg e]; exact h2 q (by omega) (by omega)
        have inner : ∀ p (y3 : Int32) (σ2 : zST), p ≤ (zord true (zac A) (zat A) i).length → y3 = nI p → zagw zch2 [11, 12, 13] σ σ2 → (∀ y, y < i + 1 → σ2 60 y = 0) → zpos (zac A) (zac A i) (zord true (zac A) (zat A) i) (zord true (zac A) (zat A) i).length = zpos (zac A) (zac A i) (zord true (zac A) (zat A) i) p → (∀ q, q < p → σ2 65 q = nI ((zord true (zac A) (zat A) i).getD q 0)) → (∀ q, p < q → q ≤ (zord true (zac A) (zat A) i).length → σ2 65 q = nI ((zord true (zac A) (zat A) i).getD (q - 1) 0)) → zWp E (d + 28) zM_X8_cheapestOf (zchp A σ) 33 [some (.inr (8, 48)), some (.inl x1), some (.inl x2), some (.inl y3), x4] [] σ2 := by
          intro p
          induction p with
          | zero =>
            intro y3 σ2 hp hy3 hag2 h6 hb1 h1 h2
            refine zg_X8_cheapestOf_33 fun G C hG hC => ?_
            conv => whnf
            refine br_t (by rw [hy3]; decide) ?_
            refine place G C 0 y3 σ2 hG ?_ hy3 hag2 h6 h1 h2
            unfold zpp
            rw [if_pos rfl, hb1]; rfl
          | succ p ihp =>
            intro y3 σ2 hp hy3 hag2 h6 hb1 h1 h2
            have hI2 := hI.agw hag2 (by simp) (by simp)
            refine zg_X8_cheapestOf_33 fun G C hG hC => ?_
            conv => whnf
            refine br_f (by rw [hy3]; exact nI_nle (by omega) (by omega)) ?_
            conv => whnf
            have hy3' : y3 - 1 = nI p := by rw [hy3, nI_pred]
            have hmem : (zord true (zac A) (zat A) i).getD p 0 ∈ zord true (zac A) (zat A) i := zgetD_mem (by omega)
            have hmb := (zord_mem true (zac A) (zat A) i _).mp hmem
            have e7 : σ2 65 (y3 - 1).toNatClampNeg = nI ((zord true (zac A) (zat A) i).getD p 0) := by rw [hy3', nI_clamp (by omega)]; exact h1 p (by omega)
            refine ⟨pk_in p 80 (by omega) hy3', ?_⟩
            conv => whnf
            refine ⟨pk_in _ 80 (by omega) e7, ?_⟩
            conv => whnf
            refine ⟨pk_in i 80 (by omega) hx2, ?_⟩
            conv => whnf
            dsimp only
            rw [e7, pk_cl i hx2, nI_clamp (by omega), (hI2.2.2.2.1 _ (by omega : (zord true (zac A) (zat A) i).getD p 0 < zam A)).2.2.1, (hI2.2.2.2.1 i (by omega)).2.2.1]
            have hc1 := (hv _ (by omega : (zord true (zac A) (zat A) i).getD p 0 < zam A)).2.2
            have hc2 := (hv i (by omega)).2.2
            refine pk_le (zac A ((zord true (zac A) (zat A) i).getD p 0)) (zac A i) (fun hle => ?_) (fun hlt => ?_)
            · refine place G C (p + 1) y3 σ2 hG ?_ hy3 hag2 h6 h1 h2
              unfold zpp
              rw [if_pos rfl, hb1]
              show p + 1 = if zac A i < zac A ((zord true (zac A) (zat A) i).getD p 0) then _ else p + 1
              rw [if_neg (by omega)]
            · conv => whnf
              refine ⟨pk_in p 80 (by omega) hy3', ?_⟩
              conv => whnf
              refine ⟨pk_in (p + 1) 80 (by omega) hy3, ?_⟩
              conv => whnf
              dsimp only
              rw [e7, pk_cl (p + 1) hy3]
              refine hG _ _ _ _ (ihp _ _ (by omega) (by rw [hy3]; exact pk_m1 p) (hag2.up (by simp) (by decide)) (fun y hy => by rw [zup_ne (by decide)]; exact h6 y hy) ?_ (fun q hq1 => ?_) (fun q hq1 hq2 => ?_))
              · rw [hb1]
                show (if zac A i < zac A ((zord true (zac A) (zat A) i).getD p 0) then _ else p + 1) = _
                rw [if_pos hlt]
              · rw [zup_self, pk_un (by omega)]; exact h1 q (by omega)
              · rw [zup_self]
                by_cases e : q = p + 1
                · subst e; rw [pk_us]; rfl
                · rw [pk_un e]; exact h2 q (by omega) hq2
        exact hG _ _ _ _ (inner _ _ σu (Nat.le_refl _) hx1 hagu h60u rfl hqu (fun q h1 h2 => by omega))
  refine zSp.of rfl (Nat.le_of_ble_eq_true rfl) (zg_X8_cheapestOf_0 fun G C hG hC => ?_)
  conv => whnf
  exact hG _ _ _ _ (loop (zam A) 0 0 0 _ _ σ (by omega) rfl rfl zagw.rf (fun q hq => absurd hq (Nat.not_lt_zero q)) (fun q hq => absurd hq (Nat.not_lt_zero q)))
theorem sm_cheapest (hI : zmf A rf σ) : zSp E (d + 40) zM_X8_cheapest [.inr (8, 48)] σ (zMP A rf (.inr (nI (fb_sm (fun x => if zK A true 2 3 x = true then zac A x else 0) (zam A)))) σ) := by
  refine zSp.of rfl (Nat.le_of_ble_eq_true rfl) (zg_X8_cheapest_0 fun G C hG hC => ?_)
  conv => whnf
  refine hC _ _ _ _ ((sm_cheapestOf (d := d + 11) hI).conseq ?_)
  rintro r σ2 ⟨h1, rfl, -⟩
  conv => whnf
  exact ⟨h1.lo (by simp), hI.agw h1 (by simp) (by simp), rfl⟩
theorem sm_cheap (hI : zmf A rf σ) {x : Int32} : zSp E (d + 40) zM_X8_cheap [.inr (8, 48), .inl x] σ (zMP A rf (zob A x (fun i => .inr (zkv A true 2 3 i))) σ) := by
  have hm := hI.1.2.1
  refine zSp.of rfl (Nat.le_of_ble_eq_true rfl) (zg_X8_cheap_0 fun G C hG hC => ?_)
  conv => whnf
  refine hC _ _ _ _ ((sm_isBar (d := d + 37) hI).conseq ?_)
  rintro r σ' ⟨rfl, rfl⟩
  conv => whnf
  rcases zix_cases x (n := zam A) (by omega) with ⟨hz, -⟩ | ⟨i, hi, rfl, hz⟩
  · rw [hz, if_neg (by decide), zob_out hz]
    refine br_t rfl ?_
    conv => whnf
    refine hC _ _ _ _ ((sm_refuse (d := d + 38) (k := 0) (by decide) hI).conseq ?_)
    intro r σ' hq
    conv => whnf
    exact hq
  · rw [hz, if_pos rfl, zob_in hm hi]
    refine br_f (by decide) ?_
    conv => whnf
    refine hC _ _ _ _ ((sm_cheapestOf (d := d + 11) hI).conseq ?_)
    rintro r σ2 ⟨h1, rfl, h2⟩
    have hI2 := hI.agw h1 (by simp) (by simp)
    have hz2 := h1.lo (by simp)
    conv => whnf
    refine ⟨pk_in i 80 (by omega), ?_⟩
    conv => whnf
    dsimp only
    rw [nI_clamp (by omega : i < 2 ^ 31), (hI2.2.2.2.1 i hi).2.2.2]
    unfold zkv
    cases h3 : zat A i
    · rw [if_neg (by decide)]
      refine br_t rfl ?_
      conv => whnf
      exact ⟨hz2, hI2, rfl⟩
    · rw [if_pos rfl]
      refine br_f (by decide) ?_
      conv => whnf
      refine ⟨pk_in i 80 (by omega), ?_⟩
      conv => whnf
      dsimp only
      rw [nI_clamp (by omega : i < 2 ^ 31), h2 i hi]
      cases h4 : zK A true 2 3 i
      · rw [if_neg (by decide)]
        refine br_t rfl ?_
        conv => whnf
        exact ⟨hz2, hI2, rfl⟩
      · rw [if_pos rfl]
        refine br_f (by decide) ?_
        conv => whnf
        exact ⟨hz2, hI2, rfl⟩
end zQ
